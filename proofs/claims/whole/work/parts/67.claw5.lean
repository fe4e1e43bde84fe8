/-! the class reads a law's text -/
section CZ
variable {T : Vec} {e N : Nat}
def lnG (ls : List LN) : Prop := ls.length ≤ 12 ∧ (fl ls).length ≤ 400 ∧ ∀ j, j < ls.length → (ls.getD j lnD).1 < 3 ∧ ∃ b : Nat, b ≤ 99 ∧ (ls.getD j lnD).2.1 = nI b
def laOut (T : Vec) (e N : Nat) (μ : ZMem) (R : Nat ⊕ List LN) (μ' : ZMem) : Prop := fr llP μ μ' ∧ (∀ f, R = .inl f → FQ μ' T e N f) ∧ ∀ ls, R = .inr ls → (∃ q, CP μ' T e N q) ∧ LL μ' ls ∧ μ' (0, 24, 0) 5 = nI ls.length ∧ lnG ls
theorem pLines_f (he : e ≤ 400) : ∀ (m q : Nat) (ls : List LN), gq T e q → ∀ f, pLines T e m q ls = .inl f → f ≤ e
  | 0, q, ls, hg, f, h => by cases h; exact hg.1
  | m + 1, q, ls, hg, f, h => by
    unfold pLines at h
    obtain ⟨p1, p2⟩ := line_g (T := T) he hg
    cases hp : pLine T e q with
    | inl f' => rw [hp] at h; cases h; exact p1 f hp
    | inr qc =>
      obtain ⟨a, -⟩ := p2 qc.1 qc.2 hp
      rw [hp] at h
      dsimp only at h
      by_cases c1 : cd T e qc.1 = 2059
      · rw [if_pos c1] at h
        exact pLines_f he m _ _ (gq_nx he (cd_lt (by rw [c1]; decide))) f h
      · rw [if_neg c1] at h
        by_cases c2 : cd T e qc.1 = 3001
        · rw [if_pos c2] at h; cases h
        · rw [if_neg c2] at h; cases h; exact a.1
theorem c_readAll (he : e ≤ 400) {μ : ZMem} (hC : CP μ T e N (nxt T e 0)) : ok (f_X4_readAllLines μ) (laOut T e N μ (pLaw T e)) := by
  have hg0 : gq T e (nxt T e 0) := by
    obtain ⟨-, b, c, -⟩ := nxt_spec (T := T) (p := 0) he (by omega)
    exact ⟨b, c⟩
  unfold f_X4_readAllLines
  rw [zlt_s, zlt_s]
  obtain ⟨μ1, hμ1⟩ : ∃ μ1, μ1 = mset (mset μ (0, 24, 0) 5 0) (0, 24, 0) 6 0 := ⟨_, rfl⟩
  rw [← hμ1]
  have f1 : fr llP μ μ1 := by rw [hμ1]; exact fr_trans (fr_mset ll5) (fr_mset (lr_ll (Or.inr (Or.inl ⟨rfl, rfl⟩))))
  have c1 : CP μ1 T e N (nxt T e 0) := by
    refine CP_fr (P := fun o _ => o = (0, 24, 0)) hC ?_ ⟨⟨by decide, by decide, by decide⟩, fun i => ⟨by decide, by decide⟩⟩
    rw [hμ1]
    exact fr_trans (fr_mset rfl) (fr_mset rfl)
  have l1 : LL μ1 [] := ⟨by rw [hμ1, mset_at]; rfl, fun i hi => absurd hi (by simp [fl]), fun j hj => absurd hj (by simp)⟩
  have l5 : μ1 (0, 24, 0) 5 = nI 0 := by rw [hμ1, mset_k (by decide), mset_at]; rfl
  have g1 : lnG [] := ⟨by simp, by simp [fl], fun j hj => absurd hj (by simp)⟩
  rw [bd_eq (c_isAt c1)]
  unfold pLaw
  by_cases h0 : cd T e (nxt T e 0) = 3001
  · rw [decide_eq_true h0, if_neg (show ¬ b2i true = 0 by decide), if_pos h0]
    exact ok_some ⟨f1, fun f h => (by cases h), fun ls h => by cases h; exact ⟨⟨_, c1⟩, l1, l5, g1⟩⟩
  · rw [decide_eq_false h0, if_pos (show b2i false = 0 by decide), if_neg h0]
    obtain ⟨R, hR⟩ : ∃ R, R = pLines T e 12 (nxt T e 0) [] := ⟨_, rfl⟩
    rw [← hR]
    refine ok_b1 (P := fun z : ZMem ⊕ ZMem => ok (sm z (fun (μ8 : ZMem) => bd (f_X8_fail μ8) (fun (μ23 : ZMem) => some μ23)) (fun r0 => some r0)) (laOut T e N μ R)) (ok_lp (fun j s => ∃ q ls, s.1 = nI ls.length ∧ ls.length + j = 12 ∧ CP s.2 T e N q ∧ LL s.2 ls ∧ (fl ls).length ≤ q ∧ gq T e q ∧ lnG ls ∧ pLines T e j q ls = R ∧ s.2 (0, 24, 0) 5 = nI ls.length ∧ fr llP μ s.2) ?_ (N := 12) ⟨_, [], rfl, rfl, c1, l1, by simp [fl], hg0, g1, hR.symm, l5, f1⟩ (FU_lt (by omega))) (fun z h => h)
    rintro j ⟨x, μ2⟩ ⟨q, ls, h1, h2, c2, l2, hn, hg, hG, hr, h5, f2⟩
    dsimp only at h1 c2 l2 h5 f2
    subst h1
    have hqe := hg.1
    rw [un2_s]
    cases j with
    | zero =>
      rw [if_pos (show (12 : Int32) ≤ nI ls.length by rw [show ls.length = 12 by omega]; decide)]
      refine ok_some ?_
      change Sum.inl q = R at hr
      show ok (bd (f_X8_fail μ2) (fun (μ23 : ZMem) => some μ23)) _
      refine ok_b1 (c_fail (by omega) c2) ?_
      rintro μ3 ⟨a, b⟩
      rw [← hr]
      exact ok_some ⟨fr_trans f2 (fr_mono a (fun o i h => lr_ll (rd_lr h))), fun f h => (by cases h; exact FQ_of hG.2.1 l2.1 a b), fun ls h => by cases h⟩
    | succ j =>
      rw [if_neg (show ¬ (12 : Int32) ≤ nI ls.length from nI_ge (b := 12) (by omega) (by omega))]
      refine ok_b1 (c_readLine he c2 l2 hn hg (by omega)) ?_
      rintro μ3 ⟨o1, o2, o3⟩
      obtain ⟨p1, p2⟩ := line_g (T := T) he hg
      rw [pLines] at hr
      have f3 := fr_trans f2 o1
      cases hp : pLine T e q with
      | inl f =>
        rw [hp] at hr
        change Sum.inl f = R at hr
        have hf := o2 f hp
        refine ok_b2 (f_takes (c := 2059) hf.1) ?_
        rintro x13 μ4 ⟨r1, r2, r3⟩
        dsimp only at r1 r2 r3
        rw [if_pos r1, bd_eq (f_isAt r3), if_pos rfl, f_fail r3, bd_s, bd_s]
        refine ok_some (ok_some ?_)
        rw [← hr]
        exact ⟨fr_trans f3 (fr_mono r2 (fun o i h => lr_ll (rd_lr h))), fun f' h => (by cases h; exact FP_rd hf r2 r3), fun ls h => by cases h⟩
      | inr qc =>
        obtain ⟨q', l⟩ := qc
        obtain ⟨a1, a2, a3, a4, a5, b, a6, a7⟩ := p2 q' l hp
        obtain ⟨c3, l3, h53⟩ := o3 q' l hp
        have hq' := a1.1
        rw [hp] at hr
        change (if cd T e q' = 2059 then pLines T e j (nx T e q') (ls ++ [l]) else if cd T e q' = 3001 then Sum.inr (ls ++ [l]) else Sum.inl q') = R at hr
        have hlen : (fl (ls ++ [l])).length ≤ q' := by rw [fl_app, List.length_append]; omega
        have hG' : lnG (ls ++ [l]) := by
          refine ⟨by simp; omega, by omega, fun i hi => ?_⟩
          by_cases ei : i = ls.length
          · rw [ei, getD_app_r]; exact ⟨a5, b, a6, a7⟩
          · have hi' : i < ls.length := by simp at hi; omega
            rw [getD_app_l hi']
            exact hG.2.2 i hi'
        refine ok_b2 (c_takes c3 (show ¬ (2059 : Int32) = 3001 by decide)) ?_
        rintro x13 μ4 ⟨r1, r2, r3⟩
        dsimp only at r1 r2 r3
        have f4 := fr_trans f3 (fr_mono r2 (fun o i h => lr_ll (rd_lr h)))
        have nrd : ∀ o i, (¬ o = (0, 20, 0)) → μ4 o i = μ3 o i := fun o i ho => r2.1 o i (fun h => ho h.1)
        have l4 : LL μ4 (ls ++ [l]) := by
          refine ⟨by rw [nrd _ _ (by decide)]; exact l3.1, fun i hi => by rw [nrd _ _ (by decide)]; exact l3.2.1 i hi, fun i hi => ?_⟩
          rw [nrd _ _ (by decide), nrd _ _ (by decide), nrd _ _ (by decide), nrd _ _ (by decide)]
          exact l3.2.2 i hi
        have h54 : μ4 (0, 24, 0) 5 = nI (ls ++ [l]).length := by rw [nrd _ _ (by decide), h53]; simp
        by_cases c59 : cd T e q' = 2059
        · rw [if_pos c59] at r3 hr
          have hqe1 : q' < e := cd_lt (by rw [c59]; decide)
          have n1 := nx_lt (T := T) he hqe1
          rw [r1, decide_eq_true c59, if_neg (show ¬ b2i true = 0 by decide)]
          exact ok_some ⟨j, by omega, nx T e q', ls ++ [l], by rw [nI_1]; simp, by simp; omega, r3, l4, by omega, gq_nx he hqe1, hG', hr, h54, f4⟩
        · rw [if_neg c59] at r3 hr
          rw [r1, decide_eq_false c59, if_pos (show b2i false = 0 by decide), bd_eq (c_isAt r3)]
          by_cases c01 : cd T e q' = 3001
          · rw [if_pos c01] at hr
            rw [decide_eq_true c01, if_neg (show ¬ b2i true = 0 by decide), bd_s]
            refine ok_some (ok_some ?_)
            rw [← hr]
            exact ⟨f4, fun f' h => (by cases h), fun ls' h => by cases h; exact ⟨⟨_, r3⟩, l4, h54, hG'⟩⟩
          · rw [if_neg c01] at hr
            rw [decide_eq_false c01, if_pos (show b2i false = 0 by decide)]
            refine ok_b1 (ok_b1 (c_fail (by omega) r3) (fun μ5 h => ok_some h)) ?_
            rintro μ5 ⟨u1, u2⟩
            refine ok_some (ok_some ?_)
            rw [← hr]
            exact ⟨fr_trans f4 (fr_mono u1 (fun o i h => lr_ll (rd_lr h))), fun f' h => (by cases h; exact FQ_of hG'.2.1 l4.1 u1 u2), fun ls h => by cases h⟩
end CZ
