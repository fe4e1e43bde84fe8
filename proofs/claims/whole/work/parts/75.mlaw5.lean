/-! the model reads a law's text; what it asks -/
section MG
variable {T : Vec} {e : Nat} {E : Nat → Int32}
theorem m_skipF {μ : ZMem} {p : Nat} (h : TX T e μ) (hp : p ≤ 1000) (ha : μ MO0 11 = nI p) : ok (f_X12_skip μ) (fun μ' => fr mpP μ μ' ∧ ∀ i, i ≠ 11 → μ' MO0 i = μ MO0 i) := by
  have he := h.1
  unfold f_X12_skip
  refine ok_b1 (ok_lp (fun m s => ∃ p', s = mset μ MO0 11 (nI p') ∧ p' ≤ 1000 + p ∧ (e ≤ p' ∧ m = 0 ∨ p' + m = e)) (Q := fun μ' => fr mpP μ μ' ∧ ∀ i, i ≠ 11 → μ' MO0 i = μ MO0 i) ?_ (N := e - p) ⟨p, (mset_self ha).symm, by omega, by omega⟩ (FU_lt (by omega))) (fun a ha => ok_some ha)
  rintro m s ⟨p', rfl, h5, h6⟩
  have hTs : TX T e (mset μ MO0 11 (nI p')) := TX_mp h at_fr
  have eN : (mset μ MO0 11 (nI p')) (0, 32, 0) 10 = nI e := hTs.2.1
  have eA : (mset μ MO0 11 (nI p')) (0, 32, 0) 11 = nI p' := mset_at
  have fin : fr mpP μ (mset μ MO0 11 (nI p')) ∧ ∀ i, i ≠ 11 → (mset μ MO0 11 (nI p')) MO0 i = μ MO0 i := ⟨at_fr, fun i hi => mset_k hi⟩
  rw [eN, eA]
  by_cases hpe : p' < e
  · rw [if_neg (nI_ge hpe (by omega)), bd_eq (m_letter hTs hpe)]
    by_cases h32 : T p' = 32
    · rw [if_pos h32, nI_1, zlt_s, show ((0, 32, 0) : ZId) = MO0 from rfl, mset_mset]
      exact ok_some ⟨m - 1, by omega, p' + 1, rfl, by omega, by omega⟩
    · rw [if_neg h32]
      exact ok_some fin
  · rw [if_pos (nI_le (by omega) (by omega))]
    exact ok_some fin
def rdOut (T : Vec) (e : Nat) (E : Nat → Int32) (μ : ZMem) (R : Nat ⊕ List LN) (q : Int32 × ZMem) : Prop := fr mlP μ q.2 ∧ (∀ f, R = .inl f → q.2 MO0 12 = nI f) ∧ ∀ ls, R = .inr ls → q.1 = nI ls.length ∧ q.2 MO0 12 = -1 ∧ lnG ls ∧ ∀ t, t < 3 → q.2 MO0 (16 + t) = μ MO0 (16 + t) + lsum (lawOf ls) t E
theorem lsum_app {ls : List LN} {l : LN} {t : Nat} : lsum (lawOf (ls ++ [l])) t E = lsum (lawOf ls) t E + addB E l t := by
  unfold lsum lawOf addB
  rw [List.map_append, List.foldl_append]
  show (if l.1 = t ∧ lnB E l.2.2 = true then _ + l.2.1 else _) = _
  by_cases h : l.1 = t ∧ lnB E l.2.2 = true
  · rw [if_pos h, if_pos h]
  · rw [if_neg h, if_neg h, Int32.add_zero]
theorem MP_begin {μ : ZMem} (h : TX T e μ) (h12 : μ MO0 12 = -1) (h11 : μ MO0 11 = 0) (h13 : μ MO0 13 = 0) : MP μ T e (nxt T e 0) 0 :=
  ⟨h, h12, h13, 0, h11, RS_of h.1 (by omega) (Or.inr rfl)⟩
theorem m_reads1 (hB : HB T e) {μ : ZMem} (h : TX T e μ) (h12 : μ MO0 12 = -1) (h11 : μ MO0 11 = 0) (h13 : μ MO0 13 = 0) (hE : EF E μ) : ok (f_X12_reads 1 μ) (rdOut T e E μ (pLaw T e)) := by
  have he := h.1
  have m0 := MP_begin h h12 h11 h13
  have hg0 := MP_gq m0
  have hge := hg0.1
  unfold f_X12_reads
  rw [bd_eq (m_skip m0), zlt_s, MP_end (MP_rest m0), MP_at (dp := 0)]
  have m1 := MP_rest m0
  have f1 : fr mlP μ (mset μ MO0 11 (nI (nxt T e 0))) := fr_mono at_fr (fun o i h => mp_ml h)
  have n1 : ∀ t, t < 3 → (mset μ MO0 11 (nI (nxt T e 0))) MO0 (16 + t) = μ MO0 (16 + t) := fun t ht => mset_k (by omega)
  obtain ⟨q0, hq0⟩ : ∃ q0, q0 = nxt T e 0 := ⟨_, rfl⟩
  obtain ⟨R, hR⟩ : ∃ R, R = pLaw T e := ⟨_, rfl⟩
  rw [← hR]
  unfold pLaw at hR
  rw [← hq0] at hR m1 f1 n1 hg0 hge ⊢
  refine ok_b2 (P := rdOut T e E μ R) ?_ (fun a b h => ok_some h)
  have g0 : lnG [] := ⟨by simp, by simp [fl], fun j hj => absurd hj (by simp)⟩
  have z0 : ∀ t, t < 3 → (mset μ MO0 11 (nI q0)) MO0 (16 + t) = μ MO0 (16 + t) + lsum (lawOf []) t E := fun t ht => by
    rw [n1 t ht]
    show _ = μ MO0 (16 + t) + 0
    rw [Int32.add_zero]
  obtain ⟨x4, hx4⟩ : ∃ x4 : Int32, x4 = if nI e ≤ nI q0 then 0 else 1 := ⟨_, rfl⟩
  rw [← hx4]
  have hRf : ∀ f, R = .inl f → f ≤ 400 := by
    intro f hf
    rw [hR] at hf
    by_cases c : cd T e q0 = 3001
    · rw [if_pos c] at hf; cases hf
    · rw [if_neg c] at hf
      have := pLines_f he 12 q0 [] hg0 f hf
      omega
  refine ok_lp (fun j s => (∃ q ls, s.1 = 1 ∧ s.2.1 = nI ls.length ∧ ls.length + j = 13 ∧ 0 < j ∧ MP s.2.2 T e q 0 ∧ gq T e q ∧ (fl ls).length ≤ q ∧ lnG ls ∧ pLines T e (j - 1) q ls = R ∧ fr mlP μ s.2.2 ∧ ∀ t, t < 3 → s.2.2 MO0 (16 + t) = μ MO0 (16 + t) + lsum (lawOf ls) t E) ∨
      (∃ ls, s.1 = 0 ∧ R = .inr ls ∧ rdOut T e E μ R s.2 ∧ j = 0) ∨ (∃ f, R = .inl f ∧ s.2.2 MO0 12 = nI f ∧ fr mlP μ s.2.2 ∧ j = 0)) ?_ (N := if nI e ≤ nI q0 then 0 else 13) ?_ (FU_lt (by split <;> omega))
  · rintro j ⟨x, k, μ2⟩ (⟨q, ls, h1, h2, h3, h0, m2, hg, hn, hG, hr, f2, hz⟩ | ⟨ls, h1, h2, h3, h4⟩ | ⟨f, h1, h2, h3, h4⟩)
    · dsimp only at h1 h2 m2 f2 hz
      subst h1 h2
      have hqe := hg.1
      rw [un3_s, if_neg (by decide), if_pos (show μ2 (0, 32, 0) 12 = -1 from m2.2.1), bd_eq (m_skip m2), if_neg (show ¬ (1 : Int32) = 0 by decide), zlt_s, MP_at (dp := 0)]
      have r2 := MR_of m2
      have f3 : fr mlP μ (mset μ2 MO0 11 (nI q)) := fr_trans f2 (fr_mono at_fr (fun o i h => mp_ml h))
      have z3 : ∀ t, t < 3 → (mset μ2 MO0 11 (nI q)) MO0 (16 + t) = μ MO0 (16 + t) + lsum (lawOf ls) t E := fun t ht => by rw [mset_k (by omega)]; exact hz t ht
      generalize mset μ2 MO0 11 (nI q) = μ3 at r2 f3 z3 ⊢
      -- a fault
      have bad : ∀ (μ4 : ZMem) (f : Nat), R = .inl f → FA μ4 0 f → fr mlP μ μ4 → ok (bd (f_X12_skip μ4) (fun (μ26 : ZMem) => jk (some (.inl (0, (nI ls.length + 1), μ26))) (fun k28 => if (μ26 (0, 32, 0) 12) = (-1) then if (μ26 (0, 32, 0) 11) = (μ26 (0, 32, 0) 10) then k28 else bd2 (f_X12_isSign 59 μ26) (fun (x31 : Int32) (μ32 : ZMem) => if x31 = 0 then bd (f_X12_wrong (μ32 (0, 32, 0) 11) μ32) (fun (μ35 : ZMem) => some (.inl (1, (nI ls.length + 1), μ35))) else zlt (mset μ32 (0, 32, 0) 11 ((μ32 (0, 32, 0) 11) + 1)) (fun (μ36 : ZMem) => some (.inl (1, (nI ls.length + 1), μ36)))) else k28)) : Option ((Int32 × Int32 × ZMem) ⊕ (Int32 × ZMem))) (fun z => ∃ k' x' μ', z = .inl (x', k', μ') ∧ (∃ f, R = .inl f ∧ μ' MO0 12 = nI f ∧ fr mlP μ μ')) := by
        rintro μ4 f hf ⟨a1, p, a2, a3⟩ f4
        refine ok_b1 (m_skipF (TX_ml h f4) (by omega) a3) ?_
        rintro μ5 ⟨b1, b2⟩
        have e12 : μ5 MO0 12 = nI f := by rw [b2 12 (by omega)]; exact a1
        rw [jk_s, if_neg (fault_ne e12 (hRf f hf))]
        exact ok_some ⟨_, _, _, rfl, f, hf, e12, fr_trans f4 (fr_mono b1 (fun o i h => mp_ml h))⟩
      by_cases hm : j = 1
      · rw [if_pos (show nI ls.length = 12 by rw [show ls.length = 12 by omega]; rfl), bd_eq (m_wrong r2.1.2.1), bd_s]
        have hf : R = .inl q := by
          rw [← hr, show j - 1 = 0 by omega]
          rfl
        refine ok_mono (bad _ q hf (FA_wrong (by omega) (by omega) r2.2) (fr_trans f3 (fr_mono wrong_fr (fun o i h => mp_ml h)))) ?_
        rintro z ⟨k', x', μ', rfl, f, w1, w2, w3⟩
        exact ⟨0, by omega, Or.inr (Or.inr ⟨f, w1, w2, w3, rfl⟩)⟩
      · obtain ⟨m, rfl⟩ : ∃ m, j = m + 2 := ⟨j - 2, by omega⟩
        rw [show m + 2 - 1 = m + 1 by omega, pLines] at hr
        rw [if_neg (show ¬ nI ls.length = 12 from ne_code (a := ls.length) (b := 12) rfl (by omega) (by omega) (by omega))]
        refine ok_b1 (ok_b1 (m_lawLine hB r2 (EF_ml hE f3)) (fun μ22 h => ok_some h)) ?_
        rintro μ4 ⟨o1, o2, o3⟩
        have f4 := fr_trans f3 o1
        obtain ⟨p1, p2⟩ := line_g (T := T) he hg
        cases hp : pLine T e q with
        | inl f =>
          rw [hp] at hr
          refine ok_mono (bad μ4 f hr.symm (o2 f hp) f4) ?_
          rintro z ⟨k', x', μ', rfl, f, w1, w2, w3⟩
          exact ⟨0, by omega, Or.inr (Or.inr ⟨f, w1, w2, w3, rfl⟩)⟩
        | inr qc =>
          obtain ⟨q', l⟩ := qc
          obtain ⟨a1, a2, a3, a4, a5, b, a6, a7⟩ := p2 q' l hp
          obtain ⟨m4, z4⟩ := o3 q' l hp
          have hq' := a1.1
          rw [hp] at hr
          change (if cd T e q' = 2059 then pLines T e m (nx T e q') (ls ++ [l]) else if cd T e q' = 3001 then Sum.inr (ls ++ [l]) else Sum.inl q') = R at hr
          have hlen : (fl (ls ++ [l])).length ≤ q' := by rw [fl_app, List.length_append]; omega
          have hG' : lnG (ls ++ [l]) := by
            refine ⟨by simp; omega, by omega, fun i hi => ?_⟩
            by_cases ei : i = ls.length
            · rw [ei, getD_app_r]; exact ⟨a5, b, a6, a7⟩
            · have hi' : i < ls.length := by simp at hi; omega
              rw [getD_app_l hi']
              exact hG.2.2 i hi'
          have z5 : ∀ (μ5 : ZMem), (∀ i, 16 ≤ i → μ5 MO0 i = μ4 MO0 i) → ∀ t, t < 3 → μ5 MO0 (16 + t) = μ MO0 (16 + t) + lsum (lawOf (ls ++ [l])) t E := by
            intro μ5 h5 t ht
            rw [h5 _ (by omega), z4 t ht, z3 t ht, lsum_app, Int32.add_assoc]
          rw [bd_eq (m_skip m4), jk_s]
          have r4 := MR_of m4
          have f5 : fr mlP μ (mset μ4 MO0 11 (nI q')) := fr_trans f4 (fr_mono at_fr (fun o i h => mp_ml h))
          have z6 := z5 (mset μ4 MO0 11 (nI q')) (fun i hi => mset_k (by omega))
          have e16 : ∀ i, (mset μ4 MO0 11 (nI q')) MO0 (16 + i) = μ4 MO0 (16 + i) := fun i => mset_k (by omega)
          generalize mset μ4 MO0 11 (nI q') = μ5 at r4 f5 z6 e16 ⊢
          rw [if_pos (show μ5 (0, 32, 0) 12 = -1 from r4.1.2.1), show μ5 (0, 32, 0) 11 = nI q' from r4.2, MP_end r4.1]
          by_cases hend : q' = e
          · rw [if_pos (by rw [hend])]
            have hc : cd T e q' = 3001 := cd_e (by omega)
            rw [if_neg (show ¬ cd T e q' = 2059 by rw [hc]; decide), if_pos hc] at hr
            refine ok_some ⟨0, by omega, Or.inr (Or.inl ⟨ls ++ [l], rfl, hr.symm, ?_, rfl⟩)⟩
            rw [← hr]
            exact ⟨f5, fun f hf => (by cases hf), fun ls' hl' => by cases hl'; exact ⟨by dsimp only; rw [nI_1]; simp, r4.1.2.1, hG', z6⟩⟩
          · rw [if_neg (by rw [nI_eq (by omega) (by omega)]; exact hend), bd2_eq (show f_X12_isSign 59 μ5 = _ from m_isSign hB r4.1 (c := 59) (by omega) (by decide) (by decide)), mset_self r4.2]
            have hq'e : q' < e := by omega
            have hnx := nx_lt (T := T) he hq'e
            by_cases h59 : cd T e q' = nI (2000 + 59)
            · have h59' : cd T e q' = 2059 := h59
              obtain ⟨-, ht⟩ := (cd_sign hB (c := 59) (by omega) (by decide) (by decide)).mp h59
              rw [if_pos h59'] at hr
              rw [decide_eq_true h59, if_neg (show ¬ b2i true = 0 by decide), show μ5 (0, 32, 0) 11 = nI q' from r4.2, nI_1, zlt_s]
              have m6 := MP_nx r4.1 hq'e
              rw [tend_sign ht (by decide) (by decide)] at m6
              refine ok_some ⟨m + 1, by omega, Or.inl ⟨nx T e q', ls ++ [l], rfl, ?_, by simp; omega, by omega, m6, gq_nx he hq'e, by omega, hG', hr, fr_trans f5 (fr_mono at_fr (fun o i h => mp_ml h)), fun t ht => ?_⟩⟩
              · dsimp only
                rw [nI_1]
                simp
              · dsimp only
                exact (mset_k (by omega)).trans (z6 t ht)
            · have h59' : ¬ cd T e q' = 2059 := h59
              have h01 : ¬ cd T e q' = 3001 := fun q => hend (by have := (cd_end hB).mp q; omega)
              rw [if_neg h59', if_neg h01] at hr
              rw [decide_eq_false h59, if_pos (show b2i false = 0 by decide), show μ5 (0, 32, 0) 11 = nI q' from r4.2, bd_eq (m_wrong r4.1.2.1)]
              exact ok_some ⟨0, by omega, Or.inr (Or.inr ⟨q', hr.symm, (show (mset μ5 MO0 12 (nI q')) MO0 12 = nI q' from mset_at), fr_trans f5 (fr_mono wrong_fr (fun o i h => mp_ml h)), rfl⟩)⟩
    · dsimp only at h1
      subst h1
      rw [un3_s, if_pos rfl]
      exact ok_some h3
    · dsimp only at h2 h3
      rw [un3_s]
      have out : rdOut T e E μ R (k, μ2) := by
        rw [h1]
        exact ⟨h3, fun f' hf' => (by cases hf'; exact h2), fun ls hl => by cases hl⟩
      by_cases hx : x = 0
      · rw [if_pos hx]; exact ok_some out
      · rw [if_neg hx, if_neg (fault_ne h2 (hRf f h1))]; exact ok_some out
  · by_cases hend : q0 = e
    · have hc : nI e ≤ nI q0 := nI_le (by omega) (by omega)
      have h3 : cd T e q0 = 3001 := cd_e (by omega)
      rw [if_pos hc] at hx4 ⊢
      rw [if_pos h3] at hR
      refine Or.inr (Or.inl ⟨[], hx4, hR, ?_, rfl⟩)
      rw [hR]
      exact ⟨f1, fun f hf => (by cases hf), fun ls hl => by cases hl; exact ⟨rfl, m1.2.1, g0, z0⟩⟩
    · have hc : ¬ nI e ≤ nI q0 := nI_ge (by omega) (by omega)
      have h3 : ¬ cd T e q0 = 3001 := fun q => hend (by have := (cd_end hB).mp q; omega)
      rw [if_neg hc] at hx4 ⊢
      rw [if_neg h3] at hR
      exact Or.inl ⟨q0, [], hx4, rfl, rfl, by omega, m1, hg0, by simp [fl], g0, hR.symm, f1, z0⟩
end MG
