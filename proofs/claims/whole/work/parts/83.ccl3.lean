/-! the class reads a cluster: lines -/
section CF
variable {T : Vec} {e N : Nat}
def clOut (T : Vec) (e N : Nat) (μ : ZMem) (R : Nat ⊕ (Nat × Nat × Vec)) (μ' : ZMem) : Prop := fr crP μ μ' ∧ (∀ f, R = .inl f → FP μ' T e N f) ∧ ∀ q' c' v', R = .inr (q', c', v') → CP μ' T e N q' ∧ CS μ' 1 c' v'
theorem CS_win_set {μ : ZMem} {s c w i : Nat} {v : Vec} {x : Int32} (h : CS μ s c v) (hw : w = 5 ∧ i = 4 ∨ w = 6 ∧ i = 5 ∨ w = 7 ∧ i = 6) : CS (mset μ (1, s, 0) w x) s c (vset v i x) := by
  obtain ⟨h8, h1, h2, h3, h4, h5, h6, h7, h9⟩ := h
  have e4 : (mset μ (1, s, 0) w x) (4, s, 0) = μ (4, s, 0) := mset_ne (zne (by decide))
  refine ⟨h8, by rw [mset_k (by omega), h1], by rw [vset_ne (by omega), h2], ?_, ?_, ?_, by rw [mset_k (by omega), h6, vset_ne (by omega)], ?_, ?_⟩
  · rcases hw with ⟨rfl, rfl⟩ | ⟨rfl, rfl⟩ | ⟨rfl, rfl⟩
    · rw [mset_at, vset_at]
    · rw [mset_k (by decide), vset_ne (by decide)]; exact h3
    · rw [mset_k (by decide), vset_ne (by decide)]; exact h3
  · rcases hw with ⟨rfl, rfl⟩ | ⟨rfl, rfl⟩ | ⟨rfl, rfl⟩
    · rw [mset_k (by decide), vset_ne (by decide)]; exact h4
    · rw [mset_at, vset_at]
    · rw [mset_k (by decide), vset_ne (by decide)]; exact h4
  · rcases hw with ⟨rfl, rfl⟩ | ⟨rfl, rfl⟩ | ⟨rfl, rfl⟩
    · rw [mset_k (by decide), vset_ne (by decide)]; exact h5
    · rw [mset_k (by decide), vset_ne (by decide)]; exact h5
    · rw [mset_at, vset_at]
  · intro k hk x hx
    rw [mset_ne (zne (by decide)), h7 k hk x hx]
    unfold nd
    rw [vset_ne (by omega)]
  · exact ring_congr h9 (mset_k (by omega)) (mset_k (by omega)) e4 (vset_ne (by omega)) (fun j h1 h2 => vset_ne (by omega))
theorem c_tells {c q w i : Nat} {v : Vec} {lo : Int32} {μ : ZMem} (hw : w = 5 ∧ i = 4 ∨ w = 6 ∧ i = 5 ∨ w = 7 ∧ i = 6) (hq4 : q ≤ 400) (hC : CP μ T e N q) (hS : CS μ 1 c v) :
    ok (bd2 (f_X8_takeNumber lo 999 μ) (fun (x37 : Int32) (μ38 : ZMem) => zlt (mset μ38 (1, 1, 0) w x37) (fun (μ39 : ZMem) => some μ39))) (clOut T e N μ (vB (nV T e lo 999 q) (fun q' x => .inr (q', c, vset v i x)))) := by
  refine ok_b2 (c_takeNumber hq4 hC (by decide)) ?_
  rintro x μ1 ⟨t1, t2, t3⟩
  dsimp only at t1 t2 t3
  rw [zlt_s]
  have f1 : fr crP μ (mset μ1 (1, 1, 0) w x) := fr_trans (fr_mono t1 (fun o i h => rd_cr h)) (fr_mset (Or.inr (Or.inr ⟨rfl, by omega⟩)))
  unfold nV
  by_cases hp : lo ≤ cd T e q ∧ cd T e q ≤ 999
  · obtain ⟨a, b⟩ := t2 hp
    subst a
    rw [if_pos hp]
    exact ok_some ⟨f1, fun f hf => (by cases hf), fun q' c' v' hx => by cases hx; exact ⟨CP_11 b, CS_win_set (CS_rdf hS t1) hw⟩⟩
  · obtain ⟨a, b⟩ := t3 hp
    rw [if_neg hp]
    exact ok_some ⟨f1, fun f hf => (by cases hf; exact FP_11 b), fun q' c' v' hx => by cases hx⟩
theorem c_cline {c q : Nat} {v : Vec} {μ : ZMem} (he : e ≤ 400) (hg : gq T e q) (hC : CP μ T e N q) (hS : CS μ 1 c v) : ok (f_X0_readLine 1 μ) (clOut T e N μ (sLine T e c v q)) := by
  have hqe := hg.1
  have h8 := hS.1
  unfold f_X0_readLine
  rw [jk_s, CS_c hS]
  refine ok_b1 (P := clOut T e N μ (sLine T e c v q)) ?_ (fun μ2 h => ok_some h)
  -- what is no node
  have other : ∀ μ1, fr rdP μ μ1 → CP μ1 T e N q → (¬ cd T e q = nI (1000 + 0) ∨ c = 8) → ok ((fun (μ3 : ZMem) => bd2 (f_X8_takes 1023 μ3) (fun (x15 : Int32) (μ16 : ZMem) => if x15 = 0 then bd2 (f_X8_takes 1024 μ16) (fun (x19 : Int32) (μ20 : ZMem) => if x19 = 0 then bd2 (f_X8_takes 1025 μ20) (fun (x23 : Int32) (μ24 : ZMem) => if x23 = 0 then bd (f_X8_fail μ24) (fun (μ27 : ZMem) => some μ27) else bd2 (f_X8_takeNumber 0 999 μ24) (fun (x29 : Int32) (μ30 : ZMem) => zlt (mset μ30 (1, 1, 0) 7 x29) (fun (μ31 : ZMem) => some μ31))) else bd2 (f_X8_takeNumber 1 999 μ20) (fun (x33 : Int32) (μ34 : ZMem) => zlt (mset μ34 (1, 1, 0) 6 x33) (fun (μ35 : ZMem) => some μ35))) else bd2 (f_X8_takeNumber 1 999 μ16) (fun (x37 : Int32) (μ38 : ZMem) => zlt (mset μ38 (1, 1, 0) 5 x37) (fun (μ39 : ZMem) => some μ39)))) μ1) (clOut T e N μ (sLine T e c v q)) := by
    intro μ1 f1 c1 hn
    dsimp only
    have out : ∀ {μ2 R μ'}, fr rdP μ μ2 → clOut T e N μ2 R μ' → clOut T e N μ R μ' := fun f h => ⟨fr_trans (fr_mono f (fun o i h => rd_cr h)) h.1, h.2⟩
    unfold sLine
    by_cases h0 : cd T e q = nI (1000 + 0)
    · have hc8 : c = 8 := by
        rcases hn with hn | hn
        · exact absurd h0 hn
        · exact hn
      have h0' : cd T e q = 1000 := h0
      rw [if_pos h0, if_pos hc8]
      refine ok_b2 (c_takes c1 (show ¬ (1023 : Int32) = 3001 by decide)) ?_
      rintro x μ2 ⟨t1, t2, t3⟩
      dsimp only at t1 t2 t3
      have n1 : ¬ cd T e q = 1023 := by rw [h0']; decide
      rw [if_neg n1] at t3
      rw [t1, decide_eq_false n1, if_pos (show b2i false = 0 by decide)]
      refine ok_b2 (c_takes t3 (show ¬ (1024 : Int32) = 3001 by decide)) ?_
      rintro x2 μ3 ⟨u1, u2, u3⟩
      dsimp only at u1 u2 u3
      have n2 : ¬ cd T e q = 1024 := by rw [h0']; decide
      rw [if_neg n2] at u3
      rw [u1, decide_eq_false n2, if_pos (show b2i false = 0 by decide)]
      refine ok_b2 (c_takes u3 (show ¬ (1025 : Int32) = 3001 by decide)) ?_
      rintro x3 μ4 ⟨w1, w2, w3⟩
      dsimp only at w1 w2 w3
      have n3 : ¬ cd T e q = 1025 := by rw [h0']; decide
      rw [if_neg n3] at w3
      rw [w1, decide_eq_false n3, if_pos (show b2i false = 0 by decide)]
      refine ok_b1 (c_fail (by omega) w3) ?_
      rintro μ5 ⟨y1, y2⟩
      exact ok_some ⟨fr_mono (fr_trans f1 (fr_trans t2 (fr_trans u2 (fr_trans w2 y1)))) (fun o i h => rd_cr h), fun f hf => (by cases hf; exact y2), fun q' c' v' hx => by cases hx⟩
    · rw [if_neg h0]
      refine ok_b2 (c_takes c1 (show ¬ (1023 : Int32) = 3001 by decide)) ?_
      rintro x μ2 ⟨t1, t2, t3⟩
      dsimp only at t1 t2 t3
      have f2 := fr_trans f1 t2
      by_cases h1 : cd T e q = nI (1000 + 23)
      · have h1' : cd T e q = 1023 := h1
        have hq := code_lt h1 (by omega)
        have hn := nx_lt (T := T) he hq
        rw [if_pos h1'] at t3
        rw [t1, decide_eq_true h1', if_neg (show ¬ b2i true = 0 by decide), if_pos h1]
        exact ok_mono (c_tells (Or.inl ⟨rfl, rfl⟩) (by omega) t3 (CS_rdf hS f2)) (fun μ' h => out f2 h)
      · have h1' : ¬ cd T e q = 1023 := h1
        rw [if_neg h1'] at t3
        rw [t1, decide_eq_false h1', if_pos (show b2i false = 0 by decide), if_neg h1]
        refine ok_b2 (c_takes t3 (show ¬ (1024 : Int32) = 3001 by decide)) ?_
        rintro x2 μ3 ⟨u1, u2, u3⟩
        dsimp only at u1 u2 u3
        have f3 := fr_trans f2 u2
        by_cases h2 : cd T e q = nI (1000 + 24)
        · have h2' : cd T e q = 1024 := h2
          have hq := code_lt h2 (by omega)
          have hn := nx_lt (T := T) he hq
          rw [if_pos h2'] at u3
          rw [u1, decide_eq_true h2', if_neg (show ¬ b2i true = 0 by decide), if_pos h2]
          exact ok_mono (c_tells (Or.inr (Or.inl ⟨rfl, rfl⟩)) (by omega) u3 (CS_rdf hS f3)) (fun μ' h => out f3 h)
        · have h2' : ¬ cd T e q = 1024 := h2
          rw [if_neg h2'] at u3
          rw [u1, decide_eq_false h2', if_pos (show b2i false = 0 by decide), if_neg h2]
          refine ok_b2 (c_takes u3 (show ¬ (1025 : Int32) = 3001 by decide)) ?_
          rintro x3 μ4 ⟨w1, w2, w3⟩
          dsimp only at w1 w2 w3
          have f4 := fr_trans f3 w2
          by_cases h3 : cd T e q = nI (1000 + 25)
          · have h3' : cd T e q = 1025 := h3
            have hq := code_lt h3 (by omega)
            have hn := nx_lt (T := T) he hq
            rw [if_pos h3'] at w3
            rw [w1, decide_eq_true h3', if_neg (show ¬ b2i true = 0 by decide), if_pos h3]
            exact ok_mono (c_tells (Or.inr (Or.inr ⟨rfl, rfl⟩)) (by omega) w3 (CS_rdf hS f4)) (fun μ' h => out f4 h)
          · have h3' : ¬ cd T e q = 1025 := h3
            rw [if_neg h3'] at w3
            rw [w1, decide_eq_false h3', if_pos (show b2i false = 0 by decide), if_neg h3]
            refine ok_b1 (c_fail (by omega) w3) ?_
            rintro μ5 ⟨y1, y2⟩
            exact ok_some ⟨fr_mono (fr_trans f4 y1) (fun o i h => rd_cr h), fun f hf => (by cases hf; exact y2), fun q' c' v' hx => by cases hx⟩
  by_cases hc8 : c = 8
  · rw [if_pos (show (8 : Int32) ≤ nI c by rw [hc8]; decide)]
    exact other μ fr_refl hC (Or.inr hc8)
  · rw [if_neg (show ¬ (8 : Int32) ≤ nI c from nI_ge (b := 8) (by omega) (by omega))]
    refine ok_b2 (c_takes hC (show ¬ (1000 : Int32) = 3001 by decide)) ?_
    rintro x μ1 ⟨t1, t2, t3⟩
    dsimp only at t1 t2 t3
    by_cases h0 : cd T e q = nI (1000 + 0)
    · have h0' : cd T e q = 1000 := h0
      have hq := code_lt h0 (by omega)
      rw [if_pos h0'] at t3
      rw [t1, decide_eq_true h0', if_neg (show ¬ b2i true = 0 by decide)]
      refine ok_b2 (c_add (CS_rdf hS t2) (by omega)) ?_
      rintro x2 μ2 ⟨u1, u2, u3⟩
      dsimp only at u1 u2 u3
      subst u1
      have ucr : ∀ o i, addP 1 c o i → crP o i := by
        rintro o i (rfl | ⟨rfl, rfl⟩)
        · exact cr3
        · exact Or.inr (Or.inr ⟨rfl, by omega⟩)
      have c2 : CP μ2 T e N (nx T e q) := CP_fr (P := addP 1 c) t3 u2 (by
        have key : ∀ o i, o.1 = 0 → ¬ addP 1 c o i := by
          rintro o i ho (rfl | ⟨rfl, -⟩) <;> simp at ho
        exact ⟨⟨key _ _ rfl, key _ _ rfl, key _ _ rfl⟩, fun i => ⟨key _ _ rfl, key _ _ rfl⟩⟩)
      refine ok_b1 (c_readNode he (by omega) (gq_nx he hq) c2 u3) ?_
      rintro μ3 ⟨w1, w2, w3⟩
      have f3 : fr crP μ μ3 := fr_trans (fr_mono t2 (fun o i h => rd_cr h)) (fr_trans (fr_mono u2 ucr) w1)
      unfold sLine
      rw [if_pos h0, if_neg hc8]
      cases hs : sNode T e c (nx T e q) with
      | inl f => exact ok_some ⟨f3, fun f' hf => (by cases hf; exact w2 f hs), fun q' c' v' hx => by cases hx⟩
      | inr r =>
        obtain ⟨q', g⟩ := r
        obtain ⟨y1, y2⟩ := w3 q' g hs
        exact ok_some ⟨f3, fun f' hf => (by cases hf), fun q2 c2 v2 hx => by cases hx; exact ⟨y1, y2⟩⟩
    · have h0' : ¬ cd T e q = 1000 := h0
      rw [if_neg h0'] at t3
      rw [t1, decide_eq_false h0', if_pos (show b2i false = 0 by decide)]
      exact other μ1 t2 t3 (Or.inl h0)
def cdOut (T : Vec) (e N : Nat) (μ : ZMem) (R : Nat ⊕ (Nat × Vec)) (μ' : ZMem) : Prop := fr crP μ μ' ∧ (∀ f, R = .inl f → FP μ' T e N f) ∧ ∀ c' v', R = .inr (c', v') → (∃ q, CP μ' T e N q) ∧ CS μ' 1 c' v'
theorem c_readInto {c : Nat} {v : Vec} {μ : ZMem} (he : e ≤ 400) (hv : okC c v) (hC : CP μ T e N (nxt T e 0)) (hS : CS μ 1 c v) : ok (f_X0_readInto 1 μ) (cdOut T e N μ (sCl T e c v)) := by
  have hg0 : gq T e (nxt T e 0) := by
    obtain ⟨-, b, d, -⟩ := nxt_spec (T := T) (p := 0) he (by omega)
    exact ⟨b, d⟩
  unfold f_X0_readInto
  rw [bd_eq (c_isAt hC)]
  unfold sCl
  by_cases h0 : cd T e (nxt T e 0) = 3001
  · rw [decide_eq_true h0, if_neg (show ¬ b2i true = 0 by decide), if_pos h0]
    exact ok_some ⟨fr_refl, fun f hf => (by cases hf), fun c' v' hx => by cases hx; exact ⟨⟨_, hC⟩, hS⟩⟩
  · rw [decide_eq_false h0, if_pos (show b2i false = 0 by decide), if_neg h0]
    obtain ⟨R, hR⟩ : ∃ R, R = sLines T e 14 (nxt T e 0) c v := ⟨_, rfl⟩
    rw [← hR]
    refine ok_b1 (P := fun z : ZMem ⊕ ZMem => ok (sm z (fun (μ6 : ZMem) => bd (f_X8_fail μ6) (fun (μ21 : ZMem) => some μ21)) (fun r0 => some r0)) (cdOut T e N μ R)) (ok_lp (fun j s => ∃ k q c1 v1, s.1 = nI k ∧ k + j = 14 ∧ CP s.2 T e N q ∧ CS s.2 1 c1 v1 ∧ gq T e q ∧ okC c1 v1 ∧ sLines T e j q c1 v1 = R ∧ fr crP μ s.2) ?_ (N := 14) ⟨0, _, c, v, rfl, rfl, hC, hS, hg0, hv, hR.symm, fr_refl⟩ (FU_lt (by omega))) (fun z h => h)
    rintro j ⟨x, μ2⟩ ⟨k, q, c1, v1, h1, h2, c2, s2, hg, hk, hr, f2⟩
    dsimp only at h1 c2 s2 f2
    subst h1
    have hqe := hg.1
    rw [un2_s]
    cases j with
    | zero =>
      rw [if_pos (show (14 : Int32) ≤ nI k by rw [show k = 14 by omega]; decide)]
      refine ok_some ?_
      change Sum.inl q = R at hr
      show ok (bd (f_X8_fail μ2) (fun (μ21 : ZMem) => some μ21)) _
      refine ok_b1 (c_fail (by omega) c2) ?_
      rintro μ3 ⟨a, b⟩
      rw [← hr]
      exact ok_some ⟨fr_trans f2 (fr_mono a (fun o i h => rd_cr h)), fun f hf => (by cases hf; exact b), fun c' v' hx => by cases hx⟩
    | succ j =>
      rw [if_neg (show ¬ (14 : Int32) ≤ nI k from nI_ge (b := 14) (by omega) (by omega))]
      refine ok_b1 (c_cline he hg c2 s2) ?_
      rintro μ3 ⟨o1, o2, o3⟩
      obtain ⟨p1, p2⟩ := cline_g (T := T) he hg hk
      have f3 := fr_trans f2 o1
      rw [sLines] at hr
      cases hp : sLine T e c1 v1 q with
      | inl f =>
        rw [hp] at hr
        change Sum.inl f = R at hr
        have hf := o2 f hp
        refine ok_b2 (f_takes (c := 2059) hf) ?_
        rintro x13 μ4 ⟨r1, r2, r3⟩
        dsimp only at r1 r2 r3
        rw [if_pos r1, bd_eq (f_isAt r3), if_pos rfl, f_fail r3, bd_s, bd_s]
        refine ok_some (ok_some ?_)
        rw [← hr]
        exact ⟨fr_trans f3 (fr_mono r2 (fun o i h => rd_cr h)), fun f' h => (by cases h; exact r3), fun c' v' hx => by cases hx⟩
      | inr r =>
        obtain ⟨q', c', v'⟩ := r
        obtain ⟨a1, a2, a3, a4⟩ := p2 q' c' v' hp
        obtain ⟨c3, s3⟩ := o3 q' c' v' hp
        have hq' := a1.1
        rw [hp] at hr
        change (if cd T e q' = 2059 then sLines T e j (nx T e q') c' v' else if cd T e q' = 3001 then Sum.inr (c', v') else Sum.inl q') = R at hr
        refine ok_b2 (c_takes c3 (show ¬ (2059 : Int32) = 3001 by decide)) ?_
        rintro x13 μ4 ⟨r1, r2, r3⟩
        dsimp only at r1 r2 r3
        have f4 := fr_trans f3 (fr_mono r2 (fun o i h => rd_cr h))
        have s4 := CS_rdf s3 r2
        by_cases c59 : cd T e q' = 2059
        · rw [if_pos c59] at r3 hr
          have hqe1 : q' < e := cd_lt (by rw [c59]; decide)
          rw [r1, decide_eq_true c59, if_neg (show ¬ b2i true = 0 by decide)]
          exact ok_some ⟨j, by omega, k + 1, nx T e q', c', v', nI_1 k, by omega, r3, s4, gq_nx he hqe1, a3, hr, f4⟩
        · rw [if_neg c59] at r3 hr
          rw [r1, decide_eq_false c59, if_pos (show b2i false = 0 by decide), bd_eq (c_isAt r3)]
          by_cases c01 : cd T e q' = 3001
          · rw [if_pos c01] at hr
            rw [decide_eq_true c01, if_neg (show ¬ b2i true = 0 by decide), bd_s]
            refine ok_some (ok_some ?_)
            rw [← hr]
            exact ⟨f4, fun f' h => (by cases h), fun c2 v2 hx => by cases hx; exact ⟨⟨_, r3⟩, s4⟩⟩
          · rw [if_neg c01] at hr
            rw [decide_eq_false c01, if_pos (show b2i false = 0 by decide)]
            refine ok_b1 (ok_b1 (c_fail (by omega) r3) (fun μ5 h => ok_some h)) ?_
            rintro μ5 ⟨u1, u2⟩
            refine ok_some (ok_some ?_)
            rw [← hr]
            exact ⟨fr_trans f4 (fr_mono u1 (fun o i h => rd_cr h)), fun f' h => (by cases h; exact u2), fun c' v' hx => by cases hx⟩
end CF
