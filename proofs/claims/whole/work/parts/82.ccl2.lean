/-! the class reads a node -/
def addP (s c : Nat) (o : ZId) (i : Nat) : Prop := o = (3, s, c) ∨ (o = (1, s, 0) ∧ i = 4)
theorem reset_eq {μ : ZMem} {s c : Nat} {d : Int32} : ∃ μ', f_X5_reset s c (nI c) d μ = some μ' ∧ fr (fun o _ => o = (3, s, c)) μ μ' ∧ ∀ w, w < 11 → μ' (3, s, c) w = ndF c 0 d 0 0 0 1 w := by
  refine ⟨_, rfl, ?_, ?_⟩
  · exact fr_trans (fr_mset rfl) (fr_trans (fr_mset rfl) (fr_trans (fr_mset rfl) (fr_trans (fr_mset rfl) (fr_trans (fr_mset rfl) (fr_trans (fr_mset rfl) (fr_trans (fr_mset rfl) (fr_trans (fr_mset rfl) (fr_trans (fr_mset rfl) (fr_trans (fr_mset rfl) (fr_mset rfl))))))))))
  · intro w hw
    have h : w = 0 ∨ w = 1 ∨ w = 2 ∨ w = 3 ∨ w = 4 ∨ w = 5 ∨ w = 6 ∨ w = 7 ∨ w = 8 ∨ w = 9 ∨ w = 10 := by omega
    rcases h with rfl | rfl | rfl | rfl | rfl | rfl | rfl | rfl | rfl | rfl | rfl <;> simp [mset, ndF]
theorem c_add {μ : ZMem} {s c : Nat} {v : Vec} {d : Int32} (h : CS μ s c v) (hc : c < 8) : ok (f_X7_addNode s d μ) (fun r => r.1 = nI c ∧ fr (addP s c) μ r.2 ∧ CS r.2 s (c + 1) (nodeV v c (ndF c 0 d 0 0 0 1))) := by
  obtain ⟨h8, h1, h2, h3, h4, h5, h6, h7, h9⟩ := h
  unfold f_X7_addNode
  rw [h1, if_pos (show nI c < (8 : Int32) from nI_lt (b := 8) hc (by omega)), zlt_s, gd_eq (zin_nI hc (by omega)), nI_cl (by omega)]
  obtain ⟨μ1, e1, f1, n1⟩ := reset_eq (μ := μ) (s := s) (c := c) (d := d)
  have m1 : μ1 (1, s, 0) = μ (1, s, 0) := fr_at f1 (fun i => zne (by decide))
  have m4 : μ1 (4, s, 0) = μ (4, s, 0) := fr_at f1 (fun i => zne (by decide))
  rw [bd_eq e1, m1, h1, nI_1, zlt_s]
  have l1 : ∀ i, i ≠ 4 → (mset μ1 (1, s, 0) 4 (nI (c + 1))) (1, s, 0) i = μ (1, s, 0) i := fun i hi => by rw [mset_k hi, m1]
  refine ok_some ?_
  dsimp only
  refine ⟨rfl, fr_trans (fr_mono f1 (fun o i h => Or.inl h)) (fr_mset (Or.inr ⟨rfl, rfl⟩)), by omega, by rw [mset_at], nodeV_3, ?_, ?_, ?_, ?_, ?_, ?_⟩
  · rw [l1 5 (by omega), h3, nodeV_low (by omega) (by omega)]
  · rw [l1 6 (by omega), h4, nodeV_low (by omega) (by omega)]
  · rw [l1 7 (by omega), h5, nodeV_low (by omega) (by omega)]
  · rw [l1 8 (by omega), h6, nodeV_low (by omega) (by omega)]
  · intro k hk w hw
    rw [mset_ne (zne (by decide)), nodeV_nd hw]
    by_cases e2 : k = c
    · subst e2
      rw [if_pos rfl]
      exact n1 w hw
    · rw [if_neg e2, f1.1 (3, s, k) w (fun q => e2 (congrArg (fun q : ZId => q.2.2) q))]
      exact h7 k (by omega) w hw
  · exact ring_congr h9 (l1 2 (by omega)) (l1 3 (by omega)) (by rw [mset_ne (zne (by decide)), m4]) (nodeV_low (by omega) (by omega)) (fun i hi _ => nodeV_high (by omega) hi)
section CD
variable {T : Vec} {e N : Nat}
def rs4 (T : Vec) (e k : Nat) (a b c kd how : Int32) (q : Nat) : Nat ⊕ (Nat × Vec) := .inr ((tV T e q).1, ndF k a b c kd how (tV T e q).2)
def rs3 (T : Vec) (e k : Nat) (a b c : Int32) (q : Nat) : Nat ⊕ (Nat × Vec) := vB (hV T e (kV T e q).2 (kV T e q).1) (fun q4 how => rs4 T e k a b c (kV T e q).2 how q4)
def rs2 (T : Vec) (e k : Nat) (a b : Int32) (q : Nat) : Nat ⊕ (Nat × Vec) := vB (fV T e q) (fun q3 c => rs3 T e k a b c q3)
def rs1 (T : Vec) (e k : Nat) (a : Int32) (q : Nat) : Nat ⊕ (Nat × Vec) := vB (oV T e 1 2 9 q) (fun q2 b => rs2 T e k a b q2)
theorem sNode_rs {k q : Nat} : sNode T e k q = vB (oV T e 17 18 999 q) (fun q1 a => rs1 T e k a q1) := rfl
/-- between two stages -/
def mid (T : Vec) (e N c : Nat) (v : Vec) (μ : ZMem) (R : Nat ⊕ (Nat × Vec)) (S : Nat → Vec → Prop) (μ' : ZMem) : Prop := fr crP μ μ' ∧ ((∃ f, R = .inl f ∧ FP μ' T e N f) ∨ ∃ q g, gq T e q ∧ CP μ' T e N q ∧ CS μ' 1 (c + 1) (nodeV v c g) ∧ S q g)
theorem mid_f {c : Nat} {v : Vec} {μ μ1 μ2 : ZMem} {R : Nat ⊕ (Nat × Vec)} {S : Nat → Vec → Prop} {f : Nat} (f1 : fr crP μ μ1) (hR : R = .inl f) (h : fKeep T e N f μ1 μ2) : mid T e N c v μ R S μ2 := ⟨fr_trans f1 h.1, Or.inl ⟨f, hR, h.2⟩⟩
/-- a stage that ends in a number -/
theorem mid_n {c : Nat} {v : Vec} {μ μ1 μ2 : ZMem} {R : Nat ⊕ (Nat × Vec)} {S : Nat → Vec → Prop} {V : Nat ⊕ (Nat × Int32)} {F : Int32 → Vec} {rest : Nat → Int32 → Nat ⊕ (Nat × Vec)} (f1 : fr crP μ μ1) (h : nOut T e N c v μ1 V F μ2) (hR : vB V rest = R) (hg : ∀ q' x, V = .inr (q', x) → gq T e q') (hS : ∀ q' x, V = .inr (q', x) → rest q' x = R → S q' (F x)) : mid T e N c v μ R S μ2 := by
  obtain ⟨h1, h2, h3⟩ := h
  refine ⟨fr_trans f1 h1, ?_⟩
  cases hV : V with
  | inl f =>
    rw [hV] at hR
    exact Or.inl ⟨f, hR.symm, h2 f hV⟩
  | inr r =>
    obtain ⟨q', x⟩ := r
    rw [hV] at hR
    obtain ⟨a, b⟩ := h3 q' x hV
    exact Or.inr ⟨q', F x, hg q' x hV, a, b, hS q' x hV hR⟩
theorem c_fault {c q : Nat} {v : Vec} {a b d : Int32} {μ : ZMem} (he : e ≤ 400) (hc : c < 8) (hg : gq T e q) (hC : CP μ T e N q) (hS : CS μ 1 (c + 1) (nodeV v c (ndF c a b d 0 0 1))) :
    ok (bd2 (f_X8_takes 1010 μ) (fun (x49 : Int32) (μ50 : ZMem) => if x49 = 0 then bd2 (f_X8_takes 1019 μ50) (fun (x54 : Int32) (μ55 : ZMem) => if x54 = 0 then bd2 (f_X8_takes 1020 μ55) (fun (x58 : Int32) (μ59 : ZMem) => if x58 = 0 then some μ59 else zlt (mset μ59 (3, 1, c) 9 3) (fun (μ61 : ZMem) => bd2 (f_X8_takeNumber 0 99 μ61) (fun (x63 : Int32) (μ64 : ZMem) => zlt (mset μ64 (3, 1, c) 10 x63) (fun (μ65 : ZMem) => some μ65)))) else zlt (mset μ55 (3, 1, c) 9 2) (fun (μ66 : ZMem) => some μ66)) else zlt (mset μ50 (3, 1, c) 9 1) (fun (μ67 : ZMem) => bd2 (f_X8_takeNumber 0 99 μ67) (fun (x69 : Int32) (μ70 : ZMem) => zlt (mset μ70 (3, 1, c) 10 x69) (fun (μ71 : ZMem) => some μ71)))))
      (nOut T e N c v μ (hV T e (kV T e q).2 (kV T e q).1) (fun x => ndF c a b d (kV T e q).2 x 1)) := by
  have hqe := hg.1
  have set9 : ∀ (μ1 : ZMem) (q1 : Nat) (x : Int32), CP μ1 T e N q1 → CS μ1 1 (c + 1) (nodeV v c (ndF c a b d 0 0 1)) → CP (mset μ1 (3, 1, c) 9 x) T e N q1 ∧ CS (mset μ1 (3, 1, c) 9 x) 1 (c + 1) (nodeV v c (ndF c a b d x 0 1)) := by
    intro μ1 q1 x h1 h2
    have S1 := CS_ns (x := 9) (a := x) h2 (show c < c + 1 by omega) (by omega)
    rw [ns_nodeV (by omega), ndF_9] at S1
    exact ⟨CP_3 h1, S1⟩
  have num : ∀ (μ1 : ZMem) (kd : Int32), q < e → (kd = 1 ∨ kd = 3) → kV T e q = (nx T e q, kd) → fr crP μ μ1 → CP μ1 T e N (nx T e q) → CS μ1 1 (c + 1) (nodeV v c (ndF c a b d kd 0 1)) → ok (bd2 (f_X8_takeNumber 0 99 μ1) (fun (x69 : Int32) (μ70 : ZMem) => zlt (mset μ70 (3, 1, c) 10 x69) (fun (μ71 : ZMem) => some μ71))) (nOut T e N c v μ (hV T e (kV T e q).2 (kV T e q).1) (fun x => ndF c a b d (kV T e q).2 x 1)) := by
    intro μ1 kd hq hk hv f1 h1 h2
    have hn := nx_lt (T := T) he hq
    rw [hv]
    refine ok_mono (num_pos (w := 10) (by omega) (by decide) (by omega) h1 h2) (fun μ2 h => ⟨fr_trans f1 h.1, ?_, ?_⟩)
    · intro f hf
      unfold hV at hf
      rw [if_pos hk] at hf
      exact h.2.1 f hf
    · intro q' x hx
      unfold hV at hx
      rw [if_pos hk] at hx
      have := h.2.2 q' x hx
      dsimp only at this
      rw [ndF_10] at this
      exact this
  refine ok_b2 (c_takes hC (show ¬ (1010 : Int32) = 3001 by decide)) ?_
  rintro x1 μ1 ⟨t1, t2, t3⟩
  dsimp only at t1 t2 t3
  by_cases h1 : cd T e q = nI (1000 + 10)
  · have h1' : cd T e q = 1010 := h1
    have hq := code_lt h1 (by omega)
    rw [if_pos h1'] at t3
    rw [t1, decide_eq_true h1', if_neg (show ¬ b2i true = 0 by decide), zlt_s]
    obtain ⟨a1, a2⟩ := set9 μ1 _ 1 t3 (CS_rdf hS t2)
    exact num _ 1 hq (Or.inl rfl) (by unfold kV; rw [if_pos h1]) (fr_trans (fr_mono t2 (fun o i h => rd_cr h)) (fr_mset cr3)) a1 a2
  · have h1' : ¬ cd T e q = 1010 := h1
    rw [if_neg h1'] at t3
    rw [t1, decide_eq_false h1', if_pos (show b2i false = 0 by decide)]
    refine ok_b2 (c_takes t3 (show ¬ (1019 : Int32) = 3001 by decide)) ?_
    rintro x2 μ2 ⟨u1, u2, u3⟩
    dsimp only at u1 u2 u3
    have f2 := fr_trans t2 u2
    by_cases h2 : cd T e q = nI (1000 + 19)
    · have h2' : cd T e q = 1019 := h2
      rw [if_pos h2'] at u3
      rw [u1, decide_eq_true h2', if_neg (show ¬ b2i true = 0 by decide), zlt_s]
      obtain ⟨a1, a2⟩ := set9 μ2 _ 2 u3 (CS_rdf hS f2)
      have hv : kV T e q = (nx T e q, 2) := by unfold kV; rw [if_neg h1, if_pos h2]
      have hh : ∀ q2, hV T e 2 q2 = .inr (q2, 0) := fun q2 => by unfold hV; rw [if_neg (by decide)]
      rw [hv]
      refine ok_some ⟨fr_trans (fr_mono f2 (fun o i h => rd_cr h)) (fr_mset cr3), fun f hf => ?_, fun q' x hx => ?_⟩
      · rw [hh] at hf; cases hf
      · rw [hh] at hx; cases hx; exact ⟨a1, a2⟩
    · have h2' : ¬ cd T e q = 1019 := h2
      rw [if_neg h2'] at u3
      rw [u1, decide_eq_false h2', if_pos (show b2i false = 0 by decide)]
      refine ok_b2 (c_takes u3 (show ¬ (1020 : Int32) = 3001 by decide)) ?_
      rintro x3 μ3 ⟨w1, w2, w3⟩
      dsimp only at w1 w2 w3
      have f3 := fr_trans f2 w2
      by_cases h3 : cd T e q = nI (1000 + 20)
      · have h3' : cd T e q = 1020 := h3
        have hq := code_lt h3 (by omega)
        rw [if_pos h3'] at w3
        rw [w1, decide_eq_true h3', if_neg (show ¬ b2i true = 0 by decide), zlt_s]
        obtain ⟨a1, a2⟩ := set9 μ3 _ 3 w3 (CS_rdf hS f3)
        exact num _ 3 hq (Or.inr rfl) (by unfold kV; rw [if_neg h1, if_neg h2, if_pos h3]) (fr_trans (fr_mono f3 (fun o i h => rd_cr h)) (fr_mset cr3)) a1 a2
      · have h3' : ¬ cd T e q = 1020 := h3
        rw [if_neg h3'] at w3
        rw [w1, decide_eq_false h3', if_pos (show b2i false = 0 by decide)]
        have hv : kV T e q = (q, 0) := by unfold kV; rw [if_neg h1, if_neg h2, if_neg h3]
        have hh : ∀ q2, hV T e 0 q2 = .inr (q2, 0) := fun q2 => by unfold hV; rw [if_neg (by decide)]
        rw [hv]
        refine ok_some ⟨fr_mono f3 (fun o i h => rd_cr h), fun f hf => ?_, fun q' x hx => ?_⟩
        · rw [hh] at hf; cases hf
        · rw [hh] at hx; cases hx; exact ⟨w3, CS_rdf hS f3⟩
theorem c_readNode {c q : Nat} {v : Vec} {μ : ZMem} (he : e ≤ 400) (hc : c < 8) (hg : gq T e q) (hC : CP μ T e N q) (hS : CS μ 1 (c + 1) (nodeV v c (ndF c 0 0 0 0 0 1))) :
    ok (f_X0_readNode 1 (nI c) μ) (fun μ' => fr crP μ μ' ∧ (∀ f, sNode T e c q = .inl f → FP μ' T e N f) ∧ ∀ q' f, sNode T e c q = .inr (q', f) → CP μ' T e N q' ∧ CS μ' 1 (c + 1) (nodeV v c f)) := by
  have hqe := hg.1
  unfold f_X0_readNode
  rw [jk_s, if_neg (show ¬ nI c < 0 from nI_nlt (a := c) (b := 0) (by omega) (by omega)), CS_c hS, if_pos (nI_lt (by omega) (by omega)), gd_eq (zin_nI hc (by omega)), nI_cl (by omega)]
  obtain ⟨R, hR⟩ : ∃ R, R = sNode T e c q := ⟨_, rfl⟩
  rw [← hR]
  rw [sNode_rs] at hR
  -- clock
  refine ok_st (P := mid T e N c v μ R (fun q1 g => ∃ a, g = ndF c a 0 0 0 0 1 ∧ rs1 T e c a q1 = R)) ?_ ?_
  · refine ok_mono (c_opt (w := 0) (a := 17) (b := 18) he rfl rfl (by omega) (by omega) (by omega) (by decide) hg ndF_0 hC hS) (fun μ1 h => mid_n fr_refl h hR.symm ?_ ?_)
    · intro q' x hx
      exact ((oV_g (B := 999) he hg (by omega) (by omega) (by decide) (by decide) (by omega)).2 q' x hx).1
    · intro q' x _ hx
      exact ⟨x, ndF_0, hx⟩
  -- drift
  rintro μ1 ⟨f1, hm⟩
  refine ok_st (P := mid T e N c v μ R (fun q1 g => ∃ a b, g = ndF c a b 0 0 0 1 ∧ rs2 T e c a b q1 = R)) ?_ ?_
  · rcases hm with ⟨f, h1, h2⟩ | ⟨q1, g, g1, m1, s1, a, rfl, hr⟩
    · exact ok_mono (f_opt h2) (fun μ2 h => mid_f f1 h1 h)
    · refine ok_mono (c_opt (w := 1) (a := 1) (b := 2) he rfl rfl (by omega) (by omega) (by omega) (by decide) g1 ndF_1 m1 s1) (fun μ1 h => mid_n f1 h hr ?_ ?_)
      · intro q' x hx
        exact ((oV_g (B := 9) he g1 (by omega) (by omega) (by decide) (by decide) (by omega)).2 q' x hx).1
      · intro q' x _ hx
        exact ⟨a, x, ndF_1, hx⟩
  clear hm f1 μ1
  -- flaky
  rintro μ1 ⟨f1, hm⟩
  refine ok_st (P := mid T e N c v μ R (fun q1 g => ∃ a b d, g = ndF c a b d 0 0 1 ∧ rs3 T e c a b d q1 = R)) ?_ ?_
  · rcases hm with ⟨f, h1, h2⟩ | ⟨q1, g, g1, m1, s1, a, b, rfl, hr⟩
    · exact ok_mono (f_one h2) (fun μ2 h => mid_f f1 h1 h)
    · have hq1 := g1.1
      refine ok_mono (Q := nOut T e N c v μ1 (fV T e q1) (fun x => vset (ndF c a b 0 0 0 1) 8 x)) ?_ (fun μ2 h => mid_n f1 h hr ?_ ?_)
      · refine ok_b2 (c_takes m1 (show ¬ (1009 : Int32) = 3001 by decide)) ?_
        rintro x2 μ2 ⟨t1, t2, t3⟩
        dsimp only at t1 t2 t3
        unfold fV
        by_cases h1 : cd T e q1 = nI (1000 + 9)
        · have h1' : cd T e q1 = 1009 := h1
          have hq := code_lt h1 (by omega)
          have hn := nx_lt (T := T) he hq
          rw [if_pos h1'] at t3
          rw [t1, decide_eq_true h1', if_neg (show ¬ b2i true = 0 by decide), if_pos h1]
          exact ok_mono (num_pos (by omega) (by decide) (by omega) t3 (CS_rdf s1 t2)) (fun μ3 h => nOut_rd t2 h)
        · have h1' : ¬ cd T e q1 = 1009 := h1
          rw [if_neg h1'] at t3
          rw [t1, decide_eq_false h1', if_pos (show b2i false = 0 by decide), if_neg h1]
          exact ok_some (nOut_rd t2 (opt_none ndF_8 t3 (CS_rdf s1 t2)))
      · intro q' x hx
        exact ((fV_g he g1).2 q' x hx).1
      · intro q' x _ hx
        exact ⟨a, b, x, ndF_8, hx⟩
  clear hm f1 μ1
  -- fault
  rintro μ1 ⟨f1, hm⟩
  refine ok_st (P := mid T e N c v μ R (fun q1 g => ∃ a b d kd how, g = ndF c a b d kd how 1 ∧ rs4 T e c a b d kd how q1 = R)) ?_ ?_
  · rcases hm with ⟨f, h1, h2⟩ | ⟨q1, g, g1, m1, s1, a, b, d, rfl, hr⟩
    · exact ok_mono (f_three (G := fun μ55 => zlt (mset μ55 (3, 1, c) 9 2) (fun (μ66 : ZMem) => some μ66)) (H := fun μ50 => zlt (mset μ50 (3, 1, c) 9 1) (fun (μ67 : ZMem) => bd2 (f_X8_takeNumber 0 99 μ67) (fun (x69 : Int32) (μ70 : ZMem) => zlt (mset μ70 (3, 1, c) 10 x69) (fun (μ71 : ZMem) => some μ71)))) (I := fun μ59 => zlt (mset μ59 (3, 1, c) 9 3) (fun (μ61 : ZMem) => bd2 (f_X8_takeNumber 0 99 μ61) (fun (x63 : Int32) (μ64 : ZMem) => zlt (mset μ64 (3, 1, c) 10 x63) (fun (μ65 : ZMem) => some μ65)))) h2) (fun μ2 h => mid_f f1 h1 h)
    · refine ok_mono (c_fault he hc g1 m1 s1) (fun μ2 h => mid_n f1 h hr ?_ ?_)
      · intro q' x hx
        exact ((hV_g he (kV_g he g1).1).2 q' x hx).1
      · intro q' x _ hx
        exact ⟨a, b, d, _, x, rfl, hx⟩
  clear hm f1 μ1
  -- state
  rintro μ1 ⟨f1, hm⟩
  refine ok_st (P := fun μ' => fr crP μ μ' ∧ (∀ f, R = .inl f → FP μ' T e N f) ∧ ∀ q' f, R = .inr (q', f) → CP μ' T e N q' ∧ CS μ' 1 (c + 1) (nodeV v c f)) ?_ (fun μ2 h => ok_some h)
  rcases hm with ⟨f, h1, h2⟩ | ⟨q1, g, g1, m1, s1, a, b, d, kd, how, rfl, hr⟩
  · refine ok_mono (f_two (G := fun μ79 => zlt (mset μ79 (3, 1, c) 3 2) (fun (μ81 : ZMem) => zlt (mset μ81 (3, 1, c) 5 (f_X11_bit (nI c))) (fun (μ82 : ZMem) => some μ82))) (H := fun μ74 => zlt (mset μ74 (3, 1, c) 3 0) (fun (μ83 : ZMem) => some μ83)) h2) (fun μ2 h => ?_)
    rw [h1]
    exact ⟨fr_trans f1 h.1, fun f' hf => (by cases hf; exact h.2), fun q' f' hf => by cases hf⟩
  · unfold rs4 tV at hr
    refine ok_b2 (c_takes m1 (show ¬ (1021 : Int32) = 3001 by decide)) ?_
    rintro x2 μ2 ⟨t1, t2, t3⟩
    dsimp only at t1 t2 t3
    have s2 := CS_rdf s1 t2
    have f2 := fr_trans f1 (fr_mono t2 (fun o i h => rd_cr h))
    by_cases h1 : cd T e q1 = nI (1000 + 21)
    · have h1' : cd T e q1 = 1021 := h1
      rw [if_pos h1'] at t3
      rw [if_pos h1] at hr
      rw [t1, decide_eq_true h1', if_neg (show ¬ b2i true = 0 by decide), zlt_s]
      have S3 := CS_ns (x := 3) (a := 0) s2 (show c < c + 1 by omega) (by omega)
      rw [ns_nodeV (by omega), ndF_30] at S3
      refine ok_some ?_
      rw [← hr]
      exact ⟨fr_trans f2 (fr_mset cr3), fun f' hf => (by cases hf), fun q' f' hf => by cases hf; exact ⟨CP_3 t3, S3⟩⟩
    · have h1' : ¬ cd T e q1 = 1021 := h1
      rw [if_neg h1'] at t3
      rw [if_neg h1] at hr
      rw [t1, decide_eq_false h1', if_pos (show b2i false = 0 by decide)]
      refine ok_b2 (c_takes t3 (show ¬ (1022 : Int32) = 3001 by decide)) ?_
      rintro x3 μ3 ⟨u1, u2, u3⟩
      dsimp only at u1 u2 u3
      have s3 := CS_rdf s2 u2
      have f3 := fr_trans f2 (fr_mono u2 (fun o i h => rd_cr h))
      by_cases h2 : cd T e q1 = nI (1000 + 22)
      · have h2' : cd T e q1 = 1022 := h2
        rw [if_pos h2'] at u3
        rw [if_pos h2] at hr
        rw [u1, decide_eq_true h2', if_neg (show ¬ b2i true = 0 by decide), zlt_s, zlt_s, x11_bit]
        have S4 := CS_ns (x := 3) (a := 2) s3 (show c < c + 1 by omega) (by omega)
        rw [ns_nodeV (by omega)] at S4
        have S5 := CS_ns (x := 5) (a := bit1 c) S4 (show c < c + 1 by omega) (by omega)
        rw [ns_nodeV (by omega), ndF_32] at S5
        refine ok_some ?_
        rw [← hr]
        exact ⟨fr_trans f3 (fr_trans (fr_mset cr3) (fr_mset cr3)), fun f' hf => (by cases hf), fun q' f' hf => by cases hf; exact ⟨CP_3 (CP_3 u3), S5⟩⟩
      · have h2' : ¬ cd T e q1 = 1022 := h2
        rw [if_neg h2'] at u3
        rw [if_neg h2] at hr
        rw [u1, decide_eq_false h2', if_pos (show b2i false = 0 by decide)]
        refine ok_some ?_
        rw [← hr]
        exact ⟨f3, fun f' hf => (by cases hf), fun q' f' hf => by cases hf; exact ⟨u3, s3⟩⟩
end CD
