/-! the class's round: loops, freezing, judging, clocks -/
theorem zmax_eq (x z : Int32) : zmax x z = f_X12_greater x z := by
  rw [greater_eq]
  unfold zmax
  by_cases h1 : x < z
  · rw [if_pos h1, if_neg (fun h2 => by exact Int32.lt_irrefl (Int32.lt_trans h1 h2))]
  · rw [if_neg h1]
    by_cases h2 : z < x
    · rw [if_pos h2]
    · rw [if_neg h2]
      exact Int32.le_antisymm (Int32.not_lt.mp h2) (Int32.not_lt.mp h1)
theorem zmin_eq (x z : Int32) : zmin x z = f_X12_lesser x z := by
  rw [lesser_eq]
  unfold zmin
  by_cases h1 : z < x
  · rw [if_pos h1, if_neg (fun h2 => by exact Int32.lt_irrefl (Int32.lt_trans h1 h2))]
  · rw [if_neg h1]
    by_cases h2 : x < z
    · rw [if_pos h2]
    · rw [if_neg h2]
      exact Int32.le_antisymm (Int32.not_lt.mp h1) (Int32.not_lt.mp h2)
theorem keep_eq (a b : Int32) : f_X11_keepWithin a b = f_X12_held a b := by
  unfold f_X11_keepWithin f_X12_held
  rw [zmax_eq, zmin_eq]
theorem CS_c {μ : ZMem} {s c : Nat} {v : Vec} (h : CS μ s c v) : μ (1, s, 0) 4 = nI c := h.2.1
theorem CS_nd {μ : ZMem} {s c k x : Nat} {v : Vec} (h : CS μ s c v) (hk : k < c) (hx : x < 11) : μ (3, s, k) x = nd v k x := h.2.2.2.2.2.2.2.1 k hk x hx
theorem CS_rd {μ : ZMem} {s c : Nat} {v : Vec} (h : CS μ s c v) : μ (1, s, 0) 7 = v 6 := h.2.2.2.2.2.1
/-- what of State s changes -/
def clsP (s : Nat) (o : ZId) (i : Nat) : Prop := o = (4, s, 0) ∨ (o = (1, s, 0) ∧ (i = 2 ∨ i = 3 ∨ i = 7 ∨ i = 8)) ∨ ∃ k, o = (3, s, k)
theorem not_cls {s : Nat} {o : ZId} (h1 : o ≠ (4, s, 0)) (h2 : o ≠ (1, s, 0)) (h3 : ∀ k, o ≠ (3, s, k)) : ∀ i, ¬ clsP s o i := by
  rintro i (h | ⟨h, -⟩ | ⟨k, h⟩)
  · exact h1 h
  · exact h2 h
  · exact h3 k h
theorem not_cls0 {s j : Nat} : ∀ i, ¬ clsP s (0, j, 0) i := not_cls (zne (by decide)) (zne (by decide)) (fun k => zne (by decide))
theorem cls_nd {s k i : Nat} : clsP s (3, s, k) i := Or.inr (Or.inr ⟨k, rfl⟩)
theorem not_clsP {s : Nat} {o : ZId} {i : Nat} (h : notP s o i) : clsP s o i := by
  rcases h with h | ⟨h, h'⟩
  · exact Or.inl h
  · exact Or.inr (Or.inl ⟨h, by omega⟩)
theorem CS_fr {μ μ' : ZMem} {s c : Nat} {v : Vec} {P : ZId → Nat → Prop} (h : CS μ s c v) (f : fr P μ μ') (hP : ∀ i, ¬ P (1, s, 0) i ∧ ¬ P (4, s, 0) i ∧ ∀ k, ¬ P (3, s, k) i) : CS μ' s c v := by
  obtain ⟨h8, h1, h2, h3, h4, h5, h6, h7, h9⟩ := h
  have e1 : μ' (1, s, 0) = μ (1, s, 0) := fr_at f (fun i => (hP i).1)
  have e4 : μ' (4, s, 0) = μ (4, s, 0) := fr_at f (fun i => (hP i).2.1)
  refine ⟨h8, by rw [e1, h1], h2, by rw [e1, h3], by rw [e1, h4], by rw [e1, h5], by rw [e1, h6], ?_, ring_congr h9 (by rw [e1]) (by rw [e1]) e4 rfl (fun i _ _ => rfl)⟩
  intro k hk x hx
  rw [fr_at f (fun i => (hP i).2.2 k)]
  exact h7 k hk x hx
theorem c_loop {F : Int32 × ZMem → Option ((Int32 × ZMem) ⊕ ZMem)} {P : ZId → Nat → Prop} (f : Nat → Vec → Vec) {μ : ZMem} {s c : Nat} {v : Vec} (h : CS μ s c v)
    (step : ∀ k μ1 v1, k < c → CS μ1 s c v1 → v1 = itS f k v → fr P μ μ1 → ok (F (nI k, μ1)) (fun z => ∃ μ2, z = .inl (nI (k + 1), μ2) ∧ CS μ2 s c (f k v1) ∧ fr P μ1 μ2))
    (fin : ∀ μ1 v1, CS μ1 s c v1 → F (nI c, μ1) = some (.inr μ1)) : ok (lp F FU (0, μ)) (fun μ' => CS μ' s c (itS f c v) ∧ fr P μ μ') := by
  have h8 := h.1
  refine ok_seq c (fun k s' => s'.1 = nI k ∧ CS s'.2 s c (itS f k v) ∧ fr P μ s'.2) ?_ ?_ ⟨rfl, h, fr_refl⟩ (FU_lt (by omega))
  · rintro k ⟨i, μ1⟩ hk ⟨h1, h2, h4⟩
    dsimp only at h1 h2 h4
    subst h1
    refine ok_mono (step k μ1 _ hk h2 rfl h4) ?_
    rintro z ⟨μ2, rfl, h6, h7⟩
    exact ⟨_, rfl, rfl, h6, fr_trans h4 h7⟩
  · rintro ⟨i, μ1⟩ ⟨h1, h2, h4⟩
    dsimp only at h1 h2 h4
    subst h1
    exact ⟨_, fin μ1 _ h2, _, rfl, h2, h4⟩
theorem c_loop3 {F : Int32 × Int32 × ZMem → Option ((Int32 × Int32 × ZMem) ⊕ (Int32 × ZMem))} {P : ZId → Nat → Prop} (f : Nat → Vec × Int32 → Vec × Int32) {μ : ZMem} {s c : Nat} {v : Vec} {x0 : Int32} (h : CS μ s c v)
    (step : ∀ k μ1 q, k < c → CS μ1 s c q.1 → q = itS f k (v, x0) → fr P μ μ1 → ok (F (q.2, nI k, μ1)) (fun z => ∃ μ2, z = .inl ((f k q).2, nI (k + 1), μ2) ∧ CS μ2 s c (f k q).1 ∧ fr P μ1 μ2))
    (fin : ∀ x μ1 v1, CS μ1 s c v1 → F (x, nI c, μ1) = some (.inr (x, μ1))) : ok (lp F FU (x0, 0, μ)) (fun q => q.1 = (itS f c (v, x0)).2 ∧ CS q.2 s c (itS f c (v, x0)).1 ∧ fr P μ q.2) := by
  have h8 := h.1
  refine ok_seq c (fun k s' => s'.1 = (itS f k (v, x0)).2 ∧ s'.2.1 = nI k ∧ CS s'.2.2 s c (itS f k (v, x0)).1 ∧ fr P μ s'.2.2) ?_ ?_ ⟨rfl, rfl, h, fr_refl⟩ (FU_lt (by omega))
  · rintro k ⟨x, i, μ1⟩ hk ⟨h0, h1, h2, h4⟩
    dsimp only at h0 h1 h2 h4
    subst h0 h1
    refine ok_mono (step k μ1 _ hk h2 rfl h4) ?_
    rintro z ⟨μ2, rfl, h6, h7⟩
    exact ⟨_, rfl, rfl, rfl, h6, fr_trans h4 h7⟩
  · rintro ⟨x, i, μ1⟩ ⟨h0, h1, h2, h4⟩
    dsimp only at h0 h1 h2 h4
    subst h0 h1
    exact ⟨_, fin _ μ1 _ h2, _, rfl, rfl, h2, h4⟩
theorem c_freeze {μ : ZMem} {s c k : Nat} {v : Vec} {w : Int32} (h : CS μ s c v) (hk : k < c) : ok (f_X9_freeze s (nI k) w μ) (fun μ' => CS μ' s c (frzS v k w) ∧ fr (clsP s) μ μ') := by
  have h8 := h.1
  unfold f_X9_freeze
  rw [gd_eq (zin_nI (by omega) (by omega)), nI_cl (by omega), zlt_s]
  have h1 := CS_ns (x := 3) (a := 3) h hk (by omega)
  rw [CS_nd h1 hk (by omega)]
  refine ok_bd (ok_mono (c_note h1) ?_)
  rintro μ1 ⟨g1, g2⟩
  exact ok_some ⟨g1, fr_trans (fr_mset cls_nd) (fr_mono g2 (fun o i h => not_clsP h))⟩
theorem c_runClocks {μ : ZMem} {s c : Nat} {v : Vec} (h : CS μ s c v) : ok (f_X9_runClocks s μ) (fun μ' => CS μ' s c (itS runStep c v) ∧ fr (clsP s) μ μ') := by
  have h8 := h.1
  unfold f_X9_runClocks
  refine ok_bd (ok_mono (c_loop (P := clsP s) runStep h ?_ ?_) (fun _ h => ok_some h))
  · intro k μ1 v1 hk h1 e f
    simp only [un2]
    rw [if_neg (cond_le (CS_c h1) h8 hk), gd_eq (zin_nI (by omega) (by omega)), nI_cl (by omega), CS_nd h1 hk (by omega), CS_nd h1 hk (by omega), CS_nd h1 hk (by omega), CS_nd h1 hk (by omega), keep_eq, zlt_s]
    unfold runStep
    by_cases h3 : nd v1 k 3 = 0
    · rw [if_pos h3, if_pos h3]
      exact ok_some ⟨_, by rw [nI_1], h1, fr_refl⟩
    · rw [if_neg h3, if_neg h3, zlt_s]
      exact ok_some ⟨_, by rw [nI_1], CS_ns h1 hk (by omega), fr_mset cls_nd⟩
  · intro μ1 v1 h1
    simp only [un2]
    rw [if_pos (cond_end (CS_c h1) h8)]
