/-! acts on both sides: cluster -/
section PI
variable {y : ZLay} {μ : ZMem} {S S' : SV} {tp tp' : Vec} {tl tl' : Nat} {fa fa' : Int32} {kp kp' : Option SV} {ac ac' : List (Nat × Vec)}
theorem m_comes0 (h1 : ∀ j, 337 ≤ j → μ MV0 j = S.2.1 j) (h2 : ∀ j, j < 337 → μ (0, 35, 0) j = S.2.1 j) : ok (f_X12_comesBack μ) (fun μ' => μ' MV0 = S.2.1 ∧ fr vP μ μ') := by
  unfold f_X12_comesBack
  refine ok_b1i (ok_mono (cp_seq (oa := (0, 35, 0)) (ob := MV0) (n := 337) (N := 337) (by decide) (by decide) (by omega) (by omega) (by omega) ?_ ?_) ?_)
  · intro k μ3 hk
    rw [un2_s, if_neg (show ¬ (337 : Int32) ≤ nI k from nI_ge (b := 337) hk (by omega)), gd_eq (zin_nI (by omega) (by omega)), gd_eq (zin_nI (by omega) (by omega)), nI_cl (by omega), zlt_s]
  · intro μ3
    rw [un2_s, if_pos (by decide)]
  · rintro μ' ⟨w1, w2⟩
    refine ⟨funext fun j => ?_, w1⟩
    rw [w2]
    by_cases hj : j < 337
    · rw [if_pos hj]; exact h2 j hj
    · rw [if_neg hj]; exact h1 j (by omega)
def bgP (o : ZId) (i : Nat) : Prop := o = MV0 ∨ o = (0, 35, 0) ∨ (o = MO0 ∧ i ≠ 3) ∨ (o.1 = 0 ∧ 38 ≤ o.2.1)
theorem bg_md {o : ZId} {i : Nat} (h : bgP o i) : mdO o i := by
  rcases h with rfl | rfl | ⟨rfl, -⟩ | ⟨h1, h2⟩
  · exact ⟨rfl, by decide⟩
  · exact ⟨rfl, by decide⟩
  · exact ⟨rfl, by decide⟩
  · exact ⟨h1, by omega⟩
theorem RM_big {μ' : ZMem} (h : RMo μ S tp tl fa kp ac) (f : fr bgP μ μ') (hv : μ' MV0 = S'.2.1) (h8 : μ' MO0 8 = nI 0) (h12 : μ' MO0 12 = fa') (h6 : μ' MO0 6 = nI ac'.length) (ha : ac' = ac ∨ ac' = []) : RMo μ' S' tp 0 fa' kp ac' := by
  obtain ⟨a1, a2, a3, a4, a5, a6, a7, a8⟩ := h
  have n34 : ∀ i, μ' (0, 34, 0) i = μ (0, 34, 0) i := fun i => f.1 _ _ (by
    rintro (h | h | ⟨h, -⟩ | ⟨-, h⟩)
    · exact absurd h (by decide)
    · exact absurd h (by decide)
    · exact absurd h (by decide)
    · exact absurd h (by decide))
  have n36 : ∀ i, μ' (0, 36, 0) i = μ (0, 36, 0) i := fun i => f.1 _ _ (by
    rintro (h | h | ⟨h, -⟩ | ⟨-, h⟩)
    · exact absurd h (by decide)
    · exact absurd h (by decide)
    · exact absurd h (by decide)
    · exact absurd h (by decide))
  have n3 : μ' MO0 3 = μ MO0 3 := f.1 _ _ (by
    rintro (h | h | ⟨-, h⟩ | ⟨-, h⟩)
    · exact absurd h (by decide)
    · exact absurd h (by decide)
    · exact h rfl
    · exact absurd h (by decide))
  refine ⟨hv, fun i hi => absurd hi (by omega), h8, h12, ?_, h6, ?_, ?_⟩
  · cases kp with
    | none => exact n3.trans a5
    | some K => exact ⟨n3.trans a5.1, fun j hj => (n34 j).trans (a5.2 j hj)⟩
  · rcases ha with rfl | rfl
    · exact fun i hi j hj => (n36 _).trans (a7 i hi j hj)
    · exact fun i hi => absurd hi (by simp)
  · obtain ⟨⟨j, hj, e1⟩, e2⟩ := a8
    refine ⟨?_, ?_⟩
    · rcases f.2.1 with e | e
      · exact ⟨j, hj, e.trans e1⟩
      · exact e
    · rcases f.2.2 with e | e
      · exact (congrArg zbo e).trans e2
      · exact e
theorem SS_ctl {s j w : Nat} {x : Int32} (h : SS y μ s S) : SS y (mset μ (0, j, 0) w x) s S :=
  SS_eq h (fun i => by rw [mset_ne (zne (by decide))]) (fun i _ => by rw [mset_ne (zne (by decide))]) (fun k _ w _ => by rw [mset_ne (zne (by decide))]) (fun n j _ => by rw [mset_ne (zne (by decide))]) (fun n => by rw [mset_ne (zne (by decide))])
theorem RC_fault {x : Int32} (h : RC y μ S tp tl fa kp ac) : RC y (mset μ (0, 0, 0) 2 x) S tp tl x kp ac := by
  obtain ⟨h1, h2, h3, h4, h5, nx, h6, h7, h8, h9⟩ := h
  refine ⟨SS_ctl h1, fun i hi => by rw [mset_ne (by decide)]; exact h2 i hi, by rw [mset_k (by decide)]; exact h3, mset_at, ?_, nx, h6, by rw [mset_ne (by decide)]; exact h7, by rw [mset_ne (by decide)]; exact h8, fun i hi => SS_ctl (h9 i hi)⟩
  cases kp with
  | none => exact (mset_k (show (6 : Nat) ≠ 2 by decide)).trans h5
  | some K => exact ⟨(mset_k (show (6 : Nat) ≠ 2 by decide)).trans h5.1, SS_ctl h5.2⟩
/-- state 0 is another, the acts are forgotten -/
def newP (o : ZId) (i : Nat) : Prop := stateP 0 o i ∨ (o = (0, 2, 0) ∧ i = 2)
theorem new_cl {o : ZId} {i : Nat} (h : newP o i) : clO o i := by
  rcases h with h | ⟨rfl, -⟩
  · exact st_cl h
  · exact Or.inr (by decide)
theorem RC_new {μ' : ZMem} (h : RC y μ S tp tl fa kp ac) (f : fr newP μ μ') (hs : SS y μ' 0 S') (h2' : μ' (0, 2, 0) 2 = 0) : RC y μ' S' tp tl fa kp [] := by
  obtain ⟨h1, h2, h3, h4, h5, nx, h6, h7, h8, h9⟩ := h
  have n0 : ∀ j i, (j = 2 → i ≠ 2) → μ' (0, j, 0) i = μ (0, j, 0) i := fun j i hj => f.1 _ _ (by
    rintro (h | ⟨h, h'⟩)
    · exact st_0 h
    · exact hj (congrArg (fun q : ZId => q.2.1) h) h')
  have n2 : ∀ s i, s ≠ 0 → ¬ newP (1, s, 0) i ∧ ¬ newP (4, s, 0) i ∧ (∀ k, ¬ newP (3, s, k) i) ∧ (∀ n, ¬ newP (5, n, 0) i) ∧ ∀ n j, j < 4 → ¬ newP (6, n, j) i := fun s i hs => by
    obtain ⟨a1, a2, a3, a4, a5⟩ := st_ne (s := 0) (t := s) (i := i) (fun q => hs q.symm)
    have key : ∀ (o : ZId), o.1 ≠ 0 → ¬ stateP 0 o i → ¬ newP o i := fun o ho hn => by
      rintro (h | ⟨h, -⟩)
      · exact hn h
      · exact ho (congrArg (fun q : ZId => q.1) h)
    exact ⟨key _ (by simp) a1, key _ (by simp) a2, fun k => key _ (by simp) (a3 k), fun n => key _ (by simp) (a4 n), fun n j hj => key _ (by simp) (a5 n j hj)⟩
  refine ⟨hs, fun i hi => by rw [n0 1 i (by omega)]; exact h2 i hi, by rw [n0 0 1 (by omega)]; exact h3, by rw [n0 0 2 (by omega)]; exact h4, ?_, nx, h6, by rw [n0 2 1 (by omega)]; exact h7, h2', fun i hi => absurd hi (by simp)⟩
  cases kp with
  | none => exact (n0 0 6 (by omega)).trans h5
  | some K => exact ⟨(n0 0 6 (by omega)).trans h5.1, SS_fr h5.2 f (fun i => n2 2 i (by omega))⟩
theorem tk_sc {o : ZId} {i : Nat} (h : tkP o i) : scP o i := by
  rcases h with ⟨rfl, -⟩ | rfl | rfl <;> exact Or.inl ⟨rfl, by decide, by decide, rfl⟩
theorem cr_sc {o : ZId} {i : Nat} (h : crP o i) : scP o i := by
  rcases h with ⟨rfl, -⟩ | ⟨k, rfl⟩ | ⟨rfl, -⟩
  · exact Or.inl ⟨rfl, by decide, by decide, rfl⟩
  · exact Or.inr (Or.inr (Or.inl ⟨Or.inr (Or.inl rfl), rfl⟩))
  · exact Or.inr (Or.inr (Or.inl ⟨Or.inl rfl, rfl⟩))
theorem CP_eq {μ' : ZMem} {T : Vec} {e N q : Nat} (h : CP μ T e N q) (e0 : μ' (0, 20, 0) = μ (0, 20, 0)) (e1 : μ' (0, 21, 0) = μ (0, 21, 0)) (e2 : μ' (0, 22, 0) = μ (0, 22, 0)) : CP μ' T e N q := by
  unfold CP TK at h ⊢
  rw [e0, e1, e2]
  exact h
theorem CS_v0 {s c : Nat} {v : Vec} {a x : Int32} (h : CS μ s c v) : CS (mset μ (1, s, 0) 9 a) s c (vset v 0 x) := by
  obtain ⟨h8, h1, h2, h3, h4, h5, h6, h7, h9⟩ := h
  have e4 : (mset μ (1, s, 0) 9 a) (4, s, 0) = μ (4, s, 0) := mset_ne (zne (by decide))
  refine ⟨h8, by rw [mset_k (by decide), h1], by rw [vset_ne (by decide), h2], by rw [mset_k (by decide), h3, vset_ne (by decide)], by rw [mset_k (by decide), h4, vset_ne (by decide)], by rw [mset_k (by decide), h5, vset_ne (by decide)], by rw [mset_k (by decide), h6, vset_ne (by decide)], ?_, ?_⟩
  · intro k hk x hx
    rw [mset_ne (zne (by decide)), h7 k hk x hx]
    unfold nd
    rw [vset_ne (by omega)]
  · exact ring_congr h9 (mset_k (by decide)) (mset_k (by decide)) e4 (vset_ne (by decide)) (fun i h1 h2 => vset_ne (by omega))
end PI
