/-! what the class and the model stand for -/
abbrev SV : Type := Nat × Vec × LawS
/-- the law's number of a state -/
def lno (μ : ZMem) (s : Nat) : Nat := (μ (1, s, 0) 10).toNatClampNeg
def SS (y : ZLay) (μ : ZMem) (s : Nat) (S : SV) : Prop := CS μ s S.1 S.2.1 ∧ μ (1, s, 0) 9 = S.2.1 0 ∧ LawC y μ (lno μ s) S.2.2 ∧ μ (5, lno μ s, 0) 0 = S.2.1 1
def OS (S : SV) : Prop := okC S.1 S.2.1 ∧ LB S.2.2 ∧ LawM S.2.1 S.2.2 ∧ rng (S.2.1 0) 0 12 ∧ ∀ j, 737 ≤ j → S.2.1 j = 0
/-- the class; its tape, its fault, its image, its acts (the newest first) -/
def RC (y : ZLay) (μ : ZMem) (S : SV) (tp : Vec) (tl : Nat) (fa : Int32) (kp : Option SV) (ac : List (Nat × Vec)) : Prop :=
  SS y μ 0 S ∧ (∀ i, i < tl → μ (0, 1, 0) i = tp i) ∧ μ (0, 0, 0) 1 = nI tl ∧ μ (0, 0, 0) 2 = fa ∧
  (match kp with
    | none => μ (0, 0, 0) 6 = 0
    | some K => μ (0, 0, 0) 6 = 1 ∧ SS y μ 2 K) ∧
  ∃ nx, nx < 12 ∧ μ (0, 2, 0) 1 = nI nx ∧ μ (0, 2, 0) 2 = nI ac.length ∧ ∀ i, i < ac.length → SS y μ (3 + (nx + 11 - i) % 12) ((ac.getD i (0, fun _ => 0)).1, (ac.getD i (0, fun _ => 0)).2, S.2.2)
def RM0 (μ : ZMem) : Prop := (∃ j : Nat, j < 8 ∧ μ (0, 38, 0) 0 = nI j) ∧ zbo (μ (0, 32, 0) 15) = true
def RMo (μ : ZMem) (S : SV) (tp : Vec) (tl : Nat) (fa : Int32) (kp : Option SV) (ac : List (Nat × Vec)) : Prop :=
  μ MV0 = S.2.1 ∧ (∀ i, i < tl → μ (0, 37, 0) i = tp i) ∧ μ MO0 8 = nI tl ∧ μ MO0 12 = fa ∧
  (match kp with
    | none => μ MO0 3 = 0
    | some K => μ MO0 3 = 1 ∧ ∀ j, j < 737 → μ (0, 34, 0) j = K.2.1 j) ∧
  μ MO0 6 = nI ac.length ∧ (∀ i, i < ac.length → ∀ j, j < 337 → μ (0, 36, 0) (337 * (ac.length - 1 - i) + j) = (ac.getD i (0, fun _ => 0)).2 j) ∧ RM0 μ
def OA (S : SV) (tp : Vec) (tl : Nat) (kp : Option SV) (ac : List (Nat × Vec)) : Prop :=
  OS S ∧ tl ≤ 400 ∧ HB tp tl ∧ (∀ K, kp = some K → OS K) ∧ ac.length ≤ 12 ∧ ∀ i, i < ac.length → OS ((ac.getD i (0, fun _ => 0)).1, (ac.getD i (0, fun _ => 0)).2, S.2.2) ∧ sameT (ac.getD i (0, fun _ => 0)).2 S.2.1
/-- the class's objects, the model's -/
def clO (o : ZId) (_ : Nat) : Prop := o.1 ≠ 0 ∨ o.2.1 < 32
def mdO (o : ZId) (_ : Nat) : Prop := o.1 = 0 ∧ 32 ≤ o.2.1
theorem not_clO {j k i : Nat} (h : 32 ≤ j) : ¬ clO (0, j, k) i := by
  rintro (h1 | h1)
  · exact h1 rfl
  · exact absurd h1 (by show ¬ j < 32; omega)
theorem not_mdO1 {a b k i : Nat} (h : a ≠ 0) : ¬ mdO (a, b, k) i := fun q => h q.1
theorem not_mdO0 {j k i : Nat} (h : j < 32) : ¬ mdO (0, j, k) i := fun q => by have := q.2; exact absurd this (by show ¬ 32 ≤ j; omega)
theorem LawC_eq {y : ZLay} {μ μ' : ZMem} {n : Nat} {L : LawS} (h : LawC y μ n L) (h6 : ∀ j, j < 4 → μ' (6, n, j) = μ (6, n, j)) (h5 : μ' (5, n, 0) = μ (5, n, 0)) : LawC y μ' n L := LawC_mv h h6 h5
/-- what SS looks at -/
theorem SS_eq {y : ZLay} {μ μ' : ZMem} {s s' : Nat} {S : SV} (h : SS y μ s S) (h1 : ∀ i, μ' (1, s', 0) i = μ (1, s, 0) i) (h4 : ∀ i, i < 240 → μ' (4, s', 0) i = μ (4, s, 0) i) (h3 : ∀ k, k < 8 → ∀ w, w < 11 → μ' (3, s', k) w = μ (3, s, k) w) (h6 : ∀ n j, j < 4 → μ' (6, n, j) = μ (6, n, j)) (h5 : ∀ n, μ' (5, n, 0) = μ (5, n, 0)) : SS y μ' s' S := by
  obtain ⟨⟨c1, c2, c3, c4, c5, c6, c7, c8, n, r, r1, r2, r3, r4, r5, r6⟩, a2, a3, a4⟩ := h
  have el : lno μ' s' = lno μ s := by unfold lno; rw [h1]
  refine ⟨⟨c1, by rw [h1]; exact c2, c3, by rw [h1]; exact c4, by rw [h1]; exact c5, by rw [h1]; exact c6, by rw [h1]; exact c7, fun k hk w hw => by rw [h3 k (by omega) w hw]; exact c8 k hk w hw, n, r, r1, r2, by rw [h1]; exact r3, r4, by rw [h1]; exact r5, fun j hj i hi => by rw [h4 _ (by omega)]; exact r6 j hj i hi⟩, by rw [h1]; exact a2, ?_, by rw [el, h5]; exact a4⟩
  rw [el]
  exact LawC_eq a3 (fun j hj => h6 _ j hj) (h5 _)
theorem SS_fr {P : ZId → Nat → Prop} {y : ZLay} {μ μ' : ZMem} {s : Nat} {S : SV} (h : SS y μ s S) (f : fr P μ μ') (hP : ∀ i, ¬ P (1, s, 0) i ∧ ¬ P (4, s, 0) i ∧ (∀ k, ¬ P (3, s, k) i) ∧ (∀ n, ¬ P (5, n, 0) i) ∧ ∀ n j, j < 4 → ¬ P (6, n, j) i) : SS y μ' s S :=
  SS_eq h (fun i => f.1 _ _ (hP i).1) (fun i _ => f.1 _ _ (hP i).2.1) (fun k _ w _ => f.1 _ _ ((hP w).2.2.1 k)) (fun n j hj => fr_at f (fun i => (hP i).2.2.2.2 n j hj)) (fun n => fr_at f (fun i => (hP i).2.2.2.1 n))
/-- what neither the class's relation nor its states look at: views, helpers, the draft -/
def scP (o : ZId) (_ : Nat) : Prop := (o.1 = 0 ∧ 5 ≤ o.2.1 ∧ o.2.1 < 31 ∧ o.2.2 = 0) ∨ o.1 = 7 ∨ ((o.1 = 1 ∨ o.1 = 3 ∨ o.1 = 4) ∧ o.2.1 = 1) ∨ (o.1 = 6 ∧ o.2.2 = 4)
theorem not_sc {s i : Nat} (hs : s ≠ 1) : ¬ scP (1, s, 0) i ∧ ¬ scP (4, s, 0) i ∧ (∀ k, ¬ scP (3, s, k) i) ∧ (∀ n, ¬ scP (5, n, 0) i) ∧ ∀ n j, j < 4 → ¬ scP (6, n, j) i := by
  refine ⟨?_, ?_, fun k => ?_, fun n => ?_, fun n j hj => ?_⟩ <;> (unfold scP; simp; try omega)
theorem RC_sc {y : ZLay} {μ μ' : ZMem} {S : SV} {tp : Vec} {tl : Nat} {fa : Int32} {kp : Option SV} {ac : List (Nat × Vec)} (h : RC y μ S tp tl fa kp ac) (f : fr scP μ μ') : RC y μ' S tp tl fa kp ac := by
  obtain ⟨h1, h2, h3, h4, h5, nx, h6, h7, h8, h9⟩ := h
  have n0 : ∀ j i, j < 5 → ¬ scP (0, j, 0) i := fun j i hj => by unfold scP; simp; omega
  refine ⟨SS_fr h1 f (fun i => not_sc (by omega)), fun i hi => by rw [f.1 _ _ (n0 1 i (by omega))]; exact h2 i hi, by rw [f.1 _ _ (n0 0 1 (by omega))]; exact h3, by rw [f.1 _ _ (n0 0 2 (by omega))]; exact h4, ?_, nx, h6, by rw [f.1 _ _ (n0 2 1 (by omega))]; exact h7, by rw [f.1 _ _ (n0 2 2 (by omega))]; exact h8, fun i hi => SS_fr (h9 i hi) f (fun i => not_sc (by omega))⟩
  cases kp with
  | none => show μ' (0, 0, 0) 6 = 0; rw [f.1 _ _ (n0 0 6 (by omega))]; exact h5
  | some K => exact ⟨by rw [f.1 _ _ (n0 0 6 (by omega))]; exact h5.1, SS_fr h5.2 f (fun i => not_sc (by omega))⟩
theorem RC_md {y : ZLay} {μ μ' : ZMem} {S : SV} {tp : Vec} {tl : Nat} {fa : Int32} {kp : Option SV} {ac : List (Nat × Vec)} (h : RC y μ S tp tl fa kp ac) (f : fr mdO μ μ') : RC y μ' S tp tl fa kp ac := by
  obtain ⟨h1, h2, h3, h4, h5, nx, h6, h7, h8, h9⟩ := h
  have nS : ∀ s i, ¬ mdO (1, s, 0) i ∧ ¬ mdO (4, s, 0) i ∧ (∀ k, ¬ mdO (3, s, k) i) ∧ (∀ n, ¬ mdO (5, n, 0) i) ∧ ∀ n j, j < 4 → ¬ mdO (6, n, j) i := fun s i => ⟨not_mdO1 (by omega), not_mdO1 (by omega), fun k => not_mdO1 (by omega), fun n => not_mdO1 (by omega), fun n j _ => not_mdO1 (by omega)⟩
  refine ⟨SS_fr h1 f (nS 0), fun i hi => by rw [f.1 _ _ (not_mdO0 (by omega))]; exact h2 i hi, by rw [f.1 _ _ (not_mdO0 (by omega))]; exact h3, by rw [f.1 _ _ (not_mdO0 (by omega))]; exact h4, ?_, nx, h6, by rw [f.1 _ _ (not_mdO0 (by omega))]; exact h7, by rw [f.1 _ _ (not_mdO0 (by omega))]; exact h8, fun i hi => SS_fr (h9 i hi) f (nS _)⟩
  cases kp with
  | none => show μ' (0, 0, 0) 6 = 0; rw [f.1 _ _ (not_mdO0 (by omega))]; exact h5
  | some K => exact ⟨by rw [f.1 _ _ (not_mdO0 (by omega))]; exact h5.1, SS_fr h5.2 f (nS 2)⟩
theorem RM_fr {P : ZId → Nat → Prop} {μ μ' : ZMem} {S : SV} {tp : Vec} {tl : Nat} {fa : Int32} {kp : Option SV} {ac : List (Nat × Vec)} (h : RMo μ S tp tl fa kp ac) (f : fr P μ μ') (hP : (∀ i, ¬ P MV0 i) ∧ (∀ i, ¬ P (0, 34, 0) i) ∧ (∀ i, ¬ P (0, 36, 0) i) ∧ (∀ i, ¬ P (0, 37, 0) i) ∧ ¬ P MO0 3 ∧ ¬ P MO0 6 ∧ ¬ P MO0 8 ∧ ¬ P MO0 12) : RMo μ' S tp tl fa kp ac := by
  obtain ⟨h1, h2, h3, h4, h5, h6, h7, h8⟩ := h
  obtain ⟨p1, p2, p3, p4, p5, p6, p7, p8⟩ := hP
  refine ⟨by rw [fr_at f p1]; exact h1, fun i hi => by rw [f.1 _ _ (p4 i)]; exact h2 i hi, by rw [f.1 _ _ p7]; exact h3, by rw [f.1 _ _ p8]; exact h4, ?_, by rw [f.1 _ _ p6]; exact h6, fun i hi j hj => by rw [f.1 _ _ (p3 _)]; exact h7 i hi j hj, ?_⟩
  · cases kp with
    | none => show μ' MO0 3 = 0; rw [f.1 _ _ p5]; exact h5
    | some K => exact ⟨by rw [f.1 _ _ p5]; exact h5.1, fun j hj => by rw [f.1 _ _ (p2 j)]; exact h5.2 j hj⟩
  · obtain ⟨⟨j, hj, e1⟩, e2⟩ := h8
    refine ⟨?_, ?_⟩
    · rcases f.2.1 with e | e
      · exact ⟨j, hj, e.trans e1⟩
      · exact e
    · rcases f.2.2 with e | e
      · rw [e]; exact e2
      · exact e
/-- what the model's relation does not look at -/
def msP (o : ZId) (i : Nat) : Prop := (o = MO0 ∧ (i = 0 ∨ (9 ≤ i ∧ i ≠ 12))) ∨ o = (0, 35, 0) ∨ (o.1 = 0 ∧ 38 ≤ o.2.1)
theorem RM_ms {μ μ' : ZMem} {S : SV} {tp : Vec} {tl : Nat} {fa : Int32} {kp : Option SV} {ac : List (Nat × Vec)} (h : RMo μ S tp tl fa kp ac) (f : fr msP μ μ') : RMo μ' S tp tl fa kp ac := by
  refine RM_fr h f ⟨?_, ?_, ?_, ?_, ?_, ?_, ?_, ?_⟩
  all_goals first | (intro i; rintro (⟨h, -⟩ | h | ⟨-, h⟩) <;> (first | exact absurd h (by decide))) | (rintro (⟨-, h⟩ | h | ⟨-, h⟩) <;> first | omega | exact absurd h (by decide))
theorem RM_cl {μ μ' : ZMem} {S : SV} {tp : Vec} {tl : Nat} {fa : Int32} {kp : Option SV} {ac : List (Nat × Vec)} (h : RMo μ S tp tl fa kp ac) (f : fr clO μ μ') : RMo μ' S tp tl fa kp ac :=
  RM_fr h f ⟨fun i => not_clO (by omega), fun i => not_clO (by omega), fun i => not_clO (by omega), fun i => not_clO (by omega), not_clO (by omega), not_clO (by omega), not_clO (by omega), not_clO (by omega)⟩
theorem ms_md {o : ZId} {i : Nat} (h : msP o i) : mdO o i := by
  rcases h with ⟨rfl, -⟩ | rfl | ⟨h1, h2⟩
  · exact ⟨rfl, by decide⟩
  · exact ⟨rfl, by decide⟩
  · exact ⟨h1, by omega⟩
theorem sc_cl {o : ZId} {i : Nat} (h : scP o i) : clO o i := by
  rcases h with ⟨-, -, h, -⟩ | h | ⟨h, -⟩ | ⟨h, -⟩
  · exact Or.inr (by omega)
  · exact Or.inl (by omega)
  · exact Or.inl (by omega)
  · exact Or.inl (by omega)
/-! copying a state -/
def stateP (s : Nat) (o : ZId) (_ : Nat) : Prop := o = (1, s, 0) ∨ (∃ k, o = (3, s, k)) ∨ o = (4, s, 0)
theorem c_copyNode {μ : ZMem} {s0 s1 i : Nat} (hs : s0 ≠ s1) : ∃ μ', f_X5_copyFrom s0 i s1 i μ = some μ' ∧ fr (fun o _ => o = (3, s0, i)) μ μ' ∧ ∀ w, w < 11 → μ' (3, s0, i) w = μ (3, s1, i) w := by
  refine ⟨_, rfl, ?_, ?_⟩
  · exact fr_trans (fr_mset rfl) (fr_trans (fr_mset rfl) (fr_trans (fr_mset rfl) (fr_trans (fr_mset rfl) (fr_trans (fr_mset rfl) (fr_trans (fr_mset rfl) (fr_trans (fr_mset rfl) (fr_trans (fr_mset rfl) (fr_trans (fr_mset rfl) (fr_trans (fr_mset rfl) (fr_mset rfl))))))))))
  · intro w hw
    have h : w = 0 ∨ w = 1 ∨ w = 2 ∨ w = 3 ∨ w = 4 ∨ w = 5 ∨ w = 6 ∨ w = 7 ∨ w = 8 ∨ w = 9 ∨ w = 10 := by omega
    have hs' : ¬ s1 = s0 := fun q => hs q.symm
    rcases h with rfl | rfl | rfl | rfl | rfl | rfl | rfl | rfl | rfl | rfl | rfl <;> simp [mset, hs']
theorem c_copy {y : ZLay} {μ : ZMem} {s0 s1 : Nat} {S : SV} (hs : s0 ≠ s1) (h : SS y μ s1 S) : ok (f_X7_copyFrom s0 s1 μ) (fun μ' => SS y μ' s0 S ∧ fr (stateP s0) μ μ') := by
  unfold f_X7_copyFrom
  refine ok_b1 (ok_seq 8 (fun k s => s.1 = nI k ∧ fr (fun o _ => ∃ k, o = (3, s0, k)) μ s.2 ∧ ∀ j, j < k → ∀ w, w < 11 → s.2 (3, s0, j) w = μ (3, s1, j) w) ?_ ?_ (Q := fun μ1 => fr (fun o _ => ∃ k, o = (3, s0, k)) μ μ1 ∧ ∀ j, j < 8 → ∀ w, w < 11 → μ1 (3, s0, j) w = μ (3, s1, j) w) ⟨rfl, fr_refl, fun j hj => absurd hj (by omega)⟩ (FU_lt (by omega))) ?_
  · rintro k ⟨i, μ1⟩ hk ⟨h1, h2, h3⟩
    dsimp only at h1 h2 h3
    subst h1
    obtain ⟨μ2, e2, f2, g2⟩ := c_copyNode (μ := μ1) (i := k) hs
    rw [un2_s, if_neg (show ¬ (8 : Int32) ≤ nI k from nI_ge (b := 8) hk (by omega)), gd_eq (zin_nI hk (by omega)), nI_cl (by omega), bd_eq e2]
    refine ok_some ⟨_, rfl, nI_1 k, fr_trans h2 (fr_mono f2 (fun o i h => ⟨k, h⟩)), fun j hj w hw => ?_⟩
    dsimp only
    by_cases e : j = k
    · subst e
      rw [g2 w hw, h2.1 _ _ (by rintro ⟨k', h'⟩; exact hs (congrArg (fun q : ZId => q.2.1) h').symm)]
    · rw [f2.1 _ _ (fun q => e (congrArg (fun q : ZId => q.2.2) q))]
      exact h3 j (by omega) w hw
  · rintro ⟨i, μ1⟩ ⟨h1, h2, h3⟩
    dsimp only at h1 h2 h3
    subst h1
    rw [un2_s, if_pos (by decide)]
    exact ok_some ⟨_, rfl, h2, h3⟩
  · rintro μ1 ⟨f1, g1⟩
    rw [zlt_s, zlt_s, zlt_s, zlt_s, zlt_s, zlt_s, zlt_s, zlt_s, zlt_s, zlt_s]
    have hs' : ¬ s1 = s0 := fun q => hs q.symm
    have e1 : ∀ o i, (∀ k, o ≠ (3, s0, k)) → μ1 o i = μ o i := fun o i ho => f1.1 o i (by rintro ⟨k, h⟩; exact ho k h)
    have fc : fr (fun o _ => o = (4, s0, 0)) μ1 (mcpy μ1 (4, s1, 0) (4, s0, 0) 0 0 240) := by
      refine ⟨fun o k hn => ?_, Or.inl ?_, Or.inl ?_⟩
      · unfold mcpy
        rw [if_neg (fun q => hn q.1)]
      · unfold mcpy
        rw [if_neg (fun q => zne (by decide) q.1)]
      · unfold mcpy
        rw [if_neg (fun q => zne (by decide) q.1)]
    have c4 : ∀ i, i < 240 → (mcpy μ1 (4, s1, 0) (4, s0, 0) 0 0 240) (4, s0, 0) i = μ (4, s1, 0) i := by
      intro i hi
      unfold mcpy
      rw [if_pos ⟨rfl, by omega, by omega⟩, Nat.zero_add, Nat.sub_zero, e1 _ _ (fun k => zne (by decide))]
    have c1 : ∀ s i, (mcpy μ1 (4, s1, 0) (4, s0, 0) 0 0 240) (1, s, 0) i = μ (1, s, 0) i := fun s i => by rw [fc.1 _ _ (zne (by decide)), e1 _ _ (fun k => zne (by decide))]
    obtain ⟨μ2, hμ2⟩ : ∃ μ2, μ2 = mcpy μ1 (4, s1, 0) (4, s0, 0) 0 0 240 := ⟨_, rfl⟩
    rw [← hμ2] at fc c4 c1 ⊢
    have sh : ∀ (μ3 : ZMem) (i : Nat) (x : Int32), (mset μ3 (1, s0, 0) i x) (1, s1, 0) = μ3 (1, s1, 0) := fun μ3 i x => mset_ne (by intro q; exact hs' (congrArg (fun q : ZId => q.2.1) q))
    simp only [sh]
    have ff : fr (fun o _ => o = (1, s0, 0)) μ2 (mset (mset (mset (mset (mset (mset (mset (mset (mset μ2 (1, s0, 0) 2 (μ2 (1, s1, 0) 2)) (1, s0, 0) 3 (μ2 (1, s1, 0) 3)) (1, s0, 0) 4 (μ2 (1, s1, 0) 4)) (1, s0, 0) 5 (μ2 (1, s1, 0) 5)) (1, s0, 0) 6 (μ2 (1, s1, 0) 6)) (1, s0, 0) 7 (μ2 (1, s1, 0) 7)) (1, s0, 0) 8 (μ2 (1, s1, 0) 8)) (1, s0, 0) 9 (μ2 (1, s1, 0) 9)) (1, s0, 0) 10 (μ2 (1, s1, 0) 10)) := fr_trans (fr_mset rfl) (fr_trans (fr_mset rfl) (fr_trans (fr_mset rfl) (fr_trans (fr_mset rfl) (fr_trans (fr_mset rfl) (fr_trans (fr_mset rfl) (fr_trans (fr_mset rfl) (fr_trans (fr_mset rfl) (fr_mset rfl))))))))
    have fi : ∀ i, 2 ≤ i → i ≤ 10 → (mset (mset (mset (mset (mset (mset (mset (mset (mset μ2 (1, s0, 0) 2 (μ2 (1, s1, 0) 2)) (1, s0, 0) 3 (μ2 (1, s1, 0) 3)) (1, s0, 0) 4 (μ2 (1, s1, 0) 4)) (1, s0, 0) 5 (μ2 (1, s1, 0) 5)) (1, s0, 0) 6 (μ2 (1, s1, 0) 6)) (1, s0, 0) 7 (μ2 (1, s1, 0) 7)) (1, s0, 0) 8 (μ2 (1, s1, 0) 8)) (1, s0, 0) 9 (μ2 (1, s1, 0) 9)) (1, s0, 0) 10 (μ2 (1, s1, 0) 10)) (1, s0, 0) i = μ (1, s1, 0) i := by
      intro i h1 h2
      rw [← c1]
      have h : i = 2 ∨ i = 3 ∨ i = 4 ∨ i = 5 ∨ i = 6 ∨ i = 7 ∨ i = 8 ∨ i = 9 ∨ i = 10 := by omega
      rcases h with rfl | rfl | rfl | rfl | rfl | rfl | rfl | rfl | rfl <;> simp [mset]
    generalize mset (mset (mset (mset (mset (mset (mset (mset (mset μ2 (1, s0, 0) 2 (μ2 (1, s1, 0) 2)) (1, s0, 0) 3 (μ2 (1, s1, 0) 3)) (1, s0, 0) 4 (μ2 (1, s1, 0) 4)) (1, s0, 0) 5 (μ2 (1, s1, 0) 5)) (1, s0, 0) 6 (μ2 (1, s1, 0) 6)) (1, s0, 0) 7 (μ2 (1, s1, 0) 7)) (1, s0, 0) 8 (μ2 (1, s1, 0) 8)) (1, s0, 0) 9 (μ2 (1, s1, 0) 9)) (1, s0, 0) 10 (μ2 (1, s1, 0) 10) = μ3 at ff fi ⊢
    obtain ⟨⟨d1, d2, d3, d4, d5, d6, d7, d8, n, r, r1, r2, r3, r4, r5, r6⟩, a2, a3, a4⟩ := h
    have g3 : ∀ k, k < 8 → ∀ w, w < 11 → μ3 (3, s0, k) w = μ (3, s1, k) w := fun k hk w hw => by rw [ff.1 _ _ (zne (by decide)), fc.1 _ _ (zne (by decide))]; exact g1 k hk w hw
    have g4 : ∀ i, i < 240 → μ3 (4, s0, 0) i = μ (4, s1, 0) i := fun i hi => by rw [ff.1 _ _ (zne (by decide))]; exact c4 i hi
    have g5 : ∀ n, μ3 (5, n, 0) = μ (5, n, 0) := fun n => by
      rw [fr_at ff (fun i => zne (by decide)), fr_at fc (fun i => zne (by decide)), fr_at f1 (by rintro i ⟨k, h⟩; exact zne (by decide) h)]
    have g6 : ∀ n j, μ3 (6, n, j) = μ (6, n, j) := fun n j => by
      rw [fr_at ff (fun i => zne (by decide)), fr_at fc (fun i => zne (by decide)), fr_at f1 (by rintro i ⟨k, h⟩; exact zne (by decide) h)]
    have el : lno μ3 s0 = lno μ s1 := by unfold lno; rw [fi 10 (by omega) (by omega)]
    refine ok_some ⟨⟨⟨d1, by rw [fi 4 (by omega) (by omega)]; exact d2, d3, by rw [fi 5 (by omega) (by omega)]; exact d4, by rw [fi 6 (by omega) (by omega)]; exact d5, by rw [fi 7 (by omega) (by omega)]; exact d6, by rw [fi 8 (by omega) (by omega)]; exact d7, fun k hk w hw => by rw [g3 k (by omega) w hw]; exact d8 k hk w hw, n, r, r1, r2, by rw [fi 2 (by omega) (by omega)]; exact r3, r4, by rw [fi 3 (by omega) (by omega)]; exact r5, fun j hj i hi => by rw [g4 _ (by omega)]; exact r6 j hj i hi⟩, by rw [fi 9 (by omega) (by omega)]; exact a2, ?_, by rw [el, g5]; exact a4⟩, ?_⟩
    · rw [el]
      exact LawC_eq a3 (fun j _ => g6 _ j) (g5 _)
    · exact fr_trans (fr_mono f1 (fun o i h => Or.inr (Or.inl h))) (fr_trans (fr_mono fc (fun o i h => Or.inr (Or.inr h))) (fr_mono ff (fun o i h => Or.inl h)))
