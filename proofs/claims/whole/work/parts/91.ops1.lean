/-! one call on both sides -/
def INV (y : ZLay) (μ : ZMem) : Prop := ∃ S tp tl fa kp ac, RC y μ S tp tl fa kp ac ∧ RMo μ S tp tl fa kp ac ∧ OA S tp tl kp ac
/-- what was thrown, what was answered -/
def agr (cm : Nat → Nat) (r : Int32 ⊕ Nat) (th b : Int32) : Prop := match r with
  | .inl x => th = 0 ∧ b = x
  | .inr k => th = nI (cm k) ∧ 1 ≤ cm k ∧ cm k ≤ 2
def outP (o : ZId) (_ : Nat) : Prop := o = (0, 31, 0)
def OPx (y : ZLay) (cm : Nat → Nat) (F : ZMem → Option ((Int32 ⊕ Nat) × ZMem)) (G : ZMem → Option (Int32 × ZMem)) : Prop := ∀ μ, INV y μ → ok (F μ) (fun r => ∀ μ1, fr outP r.2 μ1 → ok (G μ1) (fun q => agr cm r.1 (q.2 MO0 0) q.1 ∧ INV y q.2))
def OPn (y : ZLay) (F : ZMem → Option (Int32 × ZMem)) (G : ZMem → Option (Int32 × ZMem)) : Prop := ∀ μ, INV y μ → ok (F μ) (fun r => ok (G r.2) (fun q => q.1 = r.1 ∧ INV y q.2))
theorem RC_out {y : ZLay} {μ μ' : ZMem} {S : SV} {tp : Vec} {tl : Nat} {fa : Int32} {kp : Option SV} {ac : List (Nat × Vec)} (h : RC y μ S tp tl fa kp ac) (f : fr outP μ μ') : RC y μ' S tp tl fa kp ac := by
  obtain ⟨h1, h2, h3, h4, h5, nx, h6, h7, h8, h9⟩ := h
  have nS : ∀ s i, ¬ outP (1, s, 0) i ∧ ¬ outP (4, s, 0) i ∧ (∀ k, ¬ outP (3, s, k) i) ∧ (∀ n, ¬ outP (5, n, 0) i) ∧ ∀ n j, j < 4 → ¬ outP (6, n, j) i := fun s i => ⟨zne (by decide), zne (by decide), fun k => zne (by decide), fun n => zne (by decide), fun n j _ => zne (by decide)⟩
  have n0 : ∀ j i, j < 31 → ¬ outP (0, j, 0) i := fun j i hj h => by
    have : j = 31 := congrArg (fun q : ZId => q.2.1) h
    omega
  refine ⟨SS_fr h1 f (nS 0), fun i hi => by rw [f.1 _ _ (n0 1 i (by omega))]; exact h2 i hi, by rw [f.1 _ _ (n0 0 1 (by omega))]; exact h3, by rw [f.1 _ _ (n0 0 2 (by omega))]; exact h4, ?_, nx, h6, by rw [f.1 _ _ (n0 2 1 (by omega))]; exact h7, by rw [f.1 _ _ (n0 2 2 (by omega))]; exact h8, fun i hi => SS_fr (h9 i hi) f (nS _)⟩
  cases kp with
  | none => show μ' (0, 0, 0) 6 = 0; rw [f.1 _ _ (n0 0 6 (by omega))]; exact h5
  | some K => exact ⟨by rw [f.1 _ _ (n0 0 6 (by omega))]; exact h5.1, SS_fr h5.2 f (nS 2)⟩
theorem out_cl {o : ZId} {i : Nat} (h : outP o i) : clO o i := by
  cases h
  exact Or.inr (by decide)
section OP
variable {y : ZLay} {μ : ZMem} {S S' : SV} {tp tp' : Vec} {tl tl' : Nat} {fa fa' : Int32} {kp kp' : Option SV} {ac ac' : List (Nat × Vec)} {cm : Nat → Nat}
theorem op_x {F : ZMem → Option ((Int32 ⊕ Nat) × ZMem)} {G : ZMem → Option (Int32 × ZMem)} {A : Int32 ⊕ Nat} (hm0 : RMo μ S tp tl fa kp ac) (hc : ok (F μ) (fun r => r.1 = A ∧ RC y r.2 S' tp' tl' fa' kp' ac' ∧ fr clO μ r.2)) (hm : ∀ μ1, RMo μ1 S tp tl fa kp ac → ok (G μ1) (fun q => agr cm A (q.2 MO0 0) q.1 ∧ RMo q.2 S' tp' tl' fa' kp' ac' ∧ fr mdO μ1 q.2)) (o' : OA S' tp' tl' kp' ac') :
    ok (F μ) (fun r => ∀ μ1, fr outP r.2 μ1 → ok (G μ1) (fun q => agr cm r.1 (q.2 MO0 0) q.1 ∧ INV y q.2)) := by
  refine ok_mono hc ?_
  rintro r ⟨h1, h2, h3⟩ μ1 f1
  refine ok_mono (hm μ1 (RM_cl hm0 (fr_trans h3 (fr_mono f1 (fun o i h => out_cl h))))) ?_
  rintro q ⟨g1, g2, g3⟩
  rw [h1]
  exact ⟨g1, S', tp', tl', fa', kp', ac', RC_md (RC_out h2 f1) g3, g2, o'⟩
theorem op_n {F G : ZMem → Option (Int32 × ZMem)} {A : Int32} (hm0 : RMo μ S tp tl fa kp ac) (hc : ok (F μ) (fun r => r.1 = A ∧ RC y r.2 S' tp' tl' fa' kp' ac' ∧ fr clO μ r.2)) (hm : ∀ μ1, RMo μ1 S tp tl fa kp ac → ok (G μ1) (fun q => q.1 = A ∧ RMo q.2 S' tp' tl' fa' kp' ac' ∧ fr mdO μ1 q.2)) (o' : OA S' tp' tl' kp' ac') :
    ok (F μ) (fun r => ok (G r.2) (fun q => q.1 = r.1 ∧ INV y q.2)) := by
  refine ok_mono hc ?_
  rintro r ⟨h1, h2, h3⟩
  refine ok_mono (hm r.2 (RM_cl hm0 h3)) ?_
  rintro q ⟨g1, g2, g3⟩
  rw [h1]
  exact ⟨g1, S', tp', tl', fa', kp', ac', RC_md h2 g3, g2, o'⟩
/-- thrown is set -/
theorem thr_fr {μ : ZMem} {x : Int32} : fr msP μ (mset μ MO0 0 x) := fr_mset (Or.inl ⟨rfl, Or.inl rfl⟩)
theorem thr_RM {x : Int32} (h : RMo μ S tp tl fa kp ac) : RMo (mset μ MO0 0 x) S tp tl fa kp ac := RM_ms h thr_fr
theorem ms_fr {μ μ' : ZMem} (f : fr msP μ μ') : fr mdO μ μ' := fr_mono f (fun o i h => ms_md h)
/-- nodes -/
def nodeB (c : Nat) (a : Int32) : Bool := decide (0 ≤ a ∧ a < nI c)
theorem nodeB_t {c : Nat} {a : Int32} (h8 : c ≤ 8) (h : nodeB c a = true) : ∃ k, k < c ∧ a = nI k := by
  obtain ⟨h1, h2⟩ := of_decide_eq_true h
  rw [Int32.lt_iff_toInt_lt, nI_toInt (by omega)] at h2
  rw [Int32.le_iff_toInt_le] at h1
  have e0 : (0 : Int32).toInt = 0 := by decide
  refine ⟨a.toInt.toNat, by omega, ?_⟩
  apply Int32.toInt_inj.mp
  rw [nI_toInt (by omega)]
  omega
theorem nodeB_nI {c k : Nat} (h8 : c ≤ 8) (hk : k < c) : nodeB c (nI k) = true := decide_eq_true ⟨nI_le (a := 0) (by omega) (by omega), nI_lt hk (by omega)⟩
theorem c_isNode {a : Int32} (h : SS y μ 0 S) : f_X11_isNode a μ = some (b2i (nodeB S.1 a)) := by
  have h8 := h.1.1
  unfold f_X11_isNode nodeB
  rw [jk_s, CS_c h.1]
  by_cases h1 : a < 0
  · rw [if_pos h1, decide_eq_false (fun q => Int32.not_lt.mpr q.1 h1)]; rfl
  · rw [if_neg h1]
    by_cases h2 : nI S.1 ≤ a
    · rw [if_pos h2, decide_eq_false (fun q => Int32.not_lt.mpr h2 q.2)]; rfl
    · rw [if_neg h2, if_neg, decide_eq_true ⟨Int32.not_lt.mp h1, Int32.not_le.mp h2⟩]
      · rfl
      · intro h3
        have h4 := Int32.not_le.mp h2
        rw [Int32.lt_iff_toInt_lt, nI_toInt (by omega)] at h4
        rw [Int32.le_iff_toInt_le] at h3
        have e1 : (8 : Int32).toInt = 8 := by decide
        omega
theorem m_isNode {a : Int32} {v : Vec} {c : Nat} (hv : μ MV0 = v) (h3 : v 3 = nI c) (h8 : c ≤ 8) : f_X12_isNode a μ = some (b2i (nodeB c a)) := by
  unfold f_X12_isNode nodeB
  rw [show μ (0, 33, 0) 3 = nI c by rw [show μ (0, 33, 0) = v from hv]; exact h3, bd_eq m_isIn, gd_eq (zbo_b2i _)]
  congr 2
  apply decide_eq_decide.mpr
  have e : a ≤ nI c - 1 ↔ a < nI c := by
    cases c with
    | zero =>
      rw [Int32.le_iff_toInt_le, Int32.lt_iff_toInt_lt, show nI 0 - 1 = -1 by decide, show nI 0 = 0 from rfl]
      have e1 : (-1 : Int32).toInt = -1 := by decide
      have e2 : (0 : Int32).toInt = 0 := by decide
      omega
    | succ c =>
      rw [nI_pred, Int32.le_iff_toInt_le, Int32.lt_iff_toInt_lt, nI_toInt (by omega), nI_toInt (by omega)]
      omega
  rw [e]
/-- remembering -/
theorem zrem12 {n : Nat} (h : n < 12) : zrem (nI n + 1) 12 = nI ((n + 1) % 12) ∧ zrem (nI n + 12 - 1) 12 = nI ((n + 11) % 12) := by
  have : ∀ n : Fin 12, zrem (nI n.val + 1) 12 = nI ((n.val + 1) % 12) ∧ zrem (nI n.val + 12 - 1) 12 = nI ((n.val + 11) % 12) := by decide +kernel
  exact this ⟨n, h⟩
theorem zmin12 {n : Nat} (h : n ≤ 12) : zmin 12 (nI n + 1) = nI (min 12 (n + 1)) := by
  have : ∀ n : Fin 13, zmin 12 (nI n.val + 1) = nI (min 12 (n.val + 1)) := by decide +kernel
  exact this ⟨n, by omega⟩
/-- acts with one more -/
def more (ac : List (Nat × Vec)) (a : Nat × Vec) : List (Nat × Vec) := (a :: ac).take 12
theorem more_len (ac : List (Nat × Vec)) (a : Nat × Vec) : (more ac a).length = min 12 (ac.length + 1) := by unfold more; simp; omega
theorem more_0 (ac : List (Nat × Vec)) (a : Nat × Vec) : (more ac a).getD 0 (0, fun _ => 0) = a := by unfold more; rfl
theorem more_s (ac : List (Nat × Vec)) (a : Nat × Vec) {i : Nat} (h : i + 1 < (more ac a).length) : (more ac a).getD (i + 1) (0, fun _ => 0) = ac.getD i (0, fun _ => 0) := by
  unfold more at h ⊢
  rw [List.length_take] at h
  rw [List.getD_eq_getElem?_getD, List.getD_eq_getElem?_getD, List.getElem?_take_of_lt (by omega)]
  rfl
theorem st_ne {s t i : Nat} (h : s ≠ t) : ¬ stateP s (1, t, 0) i ∧ ¬ stateP s (4, t, 0) i ∧ (∀ k, ¬ stateP s (3, t, k) i) ∧ (∀ n, ¬ stateP s (5, n, 0) i) ∧ ∀ n j, j < 4 → ¬ stateP s (6, n, j) i := by
  refine ⟨?_, ?_, fun k => ?_, fun n => ?_, fun n j _ => ?_⟩ <;> (unfold stateP; simp; try omega)
theorem st_cl {s : Nat} {o : ZId} {i : Nat} (h : stateP s o i) : clO o i := by
  rcases h with rfl | ⟨k, rfl⟩ | rfl <;> exact Or.inl (by intro h; simp at h)
theorem st_0 {s j i : Nat} : ¬ stateP s (0, j, 0) i := by
  rintro (h | ⟨k, h⟩ | h) <;> exact zne (by decide) h
theorem c_remember (h : RC y μ S tp tl fa kp ac) (h12 : ac.length ≤ 12) : ok (f_X6_remember 0 μ) (fun μ' => RC y μ' S tp tl fa kp (more ac (S.1, S.2.1)) ∧ fr clO μ μ') := by
  obtain ⟨h1, h2, h3, h4, h5, nx, h6, h7, h8, h9⟩ := h
  unfold f_X6_remember
  rw [h7, gd_eq (zin_nI h6 (by omega)), nI_cl (by omega)]
  refine ok_b1 (c_copy (s0 := 3 + nx) (s1 := 0) (by omega) h1) ?_
  rintro μ1 ⟨s1, f1⟩
  rw [fr_at f1 (fun i => st_0 (j := 2)), h7, (zrem12 h6).1, zlt_s, zlt_s, mset_k (by decide), fr_at f1 (fun i => st_0 (j := 2)), h8, zmin12 h12]
  have f2 : fr (fun o _ => o = (0, 2, 0)) μ1 (mset (mset μ1 (0, 2, 0) 1 (nI ((nx + 1) % 12))) (0, 2, 0) 2 (nI (min 12 (ac.length + 1)))) := fr_trans (fr_mset rfl) (fr_mset rfl)
  have n2 : ∀ s i, ¬ (fun (o : ZId) (_ : Nat) => o = (0, 2, 0)) (1, s, 0) i ∧ ¬ (fun (o : ZId) (_ : Nat) => o = (0, 2, 0)) (4, s, 0) i ∧ (∀ k, ¬ (fun (o : ZId) (_ : Nat) => o = (0, 2, 0)) (3, s, k) i) ∧ (∀ n, ¬ (fun (o : ZId) (_ : Nat) => o = (0, 2, 0)) (5, n, 0) i) ∧ ∀ n j, j < 4 → ¬ (fun (o : ZId) (_ : Nat) => o = (0, 2, 0)) (6, n, j) i := fun s i => ⟨zne (by decide), zne (by decide), fun k => zne (by decide), fun n => zne (by decide), fun n j _ => zne (by decide)⟩
  have old : ∀ s K, s ≠ 3 + nx → SS y μ s K → SS y (mset (mset μ1 (0, 2, 0) 1 (nI ((nx + 1) % 12))) (0, 2, 0) 2 (nI (min 12 (ac.length + 1)))) s K := fun s K hs hK => SS_fr (SS_fr hK f1 (fun i => st_ne (fun q => hs q.symm))) f2 (n2 s)
  have n0 : ∀ j i, (j = 0 ∨ j = 1) → (mset (mset μ1 (0, 2, 0) 1 (nI ((nx + 1) % 12))) (0, 2, 0) 2 (nI (min 12 (ac.length + 1)))) (0, j, 0) i = μ (0, j, 0) i := fun j i hj => by
    rw [f2.1 _ _ (by rcases hj with rfl | rfl; exact (show ¬ ((0, 0, 0) : ZId) = (0, 2, 0) by decide); exact (show ¬ ((0, 1, 0) : ZId) = (0, 2, 0) by decide)), f1.1 _ _ st_0]
  refine ok_some ⟨⟨old 0 S (by omega) h1, fun i hi => by rw [n0 1 i (Or.inr rfl)]; exact h2 i hi, by rw [n0 0 1 (Or.inl rfl)]; exact h3, by rw [n0 0 2 (Or.inl rfl)]; exact h4, ?_, (nx + 1) % 12, by omega, by rw [mset_k (by decide), mset_at], by rw [mset_at, more_len], ?_⟩, fr_trans (fr_mono f1 (fun o i h => st_cl h)) (fr_mono f2 (fun o i h => by cases h; exact Or.inr (by decide)))⟩
  · cases kp with
    | none => show _ = _; rw [n0 0 6 (Or.inl rfl)]; exact h5
    | some K => exact ⟨by rw [n0 0 6 (Or.inl rfl)]; exact h5.1, old 2 K (by omega) h5.2⟩
  · intro i hi
    cases i with
    | zero =>
      rw [more_0, show 3 + ((nx + 1) % 12 + 11 - 0) % 12 = 3 + nx by omega]
      exact SS_fr s1 f2 (n2 _)
    | succ i =>
      rw [more_s ac _ hi]
      rw [more_len] at hi
      rw [show 3 + ((nx + 1) % 12 + 11 - (i + 1)) % 12 = 3 + (nx + 11 - i) % 12 by omega]
      exact old _ _ (by omega) (h9 i (by omega))
theorem OA_more (h : OA S tp tl kp ac) : OA S tp tl kp (more ac (S.1, S.2.1)) := by
  obtain ⟨h1, h2, h3, h4, h5, h6⟩ := h
  refine ⟨h1, h2, h3, h4, by rw [more_len]; omega, fun i hi => ?_⟩
  cases i with
  | zero => rw [more_0]; exact ⟨h1, fun _ _ => rfl⟩
  | succ i =>
    rw [more_s ac _ hi]
    rw [more_len] at hi
    exact h6 i (by omega)
end OP
