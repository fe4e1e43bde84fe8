/-! acts on both sides: remembering, setting -/
section OQ
variable {y : ZLay} {μ : ZMem} {S S' : SV} {tp tp' : Vec} {tl tl' : Nat} {fa fa' : Int32} {kp kp' : Option SV} {ac ac' : List (Nat × Vec)} {cm : Nat → Nat}
theorem z337 {a b : Nat} : (337 : Int32) * nI a + nI b = nI (337 * a + b) := by
  rw [show (337 : Int32) = nI 337 from rfl, show nI 337 * nI a = nI (337 * a) from (Int32.ofNat_mul 337 a).symm, nI_add]
def remP (o : ZId) (i : Nat) : Prop := o = (0, 36, 0) ∨ (o = MO0 ∧ i = 6)
theorem rem_md {o : ZId} {i : Nat} (h : remP o i) : mdO o i := by
  rcases h with rfl | ⟨rfl, -⟩ <;> exact ⟨rfl, by decide⟩
theorem RMo_acts {μ' : ZMem} (h : RMo μ S tp tl fa kp ac) (f : fr remP μ μ') (h6 : μ' MO0 6 = nI ac'.length) (h7 : ∀ i, i < ac'.length → ∀ j, j < 337 → μ' (0, 36, 0) (337 * (ac'.length - 1 - i) + j) = (ac'.getD i (0, fun _ => 0)).2 j) : RMo μ' S tp tl fa kp ac' := by
  obtain ⟨a1, a2, a3, a4, a5, -, -, a8⟩ := h
  have n : ∀ o i, o ≠ (0, 36, 0) → (o = MO0 → i ≠ 6) → μ' o i = μ o i := fun o i ho h6 => f.1 o i (by
    rintro (h | ⟨h, h'⟩)
    · exact ho h
    · exact h6 h h')
  refine ⟨by rw [fr_at f (by rintro i (h | ⟨h, -⟩) <;> exact absurd h (by decide))]; exact a1, fun i hi => by rw [n _ _ (by decide) (fun h => absurd h (by decide))]; exact a2 i hi, by rw [n _ _ (by decide) (fun _ => by decide)]; exact a3, by rw [n _ _ (by decide) (fun _ => by decide)]; exact a4, ?_, h6, h7, ?_⟩
  · cases kp with
    | none => show _ = _; rw [n _ _ (by decide) (fun _ => by decide)]; exact a5
    | some K => exact ⟨by rw [n _ _ (by decide) (fun _ => by decide)]; exact a5.1, fun j hj => by rw [n _ _ (by decide) (fun h => absurd h (by decide))]; exact a5.2 j hj⟩
  · unfold RM0
    rw [n _ _ (by decide) (fun h => absurd h (by decide)), n _ _ (by decide) (fun _ => by decide)]
    exact a8
theorem m_remembers (h : RMo μ S tp tl fa kp ac) (h12 : ac.length ≤ 12) : ok (f_X12_remembers μ) (fun μ' => RMo μ' S tp tl fa kp (more ac (S.1, S.2.1)) ∧ fr remP μ μ') := by
  obtain ⟨a1, a2, a3, a4, a5, a6, a7, a8⟩ := id h
  unfold f_X12_remembers
  -- room is made
  refine ok_b1 (P := fun μ1 => fr remP μ μ1 ∧ ∃ n, n ≤ 11 ∧ n + 1 = (more ac (S.1, S.2.1)).length ∧ μ1 MO0 6 = nI n ∧ ∀ i, i < n → ∀ j, j < 337 → μ1 (0, 36, 0) (337 * (n - 1 - i) + j) = (ac.getD i (0, fun _ => 0)).2 j) ?_ ?_
  · rw [show μ (0, 32, 0) 6 = nI ac.length from a6]
    by_cases hc : ac.length = 12
    · rw [if_pos (show nI ac.length = 12 by rw [hc]; rfl)]
      refine ok_b1 (ok_seq 3707 (fun k s => s.1 = nI k ∧ fr (fun o _ => o = (0, 36, 0)) μ s.2 ∧ ∀ j, s.2 (0, 36, 0) j = if j < k then μ (0, 36, 0) (j + 337) else μ (0, 36, 0) j) ?_ ?_ (Q := fun μ1 => fr (fun o _ => o = (0, 36, 0)) μ μ1 ∧ ∀ j, μ1 (0, 36, 0) j = if j < 3707 then μ (0, 36, 0) (j + 337) else μ (0, 36, 0) j) ⟨rfl, fr_refl, fun j => by rw [if_neg (by omega)]⟩ (FU_lt (by omega))) ?_
      · rintro k ⟨i, μ1⟩ hk ⟨h1, h2, h3⟩
        dsimp only at h1 h2 h3
        subst h1
        have e : nI k + 337 = nI (k + 337) := nI_add k 337
        rw [un2_s, if_neg (show ¬ (3707 : Int32) ≤ nI k from nI_ge (b := 3707) hk (by omega)), e, gd_eq (zin_nI (by omega) (by omega)), gd_eq (zin_nI (by omega) (by omega)), nI_cl (by omega), nI_cl (by omega), zlt_s]
        refine ok_some ⟨_, rfl, nI_1 k, fr_trans h2 (fr_mset rfl), fun j => ?_⟩
        dsimp only
        by_cases ej : j = k
        · subst ej
          rw [mset_at, if_pos (by omega), h3, if_neg (by omega)]
        · rw [mset_k ej, h3]
          by_cases hj : j < k
          · rw [if_pos hj, if_pos (by omega)]
          · rw [if_neg hj, if_neg (by omega)]
      · rintro ⟨i, μ1⟩ ⟨h1, h2, h3⟩
        dsimp only at h1 h2 h3
        subst h1
        rw [un2_s, if_pos (by decide)]
        exact ok_some ⟨_, rfl, h2, h3⟩
      · rintro μ1 ⟨f1, g1⟩
        have e6 : μ1 (0, 32, 0) 6 = nI 12 := by rw [f1.1 _ _ (by decide), show μ (0, 32, 0) 6 = nI ac.length from a6, hc]
        rw [e6, show nI 12 - 1 = nI 11 from nI_pred 11, zlt_s]
        refine ok_some ⟨fr_trans (fr_mono f1 (fun o i h => Or.inl h)) (fr_mset (Or.inr ⟨rfl, rfl⟩)), 11, by omega, by rw [more_len]; omega, mset_at, fun i hi j hj => ?_⟩
        rw [mset_ne (by decide), g1, if_pos (by omega), ← a7 i (by omega) j hj, hc]
        congr 1
        omega
    · rw [if_neg (show ¬ nI ac.length = 12 from ne_code (a := ac.length) (b := 12) rfl (by omega) (by omega) hc)]
      exact ok_some ⟨fr_refl, ac.length, by omega, by rw [more_len]; omega, a6, a7⟩
  · rintro μ1 ⟨f1, n, hn, hn1, g6, g7⟩
    have hv1 : μ1 MV0 = S.2.1 := (fr_at f1 (by rintro i (h | ⟨h, -⟩) <;> exact absurd h (by decide))).trans a1
    refine ok_b1 (ok_seq 337 (fun k s => s.1 = nI k ∧ fr (fun o _ => o = (0, 36, 0)) μ1 s.2 ∧ ∀ j, s.2 (0, 36, 0) j = if 337 * n ≤ j ∧ j < 337 * n + k then S.2.1 (j - 337 * n) else μ1 (0, 36, 0) j) ?_ ?_ (Q := fun μ2 => fr (fun o _ => o = (0, 36, 0)) μ1 μ2 ∧ ∀ j, μ2 (0, 36, 0) j = if 337 * n ≤ j ∧ j < 337 * n + 337 then S.2.1 (j - 337 * n) else μ1 (0, 36, 0) j) ⟨rfl, fr_refl, fun j => by rw [if_neg (by omega)]⟩ (FU_lt (by omega))) ?_
    · rintro k ⟨i, μ2⟩ hk ⟨h1, h2, h3⟩
      dsimp only at h1 h2 h3
      subst h1
      have hv2 : μ2 (0, 33, 0) = S.2.1 := (fr_at h2 (fun i => by decide)).trans hv1
      rw [un2_s, if_neg (show ¬ (337 : Int32) ≤ nI k from nI_ge (b := 337) hk (by omega)), h2.1 (0, 32, 0) 6 (by decide), show μ1 (0, 32, 0) 6 = nI n from g6, z337, gd_eq (zin_nI (by omega) (by omega)), gd_eq (zin_nI (by omega) (by omega)), nI_cl (by omega), nI_cl (by omega), zlt_s, hv2]
      refine ok_some ⟨_, rfl, nI_1 k, fr_trans h2 (fr_mset rfl), fun j => ?_⟩
      dsimp only
      by_cases ej : j = 337 * n + k
      · subst ej
        rw [mset_at, if_pos (by omega), Nat.add_sub_cancel_left]
      · rw [mset_k ej, h3]
        by_cases hj : 337 * n ≤ j ∧ j < 337 * n + k
        · rw [if_pos hj, if_pos (by omega)]
        · rw [if_neg hj, if_neg (by omega)]
    · rintro ⟨i, μ2⟩ ⟨h1, h2, h3⟩
      dsimp only at h1 h2 h3
      subst h1
      rw [un2_s, if_pos (by decide)]
      exact ok_some ⟨_, rfl, h2, h3⟩
    · rintro μ2 ⟨f2, g2⟩
      rw [f2.1 (0, 32, 0) 6 (by decide), show μ1 (0, 32, 0) 6 = nI n from g6, nI_1, zlt_s]
      have ff : fr remP μ (mset μ2 (0, 32, 0) 6 (nI (n + 1))) := fr_trans f1 (fr_trans (fr_mono f2 (fun o i h => Or.inl h)) (fr_mset (Or.inr ⟨rfl, rfl⟩)))
      refine ok_some ⟨RMo_acts h ff (by rw [← hn1]; exact mset_at) ?_, ff⟩
      intro i hi j hj
      rw [← hn1] at hi ⊢
      rw [mset_ne (by decide), g2]
      cases i with
      | zero =>
        rw [more_0, if_pos (by omega)]
        show S.2.1 (337 * (n + 1 - 1 - 0) + j - 337 * n) = S.2.1 j
        rw [show 337 * (n + 1 - 1 - 0) + j - 337 * n = j by omega]
      | succ i =>
        rw [more_s ac _ (by omega), if_neg (by omega), ← g7 i (by omega) j hj]
        congr 2
        omega
/-- both remember -/
theorem RM_setv {v' : Vec} {μ' : ZMem} {P : ZId → Nat → Prop} (h : RMo μ S tp tl fa kp ac) (f : fr P μ μ') (hP : ∀ o i, P o i → o = MV0) (hv : μ' MV0 = v') : RMo μ' (S.1, v', S.2.2) tp tl fa kp ac := by
  obtain ⟨a1, a2, a3, a4, a5, a6, a7, a8⟩ := h
  have n : ∀ o i, o ≠ MV0 → μ' o i = μ o i := fun o i ho => f.1 o i (fun h => ho (hP o i h))
  refine ⟨hv, fun i hi => by rw [n _ _ (by decide)]; exact a2 i hi, by rw [n _ _ (by decide)]; exact a3, by rw [n _ _ (by decide)]; exact a4, ?_, by rw [n _ _ (by decide)]; exact a6, fun i hi j hj => by rw [n _ _ (by decide)]; exact a7 i hi j hj, ?_⟩
  · cases kp with
    | none => show _ = _; rw [n _ _ (by decide)]; exact a5
    | some K => exact ⟨by rw [n _ _ (by decide)]; exact a5.1, fun j hj => by rw [n _ _ (by decide)]; exact a5.2 j hj⟩
  · unfold RM0
    rw [n _ _ (by decide), n _ _ (by decide)]
    exact a8
/-- state 0 gets other numbers -/
theorem RC_setv {c' : Nat} {v' : Vec} {μ' : ZMem} {P : ZId → Nat → Prop} (h : RC y μ S tp tl fa kp ac) (f : fr P μ μ') (hP : ∀ o i, P o i → clsP 0 o i ∨ (o = (1, 0, 0) ∧ (i = 4 ∨ i = 5 ∨ i = 6)) ∨ scP o i) (hc : CS μ' 0 c' v') (h0 : v' 0 = S.2.1 0) (h1 : v' 1 = S.2.1 1) : RC y μ' (c', v', S.2.2) tp tl fa kp ac := by
  obtain ⟨⟨a1, a2, a3, a4⟩, b2, b3, b4, b5, nx, b6, b7, b8, b9⟩ := h
  have n : ∀ o i, ¬ clsP 0 o i → ¬ (o = (1, 0, 0) ∧ (i = 4 ∨ i = 5 ∨ i = 6)) → ¬ scP o i → μ' o i = μ o i := fun o i x1 x2 x3 => f.1 o i (fun h => by
    rcases hP o i h with h | h | h
    · exact x1 h
    · exact x2 h
    · exact x3 h)
  have n10 : ∀ i, (i = 9 ∨ i = 10) → μ' (1, 0, 0) i = μ (1, 0, 0) i := fun i hi => n _ _ (by
    rintro (h | ⟨-, h⟩ | ⟨k, h⟩)
    · exact zne (by decide) h
    · omega
    · exact zne (by decide) h) (fun h => by omega) (by unfold scP; simp)
  have n56 : ∀ q r t, (q = 5 ∨ (q = 6 ∧ t ≠ 4)) → μ' (q, r, t) = μ (q, r, t) := fun q r t hq => funext fun i => n _ _ (by
    rintro (h | ⟨h, -⟩ | ⟨k, h⟩) <;> (have h' : q = _ := congrArg (fun q : ZId => q.1) h; dsimp only at h'; omega)) (fun h => by have h' : q = 1 := congrArg (fun q : ZId => q.1) h.1; omega) (by unfold scP; dsimp only; omega)
  have el : lno μ' 0 = lno μ 0 := by unfold lno; rw [n10 10 (Or.inr rfl)]
  have n0 : ∀ j i, j < 5 → μ' (0, j, 0) i = μ (0, j, 0) i := fun j i hj => n _ _ (not_cls0 i) (fun h => zne (by decide) h.1) (by unfold scP; simp; omega)
  have nS : ∀ s K, s ≠ 0 → s ≠ 1 → SS y μ s K → SS y μ' s K := by
    intro s K hs hs1 hK
    have key : ∀ q t, (q = 1 ∨ q = 3 ∨ q = 4) → μ' (q, s, t) = μ (q, s, t) := fun q t hq => funext fun i => n _ _ (by
      rintro (h | ⟨h, -⟩ | ⟨k, h⟩) <;> (have h' : s = 0 := congrArg (fun q : ZId => q.2.1) h; omega)) (fun h => by have h' : s = 0 := congrArg (fun q : ZId => q.2.1) h.1; omega) (by unfold scP; dsimp only; omega)
    exact SS_eq hK (fun i => by rw [key 1 0 (by omega)]) (fun i _ => by rw [key 4 0 (by omega)]) (fun k _ w _ => by rw [key 3 k (by omega)]) (fun m j hj => n56 6 m j (Or.inr ⟨rfl, by omega⟩)) (fun m => n56 5 m 0 (Or.inl rfl))
  refine ⟨⟨hc, by rw [n10 9 (Or.inl rfl)]; exact a2.trans h0.symm, ?_, by rw [el, n56 5 _ _ (Or.inl rfl)]; exact a4.trans h1.symm⟩, fun i hi => by rw [n0 1 i (by omega)]; exact b2 i hi, by rw [n0 0 1 (by omega)]; exact b3, by rw [n0 0 2 (by omega)]; exact b4, ?_, nx, b6, by rw [n0 2 1 (by omega)]; exact b7, by rw [n0 2 2 (by omega)]; exact b8, fun i hi => nS _ _ (by omega) (by omega) (b9 i hi)⟩
  · rw [el]
    exact LawC_eq a3 (fun j hj => n56 6 _ _ (Or.inr ⟨rfl, by omega⟩)) (n56 5 _ _ (Or.inl rfl))
  · cases kp with
    | none => show _ = _; rw [n0 0 6 (by omega)]; exact b5
    | some K => exact ⟨by rw [n0 0 6 (by omega)]; exact b5.1, nS 2 K (by omega) (by omega) b5.2⟩
end OQ
