/-! a law more: what the old ones stand for stays -/
section LExt
variable {y y' : ZLay} {μ μ' : ZMem} {n s : Nat} {L : LawS} {S : SV}
theorem holds_ext (h : ∀ j, zlen y' (6, n, j) = zlen y (6, n, j)) : f_X3_holds y' n = f_X3_holds y n := by
  funext s1 a2 a3 a4 μ
  unfold f_X3_holds
  simp only [h]
theorem sum_ext (h : ∀ j, zlen y' (6, n, j) = zlen y (6, n, j)) : f_X3_sum y' n = f_X3_sum y n := by
  funext s1 a2 a3 μ
  unfold f_X3_sum
  simp only [h, holds_ext h]
theorem LawC_ext (h : ∀ j, zlen y' (6, n, j) = zlen y (6, n, j)) (hL : LawC y μ n L) : LawC y' μ n L := by
  intro μ1 s1 c v e1 e2 e3 e4 k hk t ht
  rw [sum_ext h]
  exact hL μ1 s1 c v e1 e2 e3 e4 k hk t ht
theorem CS_same {c : Nat} {v v' : Vec} (h : CS μ s c v) (h1 : ∀ i, i ≠ 10 → μ' (1, s, 0) i = μ (1, s, 0) i) (h4 : ∀ i, i < 240 → μ' (4, s, 0) i = μ (4, s, 0) i) (h3 : ∀ k, k < 8 → ∀ w, w < 11 → μ' (3, s, k) w = μ (3, s, k) w) (hv : ∀ i, 3 ≤ i → i < 337 → v' i = v i) : CS μ' s c v' := by
  obtain ⟨c1, c2, c3, c4, c5, c6, c7, c8, n, r, r1, r2, r3, r4, r5, r6⟩ := h
  refine ⟨c1, by rw [h1 4 (by decide)]; exact c2, by rw [hv 3 (by omega) (by omega)]; exact c3, by rw [h1 5 (by decide), hv 4 (by omega) (by omega)]; exact c4, by rw [h1 6 (by decide), hv 5 (by omega) (by omega)]; exact c5, by rw [h1 7 (by decide), hv 6 (by omega) (by omega)]; exact c6, by rw [h1 8 (by decide), hv 8 (by omega) (by omega)]; exact c7, fun k hk x hx => ?_, n, r, r1, r2, by rw [h1 2 (by decide)]; exact r3, by rw [hv 7 (by omega) (by omega)]; exact r4, by rw [h1 3 (by decide)]; exact r5, fun j hj i hi => by rw [h4 _ (by omega), hv _ (by omega) (by omega)]; exact r6 j hj i hi⟩
  rw [h3 k (by omega) x hx, c8 k hk x hx]
  unfold nd
  rw [hv _ (by omega) (by omega)]
theorem SS_grow (h : SS y μ s S) (h1 : ∀ i, μ' (1, s, 0) i = μ (1, s, 0) i) (h4 : ∀ i, i < 240 → μ' (4, s, 0) i = μ (4, s, 0) i) (h3 : ∀ k, k < 8 → ∀ w, w < 11 → μ' (3, s, k) w = μ (3, s, k) w) (h6 : ∀ j, j < 4 → μ' (6, lno μ s, j) = μ (6, lno μ s, j)) (h5 : μ' (5, lno μ s, 0) = μ (5, lno μ s, 0)) (hz : ∀ j, zlen y' (6, lno μ s, j) = zlen y (6, lno μ s, j)) : SS y' μ' s S := by
  obtain ⟨⟨c1, c2, c3, c4, c5, c6, c7, c8, n, r, r1, r2, r3, r4, r5, r6⟩, a2, a3, a4⟩ := h
  have el : lno μ' s = lno μ s := by unfold lno; rw [h1]
  refine ⟨⟨c1, by rw [h1]; exact c2, c3, by rw [h1]; exact c4, by rw [h1]; exact c5, by rw [h1]; exact c6, by rw [h1]; exact c7, fun k hk w hw => by rw [h3 k (by omega) w hw]; exact c8 k hk w hw, n, r, r1, r2, by rw [h1]; exact r3, r4, by rw [h1]; exact r5, fun j hj i hi => by rw [h4 _ (by omega)]; exact r6 j hj i hi⟩, by rw [h1]; exact a2, ?_, by rw [el, h5]; exact a4⟩
  rw [el]
  exact LawC_ext hz (LawC_eq a3 h6 h5)
end LExt
