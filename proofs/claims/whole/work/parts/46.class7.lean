/-! the class: sorting and the middle -/
def oP (o : ZId) (o' : ZId) (_ : Nat) : Prop := o' = o
theorem c_sort {y : ZLay} {o : ZId} {μ : ZMem} {l : List Int32} (h0 : 0 < l.length) (hn : l.length ≤ zlen y o) (hz : zlen y o ≤ 1000) (ho : ¬ o = (0, 38, 0) ∧ ¬ o = (0, 32, 0)) (h : ∀ t, t < l.length → μ o t = l.getD t 0) :
    ok (f_X11_sort y o (nI l.length) μ) (fun μ' => srtI l l.length (μ' o) ∧ fr (oP o) μ μ') := by
  unfold f_X11_sort
  refine ok_bd (ok_mono (ok_seq (l.length - 1) (fun k s => s.1 = nI (k + 1) ∧ fr (oP o) μ s.2 ∧ srtI l (k + 1) (s.2 o)) ?_ ?_ (Q := fun μ1 => srtI l l.length (μ1 o) ∧ fr (oP o) μ μ1) ⟨rfl, fr_refl, srtI_one h0 h⟩ (FU_lt (by omega))) (fun _ h => ok_some h))
  · rintro k ⟨i, μ1⟩ hk ⟨h1, h2, h4⟩
    dsimp only at h1 h2 h4
    subst h1
    have hi : k + 1 < l.length := by omega
    simp only [un2]
    rw [if_neg (nI_ge hi (by omega)), if_neg (show ¬ Int32.ofNat (zlen y o) ≤ nI (k + 1) from nI_ge (show k + 1 < zlen y o by omega) (by omega)), gd_eq (zin_nI (by omega) (by omega)), nI_clamp (by omega), zlt_s, zlt_s, h4.2 (k + 1) (Nat.le_refl _) hi]
    refine ok_bd2 (ok_mono (ok_lp (fun n (s : Int32 × Int32 × ZMem) => s.1 = nI n ∧ s.2.1 = nI n - 1 ∧ fr (oP o) μ1 s.2.2 ∧ insI (l.getD (k + 1) 0) (srtS (l.take (k + 1))) (k + 1) n (μ1 o) (s.2.2 o))
      (Q := fun (q : Int32 × ZMem) => ∃ j, q.1 = nI j ∧ fr (oP o) μ1 q.2 ∧ insI (l.getD (k + 1) 0) (srtS (l.take (k + 1))) (k + 1) j (μ1 o) (q.2 o) ∧ (j = 0 ∨ ∃ j', j = j' + 1 ∧ q.2 o j' ≤ l.getD (k + 1) 0)) ?_ (N := k + 1) ⟨rfl, rfl, fr_refl, srtI_start hi h4⟩ (FU_lt (by omega))) ?_)
    · rintro n ⟨j, j1, μ2⟩ ⟨g1, g0, g2, g4⟩
      dsimp only at g1 g0 g2 g4 ⊢
      subst g1 g0
      have hn : n ≤ k + 1 := g4.1
      simp only [un3]
      cases n with
      | zero =>
        rw [if_pos (by decide)]
        exact ok_some ⟨0, rfl, g2, g4, Or.inl rfl⟩
      | succ n =>
        rw [nI_pred, if_neg (by rw [show (0 : Int32) = nI 0 from rfl]; exact nI_nlt (by omega) (by omega)), gd_eq (zin_nI (by omega) (by omega)), nI_clamp (by omega)]
        by_cases hx : μ2 o n ≤ l.getD (k + 1) 0
        · rw [if_pos hx]
          exact ok_some ⟨n + 1, rfl, g2, g4, Or.inr ⟨n, rfl, hx⟩⟩
        · rw [if_neg hx, nI_1, gd_eq (zin_nI (by omega) (by omega)), nI_clamp (by omega), zlt_s, mset_eq]
          refine ok_some ⟨n, by omega, rfl, ?_, fr_trans g2 (fr_mput (fun _ => rfl) ho), ?_⟩
          · dsimp only
            rw [Int32.sub_eq_add_neg]
          · dsimp only
            rw [mput_at]
            exact insI_step g4 hx
    · rintro ⟨x, μ2⟩ ⟨j, g1, g2, g4, g5⟩
      dsimp only at g1 g2 g4 g5 ⊢
      subst g1
      have hj : j ≤ k + 1 := g4.1
      rw [gd_eq (zin_nI (by omega) (by omega)), nI_clamp (by omega), zlt_s, mset_eq]
      refine ok_some ⟨_, rfl, nI_1 (k + 1), fr_trans h2 (fr_trans g2 (fr_mput (fun _ => rfl) ho)), ?_⟩
      dsimp only
      rw [mput_at]
      exact srtI_next hi h4 g4 g5
  · rintro ⟨i, μ1⟩ ⟨h1, h2, h4⟩
    dsimp only at h1 h2 h4
    subst h1
    rw [show l.length - 1 + 1 = l.length by omega] at h4 ⊢
    simp only [un2]
    rw [if_pos (nI_le (Nat.le_refl _) (by omega))]
    exact ok_some ⟨_, rfl, h4, h2⟩
theorem cut_eq' {n : Nat} (hn : n ≤ 20) : (if nI n < (8 : Int32) then if nI n < (3 : Int32) then (0 : Int32) else 1 else 2) = nI (cutS n) := by
  have : ∀ n : Fin 21, (if nI n.val < (8 : Int32) then if nI n.val < (3 : Int32) then (0 : Int32) else 1 else 2) = nI (cutS n.val) := by decide +kernel
  exact this ⟨n, by omega⟩
theorem c_midOf {y : ZLay} {o : ZId} {μ : ZMem} {l : List Int32} (h0 : 0 < l.length) (h20 : l.length ≤ 20) (hn : l.length ≤ zlen y o) (hz : zlen y o ≤ 1000) (ho : ¬ o = (0, 38, 0) ∧ ¬ o = (0, 32, 0)) (h : ∀ t, t < l.length → μ o t = l.getD t 0) :
    ok (f_X11_midOf y o (nI l.length) μ) (fun q => q.1 = midL l ∧ fr (oP o) μ q.2) := by
  unfold f_X11_midOf
  simp only [jk]
  rw [if_neg (by rw [show (1 : Int32) = nI 1 from rfl]; exact nI_nlt (by omega) (by omega)), if_pos (show nI l.length ≤ Int32.ofNat (zlen y o) from nI_le hn (by omega))]
  refine ok_bd (ok_mono (c_sort h0 hn hz ho h) ?_)
  rintro μ1 ⟨h2, h4⟩
  have hc := cut_lt h0
  rw [cut_eq' h20, zlt_s, gd_eq (zin_nI (by omega) (by omega)), show (1 : Int32) = nI 1 from rfl, nI_sub (by omega), nI_sub (by omega), gd_eq (zin_nI (by omega) (by omega)), nI_clamp (by omega), nI_clamp (by omega)]
  refine ok_some ⟨?_, h4⟩
  exact srtI_end h2 h0
