/-! the model's round: the middle -/
def aP (o : ZId) (_ : Nat) : Prop := o = (0, 42, 0)
theorem cut_eq {n : Nat} (hn : n ≤ 20) : (if (3 : Int32) ≤ nI n then if (8 : Int32) ≤ nI n then (2 : Int32) else 1 else 0) = nI (cutS n) := by
  have : ∀ n : Fin 21, (if (3 : Int32) ≤ nI n.val then if (8 : Int32) ≤ nI n.val then (2 : Int32) else 1 else 0) = nI (cutS n.val) := by decide +kernel
  exact this ⟨n, by omega⟩
theorem cut_lt {n : Nat} (h : 0 < n) : cutS n < n := by unfold cutS; split <;> (try split) <;> omega
theorem nI_sub {a b : Nat} (h : b ≤ a) : nI a - nI b = nI (a - b) := by
  obtain ⟨c, rfl⟩ : ∃ c, a = c + b := ⟨a - b, by omega⟩
  rw [← nI_add, Int32.add_sub_cancel, Nat.add_sub_cancel]
theorem m_middle {μ : ZMem} {l : List Int32} (h0 : 0 < l.length) (h20 : l.length ≤ 20) (h : ∀ t, t < l.length → μ (0, 42, 0) t = l.getD t 0) :
    ok (f_X12_middle (nI l.length) μ) (fun q => q.1 = midL l ∧ fr aP μ q.2) := by
  unfold f_X12_middle
  rw [if_neg (by rw [show (0 : Int32) = nI 0 from rfl, nI_eq (by omega) (by omega)]; omega)]
  refine ok_bd (ok_mono (ok_seq (l.length - 1) (fun k s => s.1 = nI (k + 1) ∧ fr aP μ s.2 ∧ srtI l (k + 1) (s.2 (0, 42, 0))) ?_ ?_ (Q := fun μ1 => fr aP μ μ1 ∧ srtI l l.length (μ1 (0, 42, 0))) ⟨rfl, fr_refl, srtI_one h0 h⟩ (FU_lt (by omega))) ?_)
  · rintro k ⟨i, μ1⟩ hk ⟨h1, h2, h4⟩
    dsimp only at h1 h2 h4
    subst h1
    have hi : k + 1 < l.length := by omega
    simp only [un2]
    rw [if_neg (nI_ge hi (by omega)), gd_eq (zin_nI (by omega) (by omega)), nI_clamp (by omega), zlt_s, h4.2 (k + 1) (Nat.le_refl _) hi]
    refine ok_bd2 (ok_mono (ok_lp (fun n (s : Int32 × ZMem) => s.1 = nI n ∧ fr aP μ1 s.2 ∧ insI (l.getD (k + 1) 0) (srtS (l.take (k + 1))) (k + 1) n (μ1 (0, 42, 0)) (s.2 (0, 42, 0)))
      (Q := fun (q : Int32 × ZMem) => ∃ j, q.1 = nI j ∧ fr aP μ1 q.2 ∧ insI (l.getD (k + 1) 0) (srtS (l.take (k + 1))) (k + 1) j (μ1 (0, 42, 0)) (q.2 (0, 42, 0)) ∧ (j = 0 ∨ ∃ j', j = j' + 1 ∧ q.2 (0, 42, 0) j' ≤ l.getD (k + 1) 0)) ?_ (N := k + 1) ⟨rfl, fr_refl, srtI_start hi h4⟩ (FU_lt (by omega))) ?_)
    · rintro n ⟨j, μ2⟩ ⟨g1, g2, g4⟩
      dsimp only at g1 g2 g4 ⊢
      subst g1
      have hn : n ≤ k + 1 := g4.1
      cases n with
      | zero =>
        rw [if_pos (by decide)]
        exact ok_some ⟨0, rfl, g2, g4, Or.inl rfl⟩
      | succ n =>
        rw [if_neg (by rw [show (0 : Int32) = nI 0 from rfl]; exact nI_ge (by omega) (by omega)), nI_pred, gd_eq (zin_nI (by omega) (by omega)), nI_clamp (by omega)]
        by_cases hx : μ2 (0, 42, 0) n ≤ l.getD (k + 1) 0
        · rw [if_pos hx]
          exact ok_some ⟨n + 1, rfl, g2, g4, Or.inr ⟨n, rfl, hx⟩⟩
        · rw [if_neg hx, gd_eq (zin_nI (by omega) (by omega)), nI_clamp (by omega), zlt_s, nI_dec, mset_eq]
          refine ok_some ⟨n, by omega, rfl, fr_trans g2 (fr_mput (fun _ => rfl)), ?_⟩
          dsimp only
          rw [mput_at]
          exact insI_step g4 hx
    · rintro ⟨x, μ2⟩ ⟨j, g1, g2, g4, g5⟩
      dsimp only at g1 g2 g4 g5 ⊢
      subst g1
      have hj : j ≤ k + 1 := g4.1
      rw [gd_eq (zin_nI (by omega) (by omega)), nI_clamp (by omega), zlt_s, mset_eq]
      refine ok_some ⟨_, rfl, nI_1 (k + 1), fr_trans h2 (fr_trans g2 (fr_mput (fun _ => rfl))), ?_⟩
      dsimp only
      rw [mput_at]
      exact srtI_next hi h4 g4 g5
  · rintro ⟨i, μ1⟩ ⟨h1, h2, h4⟩
    dsimp only at h1 h2 h4
    subst h1
    rw [show l.length - 1 + 1 = l.length by omega] at h4 ⊢
    simp only [un2]
    rw [if_pos (nI_le (Nat.le_refl _) (by omega))]
    exact ok_some ⟨_, rfl, h2, h4⟩
  · rintro μ1 ⟨h2, h4⟩
    have hc := cut_lt h0
    rw [cut_eq h20, zlt_s, gd_eq (zin_nI (by omega) (by omega)), show (1 : Int32) = nI 1 from rfl, nI_sub (by omega), nI_sub (by omega), gd_eq (zin_nI (by omega) (by omega)), nI_clamp (by omega), nI_clamp (by omega)]
    refine ok_some ⟨?_, h2⟩
    exact srtI_end h4 h0
