/-! guesses: when -/
theorem clk_in : ∀ h : Fin 1539, ∀ r : Fin 10, 0 ≤ f_X12_clockOf (nI h.val) (nI r.val) + 121 ∧ f_X12_clockOf (nI h.val) (nI r.val) + 121 < 243 := by decide +kernel
def ixN (h r : Nat) : Nat := (f_X12_clockOf (nI h) (nI r) + 121).toNatClampNeg
theorem ix_ok {h r : Nat} (hh : h < 1539) (hr : r < 10) : f_X12_clockOf (nI h) (nI r) + 121 = nI (ixN h r) ∧ ixN h r < 243 := by
  obtain ⟨k, hk, e⟩ := in_n (n := 243) (by omega) (clk_in ⟨h, hh⟩ ⟨r, hr⟩)
  dsimp only at e
  unfold ixN
  rw [e, nI_cl (by omega)]
  exact ⟨rfl, hk⟩
/-- the counters, the greatest -/
def gpT (w : Nat → Nat) (r : Nat) : Nat → (Nat → Nat) × Nat
  | 0 => (fun _ => 0, 0)
  | h + 1 => if w h ≤ 1 then (fun i => if i = ixN h r then (gpT w r h).1 i + 1 else (gpT w r h).1 i, max (gpT w r h).2 ((gpT w r h).1 (ixN h r) + 1)) else gpT w r h
theorem gpT_s {w : Nat → Nat} {r h : Nat} : gpT w r (h + 1) = if w h ≤ 1 then (fun i => if i = ixN h r then (gpT w r h).1 i + 1 else (gpT w r h).1 i, max (gpT w r h).2 ((gpT w r h).1 (ixN h r) + 1)) else gpT w r h := rfl
theorem gpT_le {w : Nat → Nat} {r : Nat} : ∀ h, (∀ i, (gpT w r h).1 i ≤ h) ∧ (gpT w r h).2 ≤ h
  | 0 => ⟨fun _ => Nat.le_refl _, Nat.le_refl _⟩
  | h + 1 => by
    obtain ⟨h1, h2⟩ := gpT_le (w := w) (r := r) h
    rw [gpT_s]
    split
    · refine ⟨fun i => ?_, ?_⟩
      · dsimp only
        have := h1 i
        split <;> omega
      · dsimp only
        have := h1 (ixN h r)
        omega
    · exact ⟨fun i => by have := h1 i; omega, by omega⟩
theorem gr_max {a b : Nat} (ha : a < 10000) (hb : b < 10000) : f_X12_greater (nI a) (nI b) = nI (max a b) := by
  rw [greater_eq]
  by_cases e : b < a
  · rw [if_pos (nI_lt e (by omega)), show max a b = a by omega]
  · rw [if_neg (nI_nlt (by omega) (by omega)), show max a b = b by omega]
section PV
variable {y : ZLay} {μ : ZMem} {S S' : SV} {tp tp' : Vec} {tl tl' : Nat} {fa fa' : Int32} {kp kp' : Option SV} {ac ac' : List (Nat × Vec)}
theorem zeroN {o : ZId} {N : Nat} (hN : N ≤ 1000) (hx : ¬ o = (0, 38, 0) ∧ ¬ o = (0, 32, 0)) {F : Int32 × ZMem → Option ((Int32 × ZMem) ⊕ ZMem)} (hF : ∀ k μ1, k < N → F (nI k, μ1) = some (.inl (nI k + 1, mset μ1 o k 0))) (hE : ∀ μ1, F (nI N, μ1) = some (.inr μ1)) : ok (lp F FU (0, μ)) (fun μ' => fr (oP o) μ μ' ∧ ∀ k, k < N → μ' o k = nI 0) := by
  refine ok_seq N (fun k s => s.1 = nI k ∧ fr (oP o) μ s.2 ∧ ∀ j, j < k → s.2 o j = nI 0) ?_ ?_ ⟨rfl, fr_refl, fun j hj => absurd hj (by omega)⟩ (FU_lt (by omega))
  · rintro k ⟨i, μ3⟩ hk ⟨w1, w2, w3⟩
    dsimp only at w1 w2 w3
    subst w1
    rw [hF k μ3 hk]
    refine ok_some ⟨_, rfl, nI_1 k, fr_trans w2 (fr_mset rfl ⟨fun h => hx.1 h.1, fun h => hx.2 h.1⟩), fun j hj => ?_⟩
    dsimp only
    by_cases e : j = k
    · subst e; rw [mset_at]; rfl
    · rw [mset_k e]; exact w3 j (by omega)
  · rintro ⟨i, μ3⟩ ⟨w1, w2, w3⟩
    dsimp only at w1 w2 w3
    subst w1
    rw [hE]
    exact ok_some ⟨_, rfl, w2, w3⟩
theorem c_great {w : Nat → Nat} {r : Nat} (hr : r < 10) (hw : ∀ h, w h ≤ 100) (h : gsI w 1539 μ) : ok (f_X2_greatestPart (nI r) μ) (fun q => q.1 = nI (gpT w r 1539).2 ∧ fr (oP (0, 19, 0)) μ q.2) := by
  unfold f_X2_greatestPart
  have ng : ∀ {μ1 : ZMem}, fr (oP (0, 19, 0)) μ μ1 → gsI w 1539 μ1 := fun f => ⟨by rw [f.1 _ _ (show ¬ ((0, 17, 0) : ZId) = (0, 19, 0) by decide)]; exact h.1, fun i hi => by rw [f.1 _ _ (show ¬ ((0, 18, 0) : ZId) = (0, 19, 0) by decide)]; exact h.2 i hi⟩
  refine ok_b1 (zeroN (N := 243) (o := (0, 19, 0)) (by omega) (by decide) ?_ ?_) ?_
  · intro k μ1 hk
    rw [un2_s, if_neg (show ¬ (243 : Int32) ≤ nI k from nI_ge (b := 243) hk (by omega)), gd_eq (zin_nI (by omega) (by omega)), nI_cl (by omega), zlt_s]
  · intro μ1
    rw [un2_s, if_pos (by decide)]
  · rintro μ1 ⟨f1, g1⟩
    refine ok_b2i (ok_seq 1539 (fun k s => s.1 = nI (gpT w r k).2 ∧ s.2.1 = nI k ∧ fr (oP (0, 19, 0)) μ s.2.2 ∧ ∀ i, i < 243 → s.2.2 (0, 19, 0) i = nI ((gpT w r k).1 i)) ?_ ?_ ⟨rfl, rfl, f1, g1⟩ (FU_lt (by omega)))
    · rintro k ⟨x7, x8, μ2⟩ hk ⟨u1, u2, u3, u4⟩
      dsimp only at u1 u2 u3 u4
      subst u2
      obtain ⟨i1, i2⟩ := ix_ok hk hr
      obtain ⟨l1, l2⟩ := gpT_le (w := w) (r := r) k
      have l3 := l1 (ixN k r)
      have g2 := ng u3
      have hwk := hw k
      rw [un3_s, g2.1, if_neg (nI_ge hk (by omega)), clk_eq, show f_X12_clockOf (nI k) (nI r) - (-121) = nI (ixN k r) by rw [← i1, Int32.sub_eq_add_neg]; rfl, zlt_s, gd_eq (zin_nI (by omega) (by omega)), nI_cl (by omega), g2.2 k hk]
      by_cases e : w k ≤ 1
      · rw [if_neg (show ¬ (1 : Int32) < nI (w k) from nI_nlt (a := 1) e (by omega)), if_neg (nI_pos (by omega)), if_neg (show ¬ (243 : Int32) ≤ nI (ixN k r) from nI_ge (b := 243) i2 (by omega)), gd_eq (zin_nI i2 (by omega)), nI_cl (by omega), u4 _ i2, nI_1 ((gpT w r k).1 (ixN k r)), zlt_s, mset_at, zmax_eq, u1, gr_max (by omega) (by omega), zlt_s, bd2_s]
        refine ok_some ⟨_, rfl, ?_, nI_1 k, fr_trans u3 (fr_mset rfl), fun i hi => ?_⟩
        · dsimp only
          rw [gpT_s, if_pos e]
        · dsimp only
          rw [gpT_s, if_pos e]
          dsimp only
          by_cases e2 : i = ixN k r
          · rw [if_pos e2, e2, mset_at]
          · rw [if_neg e2, mset_k e2]; exact u4 i hi
      · rw [if_pos (show (1 : Int32) < nI (w k) from nI_lt (a := 1) (by omega) (by omega)), bd2_s]
        refine ok_some ⟨_, rfl, ?_, nI_1 k, u3, ?_⟩
        · dsimp only; rw [gpT_s, if_neg e]; exact u1
        · dsimp only; rw [gpT_s, if_neg e]; exact u4
    · rintro ⟨x7, x8, μ2⟩ ⟨u1, u2, u3, u4⟩
      dsimp only at u1 u2 u3 u4
      subst u2
      rw [un3_s, (ng u3).1, if_pos (nI_le (Nat.le_refl _) (by omega))]
      exact ok_some ⟨_, rfl, u1, u3⟩
end PV
