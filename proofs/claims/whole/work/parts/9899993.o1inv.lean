/-! the relation at the law's start -/
def v00 : Vec := fun i => if i = 1 then -1 else if i = 4 then 100 else if i = 5 then 50 else if i = 8 then 1 else 0
theorem nd_v00 {k w : Nat} : nd v00 k w = 0 := by
  unfold nd v00
  rw [if_neg (by omega), if_neg (by omega), if_neg (by omega), if_neg (by omega)]
theorem INV_start {y : ZLay} {μ : ZMem} (hv : μ MV0 = v00) (h1 : ∀ i, 2 ≤ i → i < 10 → μ (1, 0, 0) i = if i = 5 then 100 else if i = 6 then 50 else if i = 8 then 1 else 0) (h5 : μ (5, lno μ 0, 0) 0 = -1)
    (a1 : μ (0, 0, 0) 1 = 0) (a2 : μ (0, 0, 0) 2 = -1) (a6 : μ (0, 0, 0) 6 = 0) (p1 : μ (0, 2, 0) 1 = 0) (p2 : μ (0, 2, 0) 2 = 0) (m3 : μ MO0 3 = 0) (m6 : μ MO0 6 = 0) (m8 : μ MO0 8 = 0) (m12 : μ MO0 12 = -1) (m15 : μ MO0 15 = 0) (m38 : μ (0, 38, 0) 0 = 0) : INV y μ := by
  refine ⟨(0, v00, []), fun _ => 0, 0, -1, none, [], ⟨⟨⟨by omega, ?_, rfl, ?_, ?_, ?_, ?_, fun k hk => absurd hk (by omega), ?_⟩, ?_, LawC_none h5, ?_⟩, fun i hi => absurd hi (by omega), a1, a2, a6, 0, by omega, p1, p2, fun i hi => absurd hi (by simp)⟩, ⟨hv, fun i hi => absurd hi (by omega), m8, m12, m3, m6, fun i hi => absurd hi (by simp), ⟨0, by omega, m38⟩, by rw [show μ (0, 32, 0) 15 = 0 from m15]; rfl⟩, ?_⟩
  · exact (h1 4 (by omega) (by omega)).trans rfl
  · exact (h1 5 (by omega) (by omega)).trans rfl
  · exact (h1 6 (by omega) (by omega)).trans rfl
  · exact (h1 7 (by omega) (by omega)).trans rfl
  · exact (h1 8 (by omega) (by omega)).trans rfl
  · exact ⟨0, 0, by omega, by omega, (h1 2 (by omega) (by omega)).trans rfl, rfl, (h1 3 (by omega) (by omega)).trans rfl, fun j hj => absurd hj (by omega)⟩
  · exact (h1 9 (by omega) (by omega)).trans rfl
  · exact h5
  · refine ⟨⟨⟨⟨by omega, rfl, fun k hk => ?_⟩, fun k hk => absurd hk (by omega), ?_, ?_, ?_⟩, ?_, LawM_none (by show (-1 : Int32) < 1; decide), ?_, fun j hj => ?_⟩, by omega, ?_, ?_, by simp, fun i hi => absurd hi (by simp)⟩
    · rw [nd_v00]; exact ⟨0, by omega, rfl⟩
    · exact ⟨by decide, by decide⟩
    · exact ⟨by decide, by decide⟩
    · exact ⟨by decide, by decide⟩
    · intro t e; exact (show rng (0 : Int32) 0 1188 from ⟨by decide, by decide⟩)
    · exact ⟨by decide, by decide⟩
    · show v00 j = 0
      unfold v00
      rw [if_neg (by omega), if_neg (by omega), if_neg (by omega), if_neg (by omega)]
    · exact fun k hk => absurd hk (by omega)
    · intro K hK; cases hK
