/-! the pure pair of law -/
section MOP
variable {y : ZLay} {μ : ZMem} {S : SV} {tp : Vec} {tl : Nat} {fa : Int32} {kp : Option SV} {ac : List (Nat × Vec)}
theorem lawV_mid {v tp : Vec} {x : Int32} {tl i : Nat} (h1 : 3 ≤ i) (h2 : i < 337) : lawV v x tl tp i = v i := by
  unfold lawV
  rw [if_neg (by omega), if_neg (by omega), if_neg (by omega)]
theorem lawV_nd {v tp : Vec} {x : Int32} {tl k w : Nat} (h1 : k < 8) (h2 : w < 11) : nd (lawV v x tl tp) k w = nd v k w := by
  unfold nd
  exact lawV_mid (by omega) (by omega)
theorem okC_law {c : Nat} {v tp : Vec} {x : Int32} {tl : Nat} (h : okC c v) : okC c (lawV v x tl tp) := by
  obtain ⟨⟨w1, w2, w3⟩, b1, b4, b5, b6⟩ := h
  refine ⟨⟨w1, by rw [lawV_mid (by omega) (by omega)]; exact w2, fun k hk => by rw [lawV_nd (by omega) (by omega)]; exact w3 k hk⟩, fun k hk => ?_, ?_, ?_, ?_⟩
  · unfold BN
    rw [lawV_nd (by omega) (by omega), lawV_nd (by omega) (by omega), lawV_nd (by omega) (by omega), lawV_nd (by omega) (by omega), lawV_nd (by omega) (by omega), lawV_nd (by omega) (by omega), lawV_nd (by omega) (by omega)]
    exact b1 k hk
  · rw [lawV_mid (by omega) (by omega)]; exact b4
  · rw [lawV_mid (by omega) (by omega)]; exact b5
  · rw [lawV_mid (by omega) (by omega)]; exact b6
theorem OA_law (ho : OA S tp tl kp ac) {ls : List LN} (hp : pLaw tp tl = .inr ls) (hg : lnG ls) : OA (S.1, lawV S.2.1 (nI ls.length) tl tp, lawOf ls) tp 0 kp [] := by
  obtain ⟨⟨o1, o2, o3, o4, o5⟩, htl, hB, hk, -, -⟩ := ho
  refine ⟨⟨okC_law o1, lsum_rng hg, ?_, o4, fun j hj => ?_⟩, by omega, fun k hk => absurd hk (by omega), hk, by simp, fun i hi => absurd hi (by simp)⟩
  · by_cases h0 : ls = []
    · subst h0
      exact LawM_none (by show nI 0 < 1; decide)
    · refine LawM_of hB htl (Or.inl ⟨?_, rfl⟩) (fun k hk => ?_) hp
      · show (1 : Int32) ≤ nI ls.length
        have : 0 < ls.length := List.length_pos_iff.mpr h0
        exact nI_le (a := 1) (b := ls.length) (by omega) (by have := hg.1; omega)
      · show lawV S.2.1 (nI ls.length) tl tp (337 + k) = tp k
        unfold lawV
        rw [if_neg (by omega), if_neg (by omega), if_pos (by omega), show 337 + k - 337 = k by omega]
  · show lawV S.2.1 (nI ls.length) tl tp j = 0
    unfold lawV
    rw [if_neg (by omega), if_neg (by omega), if_neg (by omega)]
    exact o5 j hj
theorem lp_md (hm : RMo μ S tp tl fa kp ac) {μ8 : ZMem} (f : fr lpP μ μ8) : RMo μ8 S tp tl fa kp ac := by
  have nn : ∀ j i, 31 ≤ j → ¬ lpP (0, j, 0) i := by
    rintro j i hj ((⟨-, -, h, -⟩ | h | ⟨h | h | h, -⟩ | ⟨h, -⟩) | ⟨h, -⟩)
    · exact absurd h (by show ¬ j < 31; omega)
    · exact absurd h (by show ¬ (0 : Nat) = 7; omega)
    · exact absurd h (by show ¬ (0 : Nat) = 1; omega)
    · exact absurd h (by show ¬ (0 : Nat) = 3; omega)
    · exact absurd h (by show ¬ (0 : Nat) = 4; omega)
    · exact absurd h (by show ¬ (0 : Nat) = 6; omega)
    · have : j = 0 := congrArg (fun q : ZId => q.2.1) h
      omega
  exact RM_fr hm f ⟨fun i => nn 33 i (by omega), fun i => nn 34 i (by omega), fun i => nn 36 i (by omega), fun i => nn 37 i (by omega), nn 32 3 (by omega), nn 32 6 (by omega), nn 32 8 (by omega), nn 32 12 (by omega)⟩
end MOP
