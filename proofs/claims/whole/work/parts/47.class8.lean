/-! the class: the middle of the offsets -/
def offC (off : Nat → Nat → Int32) (heard : Nat → Int32) (snd : Int32) (k : Nat) : Nat → List Int32
  | 0 => []
  | o + 1 => offC off heard snd k o ++ (if o = k then [0] else if tbit (snd &&& heard k) o = true then [off o k] else [])
theorem offC_len {off : Nat → Nat → Int32} {heard : Nat → Int32} {snd : Int32} {k : Nat} : ∀ o, (offC off heard snd k o).length ≤ o
  | 0 => Nat.le_refl _
  | o + 1 => by
    have := offC_len (off := off) (heard := heard) (snd := snd) (k := k) o
    unfold offC
    rw [List.length_append]
    split
    · simp; omega
    · split
      · simp; omega
      · simp; omega
theorem offC_L {off : Nat → Nat → Int32} {heard : Nat → Int32} {snd : Int32} {k : Nat} : ∀ o, (o ≤ k → offC off heard snd k o = offL off heard snd o k) ∧ (k < o → ∃ l1 l2, offC off heard snd k o = l1 ++ 0 :: l2 ∧ offL off heard snd o k = l1 ++ l2)
  | 0 => ⟨fun _ => by simp [offC, offL], fun h => absurd h (by omega)⟩
  | o + 1 => by
    obtain ⟨h1, h2⟩ := offC_L (off := off) (heard := heard) (snd := snd) (k := k) o
    constructor
    · intro h
      rw [offL_s]
      unfold offC
      rw [h1 (by omega), if_neg (show ¬ o = k by omega)]
      congr 1
      by_cases hb : tbit (snd &&& heard k) o = true
      · rw [if_pos hb, if_neg (by rw [hb]; simp; omega)]
      · rw [if_neg hb, if_pos (Or.inr (by simpa using hb))]
    · intro h
      rw [offL_s]
      unfold offC
      by_cases e : o = k
      · rw [h1 (by omega), if_pos e, if_pos (Or.inl e), List.append_nil]
        exact ⟨_, [], rfl, by rw [List.append_nil]⟩
      · obtain ⟨l1, l2, g1, g2⟩ := h2 (by omega)
        rw [g1, g2, if_neg e]
        by_cases hb : tbit (snd &&& heard k) o = true
        · rw [if_pos hb, if_neg (by rw [hb]; simp; omega)]
          exact ⟨l1, l2 ++ [off o k], by simp, by simp⟩
        · rw [if_neg hb, if_pos (Or.inr (by simpa using hb))]
          exact ⟨l1, l2, by simp, by simp⟩
theorem offC_mid {off : Nat → Nat → Int32} {heard : Nat → Int32} {snd : Int32} {c k : Nat} (hk : k < c) : midL (offC off heard snd k c) = midK off heard snd c k ∧ 0 < (offC off heard snd k c).length := by
  obtain ⟨l1, l2, g1, g2⟩ := (offC_L (off := off) (heard := heard) (snd := snd) (k := k) c).2 hk
  unfold midK
  rw [g1, g2, midL_mid]
  exact ⟨rfl, by simp; omega⟩
theorem c_middleOf {y : ZLay} {μ : ZMem} {s c k : Nat} {v : Vec} {snd : Int32} {off : Nat → Nat → Int32} {heard : Nat → Int32} (hz : 8 ≤ zlen y (0, 10, 0) ∧ zlen y (0, 10, 0) ≤ 1000) (h : CS μ s c v) (hk : k < c) (hh : μ (0, 7, 0) k = heard k) (hoff : ∀ o, o < c → o ≠ k → μ (7, o, 0) k = off o k + nd v k 0) :
    ok (f_X10_middleOf y s (nI k) snd μ) (fun q => q.1 = midK off heard snd c k ∧ fr (oP (0, 10, 0)) μ q.2) := by
  have h8 := h.1
  have hCf : ∀ μ1, fr (oP (0, 10, 0)) μ μ1 → CS μ1 s c v := fun μ1 f => CS_fr h f (fun i => ⟨zne (by decide), zne (by decide), fun k => zne (by decide)⟩)
  unfold f_X10_middleOf
  refine ok_bd2 (ok_mono (ok_seq c (fun o (s' : Int32 × Int32 × ZMem) => s'.1 = nI (offC off heard snd k o).length ∧ s'.2.1 = nI o ∧ fr (oP (0, 10, 0)) μ s'.2.2 ∧ ∀ t, t < (offC off heard snd k o).length → s'.2.2 (0, 10, 0) t = (offC off heard snd k o).getD t 0) ?_ ?_
    (Q := fun (q : Int32 × ZMem) => q.1 = nI (offC off heard snd k c).length ∧ fr (oP (0, 10, 0)) μ q.2 ∧ ∀ t, t < (offC off heard snd k c).length → q.2 (0, 10, 0) t = (offC off heard snd k c).getD t 0) ⟨rfl, rfl, fr_refl, fun t ht => absurd ht (by simp [offC])⟩ (FU_lt (by omega))) ?_)
  · rintro o ⟨x, i, μ1⟩ ho ⟨h1, h2, h4, h5⟩
    dsimp only at h1 h2 h4 h5
    subst h1 h2
    have hC := hCf μ1 h4
    have hl := offC_len (off := off) (heard := heard) (snd := snd) (k := k) o
    have snoc : ∀ (z : Int32), offC off heard snd k (o + 1) = offC off heard snd k o ++ [z] → ∃ s', (Sum.inl (nI (offC off heard snd k o).length + 1, nI o + 1, mset μ1 (0, 10, 0) (offC off heard snd k o).length z) : (Int32 × Int32 × ZMem) ⊕ (Int32 × ZMem)) = .inl s' ∧ s'.1 = nI (offC off heard snd k (o + 1)).length ∧ s'.2.1 = nI (o + 1) ∧ fr (oP (0, 10, 0)) μ s'.2.2 ∧ ∀ t, t < (offC off heard snd k (o + 1)).length → s'.2.2 (0, 10, 0) t = (offC off heard snd k (o + 1)).getD t 0 := by
      intro z e
      refine ⟨_, rfl, ?_, nI_1 o, fr_trans h4 (fr_mset rfl), ?_⟩
      · rw [e, List.length_append]
        exact nI_1 _
      · intro t ht
        rw [e] at ht ⊢
        rw [List.length_append] at ht
        rw [getD_snoc (by simpa using ht)]
        dsimp only
        by_cases e11 : t = (offC off heard snd k o).length
        · rw [if_pos e11, e11, mset_at]
        · rw [if_neg e11, mset_k e11]
          exact h5 t (by simp at ht; omega)
    simp only [un3]
    rw [if_neg (cond_le (CS_c hC) h8 ho)]
    by_cases e : o = k
    · rw [if_pos (by rw [e]), gd_eq (zin_nI (by omega) (by omega)), nI_cl (show (offC off heard snd k o).length < 2 ^ 31 by omega), zlt_s, bd2_s]
      exact ok_some (snoc 0 (by rw [offC, if_pos e]))
    · rw [if_neg (by rw [nI_eq (by omega) (by omega)]; exact e), gd_eq (zin_nI (show k < 8 by omega) (by omega)), nI_cl (show k < 2 ^ 31 by omega), show μ1 (0, 7, 0) k = heard k by rw [fr_at h4 (fun i => show ¬ ((0, 7, 0) : ZId) = (0, 10, 0) by decide)]; exact hh, bd_eq (isIn_eq (by omega))]
      by_cases hb : tbit (snd &&& heard k) o = true
      · rw [if_neg (by rw [hb]; decide), gd_eq (zin_nI (show o < 8 by omega) (by omega)), gd_eq (zin_nI (show (offC off heard snd k o).length < 8 by omega) (by omega)), nI_cl (show o < 2 ^ 31 by omega), nI_cl (show (offC off heard snd k o).length < 2 ^ 31 by omega), show μ1 (7, o, 0) k = off o k + nd v k 0 by rw [fr_at h4 (fun i => zne (by decide))]; exact hoff o ho e, CS_nd hC hk (by omega), Int32.add_sub_cancel, zlt_s, bd2_s]
        exact ok_some (snoc (off o k) (by rw [offC, if_neg e, if_pos hb]))
      · have hb' : tbit (snd &&& heard k) o = false := by simpa using hb
        have e9 : offC off heard snd k (o + 1) = offC off heard snd k o := by rw [offC, if_neg e, if_neg hb, List.append_nil]
        rw [if_pos (by rw [hb']; decide), bd2_s]
        refine ok_some ⟨_, rfl, by rw [e9], nI_1 o, h4, ?_⟩
        rw [e9]
        exact h5
  · rintro ⟨x, i, μ1⟩ ⟨h1, h2, h4, h5⟩
    dsimp only at h1 h2 h4 h5
    subst h1 h2
    simp only [un3]
    rw [if_pos (cond_end (CS_c (hCf μ1 h4)) h8)]
    exact ok_some ⟨_, rfl, rfl, h4, h5⟩
  · rintro ⟨x, μ1⟩ ⟨h1, h2, h4⟩
    dsimp only at h1 h2 h4 ⊢
    subst h1
    have hl := offC_len (off := off) (heard := heard) (snd := snd) (k := k) c
    obtain ⟨m1, m2⟩ := offC_mid (off := off) (heard := heard) (snd := snd) hk
    refine ok_bd2 (ok_mono (c_midOf m2 (by omega) (by omega) hz.2 (by decide) h4) ?_)
    rintro ⟨x, μ2⟩ ⟨g1, g2⟩
    exact ok_some ⟨g1.trans m1, fr_trans h2 g2⟩
