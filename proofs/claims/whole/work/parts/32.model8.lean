/-! the model's round: the middle of the offsets, correcting -/
theorem offL_s {off : Nat → Nat → Int32} {heard : Nat → Int32} {snd : Int32} {o k : Nat} : offL off heard snd (o + 1) k = offL off heard snd o k ++ (if o = k ∨ tbit (snd &&& heard k) o = false then [] else [off o k]) := by
  unfold offL
  rw [List.range_succ, List.filterMap_append]
  congr 1
  by_cases h : o = k ∨ tbit (snd &&& heard k) o = false
  · rw [if_pos h]; simp [h]
  · rw [if_neg h]; simp only [List.filterMap_cons, if_neg h, List.filterMap_nil]
theorem offL_len {off : Nat → Nat → Int32} {heard : Nat → Int32} {snd : Int32} {k : Nat} : ∀ o, (offL off heard snd o k).length ≤ o
  | 0 => by simp [offL]
  | o + 1 => by
    rw [offL_s, List.length_append]
    have := offL_len (off := off) (heard := heard) (snd := snd) (k := k) o
    split <;> simp <;> omega
theorem getD_snoc {l : List Int32} {x : Int32} {t : Nat} (h : t < l.length + 1) : (l ++ [x]).getD t 0 = if t = l.length then x else l.getD t 0 := by
  by_cases e : t = l.length
  · subst e; simp
  · rw [if_neg e]
    simp only [List.getD_eq_getElem?_getD]
    rw [List.getElem?_append_left (by omega)]
theorem m_middleOf {μ : ZMem} {snd : Int32} {c k : Nat} {off : Nat → Nat → Int32} {heard : Nat → Int32} (h8 : c ≤ 8) (h3 : μ MV0 3 = nI c) (hk : k < 8) (hh : μ (0, 40, 0) k = heard k) (hoff : ∀ o, o < c → o ≠ k → μ (0, 39, 0) (8 * o + k) = off o k) :
    ok (f_X12_middleOf (nI k) snd μ) (fun q => q.1 = midK off heard snd c k ∧ fr aP μ q.2) := by
  unfold f_X12_middleOf
  rw [zlt_s]
  refine ok_bd2 (ok_mono (ok_seq c (fun o (s : Int32 × Int32 × ZMem) => s.1 = nI (0 :: offL off heard snd o k).length ∧ s.2.1 = nI o ∧ fr aP μ s.2.2 ∧ ∀ t, t < (0 :: offL off heard snd o k).length → s.2.2 (0, 42, 0) t = (0 :: offL off heard snd o k).getD t 0) ?_ ?_
    (Q := fun (q : Int32 × ZMem) => q.1 = nI (0 :: offL off heard snd c k).length ∧ fr aP μ q.2 ∧ ∀ t, t < (0 :: offL off heard snd c k).length → q.2 (0, 42, 0) t = (0 :: offL off heard snd c k).getD t 0) ⟨rfl, rfl, fr_mset rfl, ?_⟩ (FU_lt (by omega))) ?_)
  · rintro o ⟨x, i, μ1⟩ ho ⟨h1, h2, h4, h5⟩
    dsimp only at h1 h2 h4 h5
    subst h1 h2
    have hv1 : μ1 MV0 = μ MV0 := fr_at h4 (fun k => by unfold aP; decide)
    have h40 : μ1 (0, 40, 0) = μ (0, 40, 0) := fr_at h4 (fun k => by unfold aP; decide)
    have h39 : μ1 (0, 39, 0) = μ (0, 39, 0) := fr_at h4 (fun k => by unfold aP; decide)
    have hl := offL_len (off := off) (heard := heard) (snd := snd) (k := k) o
    have hl2 : (0 :: offL off heard snd o k).length = (offL off heard snd o k).length + 1 := rfl
    simp only [un3]
    rw [if_neg (cond_le (by rw [hv1]; exact h3) h8 ho)]
    by_cases e : o = k
    · rw [if_pos (by rw [e]), bd2_s]
      have e9 : offL off heard snd (o + 1) k = offL off heard snd o k := by rw [offL_s, if_pos (Or.inl e), List.append_nil]
      refine ok_some ⟨_, rfl, by rw [e9], nI_1 o, h4, ?_⟩
      rw [e9]
      exact h5
    · rw [if_neg (by rw [nI_eq (by omega) (by omega)]; exact e), gd_eq (zin_nI hk (by omega)), nI_cl (show k < 2 ^ 31 by omega), h40, hh, bd_eq (isOf_eq (by omega))]
      by_cases hb : tbit (snd &&& heard k) o = true
      · have e9 : offL off heard snd (o + 1) k = offL off heard snd o k ++ [off o k] := by rw [offL_s, if_neg (by simp [e, hb])]
        rw [if_neg (by rw [hb]; decide), i8, gd_eq (zin_nI (by omega) (by omega)), gd_eq (zin_nI (by omega) (by omega)), nI_clamp (by omega), nI_clamp (by omega), zlt_s, bd2_s, h39, hoff o ho e]
        have e10 : (0 :: offL off heard snd (o + 1) k) = (0 :: offL off heard snd o k) ++ [off o k] := by rw [e9]; rfl
        refine ok_some ⟨_, rfl, ?_, nI_1 o, fr_trans h4 (fr_mset rfl), ?_⟩
        · rw [e10, List.length_append]
          exact nI_1 _
        · intro t ht
          rw [e10] at ht ⊢
          rw [List.length_append] at ht
          rw [getD_snoc (by simpa using ht)]
          dsimp only
          by_cases e11 : t = (0 :: offL off heard snd o k).length
          · rw [if_pos e11, e11, mset_at]
          · rw [if_neg e11, mset_k e11]
            exact h5 t (by simp at ht e11 ⊢; omega)
      · have hb' : tbit (snd &&& heard k) o = false := by simpa using hb
        have e9 : offL off heard snd (o + 1) k = offL off heard snd o k := by rw [offL_s, if_pos (Or.inr hb'), List.append_nil]
        rw [if_pos (by rw [hb']; decide), bd2_s]
        refine ok_some ⟨_, rfl, by rw [e9], nI_1 o, h4, ?_⟩
        rw [e9]
        exact h5
  · rintro ⟨x, i, μ1⟩ ⟨h1, h2, h4, h5⟩
    dsimp only at h1 h2 h4 h5
    subst h1 h2
    have hv1 : μ1 MV0 = μ MV0 := fr_at h4 (fun k => by unfold aP; decide)
    simp only [un3]
    rw [if_pos (cond_end (by rw [hv1]; exact h3) h8)]
    exact ok_some ⟨_, rfl, rfl, h4, h5⟩
  · intro t ht
    have : t = 0 := by simpa [offL] using ht
    subst this
    dsimp only
    rw [mset_at]
    rfl
  · rintro ⟨x, μ1⟩ ⟨h1, h2, h4⟩
    dsimp only at h1 h2 h4 ⊢
    subst h1
    have hl := offL_len (off := off) (heard := heard) (snd := snd) (k := k) c
    refine ok_bd2 (ok_mono (m_middle (by simp) (by simp; omega) h4) ?_)
    rintro ⟨x, μ2⟩ ⟨g1, g2⟩
    exact ok_some ⟨g1, fr_trans h2 g2⟩
def kP (o : ZId) (_ : Nat) : Prop := o = (0, 42, 0) ∨ o = MV0
theorem m_corrects {μ : ZMem} {snd : Int32} {c k : Nat} {off : Nat → Nat → Int32} {heard : Nat → Int32} (h8 : c ≤ 8) (h3 : μ MV0 3 = nI c) (hk : k < 8) (hh : μ (0, 40, 0) k = heard k) (hoff : ∀ o, o < c → o ≠ k → μ (0, 39, 0) (8 * o + k) = off o k) {old : Int32} (ho : tbit old k = true) (ha : nd (μ MV0) k 3 = 2) :
    ok (f_X12_corrects (nI k) snd μ) (fun μ' => μ' MV0 = corStep (midK off heard snd c) old k (μ MV0) ∧ fr kP μ μ') := by
  unfold f_X12_corrects corStep
  refine ok_bd2 (ok_mono (m_middleOf h8 h3 hk hh hoff) ?_)
  rintro ⟨x, μ1⟩ ⟨h1, h2⟩
  dsimp only at h1 h2 ⊢
  have hv1 : μ1 MV0 = μ MV0 := fr_at h2 (fun k => by unfold aP; decide)
  have hf : fr kP μ μ1 := fr_mono h2 (fun o k h => Or.inl h)
  have e6 : μ1 (0, 33, 0) 6 = μ MV0 6 := congrFun hv1 6
  rw [if_pos (show (tbit old k && decide (nd (μ MV0) k 3 = 2)) = true from Bool.and_eq_true_iff.mpr ⟨ho, decide_eq_true ha⟩)]
  have e7 : zrem (μ1 (0, 33, 0) 6) 2 = zrem (μ MV0 6) 2 := congrArg (fun x => zrem x 2) e6
  by_cases h : zrem (μ MV0 6) 2 = 0
  · rw [if_pos h, if_pos (e7.trans h), bd_eq (of0 hk), bd_eq (lays0 hk), bd_s]
    refine ok_some ⟨?_, fr_trans hf (fr_mput (fun _ => Or.inr rfl))⟩
    rw [mput_at, hv1, h1]
  · rw [if_neg h, if_neg (fun q => h (e7.symm.trans q)), bd_eq (of2 hk), bd_eq (lays2 hk), bd_s]
    refine ok_some ⟨?_, fr_trans hf (fr_mput (fun _ => Or.inr rfl))⟩
    rw [mput_at, hv1, h1]
