/-! the model's round: who sends, and all the shifts -/
theorem zlt_s {α β : Type} {x : α} {f : α → β} : zlt x f = f x := rfl
theorem bit_z {k : Nat} (hk : k < 8) : (1 : Int32) <<< (nI k &&& 31) = bit1 k := rfl
theorem m_isIn {x a b : Int32} : f_X12_isIn x a b = some (b2i (decide (a ≤ x ∧ x ≤ b))) := by
  unfold f_X12_isIn
  by_cases h1 : x < a
  · simp only [jk, h1, if_true, bd_s]
    rw [show decide (a ≤ x ∧ x ≤ b) = false by simp [Int32.not_le.mpr h1]]
    rfl
  · by_cases h2 : b < x
    · simp only [jk, h1, h2, if_true, if_false, bd_s]
      rw [show decide (a ≤ x ∧ x ≤ b) = false by simp [Int32.not_le.mpr h2]]
      rfl
    · simp only [jk, h1, h2, if_false, bd_s]
      rw [show decide (a ≤ x ∧ x ≤ b) = true by simp [Int32.not_lt.mp h1, Int32.not_lt.mp h2]]
      rfl
theorem ask_vec {μ μ' : ZMem} (h : fr askP μ μ') : μ' MV0 = μ MV0 := fr_at h (not_ask (by decide) (by decide))
theorem m_sentBy {μ : ZMem} {L : LawS} {c k : Nat} {v v0 : Vec} (hv : μ MV0 = v) (hL : LawM v0 L) (hT : sameT v v0) (hW : WFv c v) (hk : k < 8) :
    ok (f_X12_sentBy (nI k) μ) (fun q => q.1 = sendS L c v k ∧ fr askP μ q.2) := by
  unfold f_X12_sentBy f_X12_heldUp
  rw [bd_eq (of0 hk)]
  refine ok_bd2 (ok_bd (ok_mono (hL c μ (by rw [hv]; exact hT) (by rw [hv]; exact hW) k hk) ?_))
  rintro μ1 ⟨f1, f2, -, -⟩
  refine ok_some (ok_some ⟨?_, f1⟩)
  show nd (μ MV0) k 0 + μ1 MO0 16 = _
  rw [f2, hv]
  rfl
theorem m_shiftOf {μ : ZMem} {L : LawS} {c k o : Nat} {v v0 : Vec} (hv : μ MV0 = v) (hL : LawM v0 L) (hT : sameT v v0) (hW : WFv c v) (hk : k < 8) (ho : o < 8) :
    ok (f_X12_shiftOf (nI k) (nI o) μ) (fun q => q.1 = shiftS L c v k o ∧ fr askP μ q.2) := by
  unfold f_X12_shiftOf
  refine ok_bd2 (ok_mono (m_sentBy hv hL hT hW hk) ?_)
  rintro ⟨x, μ1⟩ ⟨e1, f1⟩
  dsimp only at e1 f1 ⊢
  have hv1 : μ1 MV0 = v := (ask_vec f1).trans hv
  have hr : zrem (nI o) 2 = 1 ↔ o % 2 = 1 := by
    have : ∀ o : Fin 8, zrem (nI o.val) 2 = 1 ↔ o.val % 2 = 1 := by decide +kernel
    exact this ⟨o, ho⟩
  rw [bd_eq (of9 hk), hv1]
  unfold shiftS
  by_cases h1 : nd v k 9 = 3
  · by_cases h2 : o % 2 = 1
    · simp only [jk]
      rw [if_pos h1, if_pos (hr.mpr h2), bd_eq (of10 hk), bd_s, hv1, if_pos ⟨h1, h2⟩, e1]
      exact ok_some ⟨rfl, f1⟩
    · simp only [jk]
      rw [if_pos h1, if_neg (fun h => h2 (hr.mp h)), bd_s, if_neg (fun h => h2 h.2), e1]
      exact ok_some ⟨rfl, f1⟩
  · simp only [jk]
    rw [if_neg h1, bd_s, if_neg (fun h => h1 h.1), e1]
    exact ok_some ⟨rfl, f1⟩
theorem m_isPassing {μ : ZMem} {L : LawS} {c k : Nat} {v v0 : Vec} (hv : μ MV0 = v) (hL : LawM v0 L) (hT : sameT v v0) (hW : WFv c v) (hk : k < 8) :
    ok (f_X12_isPassing (nI k) μ) (fun q => q.1 = b2i (passB L c v k) ∧ fr askP μ q.2) := by
  unfold f_X12_isPassing passB
  rw [bd_eq (isActive_eq hk), hv]
  by_cases h1 : nd v k 3 = 2
  · simp only [jk]
    rw [if_neg (by simp [h1, b2i]), bd_eq (of9 hk), hv]
    by_cases h2 : nd v k 9 = 2
    · rw [if_pos h2, bd2_s, gd_eq (by decide)]
      exact ok_some ⟨by simp [h2, b2i], fr_refl⟩
    · rw [if_neg h2]
      refine ok_bd2 (ok_bd2 (ok_mono (m_sentBy hv hL hT hW hk) ?_))
      rintro ⟨x, μ1⟩ ⟨e1, f1⟩
      dsimp only at e1 f1 ⊢
      have hv1 : μ1 MV0 = v := (ask_vec f1).trans hv
      rw [hv1, bd_eq m_isIn, e1]
      simp only [h1, h2, ne_eq, not_false_eq_true, decide_true, Bool.true_and]
      cases decide (-(v 4) ≤ sendS L c v k ∧ sendS L c v k ≤ v 4)
      · exact ok_some (ok_some ⟨rfl, f1⟩)
      · exact ok_some (ok_some ⟨rfl, f1⟩)
  · simp only [jk]
    rw [if_pos (by simp [h1, b2i]), bd2_s, gd_eq (by decide)]
    exact ok_some ⟨by simp [h1, b2i], fr_refl⟩
