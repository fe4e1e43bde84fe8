/-! the class's law: the parts of a condition -/
theorem c_partOf {μ : ZMem} {s c k t : Nat} {v : Vec} {al : Int32} (h : CS μ s c v) (hk : k < c) (hm : isS (nd v k 5)) (ha : al = b2i (decide (actS v c &&& (bit1 k ^^^ (-1)) = 0))) (ht : t < 10) :
    f_X3_partOf s (nI k) (nI (1000 + t)) al μ = some (envS c v k t) := by
  have h8 := h.1
  unfold f_X3_partOf
  simp only [jk]
  rw [if_neg (show ¬ nI (1000 + t) < 1000 from nI_nlt (a := 1000 + t) (b := 1000) (by omega) (by omega)), if_neg (show ¬ nI k < 0 from nI_nlt (a := k) (b := 0) (by omega) (by omega)), CS_c h, if_pos (nI_lt hk (by omega)), gd_eq (zin_nI (by omega) (by omega)), nI_cl (by omega)]
  simp only [CS_nd h hk (show 1 < 11 by decide), CS_nd h hk (show 2 < 11 by decide), CS_nd h hk (show 5 < 11 by decide), CS_nd h hk (show 6 < 11 by decide), CS_nd h hk (show 7 < 11 by decide), CS_nd h hk (show 4 < 11 by decide), CS_nd h hk (show 8 < 11 by decide), CS_rd h, bc_eq hm, zmax_eq]
  have h10 : t = 0 ∨ t = 1 ∨ t = 2 ∨ t = 3 ∨ t = 4 ∨ t = 5 ∨ t = 6 ∨ t = 7 ∨ t = 8 ∨ t = 9 := by omega
  rcases h10 with rfl | rfl | rfl | rfl | rfl | rfl | rfl | rfl | rfl | rfl
  · rw [if_pos (by decide)]; rfl
  · rw [if_neg (by decide), if_pos (by decide)]; rfl
  · rw [if_neg (by decide), if_neg (by decide), if_pos (by decide)]
    show some (f_X12_greater 0 _) = some (f_X12_greater 0 _)
    rw [Int32.neg_add]
    try rw [Int32.sub_eq_add_neg]
    try rfl
  · rw [if_neg (by decide), if_neg (by decide), if_neg (by decide), if_pos (by decide)]; rfl
  · rw [if_neg (by decide), if_neg (by decide), if_neg (by decide), if_neg (by decide), if_pos (by decide)]; rfl
  · rw [if_neg (by decide), if_neg (by decide), if_neg (by decide), if_neg (by decide), if_neg (by decide), if_pos (by decide)]; rfl
  · rw [if_neg (by decide), if_neg (by decide), if_neg (by decide), if_neg (by decide), if_neg (by decide), if_neg (by decide), if_pos (by decide)]; rfl
  · rw [if_neg (by decide), if_neg (by decide), if_neg (by decide), if_neg (by decide), if_neg (by decide), if_neg (by decide), if_neg (by decide), if_pos (by decide), zlt_s]
    show some (if _ then _ else _) = some (b2i (decide _))
    by_cases hr : zrem (v 6) 2 = 0
    · rw [if_pos hr, decide_eq_true hr]; rfl
    · rw [if_neg hr, decide_eq_false hr]; rfl
  · rw [if_neg (by decide), if_neg (by decide), if_neg (by decide), if_neg (by decide), if_neg (by decide), if_neg (by decide), if_neg (by decide), if_neg (by decide), if_pos (by decide), zlt_s, ha]
    show _ = some (b2i (decide _))
    cases decide (actS v c &&& (bit1 k ^^^ (-1)) = 0) <;> rfl
  · rw [if_neg (by decide), if_neg (by decide), if_neg (by decide), if_neg (by decide), if_neg (by decide), if_neg (by decide), if_neg (by decide), if_neg (by decide), if_neg (by decide), zlt_s]
    show some (if _ then _ else _) = some (b2i (decide _))
    by_cases hr : 0 < nd v k 8
    · rw [if_neg (Int32.not_le.mpr hr), decide_eq_true hr]; rfl
    · rw [if_pos (Int32.not_lt.mp hr), decide_eq_false hr]; rfl
