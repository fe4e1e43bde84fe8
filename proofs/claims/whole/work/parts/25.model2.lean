/-! the model's round: waiting and calling, joining, judging -/
theorem ofV {μ : ZMem} {v : Vec} {k w : Nat} {W : Int32} (hv : μ MV0 = v) (hW : W = nI w) (hk : k < 8) (hw : w < 11) : f_X12_of (nI k) W μ = some (nd v k w) := by rw [of_gen hW hk hw, hv]
theorem m_logs {μ : ZMem} {k w x : Int32} : f_X12_logs k w x μ = some (mput μ MV0 (noteS (μ MV0) k w x)) := logs_eq
/-- the state behind one step of a loop over the nodes -/
theorem fin_vec {μ : ZMem} {v : Vec} : (mput μ MV0 v) MV0 = v := mput_at
theorem wait_t {k : Nat} {v : Vec} (h : nd v k 3 = 1) : waitStep k v = ns v k 4 (f_X12_greater 0 (nd v k 4 - 1)) := if_pos h
theorem wait_f {k : Nat} {v : Vec} (h : ¬ nd v k 3 = 1) : waitStep k v = v := if_neg h
theorem itS_s {α : Type} {f : Nat → α → α} {k : Nat} {v : α} : itS f (k + 1) v = f k (itS f k v) := rfl
theorem m_waits {μ : ZMem} {c : Nat} {v : Vec} (h8 : c ≤ 8) (hv : μ MV0 = v) (h3 : v 3 = nI c) :
    ok (lp (σ := Int32 × Int32 × ZMem) (fun q => un3 q (fun (x1 : Int32) (x2 : Int32) (μ3 : ZMem) => if (μ3 (0, 33, 0) 3) ≤ x2 then some (.inr (x1, μ3)) else bd (f_X12_of x2 3 μ3) (fun (x8 : Int32) => bd2 (α := Int32) (β := ZMem) (if x8 = 1 then bd (f_X12_of x2 4 μ3) (fun (x13 : Int32) => bd (f_X12_lays x2 4 (f_X12_greater 0 (x13 - 1)) μ3) (fun (μ15 : ZMem) => bd (f_X12_of x2 4 μ15) (fun (x17 : Int32) => zlt (α := Int32) (if x17 = 0 then (1 <<< (x2 &&& 31)) else 0) (fun (x19 : Int32) => zlt (x1 ||| x19) (fun (x20 : Int32) => some (x20, μ15)))))) else some (x1, μ3)) (fun (x10 : Int32) (μ11 : ZMem) => some (.inl (x10, (x2 + 1), μ11)))))) FU (0, 0, μ))
      (fun r => r = (callX v c, mput μ MV0 (itS waitStep c v))) := by
  have hst : ∀ n w, n ≤ w → ∀ x, (w < 11) → nd (itS waitStep n v) w x = nd v w x := by
    intro n
    induction n with
    | zero => intros; rfl
    | succ n ih =>
      intro w hw x hx
      show nd (waitStep n _) w x = _
      unfold waitStep
      split
      · unfold nd ns
        rw [vset_ne (by omega)]
        exact ih w (by omega) x hx
      · exact ih w (by omega) x hx
  refine ok_seq c (fun k s => s = (bset (fun j => decide (nd v j 3 = 1) && decide (f_X12_greater 0 (nd v j 4 - 1) = 0)) k, nI k, mput μ MV0 (itS waitStep k v))) ?_ ?_ ?_ (FU_lt (by omega))
  · rintro k s hk rfl
    have e3 : nd (itS waitStep k v) k 3 = nd v k 3 := hst k k (Nat.le_refl _) 3 (by omega)
    have e4 : nd (itS waitStep k v) k 4 = nd v k 4 := hst k k (Nat.le_refl _) 4 (by omega)
    simp only [un3]
    rw [if_neg (cond_le (by rw [mput_at]; exact (itS_pres (α := Vec) (fun u => u 3) wait3 _ _).trans h3) h8 hk), bd_eq (of3 (by omega)), mput_at, e3]
    by_cases h : nd v k 3 = 1
    · rw [if_pos h, bd_eq (of4 (by omega)), mput_at, e4, bd_eq (lays4 (by omega)), bd_eq (of4 (by omega)), mput_mput, mput_at, mput_at, nd_ns (by omega) (by omega), if_pos (show k = k ∧ 4 = 4 from ⟨rfl, rfl⟩)]
      simp only [zlt_eq, bd2_s]
      refine ok_some ⟨_, rfl, ?_⟩
      rw [nI_1]
      have e5 : itS waitStep (k + 1) v = ns (itS waitStep k v) k 4 (f_X12_greater 0 (nd v k 4 - 1)) := by
        rw [itS_s, wait_t (by rw [e3]; exact h), e4]
      rw [e5]
      congr 1
      rw [bset]
      by_cases h2 : f_X12_greater 0 (nd v k 4 - 1) = 0
      · simp [h, h2]
      · simp [h2]
    · rw [if_neg h]
      simp only [bd2_s]
      refine ok_some ⟨_, rfl, ?_⟩
      rw [nI_1]
      have e5 : itS waitStep (k + 1) v = itS waitStep k v := by
        rw [itS_s, wait_f (by rw [e3]; exact h)]
      rw [e5]
      congr 1
      rw [bset]
      simp [h]
  · rintro s rfl
    simp only [un3]
    rw [if_pos (cond_end (by rw [mput_at]; exact (itS_pres (α := Vec) (fun u => u 3) wait3 _ _).trans h3) h8)]
    exact ok_some ⟨_, rfl, rfl⟩
  · show _ = (0, nI 0, mput μ MV0 v)
    rw [← hv, mput_self]
    rfl
theorem m_starts {μ : ZMem} {x : Int32} (hs : isS x) (h0 : ¬ x = 0) : f_X12_starts x μ = some (mput μ MV0 (startS (μ MV0) x)) := by
  unfold f_X12_starts startS
  rw [bd_eq (m_low hs h0), bd_eq (lays3 (low_lt x)), bd_eq (lays5 (low_lt x)), mput_at, mput_mput, bd_eq (lays2 (low_lt x)), mput_at, mput_mput, bd_eq logs_eq, mput_at, mput_mput]
