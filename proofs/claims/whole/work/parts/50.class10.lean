/-! the class: who calls -/
def callT (k : Nat) (q : Vec × Int32) : Vec × Int32 := (waitStep k q.1, if nd q.1 k 3 = 1 then q.2 ||| (if nd (waitStep k q.1) k 4 = 0 then bit1 k else 0) else q.2)
theorem wait_far {x : Nat} (hx : x < 11) (k : Nat) (u : Vec) (w : Nat) (hw : w < 8) (h : w ≠ k) : nd (waitStep k u) w x = nd u w x := by
  unfold waitStep
  split
  · exact ns_far (by omega) hx h
  · rfl
theorem call_sets {v : Vec} : ∀ n, n ≤ 8 → itS callT n (v, 0) = (itS waitStep n v, callX v n)
  | 0, _ => rfl
  | n + 1, hn => by
    rw [itS_s, call_sets n (by omega)]
    have e3 : nd (itS waitStep n v) n 3 = nd v n 3 := waits_nd (by omega) (by omega)
    have e4 : nd (itS waitStep n v) n 4 = nd v n 4 := itS_far (fun k u w => wait_far (by omega) k u w) v n n (Nat.le_refl _) (by omega)
    unfold callT
    dsimp only
    rw [e3]
    show (itS waitStep (n + 1) v, _) = (itS waitStep (n + 1) v, callX v n ||| (if (decide (nd v n 3 = 1) && decide (f_X12_greater 0 (nd v n 4 - 1) = 0)) = true then bit1 n else 0))
    congr 1
    by_cases h : nd v n 3 = 1
    · rw [if_pos h, wait_t (by rw [e3]; exact h), ns_near (by omega), e4]
      congr 1
      by_cases h2 : f_X12_greater 0 (nd v n 4 - 1) = 0
      · rw [if_pos h2, if_pos (Bool.and_eq_true_iff.mpr ⟨decide_eq_true h, decide_eq_true h2⟩)]
      · rw [if_neg h2, if_neg (fun q => h2 (of_decide_eq_true (Bool.and_eq_true_iff.mp q).2))]
    · rw [if_neg h, if_neg (fun q => h (of_decide_eq_true (Bool.and_eq_true_iff.mp q).1)), Int32.or_zero]
