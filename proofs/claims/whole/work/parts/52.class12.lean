/-! the class: starting alone -/
theorem one_all : ∀ n : Fin 256, pc (nI n.val) = 1 → nI n.val = bit1 (lowS (nI n.val)) ∧ ∀ k : Fin 8, tbit (nI n.val) k.val = decide (k.val = lowS (nI n.val)) := by decide +kernel
theorem one_eq {x : Int32} (hs : isS x) (h : pc x = 1) : x = bit1 (lowS x) ∧ ∀ k, k < 8 → tbit x k = decide (k = lowS x) := by
  obtain ⟨n, hn, rfl⟩ := hs
  obtain ⟨h1, h2⟩ := one_all ⟨n, hn⟩ h
  exact ⟨h1, fun k hk => h2 ⟨k, hk⟩⟩
def startT (x : Int32) (k : Nat) (v : Vec) : Vec := if tbit x k = true then noteS (ns (ns (ns v k 3 2) k 5 (bit1 k)) k 2 0) (nI k) 0 0 else v
theorem start_it {x : Int32} {v : Vec} (hs : isS x) (h : pc x = 1) : ∀ n, n ≤ 8 → itS (startT x) n v = if lowS x < n then startS v x else v
  | 0, _ => rfl
  | n + 1, hn => by
    obtain ⟨h1, h2⟩ := one_eq hs h
    rw [itS_s, start_it hs h n (by omega)]
    unfold startT
    rw [h2 n (by omega)]
    by_cases e : n = lowS x
    · rw [if_pos (by simpa using e), if_neg (by omega), if_pos (by omega), e]
      unfold startS
      rw [← h1]
    · rw [if_neg (by simpa using e)]
      by_cases e2 : lowS x < n
      · rw [if_pos e2, if_pos (by omega)]
      · rw [if_neg e2, if_neg (by omega)]
