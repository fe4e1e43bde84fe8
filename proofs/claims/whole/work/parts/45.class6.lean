/-! sets and counts of the frozen -/
theorem pc_bit_all : ∀ n : Fin 8, pc (bit1 n.val) = 1 := by decide +kernel
theorem pc_bit {n : Nat} (h : n < 8) : pc (bit1 n) = 1 := pc_bit_all ⟨n, h⟩
theorem pc_add {x : Int32} {n : Nat} (hn : n < 8) (h : ∀ j, tbit x j = true → j < n) : pc (x ||| bit1 n) = pc x + 1 := by
  rw [pc_or, pc_bit hn]
  rintro k ⟨h1, h2⟩
  rw [tbit_bit1 hn] at h2
  have e : k = n := by simpa using h2
  have := h k h1
  omega
theorem frz_nd {u : Vec} {k j x : Nat} {w : Int32} (hj : j < 8) (hx : x < 11) : nd (frzS u k w) j x = if j = k ∧ x = 3 then 3 else nd u j x := by
  unfold frzS
  rw [note_nd hj hx, nd_ns (by omega) hx]
/-- what the two loops over those who freeze share -/
def setI (v : Vec) (n : Nat) (q : Vec × Int32) : Prop := isS q.2 ∧ (∀ j, tbit q.2 j = true → j < n) ∧ ∀ j, j < 8 → nd q.1 j 3 = if tbit q.2 j = true then 3 else nd v j 3
theorem setI_keep {v : Vec} {n : Nat} {q : Vec × Int32} (h : setI v n q) : setI v (n + 1) q := ⟨h.1, fun j hj => by have := h.2.1 j hj; omega, h.2.2⟩
theorem setI_frz {v : Vec} {n : Nat} {q : Vec × Int32} {w : Int32} (hn : n < 8) (h : setI v n q) : setI v (n + 1) (frzS q.1 n w, q.2 ||| bit1 n) := by
  refine ⟨isS_or h.1 (isS_one hn), ?_, ?_⟩
  · intro j hj
    dsimp only at hj
    rw [tbit_or, tbit_bit1 hn] at hj
    by_cases e : j = n
    · omega
    · have := h.2.1 j (by simpa [e] using hj)
      omega
  · intro j hj
    dsimp only
    rw [frz_nd hj (by omega), tbit_or, tbit_bit1 hn]
    by_cases e : j = n
    · subst e
      rw [if_pos ⟨rfl, rfl⟩, if_pos (by simp)]
    · rw [if_neg (fun q => e q.1), h.2.2 j hj]
      simp [e]
theorem den_sets {snd : Int32} {wer : Nat → Int32} {v : Vec} {x : Int32} : ∀ n, n ≤ 8 →
    (itS (denStep snd wer) n (v, x)) = ((itS (denT snd wer) n (v, 0)).1, x + nI (pc (itS (denT snd wer) n (v, 0)).2)) ∧ setI v n (itS (denT snd wer) n (v, 0))
  | 0, _ => by
    refine ⟨?_, isS_0, fun j h => by rw [show (itS (denT snd wer) 0 (v, 0)).2 = 0 from rfl, tbit_zero] at h; exact absurd h (by decide), fun j hj => ?_⟩
    · show (v, x) = (v, x + nI (pc 0))
      rw [show nI (pc 0) = 0 by decide, Int32.add_zero]
    · show nd v j 3 = if tbit 0 j = true then 3 else nd v j 3
      rw [tbit_zero]
      rfl
  | n + 1, hn => by
    obtain ⟨h1, h2⟩ := den_sets (snd := snd) (wer := wer) (v := v) (x := x) n (by omega)
    rw [itS_s, itS_s, h1]
    generalize itS (denT snd wer) n (v, 0) = q at h2
    unfold denStep denT
    by_cases c1 : (tbit snd n && denB snd wer n) = true
    · rw [if_pos c1, if_pos c1]
      by_cases c2 : denF snd wer n = true
      · rw [if_pos c2, if_pos c2]
        refine ⟨?_, setI_frz (by omega) h2⟩
        dsimp only
        rw [pc_add (by omega) h2.2.1, Int32.add_assoc, nI_1]
      · rw [if_neg c2, if_neg c2]
        refine ⟨rfl, h2.1, fun j hj => by have := h2.2.1 j hj; omega, ?_⟩
        intro j hj
        dsimp only
        rw [nd_ns (by omega) (by omega), if_neg (by omega)]
        exact h2.2.2 j hj
    · rw [if_neg c1, if_neg c1]
      exact ⟨rfl, setI_keep h2⟩
theorem out_sets {old ol : Int32} {v : Vec} {x : Int32} (hol : ∀ k, k < 8 → tbit ol k = (tbit old k && decide (nd v k 3 = 2))) : ∀ n, n ≤ 8 →
    (itS (outStep old) n (v, x)) = ((itS (outT ol) n (v, 0)).1, x + nI (pc (itS (outT ol) n (v, 0)).2)) ∧ setI v n (itS (outT ol) n (v, 0))
  | 0, _ => by
    refine ⟨?_, isS_0, fun j h => by rw [show (itS (outT ol) 0 (v, 0)).2 = 0 from rfl, tbit_zero] at h; exact absurd h (by decide), fun j hj => ?_⟩
    · show (v, x) = (v, x + nI (pc 0))
      rw [show nI (pc 0) = 0 by decide, Int32.add_zero]
    · show nd v j 3 = if tbit 0 j = true then 3 else nd v j 3
      rw [tbit_zero]
      rfl
  | n + 1, hn => by
    obtain ⟨h1, h2⟩ := out_sets (old := old) (ol := ol) (v := v) (x := x) hol n (by omega)
    rw [itS_s, itS_s, h1]
    generalize itS (outT ol) n (v, 0) = q at h2
    have hb : tbit q.2 n = false := by
      cases hq : tbit q.2 n
      · rfl
      · have := h2.2.1 n hq
        omega
    have h3 : nd q.1 n 3 = nd v n 3 := by rw [h2.2.2 n (by omega), hb]; rfl
    have hc : (tbit ol n && (decide (0 < nd q.1 n 7) && decide (nd q.1 n 6 ≤ nd q.1 n 7))) = (tbit old n && (decide (nd q.1 n 3 = 2) && (decide (0 < nd q.1 n 7) && decide (nd q.1 n 6 ≤ nd q.1 n 7)))) := by
      rw [hol n (by omega), h3, Bool.and_assoc]
    unfold outStep outT
    dsimp only
    rw [hc]
    by_cases c1 : (tbit old n && (decide (nd q.1 n 3 = 2) && (decide (0 < nd q.1 n 7) && decide (nd q.1 n 6 ≤ nd q.1 n 7)))) = true
    · rw [if_pos c1, if_pos c1]
      refine ⟨?_, setI_frz (by omega) h2⟩
      dsimp only
      rw [pc_add (by omega) h2.2.1, Int32.add_assoc, nI_1]
    · rw [if_neg c1, if_neg c1]
      exact ⟨rfl, setI_keep h2⟩
