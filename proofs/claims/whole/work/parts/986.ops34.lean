/-! guesses: when -/
def whO (w : Nat → Nat) : Nat → Option (Nat × Int32)
  | 0 => none
  | r + 1 => match whO w r with
    | none => some (r, nI (gpT w r 1539).2)
    | some (j, x) => if x ≤ nI (gpT w r 1539).2 then some (j, x) else some (r, nI (gpT w r 1539).2)
theorem whO_s {w : Nat → Nat} {r : Nat} : whO w (r + 1) = match whO w r with
    | none => some (r, nI (gpT w r 1539).2)
    | some (j, x) => if x ≤ nI (gpT w r 1539).2 then some (j, x) else some (r, nI (gpT w r 1539).2) := rfl
theorem whO_lt {w : Nat → Nat} : ∀ i j x, whO w i = some (j, x) → j < i
  | 0, j, x, h => by cases h
  | i + 1, j, x, h => by
    have ih := whO_lt (w := w) i
    rw [whO_s] at h
    cases ho : whO w i with
    | none => rw [ho] at h; cases h; omega
    | some q =>
      obtain ⟨j', x'⟩ := q
      rw [ho] at h
      dsimp only at h
      have := ih j' x' ho
      split at h <;> (cases h; omega)
section PW
variable {y : ZLay} {μ : ZMem} {S S' : SV} {tp tp' : Vec} {tl tl' : Nat} {fa fa' : Int32} {kp kp' : Option SV} {ac ac' : List (Nat × Vec)}
theorem c_best {w : Nat → Nat} (hw : ∀ h, w h ≤ 100) (h : gsI w 1539 μ) : ok (f_X2_bestRound μ) (fun q => q.1 = (if 2 ≤ fitN w 1539 then prI (whO w 10) else -1) ∧ fr (oP (0, 19, 0)) μ q.2) := by
  have hf := fitN_le (w := w) 1539
  have ng : ∀ {μ1 : ZMem}, fr (oP (0, 19, 0)) μ μ1 → gsI w 1539 μ1 := fun f => ⟨by rw [f.1 _ _ (show ¬ ((0, 17, 0) : ZId) = (0, 19, 0) by decide)]; exact h.1, fun i hi => by rw [f.1 _ _ (show ¬ ((0, 18, 0) : ZId) = (0, 19, 0) by decide)]; exact h.2 i hi⟩
  unfold f_X2_bestRound
  rw [bd_eq (c_fits (by omega) hw h)]
  by_cases h2 : 2 ≤ fitN w 1539
  · rw [if_pos (show (2 : Int32) ≤ nI (fitN w 1539) from nI_le (a := 2) h2 (by omega)), if_pos h2]
    refine ok_b2i (ok_seq 10 (fun r s => s.1 = prI (whO w r) ∧ s.2.1 = prX 0 (whO w r) ∧ s.2.2.1 = nI r ∧ fr (oP (0, 19, 0)) μ s.2.2.2) ?_ ?_ ⟨rfl, rfl, rfl, fr_refl⟩ (FU_lt (by omega)))
    · rintro r ⟨x4, x5, x6, μ1⟩ hr ⟨u1, u2, u3, u4⟩
      dsimp only at u1 u2 u3 u4
      subst u1 u2 u3
      rw [un4_s, if_neg (show ¬ (9 : Int32) < nI r from nI_nlt (a := 9) (by omega) (by omega))]
      refine ok_b2 (c_great hr hw (ng u4)) ?_
      rintro x μ2 ⟨p1, p2⟩
      dsimp only at p1 p2
      subst p1
      rw [jk_s, nI_1]
      cases hO : whO w r with
      | none =>
        rw [if_pos (show prI none = -1 from rfl), bd2_s]
        exact ok_some ⟨_, rfl, by dsimp only; rw [whO_s, hO]; rfl, by dsimp only; rw [whO_s, hO]; rfl, rfl, fr_trans u4 p2⟩
      | some q =>
        obtain ⟨j, x⟩ := q
        have hj := whO_lt r j x hO
        rw [if_neg (show ¬ prI (some (j, x)) = -1 from nI_ne1 (by omega)), show prX 0 (some (j, x)) = x from rfl]
        by_cases c : x ≤ nI (gpT w r 1539).2
        · rw [if_pos c, bd2_s]
          exact ok_some ⟨_, rfl, by dsimp only; rw [whO_s, hO]; dsimp only; rw [if_pos c], by dsimp only; rw [whO_s, hO]; dsimp only; rw [if_pos c]; rfl, rfl, fr_trans u4 p2⟩
        · rw [if_neg c, bd2_s]
          exact ok_some ⟨_, rfl, by dsimp only; rw [whO_s, hO]; dsimp only; rw [if_neg c]; rfl, by dsimp only; rw [whO_s, hO]; dsimp only; rw [if_neg c]; rfl, rfl, fr_trans u4 p2⟩
    · rintro ⟨x4, x5, x6, μ1⟩ ⟨u1, u2, u3, u4⟩
      dsimp only at u1 u2 u3 u4
      subst u3
      rw [un4_s, if_pos (by decide)]
      exact ok_some ⟨_, rfl, u1, u4⟩
  · rw [if_neg (show ¬ (2 : Int32) ≤ nI (fitN w 1539) from nI_ge (b := 2) (by omega) (by omega)), if_neg h2]
    exact ok_some ⟨rfl, fr_refl⟩
end PW
