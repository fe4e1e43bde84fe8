/-! guesses: probe -/
def heaN (w : Nat → Nat) (a b : Int32) : Nat → Nat
  | 0 => 0
  | h + 1 => if w h ≤ 1 then (if hrB h a b = 0 then heaN w a b h else heaN w a b h + 1) else heaN w a b h
theorem heaN_s {w : Nat → Nat} {a b : Int32} {h : Nat} : heaN w a b (h + 1) = if w h ≤ 1 then (if hrB h a b = 0 then heaN w a b h else heaN w a b h + 1) else heaN w a b h := rfl
theorem heaN_le {w : Nat → Nat} {a b : Int32} : ∀ h, heaN w a b h ≤ h
  | 0 => Nat.le_refl _
  | h + 1 => by
    have := heaN_le (w := w) (a := a) (b := b) h
    rw [heaN_s]
    split
    · split <;> omega
    · omega
theorem fitN_le {w : Nat → Nat} : ∀ h, fitN w h ≤ h
  | 0 => Nat.le_refl _
  | h + 1 => by
    have := fitN_le (w := w) h
    rw [fitN_s]
    split <;> omega
section PU
variable {y : ZLay} {μ : ZMem} {S S' : SV} {tp tp' : Vec} {tl tl' : Nat} {fa fa' : Int32} {kp kp' : Option SV} {ac ac' : List (Nat × Vec)}
theorem c_hea {w : Nat → Nat} {a b : Int32} (hw : ∀ h, w h ≤ 100) (h : gsI w 17 μ) : f_X2_countHearing a b μ = some (nI (heaN w a b 17)) := by
  unfold f_X2_countHearing
  rw [h.1]
  refine (bd_eq (lp_seq (s0 := ((0 : Int32), (0 : Int32))) 17 (fun k => (nI (heaN w a b k), nI k)) ?_ ?_ (FU_lt (by omega)) rfl)).trans rfl
  · intro k hk
    have := hw k
    rw [un2_s, if_neg (nI_ge hk (by omega)), gd_eq (zin_nI (by omega) (by omega)), nI_cl (by omega), h.2 k hk, jk_s, bd_eq c_hr, heaN_s, nI_1 k]
    by_cases e : w k ≤ 1
    · rw [if_neg (show ¬ (1 : Int32) < nI (w k) from nI_nlt (a := 1) e (by omega)), if_pos e]
      by_cases z : hrB k a b = 0
      · rw [if_pos z, if_pos z, bd_s, zlt_s, Int32.add_zero]
      · rw [if_neg z, if_neg z, bd_s, zlt_s, nI_1]
    · rw [if_pos (show (1 : Int32) < nI (w k) from nI_lt (a := 1) (by omega) (by omega)), if_neg e, bd_s, zlt_s, Int32.add_zero]
  · rw [un2_s, if_pos (nI_le (Nat.le_refl _) (by omega))]
def prV (w : Nat → Nat) (i : Nat) : Int32 := f_X12_greater (nI (heaN w (nI (i / 8)) (nI (i % 8)) 17)) (nI (fitN w 17) - nI (heaN w (nI (i / 8)) (nI (i % 8)) 17))
def prO (w : Nat → Nat) : Nat → Option (Nat × Int32)
  | 0 => none
  | i + 1 => if i / 8 = i % 8 then prO w i else match prO w i with
    | none => some (i, prV w i)
    | some (j, x) => if x ≤ prV w i then some (j, x) else some (i, prV w i)
theorem prO_s {w : Nat → Nat} {i : Nat} : prO w (i + 1) = if i / 8 = i % 8 then prO w i else match prO w i with
    | none => some (i, prV w i)
    | some (j, x) => if x ≤ prV w i then some (j, x) else some (i, prV w i) := rfl
def prI : Option (Nat × Int32) → Int32
  | none => -1
  | some (j, _) => nI j
def prX (d : Int32) : Option (Nat × Int32) → Int32
  | none => d
  | some (_, x) => x
theorem prV_lt {w : Nat → Nat} {i : Nat} : prV w i < 2000000000 := by
  have h1 := heaN_le (w := w) (a := nI (i / 8)) (b := nI (i % 8)) 17
  have h2 := fitN_le (w := w) 17
  unfold prV
  rw [greater_eq]
  have e2 : (2000000000 : Int32).toInt = 2000000000 := by decide
  split
  · rw [Int32.lt_iff_toInt_lt, nI_toInt (by omega), e2]; omega
  · have r1 : rng (nI (fitN w 17)) 0 17 := ⟨by rw [nI_toInt (by omega)]; omega, by rw [nI_toInt (by omega)]; omega⟩
    have r2 : rng (nI (heaN w (nI (i / 8)) (nI (i % 8)) 17)) 0 17 := ⟨by rw [nI_toInt (by omega)]; omega, by rw [nI_toInt (by omega)]; omega⟩
    have := (rng_sub r1 r2 (by omega) (by omega)).2
    rw [Int32.lt_iff_toInt_lt, e2]; omega
theorem i64 {i : Nat} (h : i < 64) : nI i / 8 = nI (i / 8) ∧ zrem (nI i) 8 = nI (i % 8) := by
  have : ∀ i : Fin 64, nI i.val / 8 = nI (i.val / 8) ∧ zrem (nI i.val) 8 = nI (i.val % 8) := by decide +kernel
  exact this ⟨i, h⟩
theorem prO_lt {w : Nat → Nat} : ∀ i j x, prO w i = some (j, x) → j < i
  | 0, j, x, h => by cases h
  | i + 1, j, x, h => by
    have ih := prO_lt (w := w) i
    rw [prO_s] at h
    by_cases e : i / 8 = i % 8
    · rw [if_pos e] at h
      have := ih j x h; omega
    · rw [if_neg e] at h
      cases ho : prO w i with
      | none => rw [ho] at h; cases h; omega
      | some q =>
        obtain ⟨j', x'⟩ := q
        rw [ho] at h
        dsimp only at h
        have := ih j' x' ho
        split at h <;> (cases h; omega)
theorem OP_probe : OPx y cm1 (f_X11_probe y) f_X12_probe := by
  rintro μ ⟨S, tp, tl, fa, kp, ac, hc, hm, ho⟩
  obtain ⟨w, hw⟩ : ∃ w : Nat → Nat, w = fun h => wrJ tp h (tl / 3) := ⟨_, rfl⟩
  have hfit := fitN_le (w := w) 17
  refine op_j (A := if 2 ≤ fitN w 17 then prI (prO w 64) else -1) hc hm ho (by unfold f_X11_probe; rfl) (fun μ1 => by unfold f_X12_probe; rfl) ?_ ?_
  · intro hb μ1 g1
    have hw100 : ∀ h, w h ≤ 100 := by rw [hw]; exact wrJ100 (jd60 hb)
    rw [← hw] at g1
    have e0 : f_X2_bestPair μ1 = some (if 2 ≤ fitN w 17 then prI (prO w 64) else -1) := by
      unfold f_X2_bestPair
      rw [bd_eq (c_fits (by omega) hw100 g1)]
      by_cases h2 : 2 ≤ fitN w 17
      · rw [if_pos (show (2 : Int32) ≤ nI (fitN w 17) from nI_le (a := 2) h2 (by omega)), if_pos h2]
        refine (bd_eq (lp_seq (s0 := ((-1 : Int32), (0 : Int32), (0 : Int32))) 64 (fun i => (prI (prO w i), prX 0 (prO w i), nI i)) ?_ ?_ (FU_lt (by omega)) rfl)).trans rfl
        · intro i hi
          rw [un3_s, if_neg (show ¬ (64 : Int32) ≤ nI i from nI_ge (b := 64) hi (by omega)), (i64 hi).1, (i64 hi).2, zlt_s, zlt_s, bd_eq (c_hea hw100 g1), zmax_eq, zlt_s, jk_s, nI_1, prO_s]
          rw [show f_X12_greater (nI (heaN w (nI (i / 8)) (nI (i % 8)) 17)) (nI (fitN w 17) - nI (heaN w (nI (i / 8)) (nI (i % 8)) 17)) = prV w i from rfl]
          by_cases e : i / 8 = i % 8
          · rw [if_pos (show nI (i / 8) = nI (i % 8) by rw [e]), if_pos e]; rfl
          · rw [if_neg (fun q => e ((nI_inj' (by omega) (by omega)).mp q)), if_neg e]
            cases hO : prO w i with
            | none => rfl
            | some q =>
              obtain ⟨j, x⟩ := q
              have hj := prO_lt i j x hO
              rw [if_neg (show ¬ prI (some (j, x)) = -1 from nI_ne1 (by omega))]
              dsimp only
              rw [show prX 0 (some (j, x)) = x from rfl]
              by_cases c : x ≤ prV w i
              · rw [if_pos c, if_pos c]; rfl
              · rw [if_neg c, if_neg c]; rfl
        · rw [un3_s, if_pos (by decide)]
      · rw [if_neg (show ¬ (2 : Int32) ≤ nI (fitN w 17) from nI_ge (b := 2) (by omega) (by omega)), if_neg h2]
    rw [bd_eq e0]
  · intro hb h60 h3 μ1 t1
    have hw100 : ∀ h, w h ≤ 100 := by rw [hw]; exact wrJ100 (jd60 hb)
    have ewr : ∀ k, f_X12_wrongBlames (nI k) (nI tl) μ1 = some (nI (w k)) := fun k => by rw [m_wrongJ h60 h3 t1, hw]
    refine (bd_eq (lp_seq (s0 := ((-1 : Int32), (2000000000 : Int32), (0 : Int32))) (r := if 2 ≤ fitN w 17 then prI (prO w 64) else -1) 64 (fun i => (if 2 ≤ fitN w 17 then prI (prO w i) else -1, if 2 ≤ fitN w 17 then prX 2000000000 (prO w i) else 2000000000, nI i)) ?_ ?_ (FU_lt (by omega)) ?_)).trans rfl
    · intro i hi
      rw [un3_s, if_neg (show ¬ (64 : Int32) ≤ nI i from nI_ge (b := 64) hi (by omega)), (i64 hi).1, (i64 hi).2, nI_1, prO_s]
      by_cases e : i / 8 = i % 8
      · rw [if_pos (show nI (i / 8) = nI (i % 8) by rw [e]), if_pos e, bd2_s]
      · rw [if_neg (fun q => e ((nI_inj' (by omega) (by omega)).mp q)), if_neg e]
        rw [bd2_eq (lp_seq (s0 := ((0 : Int32), (0 : Int32), (0 : Int32))) (r := (nI (fitN w 17), nI (heaN w (nI (i / 8)) (nI (i % 8)) 17))) 17 (fun k => (nI (fitN w k), nI (heaN w (nI (i / 8)) (nI (i % 8)) k), nI k)) ?_ ?_ (FU_lt (by omega)) rfl), zlt_s]
        · rw [show f_X12_greater (nI (heaN w (nI (i / 8)) (nI (i % 8)) 17)) (nI (fitN w 17) - nI (heaN w (nI (i / 8)) (nI (i % 8)) 17)) = prV w i from rfl]
          by_cases h2 : 2 ≤ fitN w 17
          · rw [if_neg (show ¬ nI (fitN w 17) < (2 : Int32) from nI_nlt (b := 2) h2 (by omega)), if_pos h2, if_pos h2, if_pos h2, if_pos h2]
            cases hO : prO w i with
            | none =>
              rw [show prX 2000000000 (none : Option (Nat × Int32)) = 2000000000 from rfl, if_pos prV_lt]; rfl
            | some q =>
              obtain ⟨j, x⟩ := q
              dsimp only
              rw [show prX 2000000000 (some (j, x)) = x from rfl]
              by_cases c : x ≤ prV w i
              · rw [if_neg (Int32.not_lt.mpr c), if_pos c]; rfl
              · rw [if_pos (Int32.not_le.mp c), if_neg c]; rfl
          · rw [if_pos (show nI (fitN w 17) < (2 : Int32) from nI_lt (b := 2) (by omega) (by omega)), if_neg h2, if_neg h2, if_neg h2, if_neg h2, bd2_s]
        · intro k hk
          have h100 := hw100 k
          rw [un3_s, if_neg (show ¬ (17 : Int32) ≤ nI k from nI_ge (b := 17) hk (by omega)), bd_eq (ewr k), bd_eq m_hr, zlt_s, zlt_s, fitN_s, heaN_s, nI_1 k]
          by_cases c : w k ≤ 1
          · rw [if_pos (show nI (w k) ≤ (1 : Int32) from nI_le (b := 1) c (by omega)), if_neg (show ¬ 2 ≤ w k by omega), if_pos c, bd2_s, nI_1]
            by_cases z : hrB k (nI (i / 8)) (nI (i % 8)) = 0
            · rw [if_pos z, if_pos z, Int32.add_zero]
            · rw [if_neg z, if_neg z, nI_1]
          · rw [if_neg (show ¬ nI (w k) ≤ (1 : Int32) from nI_ge (a := 1) (by omega) (by omega)), if_pos (show 2 ≤ w k by omega), if_neg c, bd2_s]
        · rw [un3_s, if_pos (by decide)]
    · rw [un3_s, if_pos (by decide)]
    · by_cases h2 : 2 ≤ fitN w 17
      · rw [if_pos h2, if_pos h2]; rfl
      · rw [if_neg h2, if_neg h2]; rfl
end PU
