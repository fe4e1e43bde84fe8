/-! guesses: blame, guilty -/
section PR
variable {y : ZLay} {μ : ZMem} {S S' : SV} {tp tp' : Vec} {tl tl' : Nat} {fa fa' : Int32} {kp kp' : Option SV} {ac ac' : List (Nat × Vec)}
theorem rem3n {n : Nat} (h : n ≤ 400) : zrem (nI n) 3 = nI (n % 3) := by
  have : ∀ n : Fin 401, zrem (nI n.val) 3 = nI (n.val % 3) := by decide +kernel
  exact this ⟨n, by omega⟩
theorem div3n {n : Nat} (h : n ≤ 400) : nI n / 3 = nI (n / 3) := by
  have : ∀ n : Fin 401, nI n.val / 3 = nI (n.val / 3) := by decide +kernel
  exact this ⟨n, by omega⟩
/-- the row is a judgement -/
def jrB (T : Vec) (i : Nat) : Bool := !(decide (8 ≤ T (3 * i))) && (!(decide (8 ≤ T (3 * i + 1))) && (!(decide (T (3 * i) = T (3 * i + 1))) && decide (T (3 * i + 2) ≤ 1)))
def jdB (T : Vec) (n : Nat) : Bool := (decide (n % 3 = 0) && decide (n ≤ 60)) && alB (jrB T) (n / 3)
theorem two_le_iff {x : Int32} : (2 : Int32) ≤ x ↔ ¬ x ≤ 1 := by
  rw [Int32.le_iff_toInt_le, Int32.le_iff_toInt_le, show (2 : Int32).toInt = 2 by decide, show (1 : Int32).toInt = 1 by decide]
  omega
theorem c_judg {n : Nat} {T : Vec} (hn : n ≤ 400) (ht : ∀ i, i < n → μ (0, 1, 0) i = T i) : jk (some ((-1 : Int32), μ)) (fun k5 => if 60 < nI n then k5 else if (zrem (nI n) 3) = 0 then bd (lp (σ := Int32) (fun (x7 : Int32) => if nI n ≤ (x7 + 2) then some (.inr (.inl ())) else gd (zin x7 400) (bd (α := Int32) (jk (some 0) (fun k12 => if 8 ≤ (μ (0, 1, 0) x7.toNatClampNeg) then k12 else gd (zin (x7 + 1) 400) (if 8 ≤ (μ (0, 1, 0) (x7 + 1).toNatClampNeg) then k12 else if (μ (0, 1, 0) x7.toNatClampNeg) = (μ (0, 1, 0) (x7 + 1).toNatClampNeg) then k12 else some 1))) (fun (x11 : Int32) => jk (some (.inr (.inr ((-1 : Int32), μ)))) (fun k17 => if x11 = 0 then k17 else gd (zin (x7 + 2) 400) (if (μ (0, 1, 0) (x7 + 2).toNatClampNeg) ≤ 1 then some (.inl (x7 + 3)) else k17))))) FU 0) (fun (z : Unit ⊕ (Int32 × ZMem)) => sm z (fun (_ : Unit) => some (((nI n) / 3), μ)) (fun r0 => some r0)) else k5) = some (if jdB T n = true then nI (n / 3) else -1, μ) := by
  unfold jdB
  rw [jk_s, rem3n hn, div3n hn]
  by_cases h60 : n ≤ 60
  · rw [if_neg (show ¬ (60 : Int32) < nI n from nI_nlt (a := 60) h60 (by omega)), decide_eq_true h60, Bool.and_true]
    by_cases h3 : n % 3 = 0
    · rw [if_pos (show nI (n % 3) = 0 by rw [h3]; rfl), decide_eq_true h3, Bool.true_and]
      have key : ok (lp (σ := Int32) (fun (x7 : Int32) => if nI n ≤ (x7 + 2) then some (.inr (.inl ())) else gd (zin x7 400) (bd (α := Int32) (jk (some 0) (fun k12 => if 8 ≤ (μ (0, 1, 0) x7.toNatClampNeg) then k12 else gd (zin (x7 + 1) 400) (if 8 ≤ (μ (0, 1, 0) (x7 + 1).toNatClampNeg) then k12 else if (μ (0, 1, 0) x7.toNatClampNeg) = (μ (0, 1, 0) (x7 + 1).toNatClampNeg) then k12 else some 1))) (fun (x11 : Int32) => jk (some (.inr (.inr ((-1 : Int32), μ)))) (fun k17 => if x11 = 0 then k17 else gd (zin (x7 + 2) 400) (if (μ (0, 1, 0) (x7 + 2).toNatClampNeg) ≤ 1 then some (.inl (x7 + 3)) else k17))))) FU 0) (fun (z : Unit ⊕ (Int32 × ZMem)) => (z = .inl () ∧ alB (jrB T) (n / 3) = true) ∨ (z = .inr (-1, μ) ∧ alB (jrB T) (n / 3) = false)) := by
        refine ok_early (n / 3) (fun k x => x = nI (3 * k) ∧ alB (jrB T) k = true) ?_ ?_ ⟨rfl, rfl⟩ (FU_lt (by omega))
        · rintro k x hk ⟨rfl, w⟩
          have a1 : nI (3 * k) + 1 = nI (3 * k + 1) := nI_1 _
          have a2 : nI (3 * k) + 2 = nI (3 * k + 2) := nI_add (3 * k) 2
          have a3 : nI (3 * k) + 3 = nI (3 * (k + 1)) := nI_add (3 * k) 3
          have bad : jrB T k = false → alB (jrB T) (n / 3) = false := fun hh => by
            cases b : alB (jrB T) (n / 3)
            · rfl
            · have := (alB_iff _).mp b k hk
              rw [hh] at this; cases this
          rw [a1, a2, a3, if_neg (nI_ge (by omega) (by omega)), gd_eq (zin_nI (by omega) (by omega)), jk_s, gd_eq (zin_nI (by omega) (by omega)), nI_cl (by omega), nI_cl (by omega), nI_cl (by omega), ht _ (by omega), ht _ (by omega), ht _ (by omega)]
          by_cases e1 : 8 ≤ T (3 * k)
          · rw [if_pos e1, bd_s, jk_s, if_pos rfl]
            exact ok_some (Or.inr ⟨_, rfl, Or.inr ⟨rfl, bad (by unfold jrB; rw [decide_eq_true e1]; rfl)⟩⟩)
          · rw [if_neg e1]
            by_cases e2 : 8 ≤ T (3 * k + 1)
            · rw [if_pos e2, bd_s, jk_s, if_pos rfl]
              exact ok_some (Or.inr ⟨_, rfl, Or.inr ⟨rfl, bad (by unfold jrB; rw [decide_eq_true e2, decide_eq_false e1]; rfl)⟩⟩)
            · rw [if_neg e2]
              by_cases e3 : T (3 * k) = T (3 * k + 1)
              · rw [if_pos e3, bd_s, jk_s, if_pos rfl]
                exact ok_some (Or.inr ⟨_, rfl, Or.inr ⟨rfl, bad (by unfold jrB; rw [decide_eq_true e3, decide_eq_false e2, decide_eq_false e1]; rfl)⟩⟩)
              · rw [if_neg e3, bd_s, jk_s, if_neg (show ¬ (1 : Int32) = 0 by decide), gd_eq (zin_nI (by omega) (by omega))]
                by_cases e4 : T (3 * k + 2) ≤ 1
                · rw [if_pos e4]
                  refine ok_some (Or.inl ⟨_, rfl, rfl, ?_⟩)
                  rw [alB_s, w, Bool.true_and]
                  unfold jrB
                  rw [decide_eq_false e1, decide_eq_false e2, decide_eq_false e3, decide_eq_true e4]; rfl
                · rw [if_neg e4]
                  exact ok_some (Or.inr ⟨_, rfl, Or.inr ⟨rfl, bad (by unfold jrB; rw [decide_eq_false e4, decide_eq_false e3, decide_eq_false e2, decide_eq_false e1]; rfl)⟩⟩)
        · rintro x ⟨rfl, w⟩
          rw [show nI (3 * (n / 3)) + 2 = nI (3 * (n / 3) + 2) from nI_add _ 2, if_pos (nI_le (by omega) (by omega))]
          exact ok_some ⟨_, rfl, Or.inl ⟨rfl, w⟩⟩
      obtain ⟨z, e1, e2⟩ := key
      rw [e1, bd_s]
      rcases e2 with ⟨rfl, e⟩ | ⟨rfl, e⟩
      · rw [e, if_pos rfl]; rfl
      · rw [e, if_neg (by decide)]; rfl
    · rw [if_neg (show ¬ nI (n % 3) = 0 from ne_code (a := n % 3) (b := 0) rfl (by omega) (by omega) h3), decide_eq_false h3, Bool.false_and, if_neg (by decide)]
  · rw [if_pos (show (60 : Int32) < nI n from nI_lt (a := 60) (by omega) (by omega)), decide_eq_false h60, Bool.and_false, Bool.false_and, if_neg (by decide)]
/-- how many judgements are wrong -/
def hrB (h : Nat) (a b : Int32) : Int32 := if nI h = 1 + a then 0 else if nI h = 9 + b then 0 else 1
theorem c_hr {h : Nat} {a b : Int32} : f_X2_isHeard (nI h) a b = some (hrB h a b) := by
  unfold f_X2_isHeard hrB
  rw [jk_s]
  by_cases e1 : nI h = 1 + a
  · rw [if_pos e1, if_pos e1, bd_s, gd_eq (by decide)]
  · rw [if_neg e1, if_neg e1]
    by_cases e2 : nI h = 9 + b
    · rw [if_pos e2, if_pos e2, bd_s, gd_eq (by decide)]
    · rw [if_neg e2, if_neg e2, bd_s, gd_eq (by decide)]
theorem m_hr {h : Nat} {a b : Int32} : f_X12_wouldHear (nI h) a b = some (hrB h a b) := by
  unfold f_X12_wouldHear hrB
  rw [jk_s]
  by_cases e1 : nI h = 1 + a
  · rw [if_pos e1, if_pos e1, bd_s, gd_eq (by decide)]
  · rw [if_neg e1, if_neg e1]
    by_cases e2 : nI h = 9 + b
    · rw [if_pos e2, if_pos e2, bd_s, gd_eq (by decide)]
    · rw [if_neg e2, if_neg e2, bd_s, gd_eq (by decide)]
def wrJ (T : Vec) (h : Nat) : Nat → Nat
  | 0 => 0
  | m + 1 => if hrB h (T (3 * m)) (T (3 * m + 1)) = (if T (3 * m + 2) = 1 then 1 else 0) then wrJ T h m else wrJ T h m + 1
theorem wrJ_s {T : Vec} {h m : Nat} : wrJ T h (m + 1) = if hrB h (T (3 * m)) (T (3 * m + 1)) = (if T (3 * m + 2) = 1 then 1 else 0) then wrJ T h m else wrJ T h m + 1 := rfl
theorem wrJ_le {T : Vec} {h : Nat} : ∀ m, wrJ T h m ≤ m
  | 0 => Nat.le_refl _
  | m + 1 => by
    have := wrJ_le (T := T) (h := h) m
    rw [wrJ_s]
    by_cases e : hrB h (T (3 * m)) (T (3 * m + 1)) = (if T (3 * m + 2) = 1 then 1 else 0)
    · rw [if_pos e]; omega
    · rw [if_neg e]; omega
theorem m_wrongJ {n h : Nat} {T : Vec} (hn : n ≤ 60) (h3 : n % 3 = 0) (ht : ∀ i, i < n → μ (0, 37, 0) i = T i) : f_X12_wrongBlames (nI h) (nI n) μ = some (nI (wrJ T h (n / 3))) := by
  unfold f_X12_wrongBlames
  refine (bd_eq (lp_seq (s0 := ((0 : Int32), (0 : Int32))) (n / 3) (fun m => (nI (wrJ T h m), nI (3 * m))) ?_ ?_ (FU_lt (by omega)) rfl)).trans rfl
  · intro m hm
    have a1 : nI (3 * m) + 1 = nI (3 * m + 1) := nI_1 _
    have a2 : nI (3 * m) + 2 = nI (3 * m + 2) := nI_add (3 * m) 2
    have a3 : nI (3 * m) + 3 = nI (3 * (m + 1)) := nI_add (3 * m) 3
    rw [un2_s, a1, a2, a3, if_neg (nI_ge (by omega) (by omega)), gd_eq (zin_nI (by omega) (by omega)), gd_eq (zin_nI (by omega) (by omega)), nI_cl (by omega), nI_cl (by omega), nI_cl (by omega), ht _ (by omega), ht _ (by omega), ht _ (by omega), bd_eq m_hr, gd_eq (zin_nI (by omega) (by omega)), zlt_s, zlt_s, zlt_s, wrJ_s]
    by_cases e : hrB h (T (3 * m)) (T (3 * m + 1)) = (if T (3 * m + 2) = 1 then 1 else 0)
    · rw [if_pos e, if_pos e, Int32.add_zero]
    · rw [if_neg e, if_neg e, nI_1]
  · rw [un2_s, if_pos (nI_le (by omega) (by omega))]
end PR
