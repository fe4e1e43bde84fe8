/-! guesses: the course that was read -/
section PP
variable {y : ZLay} {μ : ZMem} {S S' : SV} {tp tp' : Vec} {tl tl' : Nat} {fa fa' : Int32} {kp kp' : Option SV} {ac ac' : List (Nat × Vec)}
theorem rem2n {n : Nat} (h : n ≤ 400) : zrem (nI n) 2 = nI (n % 2) := by
  have : ∀ n : Fin 401, zrem (nI n.val) 2 = nI (n.val % 2) := by decide +kernel
  exact this ⟨n, by omega⟩
theorem div2n {n : Nat} (h : n ≤ 400) : nI n / 2 = nI (n / 2) := by
  have : ∀ n : Fin 401, nI n.val / 2 = nI (n.val / 2) := by decide +kernel
  exact this ⟨n, by omega⟩
/-- the tape holds a course -/
def crB (T : Vec) (n : Nat) : Bool := (decide (n ≤ 40) && decide (n % 2 = 0)) && alB (fun i => decide (T (2 * i) ≤ 99)) (n / 2)
theorem c_course {n : Nat} {T : Vec} (hn : n ≤ 400) (ht : ∀ i, i < n → μ (0, 1, 0) i = T i) : jk (some ((-1 : Int32), μ)) (fun k5 => if 40 < nI n then k5 else if (zrem (nI n) 2) = 0 then bd (lp (σ := Int32) (fun (x7 : Int32) => if nI n ≤ x7 then some (.inr (.inl ())) else gd (zin x7 400) (if (μ (0, 1, 0) x7.toNatClampNeg) ≤ 99 then some (.inl (x7 + 2)) else some (.inr (.inr ((-1 : Int32), μ))))) FU 0) (fun (z : Unit ⊕ (Int32 × ZMem)) => sm z (fun (_ : Unit) => some (((nI n) / 2), μ)) (fun r0 => some r0)) else k5) = some (if crB T n = true then nI (n / 2) else -1, μ) := by
  unfold crB
  rw [jk_s, rem2n hn, div2n hn]
  by_cases h40 : n ≤ 40
  · rw [if_neg (show ¬ (40 : Int32) < nI n from nI_nlt (a := 40) h40 (by omega)), decide_eq_true h40, Bool.true_and]
    by_cases h2 : n % 2 = 0
    · rw [if_pos (show nI (n % 2) = 0 by rw [h2]; rfl), decide_eq_true h2, Bool.true_and]
      have key : ok (lp (σ := Int32) (fun (x7 : Int32) => if nI n ≤ x7 then some (.inr (.inl ())) else gd (zin x7 400) (if (μ (0, 1, 0) x7.toNatClampNeg) ≤ 99 then some (.inl (x7 + 2)) else some (.inr (.inr ((-1 : Int32), μ))))) FU 0) (fun (z : Unit ⊕ (Int32 × ZMem)) => (z = .inl () ∧ alB (fun i => decide (T (2 * i) ≤ 99)) (n / 2) = true) ∨ (z = .inr (-1, μ) ∧ alB (fun i => decide (T (2 * i) ≤ 99)) (n / 2) = false)) := by
        refine ok_early (n / 2) (fun k x => x = nI (2 * k) ∧ alB (fun i => decide (T (2 * i) ≤ 99)) k = true) ?_ ?_ ⟨rfl, rfl⟩ (FU_lt (by omega))
        · rintro k x hk ⟨rfl, w⟩
          rw [if_neg (nI_ge (by omega) (by omega)), gd_eq (zin_nI (by omega) (by omega)), nI_cl (by omega), ht _ (by omega)]
          by_cases e : T (2 * k) ≤ 99
          · rw [if_pos e]
            refine ok_some (Or.inl ⟨_, rfl, by rw [show nI (2 * k) + 2 = nI (2 * k + 2) from nI_add (2 * k) 2]; rfl, ?_⟩)
            rw [alB_s, w, decide_eq_true e]; rfl
          · rw [if_neg e]
            refine ok_some (Or.inr ⟨_, rfl, Or.inr ⟨rfl, ?_⟩⟩)
            cases b : alB (fun i => decide (T (2 * i) ≤ 99)) (n / 2)
            · rfl
            · exact absurd (of_decide_eq_true ((alB_iff _).mp b k hk)) e
        · rintro x ⟨rfl, w⟩
          rw [if_pos (nI_le (by omega) (by omega))]
          exact ok_some ⟨_, rfl, Or.inl ⟨rfl, w⟩⟩
      obtain ⟨z, e1, e2⟩ := key
      rw [e1, bd_s]
      rcases e2 with ⟨rfl, e⟩ | ⟨rfl, e⟩
      · rw [e, if_pos rfl]; rfl
      · rw [e, if_neg (by decide)]; rfl
    · rw [if_neg (show ¬ nI (n % 2) = 0 from ne_code (a := n % 2) (b := 0) rfl (by omega) (by omega) h2), decide_eq_false h2, Bool.false_and, if_neg (by decide)]
  · rw [if_pos (show (40 : Int32) < nI n from nI_lt (a := 40) (by omega) (by omega)), decide_eq_false h40, Bool.false_and, Bool.false_and, if_neg (by decide)]
theorem m_course {n : Nat} {T : Vec} (hn : n ≤ 400) (h8 : μ (0, 32, 0) 8 = nI n) (ht : ∀ i, i < n → μ (0, 37, 0) i = T i) : f_X12_readMany μ = some (nI n, mset (mset μ MO0 8 0) MO0 0 (if crB T n = true then 0 else 1)) := by
  unfold f_X12_readMany crB
  obtain ⟨g, hg⟩ : ∃ g : Bool, g = (decide (n ≤ 40) && decide (n % 2 = 0)) := ⟨_, rfl⟩
  have e4 : (jk (some (0 : Int32)) (fun k5 => if nI (n % 2) = 0 then if 40 < nI n then k5 else some 1 else k5)) = some (b2i g) := by
    rw [jk_s, hg]
    by_cases h2 : n % 2 = 0
    · rw [if_pos (show nI (n % 2) = 0 by rw [h2]; rfl), decide_eq_true h2, Bool.and_true]
      by_cases h40 : n ≤ 40
      · rw [if_neg (show ¬ (40 : Int32) < nI n from nI_nlt (a := 40) h40 (by omega)), decide_eq_true h40]; rfl
      · rw [if_pos (show (40 : Int32) < nI n from nI_lt (a := 40) (by omega) (by omega)), decide_eq_false h40]; rfl
    · rw [if_neg (show ¬ nI (n % 2) = 0 from ne_code (a := n % 2) (b := 0) rfl (by omega) (by omega) h2), decide_eq_false h2, Bool.and_false]; rfl
  rw [zlt_s, h8, zlt_s, rem2n hn, e4, bd_s, ← hg]
  have key : ok (lp (σ := Int32 × Int32) (fun q => un2 q (fun (x7 : Int32) (x8 : Int32) => if nI n ≤ x8 then some (.inr x7) else if x7 = 0 then some (.inr x7) else gd (zin x8 400) (zlt (α := Int32) (if 100 ≤ ((mset μ (0, 32, 0) 8 0) (0, 37, 0) x8.toNatClampNeg) then 0 else 1) (fun (x14 : Int32) => some (.inl (x14, (x8 + 2))))))) FU (b2i g, 0)) (fun r => r = b2i (g && alB (fun i => decide (T (2 * i) ≤ 99)) (n / 2))) := by
    refine ok_lp (fun m s => ∃ k, m + k = n / 2 + 1 ∧ k ≤ n / 2 + 1 ∧ s = (b2i (g && alB (fun i => decide (T (2 * i) ≤ 99)) (min k (n / 2))), nI (2 * k)) ∧ (k = n / 2 + 1 → n % 2 = 1)) ?_ (N := n / 2 + 1) ⟨0, by omega, by omega, by rw [show min 0 (n / 2) = 0 by omega, show alB (fun i => decide (T (2 * i) ≤ 99)) 0 = true from rfl, Bool.and_true]; rfl, by omega⟩ (FU_lt (by omega))
    rintro m ⟨x7, x8⟩ ⟨k, hk, hk2, hs, hk3⟩
    obtain ⟨rfl, rfl⟩ := Prod.mk.injEq .. ▸ hs
    rw [un2_s]
    by_cases e1 : n ≤ 2 * k
    · rw [if_pos (nI_le e1 (by omega))]
      refine ok_some ?_
      show _ = _
      rw [show min k (n / 2) = n / 2 by omega]
    · rw [if_neg (nI_ge (by omega) (by omega))]
      cases b : (g && alB (fun i => decide (T (2 * i) ≤ 99)) (min k (n / 2)))
      · rw [if_pos b2i_f]
        refine ok_some ?_
        show _ = _
        congr 1
        cases b2 : (g && alB (fun i => decide (T (2 * i) ≤ 99)) (n / 2))
        · rfl
        · rw [Bool.and_eq_true] at b2
          rw [b2.1, Bool.true_and] at b
          have := (alB_iff (min k (n / 2))).mpr fun i hi => (alB_iff _).mp b2.2 i (by omega)
          rw [b] at this; cases this
      · rw [if_neg b2i_t, gd_eq (zin_nI (by omega) (by omega)), nI_cl (by omega), mset_ne (by decide), ht _ (by omega), zlt_s]
        rw [Bool.and_eq_true] at b
        obtain ⟨b1, b2⟩ := b
        have hg2 : n % 2 = 0 := by
          have := b1
          rw [hg, Bool.and_eq_true] at this
          exact of_decide_eq_true this.2
        rw [show min k (n / 2) = k by omega] at b2
        have e2 : (if 100 ≤ T (2 * k) then (0 : Int32) else 1) = b2i (g && alB (fun i => decide (T (2 * i) ≤ 99)) (min (k + 1) (n / 2))) := by
          rw [show min (k + 1) (n / 2) = k + 1 by omega, alB_s, b1, b2, Bool.true_and, Bool.true_and]
          have e99 : (99 : Int32).toInt = 99 := by decide
          have e100 : (100 : Int32).toInt = 100 := by decide
          by_cases e : T (2 * k) ≤ 99
          · rw [if_neg, decide_eq_true e]
            · rfl
            · rw [Int32.le_iff_toInt_le, e100]
              rw [Int32.le_iff_toInt_le, e99] at e
              omega
          · rw [if_pos, decide_eq_false e]
            · rfl
            · rw [Int32.le_iff_toInt_le, e100]
              rw [Int32.le_iff_toInt_le, e99] at e
              omega
        rw [e2]
        exact ok_some ⟨m - 1, by omega, k + 1, by omega, by omega, by rw [show nI (2 * k) + 2 = nI (2 * k + 2) from nI_add (2 * k) 2]; rfl, by omega⟩
  obtain ⟨r, e1, e2⟩ := key
  rw [e1, bd_s, e2, zlt_s, zlt_s]
  cases (g && alB (fun i => decide (T (2 * i) ≤ 99)) (n / 2)) <;> rfl
/-- how many rows of a course are wrong -/
def wrC (T : Vec) (h : Nat) : Nat → Nat
  | 0 => 0
  | m + 1 => if f_X12_clockOf (nI h) (T (2 * m)) = T (2 * m + 1) - 128 then wrC T h m else wrC T h m + 1
theorem wrC_s {T : Vec} {h m : Nat} : wrC T h (m + 1) = if f_X12_clockOf (nI h) (T (2 * m)) = T (2 * m + 1) - 128 then wrC T h m else wrC T h m + 1 := rfl
theorem wrC_le {T : Vec} {h : Nat} : ∀ m, wrC T h m ≤ m
  | 0 => Nat.le_refl _
  | m + 1 => by
    have := wrC_le (T := T) (h := h) m
    rw [wrC_s]
    split <;> omega
theorem clk_eq (a b : Int32) : f_X2_clockOf a b = f_X12_clockOf a b := by
  unfold f_X2_clockOf f_X12_clockOf
  rw [Int32.mul_comm]
theorem m_wrongR {n h : Nat} {T : Vec} (hn : n ≤ 40) (h2 : n % 2 = 0) (ht : ∀ i, i < n → μ (0, 37, 0) i = T i) : f_X12_wrongReads (nI h) (nI n) μ = some (nI (wrC T h (n / 2))) := by
  unfold f_X12_wrongReads
  refine (bd_eq (lp_seq (s0 := ((0 : Int32), (0 : Int32))) (n / 2) (fun m => (nI (wrC T h m), nI (2 * m))) ?_ ?_ (FU_lt (by omega)) rfl)).trans rfl
  · intro m hm
    rw [un2_s, if_neg (nI_ge (by omega) (by omega)), gd_eq (zin_nI (by omega) (by omega)), show nI (2 * m) + 1 = nI (2 * m + 1) from nI_1 _, gd_eq (zin_nI (by omega) (by omega)), nI_cl (by omega), nI_cl (by omega), ht _ (by omega), ht _ (by omega), zlt_s, zlt_s, wrC_s, show nI (2 * m) + 2 = nI (2 * (m + 1)) from nI_add (2 * m) 2]
    by_cases e : f_X12_clockOf (nI h) (T (2 * m)) = T (2 * m + 1) - 128
    · rw [if_pos e, if_pos e, Int32.add_zero]
    · rw [if_neg e, if_neg e, nI_1]
  · rw [un2_s, if_pos (nI_le (by omega) (by omega))]
def gsP (o : ZId) (i : Nat) : Prop := (o = (0, 17, 0) ∧ i = 2) ∨ o = (0, 18, 0)
theorem gs_sc {o : ZId} {i : Nat} (h : gsP o i) : scP o i := by
  rcases h with ⟨rfl, -⟩ | rfl <;> exact Or.inl ⟨rfl, by decide, by decide, rfl⟩
end PP
