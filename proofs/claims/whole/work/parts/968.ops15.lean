/-! acts on both sides: agreed, mid; the draft: settles, widest, leads -/
def alB (p : Nat → Bool) : Nat → Bool
  | 0 => true
  | n + 1 => alB p n && p n
theorem alB_s {p : Nat → Bool} {n : Nat} : alB p (n + 1) = (alB p n && p n) := rfl
theorem alB_iff {p : Nat → Bool} : ∀ n, alB p n = true ↔ ∀ k, k < n → p k = true
  | 0 => ⟨fun _ k hk => absurd hk (by omega), fun _ => rfl⟩
  | n + 1 => by
    rw [alB_s, Bool.and_eq_true, alB_iff n]
    constructor
    · rintro ⟨h1, h2⟩ k hk
      by_cases e : k = n
      · rw [e]; exact h2
      · exact h1 k (by omega)
    · intro h
      exact ⟨fun k hk => h k (by omega), h n (by omega)⟩
def agB (v : Vec) (k j : Nat) : Bool := !(decide (nd v k 3 = 2) && decide (nd v j 3 = 2)) || decide (nd v k 5 = nd v j 5)
def agS (v : Vec) (c : Nat) : Bool := alB (fun k => alB (agB v k) k) c
section PE
variable {y : ZLay} {μ : ZMem} {S S' : SV} {tp tp' : Vec} {tl tl' : Nat} {fa fa' : Int32} {kp kp' : Option SV} {ac ac' : List (Nat × Vec)}
theorem agB_t {v : Vec} {k j : Nat} : agB v k j = true ↔ (nd v k 3 = 2 → nd v j 3 = 2 → nd v k 5 = nd v j 5) := by
  unfold agB
  by_cases a : nd v k 3 = 2 <;> by_cases b : nd v j 3 = 2 <;> simp [a, b]
theorem c_agreed {c : Nat} {v : Vec} (h : CS μ 0 c v) (hw : ∀ k, k < 8 → isS (nd v k 5)) : ok (f_X11_agreed μ) (fun r => r = b2i (agS v c)) := by
  have h8 := h.1
  unfold f_X11_agreed
  have ne1 : ∀ k, k < 8 → ¬ nd v k 5 = -1 := fun k hk e => by
    obtain ⟨n, hn, e2⟩ := hw k hk
    rw [e] at e2
    have := congrArg Int32.toInt e2
    rw [nI_toInt (by omega)] at this
    have e3 : (-1 : Int32).toInt = -1 := by decide
    omega
  refine ok_b1 (P := fun z => (z = .inl () ∧ agS v c = true) ∨ (z = .inr 0 ∧ agS v c = false)) (ok_early c (fun k s => s.2 = nI k ∧ agS v k = true ∧ ((s.1 = -1 ∧ ∀ j, j < k → ¬ nd v j 3 = 2) ∨ (∃ i, i < k ∧ nd v i 3 = 2 ∧ s.1 = nd v i 5) ∧ ∀ j, j < k → nd v j 3 = 2 → nd v j 5 = s.1)) ?_ ?_ ⟨rfl, rfl, Or.inl ⟨rfl, fun j hj => absurd hj (by omega)⟩⟩ (FU_lt (by omega))) ?_
  · rintro k ⟨x1, x2⟩ hk ⟨w1, w2, w3⟩
    dsimp only at w1 w2 w3
    subst w1
    rw [un2_s, CS_c h, if_neg (nI_ge hk (by omega)), gd_eq (zin_nI (by omega) (by omega)), jk_s, jk_s, nI_cl (by omega), CS_nd h hk (by omega), CS_nd h hk (by omega)]
    have step : (∀ j, j < k → nd v k 3 = 2 → nd v j 3 = 2 → nd v k 5 = nd v j 5) → agS v (k + 1) = true := fun hh => by
      unfold agS
      rw [alB_s, Bool.and_eq_true]
      exact ⟨w2, (alB_iff k).mpr fun j hj => agB_t.mpr (hh j hj)⟩
    by_cases a : nd v k 3 = 2
    · rw [if_pos a, zlt_s]
      rcases w3 with ⟨rfl, w3⟩ | ⟨⟨i, hi, ai, e1⟩, w3⟩
      · rw [if_pos rfl]
        refine ok_some (Or.inl ⟨_, rfl, nI_1 k, step (fun j hj _ aj => absurd aj (w3 j hj)), Or.inr ⟨⟨k, by omega, a, rfl⟩, fun j hj aj => ?_⟩⟩)
        by_cases e : j = k
        · rw [e]
        · exact absurd aj (w3 j (by omega))
      · rw [if_neg (by rw [e1]; exact ne1 i (by omega))]
        by_cases e : x1 = nd v k 5
        · rw [if_pos e]
          refine ok_some (Or.inl ⟨_, rfl, nI_1 k, step (fun j hj _ aj => by rw [w3 j hj aj, e]), Or.inr ⟨⟨k, by omega, a, rfl⟩, fun j hj aj => ?_⟩⟩)
          dsimp only
          by_cases e2 : j = k
          · rw [e2]
          · rw [w3 j (by omega) aj, e]
        · rw [if_neg e]
          refine ok_some (Or.inr ⟨_, rfl, Or.inr ⟨rfl, ?_⟩⟩)
          cases b : agS v c
          · rfl
          · have := (alB_iff k).mp ((alB_iff c).mp b k hk) i hi
            exact absurd (e1.trans (agB_t.mp this a ai).symm) e
    · rw [if_neg a]
      refine ok_some (Or.inl ⟨_, rfl, nI_1 k, step (fun j hj ak => absurd ak a), ?_⟩)
      rcases w3 with ⟨e1, w3⟩ | ⟨⟨i, hi, ai, e1⟩, w3⟩
      · refine Or.inl ⟨e1, fun j hj => ?_⟩
        by_cases e2 : j = k
        · rw [e2]; exact a
        · exact w3 j (by omega)
      · refine Or.inr ⟨⟨i, by omega, ai, e1⟩, fun j hj aj => ?_⟩
        by_cases e2 : j = k
        · rw [e2] at aj; exact absurd aj a
        · exact w3 j (by omega) aj
  · rintro ⟨x1, x2⟩ ⟨w1, w2, w3⟩
    dsimp only at w1 w2 w3
    subst w1
    rw [un2_s, CS_c h, if_pos (nI_le (Nat.le_refl _) (by omega))]
    exact ok_some ⟨_, rfl, Or.inl ⟨rfl, w2⟩⟩
  · rintro z (⟨rfl, e⟩ | ⟨rfl, e⟩)
    · rw [e]; exact ok_some rfl
    · rw [e]; exact ok_some rfl
theorem m_agreed {c : Nat} {v : Vec} (hv : μ MV0 = v) (h3 : v 3 = nI c) (h8 : c ≤ 8) : (lp (σ := Int32 × Int32) (fun q => un2 q (fun (x2 : Int32) (x3 : Int32) => if (μ (0, 33, 0) 3) ≤ x3 then some (.inr x2) else bd (lp (σ := Int32 × Int32) (fun q => un2 q (fun (x6 : Int32) (x7 : Int32) => if x3 ≤ x7 then some (.inr x6) else bd (α := Int32) (jk (some 0) (fun k12 => if x6 = 0 then k12 else bd (f_X12_isActive x3 μ) (fun (x14 : Int32) => jk (some 1) (fun k16 => if x14 = 0 then k16 else bd (f_X12_isActive x7 μ) (fun (x18 : Int32) => if x18 = 0 then k16 else bd (f_X12_of x3 5 μ) (fun (x21 : Int32) => bd (f_X12_of x7 5 μ) (fun (x23 : Int32) => if x21 = x23 then k16 else k12))))))) (fun (x11 : Int32) => some (.inl (x11, (x7 + 1)))))) FU (x2, 0)) (fun (x8 : Int32) => some (.inl (x8, (x3 + 1)))))) FU (1, 0)) = some (b2i (agS v c)) := by
  have e3 : μ (0, 33, 0) 3 = nI c := by rw [show μ (0, 33, 0) = v from hv]; exact h3
  rw [e3]
  refine lp_seq c (fun k => (b2i (agS v k), nI k)) ?_ ?_ (FU_lt (by omega)) rfl
  · intro k hk
    rw [un2_s, if_neg (nI_ge hk (by omega))]
    rw [bd_eq (lp_seq (r := b2i (agS v (k + 1))) k (fun j => (b2i (agS v k && alB (agB v k) j), nI j)) ?_ ?_ (FU_lt (by omega)) ?_), nI_1]
    · intro j hj
      rw [un2_s, if_neg (nI_ge hj (by omega)), jk_s, alB_s, ← Bool.and_assoc, nI_1]
      cases b : (agS v k && alB (agB v k) j)
      · rw [if_pos b2i_f, bd_s, Bool.false_and]; rfl
      · rw [if_neg b2i_t, Bool.true_and, bd_eq (isActive_eq (by omega)), jk_s, bd_eq (isActive_eq (by omega)), hv, bd_eq (show f_X12_of (nI k) 5 μ = some (nd v k 5) from ofV (w := 5) hv rfl (by omega) (by omega)), bd_eq (show f_X12_of (nI j) 5 μ = some (nd v j 5) from ofV (w := 5) hv rfl (by omega) (by omega))]
        unfold agB
        by_cases a1 : nd v k 3 = 2
        · rw [decide_eq_true a1, if_neg b2i_t]
          by_cases a2 : nd v j 3 = 2
          · rw [decide_eq_true a2, if_neg b2i_t]
            by_cases a3 : nd v k 5 = nd v j 5
            · rw [if_pos a3, decide_eq_true a3]; rfl
            · rw [if_neg a3, decide_eq_false a3]; rfl
          · rw [decide_eq_false a2, if_pos b2i_f]; rfl
        · rw [decide_eq_false a1, if_pos b2i_f]; rfl
    · rw [un2_s, if_pos (nI_le (Nat.le_refl _) (by omega))]; rfl
    · show (b2i (agS v k && true), _) = _
      rw [Bool.and_true]; rfl
  · rw [un2_s, if_pos (nI_le (Nat.le_refl _) (by omega))]
theorem OP_agreed : OPr y f_X11_agreed f_X12_agreed := by
  rintro μ ⟨S, tp, tl, fa, kp, ac, hc, hm, ho⟩
  have h1 : f_X11_agreed μ = some (b2i (agS S.2.1 S.1)) := by
    obtain ⟨r, e1, e2⟩ := c_agreed hc.1.1 ho.1.1.1.2.2
    rw [e1, e2]
  refine op_r hc ho h1 ?_
  unfold f_X12_agreed
  rw [zlt_s, bd_eq (m_agreed (c := S.1) (v := S.2.1) ((mset_ne (by decide)).trans hm.1) (OA_3 ho) (OA_c ho)), gd_eq (zbo_b2i _)]
  exact ok_some ⟨rfl, thr_RM hm, ms_fr thr_fr⟩
/-! the tape is used up -/
theorem c_use (hc : RC y μ S tp tl fa kp ac) : ∃ μ1, f_X11_useTape μ = some (nI tl, μ1) ∧ RC y μ1 S tp 0 fa kp ac ∧ fr clO μ μ1 ∧ ∀ i, i < tl → μ1 (0, 1, 0) i = tp i := by
  refine ⟨mset μ (0, 0, 0) 1 0, ?_, ?_, fr_mset (Or.inr (by decide)), fun i hi => ?_⟩
  · unfold f_X11_useTape
    rw [zlt_s, zlt_s, hc.2.2.1]
  · exact RC_tape hc (fr_mset (Or.inr ⟨rfl, rfl⟩)) mset_at (fun i hi => absurd hi (by omega))
  · rw [mset_ne (by decide)]; exact hc.2.1 i hi
theorem m_use (hm : RMo μ S tp tl fa kp ac) : RMo (mset μ MO0 8 0) S tp 0 fa kp ac ∧ fr mdO μ (mset μ MO0 8 0) ∧ ∀ i, i < tl → (mset μ MO0 8 0) (0, 37, 0) i = tp i :=
  ⟨RM_tape hm (fr_mset (Or.inr ⟨rfl, rfl⟩)) mset_at (fun i hi => absurd hi (by omega)), fr_mset ⟨rfl, by decide⟩, fun i hi => by rw [mset_ne (by decide)]; exact hm.2.1 i hi⟩
theorem OA_use (ho : OA S tp tl kp ac) : OA S tp 0 kp ac := ⟨ho.1, by omega, fun k hk => absurd hk (by omega), ho.2.2.2⟩
def midT (tp : Vec) (n : Nat) : List Int32 := (List.range n).map (fun i => tp i - 128)
theorem midT_len {tp : Vec} {n : Nat} : (midT tp n).length = n := by unfold midT; simp
theorem midT_get {tp : Vec} {n t : Nat} (h : t < n) : (midT tp n).getD t 0 = tp t - 128 := by
  unfold midT
  rw [List.getD_eq_getElem?_getD, List.getElem?_map, List.getElem?_range h]
  rfl
theorem OP_mid : OPx y cm1 (f_X11_mid y) f_X12_mid := by
  rintro μ ⟨S, tp, tl, fa, kp, ac, hc, hm, ho⟩
  have h4 : tl ≤ 400 := ho.2.1
  obtain ⟨μ0, e0, c0, f0, t0⟩ := c_use hc
  by_cases h20 : tl ≤ 20
  · refine op_x (A := .inl (midL (midT tp tl))) (S' := S) (tp' := tp) (tl' := 0) (fa' := fa) (kp' := kp) (ac' := ac) hm ?_ ?_ (OA_use ho)
    · unfold f_X11_mid
      rw [bd2_eq e0, if_pos (show nI tl ≤ (20 : Int32) from nI_le (b := 20) h20 (by omega))]
      refine ok_b1 (ok_seq tl (fun k s => s.1 = nI k ∧ fr (oP (0, 29, 0)) μ0 s.2 ∧ ∀ i, i < k → s.2 (0, 29, 0) i = tp i - 128) ?_ ?_ (Q := fun μ1 => fr (oP (0, 29, 0)) μ0 μ1 ∧ ∀ i, i < tl → μ1 (0, 29, 0) i = tp i - 128) ⟨rfl, fr_refl, fun i hi => absurd hi (by omega)⟩ (FU_lt (by omega))) ?_
      · rintro k ⟨x, μ1⟩ hk ⟨w1, w2, w3⟩
        dsimp only at w1 w2 w3
        subst w1
        rw [un2_s, if_neg (nI_ge hk (by omega)), gd_eq (zin_nI (by omega) (by omega)), gd_eq (zin_nI (by omega) (by omega)), nI_cl (by omega), w2.1 (0, 1, 0) k (show ¬ ((0, 1, 0) : ZId) = (0, 29, 0) by decide), t0 k hk, zlt_s]
        refine ok_some ⟨_, rfl, nI_1 k, fr_trans w2 (fr_mset rfl), fun i hi => ?_⟩
        dsimp only
        by_cases e : i = k
        · subst e; rw [mset_at]
        · rw [mset_k e]; exact w3 i (by omega)
      · rintro ⟨x, μ1⟩ ⟨w1, w2, w3⟩
        dsimp only at w1 w2 w3
        subst w1
        rw [un2_s, if_pos (nI_le (Nat.le_refl _) (by omega))]
        exact ok_some ⟨_, rfl, w2, w3⟩
      · rintro μ1 ⟨w2, w3⟩
        have o29 : ∀ o i, oP (0, 29, 0) o i → scP o i := fun o i h => by cases h; exact Or.inl ⟨rfl, by decide, by decide, rfl⟩
        by_cases z : tl = 0
        · subst z
          unfold f_X11_midOf
          rw [jk_s, if_pos (by decide), bd2_s]
          have f1 := fr_mono w2 o29
          exact ok_some ⟨rfl, RC_sc c0 f1, fr_trans f0 (fr_mono f1 (fun o i h => sc_cl h))⟩
        · have hz : zlen y (0, 29, 0) = 20 := rfl
          have := c_midOf (y := y) (o := (0, 29, 0)) (μ := μ1) (l := midT tp tl) (by rw [midT_len]; omega) (by rw [midT_len]; omega) (by rw [midT_len, hz]; exact h20) (by rw [hz]; omega) (by decide) (fun t ht => by rw [midT_len] at ht; rw [midT_get ht]; exact w3 t ht)
          rw [midT_len] at this
          refine ok_b2 this ?_
          rintro x μ2 ⟨u1, u2⟩
          dsimp only at u1 u2
          have f1 := fr_mono (fr_trans w2 u2) o29
          exact ok_some ⟨by dsimp only; rw [u1], RC_sc c0 f1, fr_trans f0 (fr_mono f1 (fun o i h => sc_cl h))⟩
    · intro μ1 r1
      obtain ⟨r2, f2, t2⟩ := m_use r1
      unfold f_X12_mid
      rw [zlt_s, show μ1 (0, 32, 0) 8 = nI tl from r1.2.2.1, zlt_s, if_pos (show nI tl ≤ (20 : Int32) from nI_le (b := 20) h20 (by omega)), zlt_s, zlt_s, thr_0, if_pos (by decide)]
      have r3 := thr_RM (x := 0) r2
      obtain ⟨μ2, hμ2⟩ : ∃ μ2, μ2 = mset (mset μ1 MO0 8 0) MO0 0 0 := ⟨_, rfl⟩
      have t3 : ∀ i, i < tl → μ2 (0, 37, 0) i = tp i := fun i hi => by rw [hμ2, mset_ne (by decide)]; exact t2 i hi
      have z3 : μ2 MO0 0 = 0 := by rw [hμ2]; exact mset_at
      have f3 : fr mdO μ1 μ2 := by rw [hμ2]; exact fr_trans f2 (ms_fr thr_fr)
      rw [← hμ2] at r3
      show ok (bd (lp (σ := Int32 × ZMem) _ FU (0, mset (mset μ1 MO0 8 0) MO0 0 0)) _) _
      rw [← hμ2]
      refine ok_b1 (ok_seq tl (fun k s => s.1 = nI k ∧ fr aP μ2 s.2 ∧ ∀ i, i < k → s.2 (0, 42, 0) i = tp i - 128) ?_ ?_ (Q := fun μ3 => fr aP μ2 μ3 ∧ ∀ i, i < tl → μ3 (0, 42, 0) i = tp i - 128) ⟨rfl, fr_refl, fun i hi => absurd hi (by omega)⟩ (FU_lt (by omega))) ?_
      · rintro k ⟨x, μ3⟩ hk ⟨w1, w2, w3⟩
        dsimp only at w1 w2 w3
        subst w1
        rw [un2_s, if_neg (nI_ge hk (by omega)), gd_eq (zin_nI (by omega) (by omega)), gd_eq (zin_nI (by omega) (by omega)), nI_cl (by omega), w2.1 (0, 37, 0) k (show ¬ ((0, 37, 0) : ZId) = (0, 42, 0) by decide), t3 k hk, zlt_s]
        refine ok_some ⟨_, rfl, nI_1 k, fr_trans w2 (fr_mset rfl), fun i hi => ?_⟩
        dsimp only
        by_cases e : i = k
        · subst e; rw [mset_at]
        · rw [mset_k e]; exact w3 i (by omega)
      · rintro ⟨x, μ3⟩ ⟨w1, w2, w3⟩
        dsimp only at w1 w2 w3
        subst w1
        rw [un2_s, if_pos (nI_le (Nat.le_refl _) (by omega))]
        exact ok_some ⟨_, rfl, w2, w3⟩
      · rintro μ3 ⟨w2, w3⟩
        have o42 : ∀ o i, aP o i → msP o i := fun o i h => by cases h; exact Or.inr (Or.inr ⟨rfl, by decide⟩)
        have zz : ∀ {μ4 : ZMem}, fr aP μ2 μ4 → μ4 MO0 0 = 0 := fun f => by rw [f.1 _ _ (show ¬ MO0 = ((0, 42, 0) : ZId) by decide)]; exact z3
        by_cases z : tl = 0
        · subst z
          unfold f_X12_middle
          rw [if_pos (show nI 0 = 0 from rfl), bd2_s]
          have f4 := fr_mono w2 o42
          exact ok_some ⟨⟨zz w2, rfl⟩, RM_ms r3 f4, fr_trans f3 (ms_fr f4)⟩
        · have := m_middle (μ := μ3) (l := midT tp tl) (by rw [midT_len]; omega) (by rw [midT_len]; omega) (fun t ht => by rw [midT_len] at ht; rw [midT_get ht]; exact w3 t ht)
          rw [midT_len] at this
          refine ok_b2 this ?_
          rintro x μ4 ⟨u1, u2⟩
          dsimp only at u1 u2
          have f4 := fr_mono (fr_trans w2 u2) o42
          exact ok_some ⟨⟨zz (fr_trans w2 u2), u1⟩, RM_ms r3 f4, fr_trans f3 (ms_fr f4)⟩
  · refine op_x (A := .inr 1) (S' := S) (tp' := tp) (tl' := 0) (fa' := fa) (kp' := kp) (ac' := ac) hm ?_ ?_ (OA_use ho)
    · unfold f_X11_mid
      rw [bd2_eq e0, if_neg (show ¬ nI tl ≤ (20 : Int32) from nI_ge (a := 20) (by omega) (by omega))]
      exact ok_some ⟨rfl, c0, f0⟩
    · intro μ1 r1
      obtain ⟨r2, f2, t2⟩ := m_use r1
      unfold f_X12_mid
      rw [zlt_s, show μ1 (0, 32, 0) 8 = nI tl from r1.2.2.1, zlt_s, if_neg (show ¬ nI tl ≤ (20 : Int32) from nI_ge (a := 20) (by omega) (by omega)), zlt_s, zlt_s, thr_0, if_neg (by decide)]
      exact ok_some ⟨⟨(show (mset (mset μ1 MO0 8 0) MO0 0 1) MO0 0 = nI (cm1 1) from mset_at), by decide⟩, thr_RM r2, fr_trans f2 (ms_fr thr_fr)⟩
end PE
