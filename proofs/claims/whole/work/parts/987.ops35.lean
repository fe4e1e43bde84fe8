/-! guesses: when, on both sides -/
section PX
variable {y : ZLay} {μ : ZMem} {S S' : SV} {tp tp' : Vec} {tl tl' : Nat} {fa fa' : Int32} {kp kp' : Option SV} {ac ac' : List (Nat × Vec)}
theorem gp_lt {w : Nat → Nat} {r : Nat} : nI (gpT w r 1539).2 < 2000000000 := by
  have := (gpT_le (w := w) (r := r) 1539).2
  rw [Int32.lt_iff_toInt_lt, nI_toInt (by omega), show (2000000000 : Int32).toInt = 2000000000 by decide]
  omega
theorem OP_when : OPx y cm1 (f_X11_when y) f_X12_when := by
  rintro μ ⟨S, tp, tl, fa, kp, ac, hc, hm, ho⟩
  have h4 : tl ≤ 400 := ho.2.1
  obtain ⟨μ0, e0, c0, f0, t0⟩ := c_use hc
  have cr := c_course (μ := μ0) (T := tp) h4 t0
  have erow : f_X11_courseRows μ = some (if crB tp tl = true then nI (tl / 2) else -1, μ0) := by
    unfold f_X11_courseRows
    rw [bd2_eq e0]
    exact cr
  cases hb : crB tp tl
  · rw [hb, if_neg (by decide)] at erow
    refine op_x (A := .inr 1) (S' := S) (tp' := tp) (tl' := 0) (fa' := fa) (kp' := kp) (ac' := ac) hm ?_ ?_ (OA_use ho)
    · unfold f_X11_when
      rw [bd2_eq erow, if_pos rfl]
      exact ok_some ⟨rfl, c0, f0⟩
    · intro μ1 r1
      obtain ⟨r2, f2, -⟩ := m_use r1
      unfold f_X12_when
      rw [bd2_eq (m_course h4 r1.2.2.1 r1.2.1), hb, if_neg (show ¬ (false = true) by decide), thr_0, if_neg (by decide)]
      exact ok_some ⟨⟨(show (mset (mset μ1 MO0 8 0) MO0 0 1) MO0 0 = nI (cm1 1) from mset_at), by decide⟩, thr_RM r2, fr_trans f2 (ms_fr thr_fr)⟩
  · rw [hb, if_pos rfl] at erow
    have hb2 := hb
    unfold crB at hb2
    rw [Bool.and_eq_true, Bool.and_eq_true] at hb2
    have h40 : tl ≤ 40 := of_decide_eq_true hb2.1.1
    have h2 : tl % 2 = 0 := of_decide_eq_true hb2.1.2
    obtain ⟨w, hw⟩ : ∃ w : Nat → Nat, w = fun h => wrC tp h (tl / 2) := ⟨_, rfl⟩
    have hw100 : ∀ h, w h ≤ 100 := fun h => by rw [hw]; have := wrC_le (T := tp) (h := h) (tl / 2); dsimp only; omega
    have hfit := fitN_le (w := w) 1539
    refine op_x (A := .inl (if 2 ≤ fitN w 1539 then prI (whO w 10) else -1)) (S' := S) (tp' := tp) (tl' := 0) (fa' := fa) (kp' := kp) (ac' := ac) hm ?_ ?_ (OA_use ho)
    · unfold f_X11_when
      rw [bd2_eq erow, if_neg (nI_ne1 (by omega))]
      refine ok_b1 (c_weighR (y := y) (T := tp) (m := tl / 2) (by omega) (fun i hi => t0 i (by omega))) ?_
      rintro μ1 ⟨f1, g1⟩
      rw [← hw] at g1
      refine ok_b2 (c_best hw100 g1) ?_
      rintro x μ2 ⟨p1, p2⟩
      dsimp only at p1 p2
      have fs : fr scP μ0 μ2 := fr_trans (fr_mono f1 (fun o i h => gs_sc h)) (fr_mono p2 (fun o i h => by cases h; exact Or.inl ⟨rfl, by decide, by decide, rfl⟩))
      exact ok_some ⟨by dsimp only; rw [p1], RC_sc c0 fs, fr_trans f0 (fr_mono fs (fun o i h => sc_cl h))⟩
    · intro μ1 r1
      obtain ⟨r2, f2, t2⟩ := m_use r1
      unfold f_X12_when
      rw [bd2_eq (m_course h4 r1.2.2.1 r1.2.1), hb, if_pos (show true = true from rfl), thr_0, if_pos (by decide)]
      obtain ⟨μ3, hμ3⟩ : ∃ μ3, μ3 = mset (mset μ1 MO0 8 0) MO0 0 0 := ⟨_, rfl⟩
      have t3 : ∀ i, i < tl → μ3 (0, 37, 0) i = tp i := fun i hi => by rw [hμ3, mset_ne (by decide)]; exact t2 i hi
      have z3 : μ3 MO0 0 = 0 := by rw [hμ3]; exact mset_at
      have r3 : RMo μ3 S tp 0 fa kp ac := by rw [hμ3]; exact thr_RM r2
      have f3 : fr mdO μ1 μ3 := by rw [hμ3]; exact fr_trans f2 (ms_fr thr_fr)
      rw [← hμ3]
      have ewr : ∀ {μ4 : ZMem}, fr (oP (0, 47, 0)) μ3 μ4 → ∀ k, f_X12_wrongReads (nI k) (nI tl) μ4 = some (nI (w k)) := fun f k => by
        rw [m_wrongR (T := tp) h40 h2 (fun i hi => (f.1 _ _ (show ¬ ((0, 37, 0) : ZId) = (0, 47, 0) by decide)).trans (t3 i hi)), hw]
      refine ok_b2 (P := fun q => q.1 = (if 2 ≤ fitN w 1539 then prI (whO w 10) else -1) ∧ fr (oP (0, 47, 0)) μ3 q.2) (ok_seq 10 (fun r s => s.1 = (if 2 ≤ fitN w 1539 then prI (whO w r) else -1) ∧ s.2.1 = (if 2 ≤ fitN w 1539 then prX 2000000000 (whO w r) else 2000000000) ∧ s.2.2.1 = nI r ∧ fr (oP (0, 47, 0)) μ3 s.2.2.2) ?_ ?_ ⟨by dsimp only; split <;> rfl, by dsimp only; split <;> rfl, rfl, fr_refl⟩ (FU_lt (by omega))) ?_
      · rintro r ⟨x5, x6, x7, μ4⟩ hr ⟨u1, u2, u3, u4⟩
        dsimp only at u1 u2 u3 u4
        subst u3
        rw [un4_s, if_neg (show ¬ (10 : Int32) ≤ nI r from nI_ge (b := 10) hr (by omega))]
        refine ok_b1 (zeroN (μ := μ4) (N := 243) (o := (0, 47, 0)) (by omega) (by decide) ?_ ?_) ?_
        · intro k μ5 hk
          rw [un2_s, if_neg (show ¬ (243 : Int32) ≤ nI k from nI_ge (b := 243) hk (by omega)), gd_eq (zin_nI (by omega) (by omega)), nI_cl (by omega), zlt_s]
        · intro μ5
          rw [un2_s, if_pos (by decide)]
        · rintro μ5 ⟨f5, g5⟩
          refine ok_bd3 (ok_mono (ok_seq 1539 (fun k s => s.1 = nI (fitN w k) ∧ s.2.1 = nI (gpT w r k).2 ∧ s.2.2.1 = nI k ∧ fr (oP (0, 47, 0)) μ3 s.2.2.2 ∧ ∀ i, i < 243 → s.2.2.2 (0, 47, 0) i = nI ((gpT w r k).1 i)) ?_ ?_ (Q := fun q => q.1 = nI (fitN w 1539) ∧ q.2.1 = nI (gpT w r 1539).2 ∧ fr (oP (0, 47, 0)) μ3 q.2.2) ⟨rfl, rfl, rfl, fr_trans u4 f5, g5⟩ (FU_lt (by omega))) ?_)
          · rintro k ⟨x18, x19, x20, μ6⟩ hk ⟨v1, v2, v3, v4, v5⟩
            dsimp only at v1 v2 v3 v4 v5
            subst v3
            obtain ⟨i1, i2⟩ := ix_ok hk hr
            obtain ⟨l1, l2⟩ := gpT_le (w := w) (r := r) k
            have l3 := l1 (ixN k r)
            have hwk := hw100 k
            rw [un4_s, if_neg (show ¬ (1539 : Int32) ≤ nI k from nI_ge (b := 1539) hk (by omega)), bd_eq (ewr v4 k), i1, zlt_s, gd_eq (zin_nI i2 (by omega)), nI_cl (by omega), v5 _ i2, nI_1 ((gpT w r k).1 (ixN k r)), zlt_s, mset_at, v2, gr_max (by omega) (by omega), zlt_s, v1]
            by_cases e : w k ≤ 1
            · rw [if_pos (show nI (w k) ≤ (1 : Int32) from nI_le (b := 1) e (by omega))]
              refine ok_some ?_ |> ok_bd3
              refine ok_some ⟨_, rfl, ?_, ?_, nI_1 k, fr_trans v4 (fr_mset rfl), fun i hi => ?_⟩
              · dsimp only; rw [fitN_s, if_neg (show ¬ 2 ≤ w k by omega), nI_1]
              · dsimp only; rw [gpT_s, if_pos e]
              · dsimp only
                rw [gpT_s, if_pos e]
                dsimp only
                by_cases e2 : i = ixN k r
                · rw [if_pos e2, e2, mset_at]
                · rw [if_neg e2, mset_k e2]; exact v5 i hi
            · rw [if_neg (show ¬ nI (w k) ≤ (1 : Int32) from nI_ge (a := 1) (by omega) (by omega))]
              refine ok_some ?_ |> ok_bd3
              refine ok_some ⟨_, rfl, ?_, ?_, nI_1 k, v4, ?_⟩
              · dsimp only; rw [fitN_s, if_pos (show 2 ≤ w k by omega)]
              · dsimp only; rw [gpT_s, if_neg e]
              · dsimp only; rw [gpT_s, if_neg e]; exact v5
          · rintro ⟨x18, x19, x20, μ6⟩ ⟨v1, v2, v3, v4, v5⟩
            dsimp only at v1 v2 v3 v4 v5
            subst v3
            rw [un4_s, if_pos (by decide)]
            exact ok_some ⟨_, rfl, v1, v2, v4⟩
          · rintro ⟨x22, x23, μ6⟩ ⟨v1, v2, v4⟩
            dsimp only at v1 v2 v4 ⊢
            subst v1 v2
            refine ok_some ⟨_, rfl, ?_, ?_, nI_1 r, v4⟩
            all_goals
              dsimp only
              rw [u1, u2]
              by_cases h3 : 2 ≤ fitN w 1539
              · rw [if_neg (show ¬ nI (fitN w 1539) < (2 : Int32) from nI_nlt (b := 2) h3 (by omega)), if_pos h3, if_pos h3, if_pos h3, whO_s]
                cases hO : whO w r with
                | none => rw [show prX 2000000000 (none : Option (Nat × Int32)) = 2000000000 from rfl, if_pos gp_lt]; try rfl
                | some q =>
                  obtain ⟨j, x⟩ := q
                  dsimp only
                  rw [show prX 2000000000 (some (j, x)) = x from rfl]
                  by_cases c : x ≤ nI (gpT w r 1539).2
                  · rw [if_neg (Int32.not_lt.mpr c), if_pos c]; try rfl
                  · rw [if_pos (Int32.not_le.mp c), if_neg c]; try rfl
              · rw [if_pos (show nI (fitN w 1539) < (2 : Int32) from nI_lt (b := 2) (by omega) (by omega)), if_neg h3, if_neg h3, if_neg h3]
      · rintro ⟨x5, x6, x7, μ4⟩ ⟨u1, u2, u3, u4⟩
        dsimp only at u1 u2 u3 u4
        subst u3
        rw [un4_s, if_pos (by decide)]
        exact ok_some ⟨_, rfl, u1, u4⟩
      · rintro x μ4 ⟨p1, p2⟩
        dsimp only at p1 p2
        have fm : fr msP μ3 μ4 := fr_mono p2 (fun o i h => by cases h; exact Or.inr (Or.inr ⟨rfl, by decide⟩))
        refine ok_some ⟨⟨?_, p1⟩, RM_ms r3 fm, fr_trans f3 (ms_fr fm)⟩
        dsimp only
        rw [p2.1 _ _ (show ¬ MO0 = ((0, 47, 0) : ZId) by decide)]
        exact z3
end PX
