/-! guesses: blame, guilty -/
section PT
variable {y : ZLay} {μ : ZMem} {S S' : SV} {tp tp' : Vec} {tl tl' : Nat} {fa fa' : Int32} {kp kp' : Option SV} {ac ac' : List (Nat × Vec)}
/-- a guess out of judgements -/
theorem op_j {F : ZMem → Option ((Int32 ⊕ Nat) × ZMem)} {G : ZMem → Option (Int32 × ZMem)} {A : Int32} {KF : ZMem → Option ((Int32 ⊕ Nat) × ZMem)} {KG : Int32 → ZMem → Option (Int32 × ZMem)} (hc : RC y μ S tp tl fa kp ac) (hm : RMo μ S tp tl fa kp ac) (ho : OA S tp tl kp ac)
    (hF : F μ = bd2 (f_X11_judgementRows μ) (fun (x2 : Int32) (μ3 : ZMem) => if x2 = (-1) then some (.inr 1, μ3) else bd (f_X2_weighBlames y (0, 1, 0) x2 μ3) KF))
    (hG : ∀ μ1, G μ1 = bd2 (f_X12_blameMany μ1) (fun (x2 : Int32) (μ3 : ZMem) => if (μ3 (0, 32, 0) 0) ≤ 0 then KG x2 μ3 else some (0, μ3)))
    (hKF : jdB tp tl = true → ∀ μ1, gsI (fun h => wrJ tp h (tl / 3)) 17 μ1 → KF μ1 = some (.inl A, μ1))
    (hKG : jdB tp tl = true → tl ≤ 60 → tl % 3 = 0 → ∀ μ1, (∀ i, i < tl → μ1 (0, 37, 0) i = tp i) → KG (nI tl) μ1 = some (A, μ1)) :
    ok (F μ) (fun r => ∀ μ1, fr outP r.2 μ1 → ok (G μ1) (fun q => agr cm1 r.1 (q.2 MO0 0) q.1 ∧ INV y q.2)) := by
  have h4 : tl ≤ 400 := ho.2.1
  obtain ⟨μ0, e0, c0, f0, t0⟩ := c_use hc
  have cr := c_judg (μ := μ0) (T := tp) h4 t0
  have erow : f_X11_judgementRows μ = some (if jdB tp tl = true then nI (tl / 3) else -1, μ0) := by
    unfold f_X11_judgementRows
    rw [bd2_eq e0]
    exact cr
  cases hb : jdB tp tl
  · rw [hb, if_neg (by decide)] at erow
    refine op_x (A := .inr 1) (S' := S) (tp' := tp) (tl' := 0) (fa' := fa) (kp' := kp) (ac' := ac) hm ?_ ?_ (OA_use ho)
    · rw [hF, bd2_eq erow, if_pos rfl]
      exact ok_some ⟨rfl, c0, f0⟩
    · intro μ1 r1
      obtain ⟨r2, f2, -⟩ := m_use r1
      rw [hG, bd2_eq (m_judg h4 r1.2.2.1 r1.2.1), hb, if_neg (show ¬ (false = true) by decide), thr_0, if_neg (by decide)]
      exact ok_some ⟨⟨(show (mset (mset μ1 MO0 8 0) MO0 0 1) MO0 0 = nI (cm1 1) from mset_at), by decide⟩, thr_RM r2, fr_trans f2 (ms_fr thr_fr)⟩
  · rw [hb, if_pos rfl] at erow
    have hb2 := hb
    unfold jdB at hb2
    rw [Bool.and_eq_true, Bool.and_eq_true] at hb2
    have h60 : tl ≤ 60 := of_decide_eq_true hb2.1.2
    have h3 : tl % 3 = 0 := of_decide_eq_true hb2.1.1
    refine op_x (A := .inl A) (S' := S) (tp' := tp) (tl' := 0) (fa' := fa) (kp' := kp) (ac' := ac) hm ?_ ?_ (OA_use ho)
    · rw [hF, bd2_eq erow, if_neg (nI_ne1 (by omega))]
      refine ok_b1 (c_weighJ (y := y) (T := tp) (m := tl / 3) (by omega) (fun i hi => t0 i (by omega))) ?_
      rintro μ1 ⟨f1, g1⟩
      have fs := fr_mono f1 (fun o i h => gs_sc h)
      rw [hKF hb μ1 g1]
      exact ok_some ⟨rfl, RC_sc c0 fs, fr_trans f0 (fr_mono fs (fun o i h => sc_cl h))⟩
    · intro μ1 r1
      obtain ⟨r2, f2, t2⟩ := m_use r1
      have t3 : ∀ i, i < tl → (mset (mset μ1 MO0 8 0) MO0 0 0) (0, 37, 0) i = tp i := fun i hi => by rw [mset_ne (by decide)]; exact t2 i hi
      rw [hG, bd2_eq (m_judg h4 r1.2.2.1 r1.2.1), hb, if_pos (show true = true from rfl), thr_0, if_pos (by decide), hKG hb h60 h3 _ t3]
      exact ok_some ⟨⟨(show (mset (mset μ1 MO0 8 0) MO0 0 0) MO0 0 = 0 from mset_at), rfl⟩, thr_RM r2, fr_trans f2 (ms_fr thr_fr)⟩
theorem wrJ100 {T : Vec} {n : Nat} (hn : n ≤ 60) : ∀ h, wrJ T h (n / 3) ≤ 100 := fun h => by have := wrJ_le (T := T) (h := h) (n / 3); omega
theorem jd60 {T : Vec} {n : Nat} (h : jdB T n = true) : n ≤ 60 := by
  unfold jdB at h
  rw [Bool.and_eq_true, Bool.and_eq_true] at h
  exact of_decide_eq_true h.1.2
theorem OP_blame : OPx y cm1 (f_X11_blame y) f_X12_blame := by
  rintro μ ⟨S, tp, tl, fa, kp, ac, hc, hm, ho⟩
  refine op_j (A := nI (fitN (fun h => wrJ tp h (tl / 3)) 17)) hc hm ho (by unfold f_X11_blame; rfl) (fun μ1 => by unfold f_X12_blame; rfl) ?_ ?_
  · intro hb μ1 g1
    rw [bd_eq (c_fits (by omega) (wrJ100 (jd60 hb)) g1)]
  · intro hb h60 h3 μ1 t1
    refine (bd_eq (lp_seq (s0 := ((0 : Int32), (0 : Int32))) 17 (fun k => (nI (fitN (fun h => wrJ tp h (tl / 3)) k), nI k)) ?_ ?_ (FU_lt (by omega)) rfl)).trans rfl
    · intro k hk
      have h100 := wrJ100 (T := tp) h60 k
      rw [un2_s, if_neg (show ¬ (17 : Int32) ≤ nI k from nI_ge (b := 17) hk (by omega)), bd_eq (m_wrongJ h60 h3 t1), zlt_s, zlt_s, fitN_s, nI_1 k]
      by_cases e : 2 ≤ wrJ tp k (tl / 3)
      · rw [if_pos (show (2 : Int32) ≤ nI (wrJ tp k (tl / 3)) from nI_le (a := 2) e (by omega)), if_pos e, Int32.add_zero]
      · rw [if_neg (show ¬ (2 : Int32) ≤ nI (wrJ tp k (tl / 3)) from nI_ge (b := 2) (by omega) (by omega)), if_neg e, nI_1]
    · rw [un2_s, if_pos (by decide)]
theorem OP_guilty : OPx y cm1 (f_X11_guilty y) f_X12_guilty := by
  rintro μ ⟨S, tp, tl, fa, kp, ac, hc, hm, ho⟩
  refine op_j (A := (fstF (fun h => wrJ tp h (tl / 3)) 17).1) hc hm ho (by unfold f_X11_guilty; rfl) (fun μ1 => by unfold f_X12_guilty; rfl) ?_ ?_
  · intro hb μ1 g1
    rw [bd_eq (c_first (by omega) (wrJ100 (jd60 hb)) g1)]
  · intro hb h60 h3 μ1 t1
    refine (bd_eq (lp_seq (s0 := ((-1 : Int32), (2 : Int32), (0 : Int32))) 17 (fun k => ((fstF (fun h => wrJ tp h (tl / 3)) k).1, nI (fstF (fun h => wrJ tp h (tl / 3)) k).2, nI k)) ?_ ?_ (FU_lt (by omega)) rfl)).trans rfl
    · intro k hk
      have h100 := wrJ100 (T := tp) h60 k
      have h2 := fstF_le (w := fun h => wrJ tp h (tl / 3)) k
      rw [un3_s, if_neg (show ¬ (17 : Int32) ≤ nI k from nI_ge (b := 17) hk (by omega)), bd_eq (m_wrongJ h60 h3 t1), bd_eq (m_wrongJ h60 h3 t1), fstF_s, nI_1 k]
      by_cases e : wrJ tp k (tl / 3) < (fstF (fun h => wrJ tp h (tl / 3)) k).2
      · rw [if_pos (nI_lt e (by omega)), if_pos e]; rfl
      · rw [if_neg (nI_nlt (by omega) (by omega)), if_neg e]; rfl
    · rw [un3_s, if_pos (by decide)]
end PT
