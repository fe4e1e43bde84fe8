/-! guesses: read -/
section PQ
variable {y : ZLay} {μ : ZMem} {S S' : SV} {tp tp' : Vec} {tl tl' : Nat} {fa fa' : Int32} {kp kp' : Option SV} {ac ac' : List (Nat × Vec)}
def gsI (w : Nat → Nat) (N : Nat) (μ : ZMem) : Prop := μ (0, 17, 0) 2 = nI N ∧ ∀ h, h < N → μ (0, 18, 0) h = nI (w h)
theorem c_weighR {m : Nat} {T : Vec} (hm : m ≤ 20) (ht : ∀ i, i < 2 * m → μ (0, 1, 0) i = T i) : ok (f_X2_weighCourses y (0, 1, 0) (nI m) μ) (fun μ' => fr gsP μ μ' ∧ gsI (fun h => wrC T h m) 1539 μ') := by
  unfold f_X2_weighCourses
  rw [zlt_s]
  have z1 : zlen y (0, 1, 0) = 400 := rfl
  have tt : ∀ {μ1 : ZMem}, fr gsP μ μ1 → ∀ i, i < 2 * m → μ1 (0, 1, 0) i = T i := fun f i hi => by
    rw [f.1 _ _ (by rintro (⟨h, -⟩ | h) <;> exact absurd h (by decide))]
    exact ht i hi
  refine ok_b1i (ok_seq 1539 (fun h s => s.1 = nI h ∧ fr gsP μ s.2 ∧ s.2 (0, 17, 0) 2 = nI 1539 ∧ ∀ i, i < h → s.2 (0, 18, 0) i = nI (wrC T i m)) ?_ ?_ ⟨rfl, fr_mset (Or.inl ⟨rfl, rfl⟩), (show (mset μ (0, 17, 0) 2 1539) (0, 17, 0) 2 = nI 1539 from mset_at), fun i hi => absurd hi (by omega)⟩ (FU_lt (by omega)))
  · rintro h ⟨x, μ1⟩ hh ⟨w1, w2, w3, w4⟩
    dsimp only at w1 w2 w3 w4
    subst w1
    rw [un2_s, w3, if_neg (nI_ge hh (by omega)), gd_eq (zin_nI (by omega) (by omega)), nI_cl (by omega), zlt_s]
    refine ok_b1 (ok_seq m (fun j s => s.1 = nI j ∧ fr gsP μ s.2 ∧ s.2 (0, 17, 0) 2 = nI 1539 ∧ (∀ i, i < h → s.2 (0, 18, 0) i = nI (wrC T i m)) ∧ s.2 (0, 18, 0) h = nI (wrC T h j)) ?_ ?_ (Q := fun μ2 => fr gsP μ μ2 ∧ μ2 (0, 17, 0) 2 = nI 1539 ∧ (∀ i, i < h → μ2 (0, 18, 0) i = nI (wrC T i m)) ∧ μ2 (0, 18, 0) h = nI (wrC T h m)) ⟨rfl, fr_trans w2 (fr_mset (Or.inr rfl)), (show (mset μ1 (0, 18, 0) h 0) (0, 17, 0) 2 = nI 1539 by rw [mset_ne (by decide)]; exact w3), fun i hi => (mset_k (show i ≠ h by omega)).trans (w4 i hi), mset_at⟩ (FU_lt (by omega))) ?_
    · rintro j ⟨x, μ2⟩ hj ⟨u1, u2, u3, u4, u5⟩
      dsimp only at u1 u2 u3 u4 u5
      subst u1
      have e2 : (2 : Int32) * nI j = nI (2 * j) := (Int32.ofNat_mul 2 j).symm
      rw [un2_s, if_neg (nI_ge hj (by omega)), z1, e2, nI_1 (2 * j), if_neg (show ¬ Int32.ofNat 400 ≤ nI (2 * j + 1) from nI_ge (b := 400) (by omega) (by omega)), gd_eq (zin_nI (by omega) (by omega)), gd_eq (zin_nI (by omega) (by omega)), nI_cl (by omega), nI_cl (by omega), tt u2 _ (by omega), tt u2 _ (by omega), u5, clk_eq, zlt_s, zlt_s]
      by_cases e : f_X12_clockOf (nI h) (T (2 * j)) = T (2 * j + 1) - 128
      · rw [if_pos e]
        refine ok_some ⟨_, rfl, nI_1 j, u2, u3, u4, ?_⟩
        dsimp only
        rw [wrC_s, if_pos e]; exact u5
      · rw [if_neg e, nI_1 (wrC T h j)]
        refine ok_some ⟨_, rfl, nI_1 j, fr_trans u2 (fr_mset (Or.inr rfl)), ?_, fun i hi => ?_, ?_⟩
        · dsimp only
          rw [mset_ne (by decide)]; exact u3
        · exact (mset_k (show i ≠ h by omega)).trans (u4 i hi)
        · dsimp only
          rw [mset_at, wrC_s, if_neg e]
    · rintro ⟨x, μ2⟩ ⟨u1, u2, u3, u4, u5⟩
      dsimp only at u1 u2 u3 u4 u5
      subst u1
      rw [un2_s, if_pos (nI_le (Nat.le_refl _) (by omega))]
      exact ok_some ⟨_, rfl, u2, u3, u4, u5⟩
    · rintro μ2 ⟨u2, u3, u4, u5⟩
      refine ok_some ⟨_, rfl, nI_1 h, u2, u3, fun i hi => ?_⟩
      dsimp only
      by_cases e : i = h
      · rw [e]; exact u5
      · exact u4 i (by omega)
  · rintro ⟨x, μ1⟩ ⟨w1, w2, w3, w4⟩
    dsimp only at w1 w2 w3 w4
    subst w1
    rw [un2_s, w3, if_pos (nI_le (Nat.le_refl _) (by omega))]
    exact ok_some ⟨_, rfl, w2, w3, w4⟩
/-- how many fit, which fits first -/
def fitN (w : Nat → Nat) : Nat → Nat
  | 0 => 0
  | h + 1 => if 2 ≤ w h then fitN w h else fitN w h + 1
def fstF (w : Nat → Nat) : Nat → Int32 × Nat
  | 0 => (-1, 2)
  | h + 1 => if w h < (fstF w h).2 then (nI h, w h) else fstF w h
theorem fitN_s {w : Nat → Nat} {h : Nat} : fitN w (h + 1) = if 2 ≤ w h then fitN w h else fitN w h + 1 := rfl
theorem fstF_s {w : Nat → Nat} {h : Nat} : fstF w (h + 1) = if w h < (fstF w h).2 then (nI h, w h) else fstF w h := rfl
theorem fstF_le {w : Nat → Nat} : ∀ h, (fstF w h).2 ≤ 2
  | 0 => Nat.le_refl _
  | h + 1 => by
    have := fstF_le (w := w) h
    rw [fstF_s]
    split
    · dsimp only; omega
    · exact this
theorem c_fits {w : Nat → Nat} {N : Nat} (hN : N ≤ 1539) (hw : ∀ h, w h ≤ 100) (h : gsI w N μ) : f_X2_countFits μ = some (nI (fitN w N)) := by
  unfold f_X2_countFits
  rw [h.1]
  refine (bd_eq (lp_seq (s0 := ((0 : Int32), (0 : Int32))) N (fun k => (nI (fitN w k), nI k)) ?_ ?_ (FU_lt (by omega)) rfl)).trans rfl
  · intro k hk
    have := hw k
    rw [un2_s, if_neg (nI_ge hk (by omega)), gd_eq (zin_nI (by omega) (by omega)), nI_cl (by omega), h.2 k hk, zlt_s, zlt_s, fitN_s, nI_1 k]
    by_cases e : 2 ≤ w k
    · rw [if_pos (show (1 : Int32) < nI (w k) from nI_lt (a := 1) (by omega) (by omega)), if_pos e, Int32.add_zero]
    · rw [if_neg (show ¬ (1 : Int32) < nI (w k) from nI_nlt (a := 1) (by omega) (by omega)), if_neg e, nI_1]
  · rw [un2_s, if_pos (nI_le (Nat.le_refl _) (by omega))]
theorem c_first {w : Nat → Nat} {N : Nat} (hN : N ≤ 1539) (hw : ∀ h, w h ≤ 100) (h : gsI w N μ) : f_X2_firstFit μ = some (fstF w N).1 := by
  unfold f_X2_firstFit
  rw [h.1]
  refine (bd_eq (lp_seq (s0 := ((-1 : Int32), (2 : Int32), (0 : Int32))) N (fun k => ((fstF w k).1, nI (fstF w k).2, nI k)) ?_ ?_ (FU_lt (by omega)) rfl)).trans rfl
  · intro k hk
    have := hw k
    have h2 := fstF_le (w := w) k
    rw [un3_s, if_neg (nI_ge hk (by omega)), gd_eq (zin_nI (by omega) (by omega)), nI_cl (by omega), h.2 k hk, zlt_s, nI_1 k, fstF_s]
    by_cases e : w k < (fstF w k).2
    · rw [if_neg (nI_ge e (by omega)), if_pos e]; rfl
    · rw [if_pos (nI_le (by omega) (by omega)), if_neg e]; rfl
  · rw [un3_s, if_pos (nI_le (Nat.le_refl _) (by omega))]
theorem OP_read {a1 : Int32} : OPx y cm1 (f_X11_read y a1) (f_X12_read a1) := by
  rintro μ ⟨S, tp, tl, fa, kp, ac, hc, hm, ho⟩
  have h4 : tl ≤ 400 := ho.2.1
  obtain ⟨μ0, e0, c0, f0, t0⟩ := c_use hc
  have cr := c_course (μ := μ0) (T := tp) h4 t0
  have erow : f_X11_courseRows μ = some (if crB tp tl = true then nI (tl / 2) else -1, μ0) := by
    unfold f_X11_courseRows
    rw [bd2_eq e0]
    exact cr
  cases hb : crB tp tl
  · rw [hb, if_neg (by decide)] at erow
    refine op_x (A := .inr 1) (S' := S) (tp' := tp) (tl' := 0) (fa' := fa) (kp' := kp) (ac' := ac) hm ?_ ?_ (OA_use ho)
    · unfold f_X11_read
      rw [bd2_eq erow, if_pos rfl]
      exact ok_some ⟨rfl, c0, f0⟩
    · intro μ1 r1
      obtain ⟨r2, f2, -⟩ := m_use r1
      unfold f_X12_read
      rw [bd2_eq (m_course h4 r1.2.2.1 r1.2.1), hb, if_neg (show ¬ (false = true) by decide), thr_0, if_neg (by decide)]
      exact ok_some ⟨⟨(show (mset (mset μ1 MO0 8 0) MO0 0 1) MO0 0 = nI (cm1 1) from mset_at), by decide⟩, thr_RM r2, fr_trans f2 (ms_fr thr_fr)⟩
  · rw [hb, if_pos rfl] at erow
    have hb2 := hb
    unfold crB at hb2
    rw [Bool.and_eq_true, Bool.and_eq_true] at hb2
    have h40 : tl ≤ 40 := of_decide_eq_true hb2.1.1
    have h2 : tl % 2 = 0 := of_decide_eq_true hb2.1.2
    obtain ⟨w, hw⟩ : ∃ w : Nat → Nat, w = fun h => wrC tp h (tl / 2) := ⟨_, rfl⟩
    have hw100 : ∀ h, w h ≤ 100 := fun h => by rw [hw]; have := wrC_le (T := tp) (h := h) (tl / 2); dsimp only; omega
    refine op_x (A := .inl (if a1 = 0 then nI (fitN w 1539) else (fstF w 1539).1)) (S' := S) (tp' := tp) (tl' := 0) (fa' := fa) (kp' := kp) (ac' := ac) hm ?_ ?_ (OA_use ho)
    · unfold f_X11_read
      rw [bd2_eq erow, if_neg (nI_ne1 (by omega))]
      refine ok_b1 (c_weighR (y := y) (T := tp) (m := tl / 2) (by omega) (fun i hi => t0 i (by omega))) ?_
      rintro μ1 ⟨f1, g1⟩
      rw [← hw] at g1
      have fs := fr_mono f1 (fun o i h => gs_sc h)
      rw [bd_eq (c_fits (by omega) hw100 g1), bd_eq (c_first (by omega) hw100 g1)]
      by_cases z : a1 = 0
      · rw [if_pos z, if_pos z]; exact ok_some ⟨rfl, RC_sc c0 fs, fr_trans f0 (fr_mono fs (fun o i h => sc_cl h))⟩
      · rw [if_neg z, if_neg z]; exact ok_some ⟨rfl, RC_sc c0 fs, fr_trans f0 (fr_mono fs (fun o i h => sc_cl h))⟩
    · intro μ1 r1
      obtain ⟨r2, f2, t2⟩ := m_use r1
      unfold f_X12_read
      rw [bd2_eq (m_course h4 r1.2.2.1 r1.2.1), hb, if_pos (show true = true from rfl), thr_0, if_pos (by decide)]
      have t3 : ∀ i, i < tl → (mset (mset μ1 MO0 8 0) MO0 0 0) (0, 37, 0) i = tp i := fun i hi => by rw [mset_ne (by decide)]; exact t2 i hi
      rw [bd2_eq (lp_seq (s0 := ((0 : Int32), (-1 : Int32), (2 : Int32), (0 : Int32))) (r := (nI (fitN w 1539), (fstF w 1539).1)) 1539 (fun k => (nI (fitN w k), (fstF w k).1, nI (fstF w k).2, nI k)) ?_ ?_ (FU_lt (by omega)) rfl), zlt_s]
      · refine ok_some ⟨⟨(show (mset (mset μ1 MO0 8 0) MO0 0 0) MO0 0 = 0 from mset_at), rfl⟩, thr_RM r2, fr_trans f2 (ms_fr thr_fr)⟩
      · intro k hk
        have h100 := hw100 k
        have hfl := fstF_le (w := w) k
        have ewr := m_wrongR (μ := mset (mset μ1 MO0 8 0) MO0 0 0) (h := k) h40 h2 t3
        rw [show wrC tp k (tl / 2) = w k by rw [hw]] at ewr
        rw [un4_s, if_neg (show ¬ (1539 : Int32) ≤ nI k from nI_ge (b := 1539) hk (by omega)), bd_eq ewr, zlt_s, zlt_s, fitN_s, fstF_s, nI_1 k]
        have e1 : nI (fitN w k) + (if 2 ≤ nI (w k) then (0 : Int32) else 1) = nI (if 2 ≤ w k then fitN w k else fitN w k + 1) := by
          by_cases e : 2 ≤ w k
          · rw [if_pos (show (2 : Int32) ≤ nI (w k) from nI_le (a := 2) e (by omega)), if_pos e, Int32.add_zero]
          · rw [if_neg (show ¬ (2 : Int32) ≤ nI (w k) from nI_ge (b := 2) (by omega) (by omega)), if_neg e, nI_1]
        rw [e1]
        by_cases e : w k < (fstF w k).2
        · rw [if_pos (nI_lt e (by omega)), if_pos e]; rfl
        · rw [if_neg (nI_nlt (by omega) (by omega)), if_neg e]; rfl
      · rw [un4_s, if_pos (by decide)]
end PQ
