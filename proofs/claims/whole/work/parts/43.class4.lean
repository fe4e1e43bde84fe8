/-! the class's round: joining, denying, outvoting -/
theorem c_next_all : ∀ n : Fin 256, ∀ k : Fin 8, f_X9_nextOf (nI n.val) (nI k.val) = some (nI (nextS (nI n.val) k.val)) := by decide +kernel
theorem c_next {x : Int32} {k : Nat} (hs : isS x) (hk : k < 8) : f_X9_nextOf x (nI k) = some (nI (nextS x k)) := by
  obtain ⟨n, hn, rfl⟩ := hs
  exact c_next_all ⟨n, hn⟩ ⟨k, hk⟩
theorem nextS_lt {x : Int32} {k : Nat} (hk : k < 8) : nextS x k < 8 := by
  unfold nextS
  (repeat' split) <;> omega
theorem c_low_all : ∀ n : Fin 256, n.val ≠ 0 → f_X11_lowest (nI n.val) = some (nI (lowS (nI n.val))) := by decide +kernel
theorem c_low {x : Int32} (hs : isS x) (h0 : ¬ x = 0) : f_X11_lowest x = some (nI (lowS x)) := by
  obtain ⟨n, hn, rfl⟩ := hs
  exact c_low_all ⟨n, hn⟩ (fun h => h0 (by rw [show n = 0 from h]; rfl))
theorem c_joinAll {μ : ZMem} {s c : Nat} {v : Vec} {snd : Int32} {off : Nat → Nat → Int32} (h : CS μ s c v) (hs : isS snd) (h0 : ¬ snd = 0) (hl : lowS snd < c) (hoff : ∀ k, k < c → μ (7, lowS snd, 0) k = off (lowS snd) k + nd v k 0) :
    ok (f_X9_joinAll s snd μ) (fun μ' => CS μ' s c (itS (joinStep off (lowS snd)) c v) ∧ fr (clsP s) μ μ') := by
  have h8 := h.1
  unfold f_X9_joinAll
  rw [bd_eq (c_low hs h0)]
  simp only [jk]
  rw [if_neg (by rw [show (0 : Int32) = nI 0 from rfl]; exact nI_nlt (by omega) (by omega)), CS_c h, if_pos (nI_lt hl (by omega))]
  refine ok_bd (ok_mono (c_loop (P := clsP s) (joinStep off (lowS snd)) h ?_ ?_) (fun _ h => ok_some h))
  · intro k μ1 v1 hk h1 e f
    have hk8 : k < 8 := by omega
    have e0 : nd v1 k 0 = nd v k 0 := by rw [e]; exact itS_far (fun k u w => join_far (by omega) k u w) v k k (Nat.le_refl _) hk8
    have e7 : μ1 (7, lowS snd, 0) k = off (lowS snd) k + nd v k 0 := by
      rw [fr_at f (not_cls (zne (by decide)) (zne (by decide)) (fun k => zne (by decide)))]
      exact hoff k hk
    simp only [un2]
    rw [if_neg (cond_le (CS_c h1) h8 hk), gd_eq (zin_nI (by omega) (by omega)), nI_cl (by omega), nI_cl (by omega), CS_nd h1 hk (by omega), e7, ← e0, keep_eq]
    unfold joinStep
    by_cases h3 : nd v1 k 3 = 1
    · rw [if_pos h3, if_pos h3, gd_eq (zin_nI (by omega) (by omega)), zlt_s, zlt_s, zlt_s, x11_bit]
      have g0 := CS_ns (x := 0) (a := f_X12_held (off (lowS snd) k + nd v1 k 0) 999) h1 hk (by omega)
      rw [CS_nd g0 hl (by omega)]
      have g1 := CS_ns (x := 3) (a := 2) (CS_ns (x := 5) (a := nd (ns v1 k 0 (f_X12_held (off (lowS snd) k + nd v1 k 0) 999)) (lowS snd) 5 ||| bit1 k) g0 hk (by omega)) hk (by omega)
      refine ok_bd (ok_bd (ok_mono (c_note g1) ?_))
      rintro μ2 ⟨a1, a2⟩
      refine ok_some (ok_some ⟨_, by rw [nI_1], a1, ?_⟩)
      exact fr_trans (fr_mset cls_nd) (fr_trans (fr_mset cls_nd) (fr_trans (fr_mset cls_nd) (fr_mono a2 (fun o i h => not_clsP h))))
    · rw [if_neg h3, if_neg h3, bd_s]
      exact ok_some ⟨_, by rw [nI_1], h1, fr_refl⟩
  · intro μ1 v1 h1
    simp only [un2]
    rw [if_pos (cond_end (CS_c h1) h8)]
def denT (snd : Int32) (wer : Nat → Int32) (k : Nat) (q : Vec × Int32) : Vec × Int32 :=
  if (tbit snd k && denB snd wer k) = true then (if denF snd wer k = true then (frzS q.1 k 3, q.2 ||| bit1 k) else (ns q.1 k 5 (nd q.1 k 5 &&& (bit1 (nextS snd k) ^^^ (-1))), q.2)) else q
def outT (ol : Int32) (k : Nat) (q : Vec × Int32) : Vec × Int32 :=
  if (tbit ol k && (decide (0 < nd q.1 k 7) && decide (nd q.1 k 6 ≤ nd q.1 k 7))) = true then (frzS q.1 k 4, q.2 ||| bit1 k) else q
theorem c_outvote {μ : ZMem} {s c : Nat} {v : Vec} {ol : Int32} (h : CS μ s c v) : ok (f_X9_outvote s ol μ) (fun q => q.1 = (itS (outT ol) c (v, 0)).2 ∧ CS q.2 s c (itS (outT ol) c (v, 0)).1 ∧ fr (clsP s) μ q.2) := by
  have h8 := h.1
  unfold f_X9_outvote
  refine ok_bd2 (ok_mono (c_loop3 (P := clsP s) (outT ol) h ?_ ?_) (fun q h => ok_some h))
  · intro k μ1 q hk h1 e f
    simp only [un3]
    rw [if_neg (cond_le (CS_c h1) h8 hk), gd_eq (zin_nI (by omega) (by omega)), nI_cl (by omega), bd_eq (isIn_eq (by omega)), CS_nd h1 hk (by omega), CS_nd h1 hk (by omega)]
    unfold outT
    by_cases hb : tbit ol k = true
    · rw [if_neg (by rw [hb]; decide)]
      by_cases h2 : 0 < nd q.1 k 7
      · rw [if_neg (Int32.not_le.mpr h2)]
        by_cases h3 : nd q.1 k 6 ≤ nd q.1 k 7
        · rw [if_neg (Int32.not_lt.mpr h3), if_pos (show (tbit ol k && (decide (0 < nd q.1 k 7) && decide (nd q.1 k 6 ≤ nd q.1 k 7))) = true by simp [hb, h2, h3])]
          refine ok_bd2 (ok_bd (ok_mono (c_freeze h1 hk) ?_))
          rintro μ2 ⟨a1, a2⟩
          rw [zlt_s, x11_bit]
          exact ok_some (ok_some ⟨_, by rw [nI_1], a1, a2⟩)
        · rw [if_pos (Int32.not_le.mp h3), if_neg (show ¬ (tbit ol k && (decide (0 < nd q.1 k 7) && decide (nd q.1 k 6 ≤ nd q.1 k 7))) = true by simp [h3]), bd2_s]
          exact ok_some ⟨_, by rw [nI_1], h1, fr_refl⟩
      · rw [if_pos (Int32.not_lt.mp h2), if_neg (show ¬ (tbit ol k && (decide (0 < nd q.1 k 7) && decide (nd q.1 k 6 ≤ nd q.1 k 7))) = true by simp [h2]), bd2_s]
        exact ok_some ⟨_, by rw [nI_1], h1, fr_refl⟩
    · have hb' : tbit ol k = false := by simpa using hb
      rw [if_pos (by rw [hb']; decide), if_neg (show ¬ (tbit ol k && (decide (0 < nd q.1 k 7) && decide (nd q.1 k 6 ≤ nd q.1 k 7))) = true by simp [hb']), bd2_s]
      exact ok_some ⟨_, by rw [nI_1], h1, fr_refl⟩
  · intro x μ1 v1 h1
    simp only [un3]
    rw [if_pos (cond_end (CS_c h1) h8)]
