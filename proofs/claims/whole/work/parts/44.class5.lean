/-! the class's round: denying -/
def ackP (s : Nat) (o : ZId) (i : Nat) : Prop := clsP s o i ∨ o = (0, 11, 0)
theorem c_acknowledge {μ : ZMem} {s c : Nat} {v : Vec} {snd : Int32} (h : CS μ s c v) (hs : isS snd) (hsc : ∀ k, tbit snd k = true → k < c) :
    ok (f_X9_acknowledge s snd μ) (fun q => q.1 = (itS (denT snd (fun k => nd v k 5)) c (v, 0)).2 ∧ CS q.2 s c (itS (denT snd (fun k => nd v k 5)) c (v, 0)).1 ∧ fr (ackP s) μ q.2) := by
  have h8 := h.1
  unfold f_X9_acknowledge
  refine ok_bd (ok_mono (ok_seq c (fun k s' => s'.1 = nI k ∧ fr (fun o _ => o = (0, 11, 0)) μ s'.2 ∧ ∀ j, j < k → s'.2 (0, 11, 0) j = nd v j 5) ?_ ?_ (Q := fun μ1 => fr (fun o _ => o = (0, 11, 0)) μ μ1 ∧ ∀ j, j < c → μ1 (0, 11, 0) j = nd v j 5) ⟨rfl, fr_refl, fun j h => absurd h (by omega)⟩ (FU_lt (by omega))) ?_)
  · rintro k ⟨i, μ1⟩ hk ⟨h1, h2, h4⟩
    dsimp only at h1 h2 h4
    subst h1
    have hC : CS μ1 s c v := CS_fr h h2 (fun i => ⟨zne (by decide), zne (by decide), fun k => zne (by decide)⟩)
    simp only [un2]
    rw [if_neg (cond_le (CS_c hC) h8 hk), gd_eq (zin_nI (by omega) (by omega)), nI_cl (by omega), CS_nd hC hk (by omega), zlt_s]
    refine ok_some ⟨_, rfl, nI_1 k, fr_trans h2 (fr_mset rfl), ?_⟩
    intro j hj
    dsimp only
    by_cases e : j = k
    · subst e; rw [mset_at]
    · rw [mset_k e]; exact h4 j (by omega)
  · rintro ⟨i, μ1⟩ ⟨h1, h2, h4⟩
    dsimp only at h1 h2 h4
    subst h1
    have hC : CS μ1 s c v := CS_fr h h2 (fun i => ⟨zne (by decide), zne (by decide), fun k => zne (by decide)⟩)
    simp only [un2]
    rw [if_pos (cond_end (CS_c hC) h8)]
    exact ok_some ⟨_, rfl, h2, h4⟩
  · rintro μ1 ⟨h2, h4⟩
    have hC : CS μ1 s c v := CS_fr h h2 (fun i => ⟨zne (by decide), zne (by decide), fun k => zne (by decide)⟩)
    refine ok_bd2 (ok_mono (c_loop3 (P := clsP s) (denT snd (fun k => nd v k 5)) hC ?_ ?_) (fun q h => ok_some ⟨h.1, h.2.1, fr_trans (fr_mono h2 (fun o i h => Or.inr h)) (fr_mono h.2.2 (fun o i h => Or.inl h))⟩))
    · intro k μ2 q hk h1 e f
      have hk8 : k < 8 := by omega
      have hw : μ2 (0, 11, 0) = μ1 (0, 11, 0) := fr_at f not_cls0
      simp only [un3]
      rw [if_neg (cond_le (CS_c h1) h8 hk), bd_eq (c_next hs hk8), bd_eq (isIn_eq (by omega))]
      unfold denT
      by_cases hb : tbit snd k = true
      · obtain ⟨n1, n2, n3⟩ := m_next hs hk8 hb
        obtain ⟨n4, n5, n6⟩ := m_next hs n3 n2
        have w1 : μ2 (0, 11, 0) (nextS snd k) = nd v (nextS snd k) 5 := by rw [hw]; exact h4 _ (hsc _ n2)
        have w2 : μ2 (0, 11, 0) (nextS snd (nextS snd k)) = nd v (nextS snd (nextS snd k)) 5 := by rw [hw]; exact h4 _ (hsc _ n5)
        rw [if_neg (by rw [hb]; decide)]
        by_cases c1 : nextS snd k = k
        · have d1 : denB snd (fun k => nd v k 5) k = false := by unfold denB; simp [c1]
          rw [if_pos (by rw [c1]), bd2_s, if_neg (show ¬ (tbit snd k && denB snd (fun k => nd v k 5) k) = true by rw [d1]; simp)]
          exact ok_some ⟨_, by rw [nI_1], h1, fr_refl⟩
        · rw [if_neg (by rw [nI_eq (by omega) (by omega)]; exact c1), gd_eq (zin_nI n3 (by omega)), nI_cl (show nextS snd k < 2 ^ 31 by omega), w1, bd_eq (isIn_eq (by omega))]
          by_cases c2 : tbit (nd v (nextS snd k) 5) k = true
          · have d1 : denB snd (fun k => nd v k 5) k = false := by unfold denB; simp [c2]
            rw [if_neg (by rw [c2]; decide), bd2_s, if_neg (show ¬ (tbit snd k && denB snd (fun k => nd v k 5) k) = true by rw [d1]; simp)]
            exact ok_some ⟨_, by rw [nI_1], h1, fr_refl⟩
          · have c2' : tbit (nd v (nextS snd k) 5) k = false := by simpa using c2
            have d1 : denB snd (fun k => nd v k 5) k = true := by unfold denB; simp [c1, c2']
            rw [if_pos (by rw [c2']; decide), bd_eq (c_next hs n3), if_pos (show (tbit snd k && denB snd (fun k => nd v k 5) k) = true by rw [d1, hb]; rfl)]
            simp only [jk]
            have frz : ∀ Q : (Int32 × Int32 × ZMem) ⊕ (Int32 × ZMem) → Prop, (∀ μ3, CS μ3 s c (frzS q.1 k 3) → fr (clsP s) μ2 μ3 → Q (.inl (q.2 ||| bit1 k, nI k + 1, μ3))) → ok (bd2 (bd (f_X9_freeze s (nI k) 3 μ2) fun μ36 => zlt (q.2 ||| f_X11_bit (nI k)) fun x37 => some (x37, μ36)) fun x18 μ19 => some (.inl (x18, nI k + 1, μ19))) Q := by
              intro Q hQ
              refine ok_bd2 (ok_bd (ok_mono (c_freeze h1 hk) ?_))
              rintro μ3 ⟨a1, a2⟩
              rw [zlt_s, x11_bit]
              exact ok_some (ok_some (hQ μ3 a1 a2))
            by_cases c3 : nextS snd (nextS snd k) = k
            · have d2 : denF snd (fun k => nd v k 5) k = true := by unfold denF; simp [c3]
              rw [if_pos (by rw [c3]), if_pos d2]
              exact frz _ (fun μ3 a1 a2 => ⟨_, by rw [nI_1], a1, a2⟩)
            · rw [if_neg (by rw [nI_eq (by omega) (by omega)]; exact c3), gd_eq (zin_nI n6 (by omega)), nI_cl (show nextS snd (nextS snd k) < 2 ^ 31 by omega), w2, bd_eq (isIn_eq (by omega))]
              by_cases c4 : tbit (nd v (nextS snd (nextS snd k)) 5) k = true
              · have d2 : denF snd (fun k => nd v k 5) k = false := by unfold denF; simp [c3, c4]
                rw [if_neg (by rw [c4]; decide), gd_eq (zin_nI hk8 (by omega)), zlt_s, nI_cl (show k < 2 ^ 31 by omega), CS_nd h1 hk (by omega), x11_bit, bd2_s, if_neg (show ¬ denF snd (fun k => nd v k 5) k = true by rw [d2]; decide)]
                exact ok_some ⟨_, by rw [nI_1], CS_ns h1 hk (by omega), fr_mset cls_nd⟩
              · have c4' : tbit (nd v (nextS snd (nextS snd k)) 5) k = false := by simpa using c4
                have d2 : denF snd (fun k => nd v k 5) k = true := by unfold denF; simp [c4']
                rw [if_pos (by rw [c4']; decide), if_pos d2]
                exact frz _ (fun μ3 a1 a2 => ⟨_, by rw [nI_1], a1, a2⟩)
      · have hb' : tbit snd k = false := by simpa using hb
        rw [if_pos (by rw [hb']; decide), bd2_s, if_neg (show ¬ (tbit snd k && denB snd (fun k => nd v k 5) k) = true by rw [hb']; simp)]
        exact ok_some ⟨_, by rw [nI_1], h1, fr_refl⟩
    · intro x μ2 v1 h1
      simp only [un3]
      rw [if_pos (cond_end (CS_c h1) h8)]
