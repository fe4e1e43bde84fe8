/-! the model's round is roundS -/
def rP (o : ZId) (i : Nat) : Prop := askP o i ∨ o = (0, 39, 0) ∨ o = (0, 40, 0) ∨ o = (0, 41, 0) ∨ o = (0, 42, 0) ∨ o = (0, 43, 0) ∨ o = MV0 ∨ (o = MO0 ∧ (i = 24 ∨ i = 25))
theorem cnt_congr {old snd : Int32} {h1 h2 : Nat → Int32} {k : Nat} {v : Vec} (h : h1 k = h2 k) : cntStep old snd h1 k v = cntStep old snd h2 k v := by unfold cntStep; rw [h]
theorem sh_r {o : ZId} {i : Nat} (h : shP o i) : rP o i := by
  rcases h with h | h | h | h | ⟨h, h'⟩
  · exact Or.inl h
  · exact Or.inr (Or.inl h)
  · exact Or.inr (Or.inr (Or.inl h))
  · exact Or.inr (Or.inr (Or.inr (Or.inl h)))
  · exact Or.inr (Or.inr (Or.inr (Or.inr (Or.inr (Or.inr (Or.inr ⟨h, Or.inl h'⟩))))))
theorem r_vec {o : ZId} {i : Nat} (h : o = MV0) : rP o i := Or.inr (Or.inr (Or.inr (Or.inr (Or.inr (Or.inr (Or.inl h))))))
theorem r_43 {o : ZId} {i : Nat} (h : o = (0, 43, 0)) : rP o i := Or.inr (Or.inr (Or.inr (Or.inr (Or.inr (Or.inl h)))))
theorem r_42 {o : ZId} {i : Nat} (h : o = (0, 42, 0)) : rP o i := Or.inr (Or.inr (Or.inr (Or.inr (Or.inl h))))
theorem c_r {o : ZId} {i : Nat} (h : cP o i) : rP o i := by
  rcases h with h | h | h
  · exact Or.inl h
  · exact r_43 h
  · exact r_vec h
theorem j_r {o : ZId} {i : Nat} (h : jP o i) : rP o i := by
  rcases h with h | h | ⟨h, h'⟩
  · exact r_vec h
  · exact r_43 h
  · exact Or.inr (Or.inr (Or.inr (Or.inr (Or.inr (Or.inr (Or.inr ⟨h, Or.inr h'⟩))))))
theorem k_r {o : ZId} {i : Nat} (h : kP o i) : rP o i := by
  rcases h with h | h
  · exact r_42 h
  · exact r_vec h
theorem n25 : ¬ askP MO0 25 := by
  rintro (h | ⟨-, h⟩)
  · exact absurd h (by decide)
  · omega
theorem m_passes {μ : ZMem} {L : LawS} {c : Nat} {d : Int32} {v v0 : Vec} (hv : μ MV0 = v) (hL : LawM v0 L) (hO : okV c v0 v) :
    ok (f_X12_passes d μ) (fun μ' => (μ' MV0, μ' MO0 25) = roundS L c d (v, μ MO0 25) ∧ fr rP μ μ') := by
  obtain ⟨hW, hT⟩ := id hO
  obtain ⟨h8, h3, hm⟩ := id hW
  have e0 : f_X12_inState 2 μ = some (actS v c) := by rw [m_inState_eq (by rw [hv]; exact h3) h8, hv]; rfl
  have hold : ∀ k, tbit (actS v c) k = true → k < c → nd v k 3 = 2 := by
    intro k h hk
    unfold actS at h
    rw [tbit_bset (by omega) (by omega)] at h
    simpa [hk] using h
  unfold f_X12_passes
  rw [bd_eq e0]
  refine ok_bd (ok_mono (m_allShifts hv hL hT hW) ?_)
  rintro μ1 ⟨f1, g24, gh, go⟩
  have hv1 : μ1 MV0 = v := (sh_vec f1).trans hv
  rw [bd2_eq (m_senders h8 hv1 h3 (fun k hk => (gh k hk).2) g24)]
  obtain ⟨s, hs⟩ : ∃ s, s = sndS d (omitS L c v) (actS v c) (passS L c v) c v := ⟨_, rfl⟩
  have hs2 := snd_sub (d := d) (old := actS v c) (pas := passS L c v) (om := omitS L c v) h8 v
  have hs3 := fun w x (hw : w < 8) => snd_nd (d := d) (old := actS v c) (pas := passS L c v) (om := omitS L c v) (c := c) (w := w) (x := x) (v := v) hw
  have hO1 : okV c v0 (sndS d (omitS L c v) (actS v c) (passS L c v) c v).1 := okV_it (g := fun q : Vec × Int32 => q.1) (fun k q hk hq => okV_snd hq) hO
  rw [← hs] at hs2 hs3 hO1 ⊢
  obtain ⟨hs1, hsub⟩ := hs2
  obtain ⟨v1, hv1e⟩ : ∃ v1, v1 = if s.2 = 0 then callsS L c s.1 else itS (joinStep (offS L c v) (lowS s.2)) c s.1 := ⟨_, rfl⟩
  have hO2 : okV c v0 v1 := by
    rw [hv1e]
    split
    · exact okV_calls hO1
    · exact okV_it (g := fun v => v) (fun k q hk hq => okV_join hq (by omega) (low_lt _)) hO1
  refine ok_bd (ok_mono (Q := fun μ3 => μ3 MV0 = v1 ∧ fr cP (mput μ1 MV0 s.1) μ3) ?_ ?_)
  · rw [hv1e]
    by_cases z : s.2 = 0
    · rw [if_pos z, if_pos z]
      exact ok_bd (ok_mono (m_calls mput_at hL hO1.2 hO1.1) (fun μ3 h => ok_some h))
    · rw [if_neg z, if_neg z]
      refine ok_bd (ok_mono (m_follow (off := offS L c v) h8 mput_at hO1.1.2.1 hs1 z ?_) (fun μ3 h => ok_some ⟨h.1, fr_mono h.2 (fun o k h => Or.inr (Or.inr h))⟩))
      intro k hk h1
      obtain ⟨l1, l2⟩ := hsub _ (low_bit hs1 z)
      rw [mput_ne (by decide)]
      refine go k hk _ l1 ?_
      intro e
      have l3 := hold _ l2 l1
      rw [e] at l3
      rw [hs3 k 3 (by omega), l3] at h1
      exact absurd h1 (by decide)
  · rintro μ3 ⟨e3, f3⟩
    have hin3 : ∀ o, (o = (0, 39, 0) ∨ o = (0, 40, 0)) → μ3 o = μ1 o := by
      intro o ho
      rw [fr_at f3 (o := o) (by
        rintro k (h | h | h)
        · exact not_ask (by rcases ho with rfl | rfl <;> decide) (by rcases ho with rfl | rfl <;> decide) k h
        · rcases ho with rfl | rfl <;> exact absurd h (by decide)
        · rcases ho with rfl | rfl <;> exact absurd h (by decide)), mput_ne (by rcases ho with rfl | rfl <;> decide)]
    have f03 : fr rP μ μ3 := fr_trans (fr_mono f1 (fun o k h => sh_r h)) (fr_trans (fr_mput (fun _ => r_vec rfl)) (fr_mono f3 (fun o k h => c_r h)))
    have h25 : μ3 MO0 25 = μ MO0 25 := by
      rw [f3.1 MO0 25 (by
        rintro (h | h | h)
        · exact n25 h
        · exact absurd h (by decide)
        · exact absurd h (by decide)), mput_ne (by decide), f1.1 MO0 25 (by
        rintro (h | h | h | h | ⟨-, h⟩)
        · exact n25 h
        · exact absurd h (by decide)
        · exact absurd h (by decide)
        · exact absurd h (by decide)
        · omega)]
    refine ok_bd (ok_mono (m_loop (P := vP) (cntStep (actS v c) s.2 (heardS L c v)) h8 cnt3 e3 hO2.1.2.1 ?_ ?_) ?_)
    · intro k μ4 hk e4 e5 f
      simp only [un2]
      rw [if_neg (cond_le e4 h8 hk), bd_eq (isOf_eq (by omega))]
      by_cases hb : tbit (actS v c) k = true
      · rw [if_neg (by rw [hb]; decide), bd_eq (m_counts (by omega) hs1 hb), bd_s]
        refine ok_some ⟨_, by rw [nI_1], ?_, fr_vec⟩
        rw [mput_at]
        refine cnt_congr ?_
        show μ4 (0, 40, 0) k = _
        rw [fr_at f (fun k => by unfold vP; decide), hin3 _ (Or.inr rfl)]
        exact (gh k hk).1
      · have hb' : tbit (actS v c) k = false := by simpa using hb
        rw [if_pos (by rw [hb']; decide)]
        refine ok_some ⟨_, by rw [nI_1], ?_, fr_refl⟩
        unfold cntStep
        rw [if_neg hb]
    · intro μ4 e4
      simp only [un2]
      rw [if_pos (cond_end e4 h8)]
    · rintro μ4 ⟨e4, f4⟩
      obtain ⟨v2, hv2e⟩ : ∃ v2, v2 = itS (cntStep (actS v c) s.2 (heardS L c v)) c v1 := ⟨_, rfl⟩
      have hO3 : okV c v0 v2 := by rw [hv2e]; exact okV_it (g := fun v => v) (fun k q hk hq => okV_cnt hq (by omega) hs1) hO2
      rw [← hv2e] at e4
      have h25' : μ4 MO0 25 = μ MO0 25 := by rw [fr_at f4 (fun k => by unfold vP; decide)]; exact h25
      refine ok_bd (ok_mono (m_judges (q := (v2, μ MO0 25)) h8 (by rw [e4, h25']) hO3.1.2.1 hs1 (fun k h => (hsub k h).1)) ?_)
      rintro μ5 ⟨e5, f5⟩
      obtain ⟨q4, hq4⟩ : ∃ q4, q4 = itS (outStep (actS v c)) c (itS (denStep s.2 (fun k => nd v2 k 5)) c (v2, μ MO0 25)) := ⟨_, rfl⟩
      have hO4 : okV c v0 q4.1 := by rw [hq4]; exact okV_it (g := fun q : Vec × Int32 => q.1) (fun k q hk hq => okV_out hq (by omega)) (okV_it (g := fun q : Vec × Int32 => q.1) (fun k q hk hq => okV_den hq (by omega)) hO3)
      rw [← hq4] at e5
      have e51 : μ5 MV0 = q4.1 := by rw [← e5]
      have e52 : μ5 MO0 25 = q4.2 := by rw [← e5]
      have hin5 : ∀ o, (o = (0, 39, 0) ∨ o = (0, 40, 0)) → μ5 o = μ1 o := by
        intro o ho
        rw [fr_at f5 (o := o) (by
          rintro k (h | h | ⟨h, -⟩) <;> rcases ho with rfl | rfl <;> exact absurd h (by decide)), fr_at f4 (o := o) (by
          intro k h
          unfold vP at h
          rcases ho with rfl | rfl <;> exact absurd h (by decide))]
        exact hin3 o ho
      refine ok_bd (ok_mono (m_loop (P := kP) (corStep (midK (offS L c v) (heardS L c v) s.2 c) (actS v c)) h8 cor3 e51 hO4.1.2.1 ?_ ?_) ?_)
      · intro k μ6 hk e6 e7 f
        have hin6 : ∀ o, (o = (0, 39, 0) ∨ o = (0, 40, 0)) → μ6 o = μ1 o := by
          intro o ho
          rw [fr_at f (o := o) (by
            rintro k (h | h) <;> rcases ho with rfl | rfl <;> exact absurd h (by decide))]
          exact hin5 o ho
        simp only [un2]
        rw [if_neg (cond_le e6 h8 hk), bd_eq (isOf_eq (by omega))]
        by_cases hb : tbit (actS v c) k = true
        · rw [if_neg (by rw [hb]; decide), bd_eq (isActive_eq (by omega))]
          by_cases ha : nd (μ6 MV0) k 3 = 2
          · rw [if_neg (by simp [ha, b2i])]
            refine ok_bd (ok_bd (ok_mono (m_corrects (off := offS L c v) (heard := heardS L c v) h8 e6 (by omega) (by rw [hin6 _ (Or.inr rfl)]; exact (gh k hk).1) (fun o ho hok => by rw [hin6 _ (Or.inl rfl)]; exact go k hk o ho hok) hb ha) ?_))
            rintro μ7 ⟨a1, a2⟩
            exact ok_some (ok_some ⟨_, by rw [nI_1], a1, a2⟩)
          · rw [if_pos (by simp [ha, b2i])]
            refine ok_some ⟨_, by rw [nI_1], ?_, fr_refl⟩
            unfold corStep
            rw [if_neg (fun h => ha (of_decide_eq_true (Bool.and_eq_true_iff.mp h).2))]
        · have hb' : tbit (actS v c) k = false := by simpa using hb
          rw [if_pos (by rw [hb']; decide)]
          refine ok_some ⟨_, by rw [nI_1], ?_, fr_refl⟩
          unfold corStep
          rw [if_neg (fun h => hb (Bool.and_eq_true_iff.mp h).1)]
      · intro μ6 e6
        simp only [un2]
        rw [if_pos (cond_end e6 h8)]
      · rintro μ6 ⟨e6, f6⟩
        obtain ⟨v5, hv5e⟩ : ∃ v5, v5 = itS (corStep (midK (offS L c v) (heardS L c v) s.2 c) (actS v c)) c q4.1 := ⟨_, rfl⟩
        have hO5 : okV c v0 v5 := by rw [hv5e]; exact okV_it (g := fun v => v) (fun k q hk hq => okV_cor hq (by omega)) hO4
        rw [← hv5e] at e6
        refine ok_bd (ok_mono (m_loop (P := vP) runStep h8 run3 e6 hO5.1.2.1 ?_ ?_) ?_)
        · intro k μ7 hk e7 e8 f
          have hk8 : k < 8 := by omega
          simp only [un2]
          rw [if_neg (cond_le e7 h8 hk), bd_eq (of3 hk8)]
          unfold runStep
          by_cases h : nd (μ7 MV0) k 3 = 0
          · rw [if_pos h, if_pos h]
            exact ok_some ⟨_, by rw [nI_1], rfl, fr_refl⟩
          · rw [if_neg h, if_neg h, bd_eq (of0 hk8), bd_eq (of1 hk8), bd_eq (of2 hk8), bd_eq (lays0 hk8), bd_s]
            exact ok_some ⟨_, by rw [nI_1], by rw [mput_at], fr_vec⟩
        · intro μ7 e7
          simp only [un2]
          rw [if_pos (cond_end e7 h8)]
        · rintro μ7 ⟨e7, f7⟩
          rw [zlt_s, mset_eq]
          refine ok_some ⟨?_, ?_⟩
          · have h9 : (mput μ7 (0, 33, 0) (vset (μ7 (0, 33, 0)) 6 (f_X12_lesser 9999 (μ7 (0, 33, 0) 6 + 1)))) MV0 = vset (μ7 MV0) 6 (f_X12_lesser 9999 (μ7 MV0 6 + 1)) := mput_at
            have h10 : (mput μ7 (0, 33, 0) (vset (μ7 (0, 33, 0)) 6 (f_X12_lesser 9999 (μ7 (0, 33, 0) 6 + 1)))) MO0 25 = q4.2 := by
              rw [mput_ne (by decide), fr_at f7 (fun k => by unfold vP; decide), fr_at f6 (by rintro k (h | h) <;> exact absurd h (by decide))]
              exact e52
            rw [h9, h10, e7]
            subst hv5e hq4 hv2e hv1e hs
            rfl
          · exact fr_trans f03 (fr_trans (fr_mono f4 (fun o k h => r_vec h)) (fr_trans (fr_mono f5 (fun o k h => j_r h)) (fr_trans (fr_mono f6 (fun o k h => k_r h)) (fr_trans (fr_mono f7 (fun o k h => r_vec h)) (fr_mput (fun _ => r_vec rfl))))))
