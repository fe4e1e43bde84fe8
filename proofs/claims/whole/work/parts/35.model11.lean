/-! the model's rounds -/
theorem okV_round {c : Nat} {L : LawS} {d : Int32} {v0 : Vec} {q : Vec × Int32} (h : okV c v0 q.1) : okV c v0 (roundS L c d q).1 := by
  have h8 : c ≤ 8 := h.1.1
  have hs2 := snd_sub (d := d) (old := actS q.1 c) (pas := passS L c q.1) (om := omitS L c q.1) h8 q.1
  have hO1 : okV c v0 (sndS d (omitS L c q.1) (actS q.1 c) (passS L c q.1) c q.1).1 := okV_it (g := fun q : Vec × Int32 => q.1) (fun k q hk hq => okV_snd hq) h
  unfold roundS
  dsimp only
  refine okV_set (okV_it (g := fun v => v) (fun k q hk hq => okV_run hq (by omega)) (okV_it (g := fun v => v) (fun k q hk hq => okV_cor hq (by omega)) (okV_it (g := fun q : Vec × Int32 => q.1) (fun k q hk hq => okV_out hq (by omega)) (okV_it (g := fun q : Vec × Int32 => q.1) (fun k q hk hq => okV_den hq (by omega)) (okV_it (g := fun v => v) (fun k q hk hq => okV_cnt hq (by omega) hs2.1) ?_))))) (Or.inl rfl)
  split
  · exact okV_calls hO1
  · exact okV_it (g := fun v => v) (fun k q hk hq => okV_join hq (by omega) (low_lt _)) hO1
theorem m_goes {μ : ZMem} {L : LawS} {c n : Nat} {d : Int32} {v v0 : Vec} (hn : n < 1000000) (hv : μ MV0 = v) (hL : LawM v0 L) (hO : okV c v0 v) :
    ok (f_X12_goes (nI n) d μ) (fun q => q.1 = (goesS L c d n v).2 ∧ q.2 MV0 = (goesS L c d n v).1 ∧ okV c v0 (goesS L c d n v).1 ∧ fr rP μ q.2) := by
  unfold f_X12_goes
  rw [zlt_s]
  have h25 : (mset μ (0, 32, 0) 25 0) MO0 25 = 0 := by show (mset μ MO0 25 0) MO0 25 = _; rw [mset_at]
  have hmv : (mset μ (0, 32, 0) 25 0) MV0 = v := by rw [mset_ne (by decide)]; exact hv
  refine ok_bd (ok_mono (ok_seq n (fun k s => s.1 = nI k ∧ (s.2 MV0, s.2 MO0 25) = goesS L c d k v ∧ okV c v0 (goesS L c d k v).1 ∧ fr rP μ s.2) ?_ ?_ (Q := fun μ1 => (μ1 MV0, μ1 MO0 25) = goesS L c d n v ∧ okV c v0 (goesS L c d n v).1 ∧ fr rP μ μ1) ⟨rfl, ?_, hO, ?_⟩ hn) ?_)
  · rintro k ⟨i, μ1⟩ hk ⟨h1, h2, h4, h5⟩
    dsimp only at h1 h2 h4 h5
    subst h1
    have e1 : μ1 MV0 = (goesS L c d k v).1 := by rw [← h2]
    have e2 : goesS L c d (k + 1) v = roundS L c d (μ1 MV0, μ1 MO0 25) := by
      rw [h2]
      rfl
    simp only [un2]
    rw [if_neg (nI_ge hk (by omega))]
    refine ok_bd (ok_mono (m_passes e1 hL h4) ?_)
    rintro μ2 ⟨g1, g2⟩
    refine ok_some ⟨_, rfl, nI_1 k, ?_, ?_, fr_trans h5 g2⟩
    · dsimp only
      rw [g1, e2, e1]
    · rw [e2]
      exact okV_round (by rw [e1]; exact h4)
  · rintro ⟨i, μ1⟩ ⟨h1, h2, h4, h5⟩
    dsimp only at h1 h2 h4 h5
    subst h1
    simp only [un2]
    rw [if_pos (nI_le (Nat.le_refl _) (by omega))]
    exact ok_some ⟨_, rfl, h2, h4, h5⟩
  · dsimp only
    rw [h25, hmv]
    rfl
  · exact fr_mset (Or.inr (Or.inr (Or.inr (Or.inr (Or.inr (Or.inr (Or.inr ⟨rfl, Or.inr rfl⟩)))))))
  · rintro μ1 ⟨h2, h4, h5⟩
    refine ok_some ⟨?_, ?_, h4, h5⟩
    · show μ1 MO0 25 = _
      rw [← h2]
    · show μ1 MV0 = _
      rw [← h2]
