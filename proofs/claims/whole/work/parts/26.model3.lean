/-! the model's round: colliding, calling, joining -/
theorem callX_S {v : Vec} {c : Nat} (h8 : c ≤ 8) : isS (callX v c) := isS_bset h8
theorem wait_nd {k w x : Nat} {v : Vec} (hx : x < 11) (h4 : x ≠ 4) : nd (waitStep k v) w x = nd v w x := by
  unfold waitStep
  split
  · rw [nd_ns (by omega) hx, if_neg (by omega)]
  · rfl
theorem waits_nd {n w x : Nat} {v : Vec} (hx : x < 11) (h4 : x ≠ 4) : nd (itS waitStep n v) w x = nd v w x := itS_pres (α := Vec) (fun u => nd u w x) (fun k u => wait_nd hx h4) n v
theorem wait_hi {k i : Nat} {v : Vec} (hk : k < 8) (hi : i < 9 ∨ 97 ≤ i) : waitStep k v i = v i := by
  unfold waitStep
  split
  · rcases hi with h | h
    · exact ns_low h
    · exact ns_high hk (by omega) h
  · rfl
theorem waits_hi {n i : Nat} {v : Vec} (hn : n ≤ 8) (hi : i < 9 ∨ 97 ≤ i) : itS waitStep n v i = v i := by
  induction n with
  | zero => rfl
  | succ n ih => rw [itS_s, wait_hi (by omega) hi, ih (by omega)]
theorem waits_wf {c : Nat} {v : Vec} (h : WFv c v) : WFv c (itS waitStep c v) := by
  obtain ⟨h1, h2, h3⟩ := h
  exact ⟨h1, by rw [waits_hi h1 (Or.inl (by omega)), h2], fun k hk => by rw [waits_nd (by omega) (by omega)]; exact h3 k hk⟩
theorem waits_T {c : Nat} {v : Vec} (h : c ≤ 8) : sameT (itS waitStep c v) v := fun i hi => waits_hi h (by omega)
theorem sameT_trans {u v w : Vec} (h1 : sameT u v) (h2 : sameT v w) : sameT u w := fun i hi => (h1 i hi).trans (h2 i hi)
def cP (o : ZId) (k : Nat) : Prop := askP o k ∨ o = (0, 43, 0) ∨ o = MV0
def wP (o : ZId) (k : Nat) : Prop := askP o k ∨ o = (0, 43, 0)
theorem not_ask {o : ZId} (h1 : o ≠ (0, 38, 0)) (h2 : o ≠ MO0) : ∀ k, ¬ askP o k := by
  rintro k (h | ⟨h, -⟩)
  · exact h1 h
  · exact h2 h
theorem m_collides {μ : ZMem} {x : Int32} {L : LawS} {c : Nat} {v v0 : Vec} (hx : isS x) (hv : μ MV0 = v) (hL : LawM v0 L) (hT : sameT v v0) (hW : WFv c v) :
    ok (f_X12_collides x μ) (fun μ' => μ' MV0 = itS (collStep (collW L c v) x) c v ∧ fr cP μ μ') := by
  obtain ⟨h8, h3, hm⟩ := id hW
  have hMV : ∀ k, ¬ wP MV0 k := by
    rintro k (h | h)
    · exact not_ask (by decide) (by decide) k h
    · exact absurd h (by decide)
  unfold f_X12_collides
  refine ok_bd (ok_mono (ok_seq c (fun k s => s.1 = nI k ∧ fr wP μ s.2 ∧ ∀ j, j < k → tbit x j = true → s.2 (0, 43, 0) j = collW L c v j) ?_ ?_ (Q := fun μ1 => fr wP μ μ1 ∧ ∀ j, j < c → tbit x j = true → μ1 (0, 43, 0) j = collW L c v j) ⟨rfl, fr_refl, fun j h => absurd h (by omega)⟩ (FU_lt (by omega))) ?_)
  · rintro k ⟨i, μ1⟩ hk ⟨h1, h2, h4⟩
    dsimp only at h1 h2 h4
    subst h1
    have hv1 : μ1 MV0 = v := (fr_at h2 hMV).trans hv
    simp only [un2]
    rw [if_neg (cond_le (by rw [hv1]; exact h3) h8 hk), bd_eq (isOf_eq (by omega))]
    by_cases hb : tbit x k = true
    · rw [if_neg (by rw [hb]; decide)]
      refine ok_bd (ok_bd (ok_mono (hL c μ1 (by rw [hv1]; exact hT) (by rw [hv1]; exact hW) k (by omega)) ?_))
      rintro μ2 ⟨f1, -, -, f4⟩
      rw [gd_eq (zin_nI (by omega) (by omega)), nI_clamp (by omega), zlt_eq]
      refine ok_some (ok_some ⟨_, rfl, nI_1 k, ?_, ?_⟩)
      · refine fr_trans h2 (fr_trans (fr_mono f1 (fun o k h => Or.inl h)) (fr_mset (Or.inr rfl)))
      · intro j hj hbj
        show mset _ _ _ _ _ _ = _
        by_cases e : j = k
        · subst e
          rw [mset_at, f4, hv1]
          rfl
        · rw [mset_k e, fr_at f1 (not_ask (by decide) (by decide))]
          exact h4 j (by omega) hbj
    · have hb' : tbit x k = false := by simpa using hb
      rw [if_pos (by rw [hb']; decide)]
      refine ok_some ⟨_, rfl, nI_1 k, h2, ?_⟩
      intro j hj hbj
      by_cases e : j = k
      · subst e; exact absurd hbj hb
      · exact h4 j (by omega) hbj
  · rintro ⟨i, μ1⟩ ⟨h1, h2, h4⟩
    dsimp only at h1 h2 h4
    subst h1
    have hv1 : μ1 MV0 = v := (fr_at h2 hMV).trans hv
    simp only [un2]
    rw [if_pos (cond_end (by rw [hv1]; exact h3) h8)]
    exact ok_some ⟨_, rfl, h2, h4⟩
  · rintro μ1 ⟨h2, h4⟩
    have hv1 : μ1 MV0 = v := (fr_at h2 hMV).trans hv
    refine ok_bd (ok_mono (m_loop (P := vP) (collStep (collW L c v) x) h8 coll3 hv1 h3 ?_ ?_) ?_)
    · intro k μ2 hk e3 e4 f
      simp only [un2]
      rw [if_neg (cond_le e3 h8 hk), bd_eq (isOf_eq (by omega))]
      have hw : μ2 (0, 43, 0) = μ1 (0, 43, 0) := fr_at f (fun k => by unfold vP; decide)
      unfold collStep
      by_cases hb : tbit x k = true
      · rw [if_neg (by rw [hb]; decide), if_pos hb, gd_eq (zin_nI (by omega) (by omega)), nI_clamp (by omega), bd_eq (lays4 (by omega)), bd_eq logs_eq, mput_ne (show ((0, 43, 0) : ZId) ≠ MV0 by decide), mput_at, mput_mput, hw, h4 k hk hb]
        exact ok_some ⟨_, by rw [nI_1], by rw [mput_at], fr_vec⟩
      · have hb' : tbit x k = false := by simpa using hb
        rw [if_pos (by rw [hb']; decide), if_neg hb]
        exact ok_some ⟨_, by rw [nI_1], rfl, fr_refl⟩
    · intro μ2 e3
      simp only [un2]
      rw [if_pos (cond_end e3 h8)]
    · rintro μ2 ⟨g1, g2⟩
      refine ok_some ⟨g1, fr_trans (fr_mono h2 (fun o k h => ?_)) (fr_mono g2 (fun o k h => Or.inr (Or.inr h)))⟩
      rcases h with h | h
      · exact Or.inl h
      · exact Or.inr (Or.inl h)
theorem m_calls {μ : ZMem} {L : LawS} {c : Nat} {v v0 : Vec} (hv : μ MV0 = v) (hL : LawM v0 L) (hT : sameT v v0) (hW : WFv c v) :
    ok (f_X12_calls μ) (fun μ' => μ' MV0 = callsS L c v ∧ fr cP μ μ') := by
  obtain ⟨h8, h3, hm⟩ := id hW
  unfold f_X12_calls
  refine ok_bd2 (ok_mono (m_waits h8 hv h3) ?_)
  rintro q rfl
  dsimp only
  rw [bd_eq (bits_eq (callX_S h8))]
  have hf : fr cP μ (mput μ MV0 (itS waitStep c v)) := fr_mput (fun _ => Or.inr (Or.inr rfl))
  unfold callsS
  by_cases h : pc (callX v c) = 1
  · have h0 : ¬ callX v c = 0 := by
      intro e
      rw [e] at h
      revert h
      decide
    rw [if_pos (by rw [h]; rfl), if_pos h, bd_eq (m_starts (callX_S h8) h0), bd_s, mput_at, mput_mput]
    exact ok_some ⟨mput_at, fr_mput (fun _ => Or.inr (Or.inr rfl))⟩
  · rw [if_neg (by rw [show (1 : Int32) = nI 1 from rfl, nI_eq (by have := pc_le (callX v c); omega) (by omega)]; exact h), if_neg h]
    refine ok_bd (ok_bd (ok_mono (m_collides (callX_S h8) mput_at hL (sameT_trans (waits_T h8) hT) (waits_wf hW)) ?_))
    rintro μ2 ⟨g1, g2⟩
    exact ok_some (ok_some ⟨g1, fr_trans hf g2⟩)
theorem note_nd {u : Vec} {a b d : Int32} {w x : Nat} (hw : w < 8) (hx : x < 11) : nd (noteS u a b d) w x = nd u w x := by
  unfold nd noteS
  rw [if_neg (by omega), if_neg (by omega), if_neg (by omega), if_neg (by omega), if_neg (by omega), if_neg (by omega)]
theorem ns_far {u : Vec} {k w a b : Nat} {x : Int32} (ha : a < 11) (hb : b < 11) (h : w ≠ k) : nd (ns u k a x) w b = nd u w b := by rw [nd_ns ha hb, if_neg (by omega)]
theorem ns_nearne {u : Vec} {k a b : Nat} {x : Int32} (ha : a < 11) (hb : b < 11) (h : b ≠ a) : nd (ns u k a x) k b = nd u k b := by rw [nd_ns ha hb, if_neg (by omega)]
theorem ns_near {u : Vec} {k a : Nat} {x : Int32} (ha : a < 11) : nd (ns u k a x) k a = x := by rw [nd_ns ha ha, if_pos ⟨rfl, rfl⟩]
theorem itS_far {f : Nat → Vec → Vec} {x : Nat} (hf : ∀ k u w, w < 8 → w ≠ k → nd (f k u) w x = nd u w x) (v : Vec) : ∀ (n w : Nat), n ≤ w → w < 8 → nd (itS f n v) w x = nd v w x
  | 0, _, _, _ => rfl
  | n + 1, w, h, h8 => by rw [itS_s, hf n _ w h8 (by omega), itS_far hf v n w (by omega) h8]
theorem join_far {off : Nat → Nat → Int32} {to x : Nat} (hx : x < 11) (k : Nat) (u : Vec) (w : Nat) (hw : w < 8) (h : w ≠ k) : nd (joinStep off to k u) w x = nd u w x := by
  unfold joinStep
  split
  · rw [note_nd hw hx, ns_far (by omega) hx h, ns_far (by omega) hx h, ns_far (by omega) hx h]
  · rfl
theorem m_follow {μ : ZMem} {snd : Int32} {c : Nat} {v : Vec} {off : Nat → Nat → Int32} (h8 : c ≤ 8) (hv : μ MV0 = v) (h3 : v 3 = nI c) (hs : isS snd) (h0 : ¬ snd = 0) (hoff : ∀ k, k < c → nd v k 3 = 1 → μ (0, 39, 0) (8 * lowS snd + k) = off (lowS snd) k) :
    ok (f_X12_follow snd μ) (fun μ' => μ' MV0 = itS (joinStep off (lowS snd)) c v ∧ fr vP μ μ') := by
  have hlow := low_lt snd
  unfold f_X12_follow
  rw [bd_eq (m_low hs h0)]
  refine ok_bd (ok_mono (m_loop (P := vP) (joinStep off (lowS snd)) h8 join3 hv h3 ?_ ?_) ?_)
  · intro k μ2 hk e3 e4 f
    have hst : nd (itS (joinStep off (lowS snd)) k v) k 3 = nd v k 3 := itS_far (fun k u w => join_far (by omega) k u w) v k k (Nat.le_refl _) (by omega)
    have e5 : nd (μ2 MV0) k 3 = nd v k 3 := by rw [e4]; exact hst
    have hw : μ2 (0, 39, 0) = μ (0, 39, 0) := fr_at f (fun k => by unfold vP; decide)
    simp only [un2]
    rw [if_neg (cond_le e3 h8 hk), bd_eq (of3 (by omega)), e5]
    unfold joinStep
    by_cases h : nd v k 3 = 1
    · have hi : (8 : Int32) * nI (lowS snd) + nI k = nI (8 * lowS snd + k) := by
        rw [show (8 : Int32) = nI 8 from rfl, show nI 8 * nI (lowS snd) = nI (8 * lowS snd) from (Int32.ofNat_mul 8 _).symm, nI_add]
      rw [if_pos h, if_pos (by rw [e5]; exact h), hi, gd_eq (zin_nI (by omega) (by omega)), nI_clamp (by omega), bd_eq (of0 (by omega)), hw, hoff k hk h, bd_eq (lays0 (by omega)), bd_eq (of5 hlow), mput_at, bd_eq (lays5 (by omega)), mput_at, mput_mput, bd_eq (lays3 (by omega)), mput_at, mput_mput, bd_eq logs_eq, mput_at, mput_mput]
      exact ok_some ⟨_, by rw [nI_1], by rw [mput_at]; rfl, fr_vec⟩
    · rw [if_neg h, if_neg (by rw [e5]; exact h)]
      exact ok_some ⟨_, by rw [nI_1], rfl, fr_refl⟩
  · intro μ2 e3
    simp only [un2]
    rw [if_pos (cond_end e3 h8)]
  · rintro μ2 ⟨g1, g2⟩
    exact ok_some ⟨g1, g2⟩
/-- (d), (e) -/
def jP (o : ZId) (k : Nat) : Prop := o = MV0 ∨ o = (0, 43, 0) ∨ (o = MO0 ∧ k = 25)
theorem frz3 {v : Vec} {k : Nat} {w : Int32} : frzS v k w 3 = v 3 := by unfold frzS; rw [note3, ns3]
theorem den3 {snd : Int32} {wer : Nat → Int32} (k : Nat) (q : Vec × Int32) : (denStep snd wer k q).1 3 = q.1 3 := by
  unfold denStep
  split
  · split
    · show frzS q.1 k 3 3 = q.1 3
      exact frz3
    · dsimp only
      exact ns_low (by decide)
  · rfl
theorem out3 {old : Int32} (k : Nat) (q : Vec × Int32) : (outStep old k q).1 3 = q.1 3 := by
  unfold outStep
  split
  · show frzS q.1 k 4 3 = q.1 3
    exact frz3
  · rfl
theorem m_loop2 {F : Int32 × ZMem → Option ((Int32 × ZMem) ⊕ ZMem)} {P : ZId → Nat → Prop} (f : Nat → Vec × Int32 → Vec × Int32) {c : Nat} (h8 : c ≤ 8) (hf : ∀ k q, (f k q).1 3 = q.1 3) {μ : ZMem} {q : Vec × Int32} (hv : (μ MV0, μ MO0 25) = q) (h3 : q.1 3 = nI c)
    (step : ∀ k μ1, k < c → μ1 MV0 3 = nI c → fr P μ μ1 → ok (F (nI k, μ1)) (fun z => ∃ μ2, z = .inl (nI (k + 1), μ2) ∧ (μ2 MV0, μ2 MO0 25) = f k (μ1 MV0, μ1 MO0 25) ∧ fr P μ1 μ2))
    (fin : ∀ μ1 : ZMem, μ1 MV0 3 = nI c → F (nI c, μ1) = some (.inr μ1)) : ok (lp F FU (0, μ)) (fun μ' => (μ' MV0, μ' MO0 25) = itS f c q ∧ fr P μ μ') := by
  have h5 : ∀ k, (itS f k q).1 3 = nI c := fun k => (itS_pres (α := Vec × Int32) (fun u => u.1 3) hf _ _).trans h3
  refine ok_seq c (fun k s => s.1 = nI k ∧ (s.2 MV0, s.2 MO0 25) = itS f k q ∧ fr P μ s.2) ?_ ?_ ⟨rfl, hv, fr_refl⟩ (FU_lt (by omega))
  · rintro k ⟨i, μ1⟩ hk ⟨h1, h2, h4⟩
    dsimp only at h1 h2 h4
    subst h1
    have h6 : μ1 MV0 3 = nI c := by have := h5 k; rw [← h2] at this; exact this
    refine ok_mono (step k μ1 hk h6 h4) ?_
    rintro z ⟨μ2, rfl, h6, h7⟩
    exact ⟨_, rfl, rfl, by rw [h6, h2]; rfl, fr_trans h4 h7⟩
  · rintro ⟨i, μ1⟩ ⟨h1, h2, h4⟩
    dsimp only at h1 h2 h4
    subst h1
    have h6 : μ1 MV0 3 = nI c := by have := h5 c; rw [← h2] at this; exact this
    exact ⟨_, fin μ1 h6, _, rfl, h2, h4⟩
def jQ (o : ZId) (k : Nat) : Prop := o = MV0 ∨ (o = MO0 ∧ k = 25)
theorem frz_eq {μ : ZMem} {k : Nat} {w : Int32} (hk : k < 8) : ok (f_X12_freezes (nI k) w μ) (fun μ' => (μ' MV0, μ' MO0 25) = (frzS (μ MV0) k w, μ MO0 25 + 1) ∧ fr jQ μ μ') := by
  refine ok_eq (m_freezes hk) ⟨?_, fr_trans (fr_mput (fun _ => Or.inl rfl)) (fr_mset (Or.inr ⟨rfl, rfl⟩))⟩
  rw [mset_ne (show MV0 ≠ MO0 by decide), mput_at, mset_at]
theorem den_congr {snd : Int32} {w1 w2 : Nat → Int32} (hs : isS snd) (hw : ∀ j, tbit snd j = true → w1 j = w2 j) {k : Nat} (hk : k < 8) (h : tbit snd k = true) : denB snd w1 k = denB snd w2 k ∧ denF snd w1 k = denF snd w2 k := by
  obtain ⟨-, n2, n3⟩ := m_next hs hk h
  obtain ⟨-, n5, n6⟩ := m_next hs n3 n2
  unfold denB denF
  rw [hw _ n2, hw _ n5]
  exact ⟨rfl, rfl⟩
theorem bd2_eq' {α β ρ : Type} {x : Option (α × β)} {q : α × β} {f : α → β → Option ρ} (e : x = some q) : bd2 x f = f q.1 q.2 := by rw [e]; rfl
theorem m_judges {μ : ZMem} {old snd : Int32} {c : Nat} {q : Vec × Int32} (h8 : c ≤ 8) (hv : (μ MV0, μ MO0 25) = q) (h3 : q.1 3 = nI c) (hs : isS snd) (hsc : ∀ k, tbit snd k = true → k < c) :
    ok (f_X12_judges old snd μ) (fun μ' => (μ' MV0, μ' MO0 25) = itS (outStep old) c (itS (denStep snd (fun k => nd q.1 k 5)) c q) ∧ fr jP μ μ') := by
  have hv1 : μ MV0 = q.1 := by rw [← hv]
  unfold f_X12_judges
  refine ok_bd (ok_mono (ok_seq c (fun k s => s.1 = nI k ∧ fr (fun o _ => o = (0, 43, 0)) μ s.2 ∧ ∀ j, j < k → s.2 (0, 43, 0) j = nd q.1 j 5) ?_ ?_ (Q := fun μ1 => fr (fun o _ => o = (0, 43, 0)) μ μ1 ∧ ∀ j, j < c → μ1 (0, 43, 0) j = nd q.1 j 5) ⟨rfl, fr_refl, fun j h => absurd h (by omega)⟩ (FU_lt (by omega))) ?_)
  · rintro k ⟨i, μ1⟩ hk ⟨h1, h2, h4⟩
    dsimp only at h1 h2 h4
    subst h1
    have hv2 : μ1 MV0 = q.1 := (fr_at h2 (fun k => by decide)).trans hv1
    simp only [un2]
    rw [if_neg (cond_le (by rw [hv2]; exact h3) h8 hk), bd_eq (of5 (by omega)), gd_eq (zin_nI (by omega) (by omega)), nI_clamp (by omega), zlt_eq, hv2]
    refine ok_some ⟨_, rfl, nI_1 k, fr_trans h2 (fr_mset rfl), ?_⟩
    intro j hj
    show mset _ _ _ _ _ _ = _
    by_cases e : j = k
    · subst e; rw [mset_at]
    · rw [mset_k e]; exact h4 j (by omega)
  · rintro ⟨i, μ1⟩ ⟨h1, h2, h4⟩
    dsimp only at h1 h2 h4
    subst h1
    have hv2 : μ1 MV0 = q.1 := (fr_at h2 (fun k => by decide)).trans hv1
    simp only [un2]
    rw [if_pos (cond_end (by rw [hv2]; exact h3) h8)]
    exact ok_some ⟨_, rfl, h2, h4⟩
  · rintro μ1 ⟨h2, h4⟩
    have hq1 : (μ1 MV0, μ1 MO0 25) = q := by rw [fr_at h2 (fun k => by decide), fr_at h2 (fun k => by decide)]; exact hv
    refine ok_bd (ok_mono (m_loop2 (P := jQ) (denStep snd (fun k => nd q.1 k 5)) h8 den3 hq1 h3 ?_ ?_) ?_)
    · intro k μ2 hk e3 f
      have hw : μ2 (0, 43, 0) = μ1 (0, 43, 0) := fr_at f (fun k => by rintro (h | ⟨h, -⟩) <;> exact absurd h (by decide))
      simp only [un2]
      rw [if_neg (cond_le e3 h8 hk), bd_eq (isOf_eq (by omega))]
      unfold denStep
      by_cases hb : tbit snd k = true
      · rw [if_neg (by rw [hb]; decide), bd2_eq' (m_denied (by omega) hs hb)]
        obtain ⟨d1, d2⟩ := den_congr (w1 := fun j => μ2 (0, 43, 0) j) (w2 := fun k => nd q.1 k 5) hs (fun j hj => by show μ2 (0, 43, 0) j = _; rw [hw]; exact h4 j (hsc j hj)) (show k < 8 by omega) hb
        rw [d1, d2, hb]
        by_cases hB : denB snd (fun k => nd q.1 k 5) k = true
        · by_cases hF : denF snd (fun k => nd q.1 k 5) k = true
          · simp only [hB, hF, Bool.and_self, if_true]
            rw [if_neg (by decide)]
            refine ok_bd (ok_bd (ok_mono (frz_eq (by omega)) ?_))
            rintro μ3 ⟨e1, e2⟩
            exact ok_some (ok_some ⟨_, by rw [nI_1], e1, e2⟩)
          · have hF' : denF snd (fun k => nd q.1 k 5) k = false := by simpa using hF
            simp only [hB, hF', Bool.and_self, if_true, Bool.false_eq_true, if_false]
            exact ok_some ⟨_, by rw [nI_1], by rw [mput_at, mput_ne (show MO0 ≠ MV0 by decide)], fr_mput (fun _ => Or.inl rfl)⟩
        · have hB' : denB snd (fun k => nd q.1 k 5) k = false := by simpa using hB
          simp only [hB', Bool.and_false, if_true, Bool.false_eq_true, if_false]
          exact ok_some ⟨_, by rw [nI_1], rfl, fr_refl⟩
      · have hb' : tbit snd k = false := by simpa using hb
        rw [if_pos (by rw [hb']; decide), if_neg (by simp [hb'])]
        exact ok_some ⟨_, by rw [nI_1], rfl, fr_refl⟩
    · intro μ2 e3
      simp only [un2]
      rw [if_pos (cond_end e3 h8)]
    · rintro μ2 ⟨g1, g2⟩
      have g3 : (itS (denStep snd (fun k => nd q.1 k 5)) c q).1 3 = nI c := (itS_pres (α := Vec × Int32) (fun u => u.1 3) den3 _ _).trans h3
      refine ok_bd (ok_mono (m_loop2 (P := jQ) (outStep old) h8 out3 g1 g3 ?_ ?_) ?_)
      · intro k μ3 hk e3 f
        simp only [un2]
        rw [if_neg (cond_le e3 h8 hk), bd_eq (isOf_eq (by omega))]
        unfold outStep
        by_cases hb : tbit old k = true
        · rw [if_neg (by rw [hb]; decide), bd_eq (isActive_eq (by omega)), hb]
          by_cases h1 : nd (μ3 MV0) k 3 = 2
          · rw [if_neg (by rw [h1]; decide), bd_eq (of7 (by omega))]
            by_cases h2 : 0 < nd (μ3 MV0) k 7
            · rw [if_neg (Int32.not_le.mpr h2), bd_eq (of6 (by omega)), bd_eq (of7 (by omega))]
              by_cases h3 : nd (μ3 MV0) k 6 ≤ nd (μ3 MV0) k 7
              · rw [if_neg (Int32.not_lt.mpr h3), if_pos (by simp [h1, h2, h3])]
                refine ok_bd (ok_bd (ok_mono (frz_eq (by omega)) ?_))
                rintro μ4 ⟨e1, e2⟩
                exact ok_some (ok_some ⟨_, by rw [nI_1], e1, e2⟩)
              · rw [if_pos (Int32.not_le.mp h3), if_neg (by simp [h3])]
                exact ok_some ⟨_, by rw [nI_1], rfl, fr_refl⟩
            · rw [if_pos (Int32.not_lt.mp h2), if_neg (by simp [h2])]
              exact ok_some ⟨_, by rw [nI_1], rfl, fr_refl⟩
          · rw [if_pos (by simp [h1, b2i]), if_neg (by simp [h1])]
            exact ok_some ⟨_, by rw [nI_1], rfl, fr_refl⟩
        · have hb' : tbit old k = false := by simpa using hb
          rw [if_pos (by rw [hb']; decide), if_neg (by simp [hb'])]
          exact ok_some ⟨_, by rw [nI_1], rfl, fr_refl⟩
      · intro μ3 e3
        simp only [un2]
        rw [if_pos (cond_end e3 h8)]
      · rintro μ3 ⟨k1, k2⟩
        refine ok_some ⟨k1, fr_trans (fr_mono h2 (fun o k h => Or.inr (Or.inl h))) (fr_trans (fr_mono g2 (fun o k h => ?_)) (fr_mono k2 (fun o k h => ?_)))⟩
        · rcases h with h | h
          · exact Or.inl h
          · exact Or.inr (Or.inr h)
        · rcases h with h | h
          · exact Or.inl h
          · exact Or.inr (Or.inr h)
