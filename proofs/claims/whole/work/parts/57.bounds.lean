/-! a round keeps the bounds -/
def BW (v : Vec) (k : Nat) : Prop := (nd v k 3 = 0 → rng (nd v k 0) (-999) 999) ∧ rng (nd v k 1) (-9) 9 ∧ rng (nd v k 2) (-9) 9 ∧ rng (nd v k 3) 0 3 ∧ rng (nd v k 8) 0 100 ∧ rng (nd v k 9) 0 3 ∧ rng (nd v k 10) 0 99
theorem BW_ns {v : Vec} {k j x : Nat} {a : Int32} (hx : x < 11) (h : BW v k) (ha : x = 4 ∨ x = 5 ∨ x = 6 ∨ x = 7 ∨ (x = 0 ∧ (¬ nd v j 3 = 0 ∨ rng a (-999) 999)) ∨ (x = 2 ∧ rng a (-9) 9) ∨ (x = 3 ∧ (a = 2 ∨ a = 3))) : BW (ns v j x a) k := by
  obtain ⟨h0, h1, h2, h3, h8, h9, h10⟩ := h
  by_cases e : k = j
  · subst e
    rcases ha with rfl | rfl | rfl | rfl | ⟨rfl, ha⟩ | ⟨rfl, ha⟩ | ⟨rfl, ha⟩
    all_goals (unfold BW; simp only [nd_ns (show _ < 11 by omega) (show 0 < 11 by omega), nd_ns (show _ < 11 by omega) (show 1 < 11 by omega), nd_ns (show _ < 11 by omega) (show 2 < 11 by omega), nd_ns (show _ < 11 by omega) (show 3 < 11 by omega), nd_ns (show _ < 11 by omega) (show 8 < 11 by omega), nd_ns (show _ < 11 by omega) (show 9 < 11 by omega), nd_ns (show _ < 11 by omega) (show 10 < 11 by omega)])
    all_goals simp only [true_and, Nat.reduceEqDiff, if_false, if_true]
    · exact ⟨h0, h1, h2, h3, h8, h9, h10⟩
    · exact ⟨h0, h1, h2, h3, h8, h9, h10⟩
    · exact ⟨h0, h1, h2, h3, h8, h9, h10⟩
    · exact ⟨h0, h1, h2, h3, h8, h9, h10⟩
    · refine ⟨fun q => ?_, h1, h2, h3, h8, h9, h10⟩
      rcases ha with ha | ha
      · exact absurd q ha
      · exact ha
    · exact ⟨h0, h1, ha, h3, h8, h9, h10⟩
    · refine ⟨fun q => ?_, h1, h2, ?_, h8, h9, h10⟩
      · rcases ha with rfl | rfl
        · exact absurd q (by decide)
        · exact absurd q (by decide)
      · rcases ha with rfl | rfl
        · exact ⟨by decide, by decide⟩
        · exact ⟨by decide, by decide⟩
  · unfold BW
    rw [ns_far hx (by omega) e, ns_far hx (by omega) e, ns_far hx (by omega) e, ns_far hx (by omega) e, ns_far hx (by omega) e, ns_far hx (by omega) e, ns_far hx (by omega) e]
    exact ⟨h0, h1, h2, h3, h8, h9, h10⟩
theorem BW_eq {u v : Vec} {k : Nat} (e : ∀ x, x < 11 → nd u k x = nd v k x) (h : BW v k) : BW u k := by
  unfold BW at h ⊢
  rw [e 0 (by omega), e 1 (by omega), e 2 (by omega), e 3 (by omega), e 8 (by omega), e 9 (by omega), e 10 (by omega)]
  exact h
theorem BW_note {v : Vec} {k : Nat} {a b d : Int32} (hk : k < 8) (h : BW v k) : BW (noteS v a b d) k := BW_eq (fun x hx => note_nd hk hx) h
theorem BW_frz {v : Vec} {k j : Nat} {w : Int32} (hk : k < 8) (h : BW v k) : BW (frzS v j w) k := BW_note hk (BW_ns (by omega) h (by simp))
theorem BW_calls {L : LawS} {c k : Nat} {v : Vec} (hk : k < 8) (h : BW v k) : BW (callsS L c v) k := by
  have hw : BW (itS waitStep c v) k := itS_inv (p := fun u => BW u k) c (fun j u _ hu => by
    unfold waitStep
    split
    · exact BW_ns (by omega) hu (by simp)
    · exact hu) v h
  unfold callsS
  split
  · unfold startS
    refine BW_note hk (BW_ns (by omega) (BW_ns (by omega) (BW_ns (by omega) hw (by simp)) (by simp)) ?_)
    have : rng 0 (-9) 9 := rng_0 (by omega) (by omega)
    simp [this]
  · refine itS_inv (p := fun u => BW u k) c (fun j u _ hu => ?_) _ hw
    unfold collStep
    split
    · exact BW_note hk (BW_ns (by omega) hu (by simp))
    · exact hu
theorem BW_join {off : Nat → Nat → Int32} {to c k : Nat} {v : Vec} (hk : k < 8) (h : BW v k) : BW (itS (joinStep off to) c v) k := by
  refine itS_inv (p := fun u => BW u k) c (fun j u _ hu => ?_) _ h
  unfold joinStep
  split
  · refine BW_note hk (BW_ns (by omega) (BW_ns (by omega) (BW_ns (by omega) hu ?_) (by simp)) (by simp))
    exact Or.inr (Or.inr (Or.inr (Or.inr (Or.inl ⟨rfl, Or.inr held_rng.1⟩))))
  · exact hu
theorem BW_round {L : LawS} {c k : Nat} {d x : Int32} {v : Vec} (hk : k < c) (h8 : c ≤ 8) (h : BW v k) : BN (roundS L c d (v, x)).1 k := by
  have hk8 : k < 8 := by omega
  obtain ⟨sn, hsn⟩ : ∃ sn, sn = sndS d (omitS L c v) (actS v c) (passS L c v) c v := ⟨_, rfl⟩
  have h1 : BW sn.1 k := by rw [hsn]; exact BW_eq (fun x hx => snd_nd hk8) h
  have h2 : BW (if sn.2 = 0 then callsS L c sn.1 else itS (joinStep (offS L c v) (lowS sn.2)) c sn.1) k := by
    split
    · exact BW_calls hk8 h1
    · exact BW_join hk8 h1
  obtain ⟨v1, hv1⟩ : ∃ v1, v1 = if sn.2 = 0 then callsS L c sn.1 else itS (joinStep (offS L c v) (lowS sn.2)) c sn.1 := ⟨_, rfl⟩
  rw [← hv1] at h2
  have h3 : BW (itS (cntStep (actS v c) sn.2 (heardS L c v)) c v1) k := by
    refine itS_inv (p := fun u => BW u k) c (fun j u _ hu => ?_) _ h2
    unfold cntStep
    split
    · exact BW_ns (by omega) (BW_ns (by omega) (BW_ns (by omega) hu (by simp)) (by simp)) (by simp)
    · exact hu
  obtain ⟨v2, hv2⟩ : ∃ v2, v2 = itS (cntStep (actS v c) sn.2 (heardS L c v)) c v1 := ⟨_, rfl⟩
  rw [← hv2] at h3
  have h4 : BW (itS (denStep sn.2 (fun k => nd v2 k 5)) c (v2, x)).1 k := by
    refine itS_inv (p := fun u : Vec × Int32 => BW u.1 k) c (fun j u _ hu => ?_) _ h3
    unfold denStep
    split
    · split
      · exact BW_frz hk8 hu
      · exact BW_ns (by omega) hu (by simp)
    · exact hu
  obtain ⟨q3, hq3⟩ : ∃ q3, q3 = itS (denStep sn.2 (fun k => nd v2 k 5)) c (v2, x) := ⟨_, rfl⟩
  rw [← hq3] at h4
  have h5 : BW (itS (outStep (actS v c)) c q3).1 k := by
    refine itS_inv (p := fun u : Vec × Int32 => BW u.1 k) c (fun j u _ hu => ?_) _ h4
    unfold outStep
    split
    · exact BW_frz hk8 hu
    · exact hu
  obtain ⟨q4, hq4⟩ : ∃ q4, q4 = itS (outStep (actS v c)) c q3 := ⟨_, rfl⟩
  rw [← hq4] at h5
  have h6 : BW (itS (corStep (midK (offS L c v) (heardS L c v) sn.2 c) (actS v c)) c q4.1) k := by
    refine itS_inv (p := fun u => BW u k) c (fun j u _ hu => ?_) _ h5
    unfold corStep
    split
    · rename_i hc
      have h2 : nd u j 3 = 2 := of_decide_eq_true (Bool.and_eq_true_iff.mp hc).2
      split
      · refine BW_ns (by omega) hu (Or.inr (Or.inr (Or.inr (Or.inr (Or.inl ⟨rfl, Or.inl ?_⟩)))))
        rw [h2]
        decide
      · exact BW_ns (by omega) hu (Or.inr (Or.inr (Or.inr (Or.inr (Or.inr (Or.inl ⟨rfl, held_rng.2⟩))))))
    · exact hu
  obtain ⟨v5, hv5⟩ : ∃ v5, v5 = itS (corStep (midK (offS L c v) (heardS L c v) sn.2 c) (actS v c)) c q4.1 := ⟨_, rfl⟩
  rw [← hv5] at h6
  have h7 : BW (itS runStep c v5) k ∧ rng (nd (itS runStep c v5) k 0) (-999) 999 := by
    have key : ∀ n, n ≤ 8 → BW (itS runStep n v5) k ∧ (k < n → rng (nd (itS runStep n v5) k 0) (-999) 999) := by
      intro n
      induction n with
      | zero => intro _; exact ⟨h6, fun q => absurd q (by omega)⟩
      | succ n ih =>
        intro hn
        obtain ⟨i1, i2⟩ := ih (by omega)
        rw [itS_s]
        generalize itS runStep n v5 = u at i1 i2 ⊢
        unfold runStep
        by_cases z : nd u n 3 = 0
        · rw [if_pos z]
          refine ⟨i1, fun q => ?_⟩
          by_cases e : k = n
          · subst e; exact i1.1 z
          · exact i2 (by omega)
        · rw [if_neg z]
          refine ⟨BW_ns (by omega) i1 (Or.inr (Or.inr (Or.inr (Or.inr (Or.inl ⟨rfl, Or.inr held_rng.1⟩))))), fun q => ?_⟩
          by_cases e : k = n
          · subst e
            rw [ns_near (by omega)]
            exact held_rng.1
          · rw [ns_far (by omega) (by omega) e]
            exact i2 (by omega)
    exact ⟨(key c h8).1, (key c h8).2 hk⟩
  have er : (roundS L c d (v, x)).1 = vset (itS runStep c v5) 6 (f_X12_lesser 9999 (itS runStep c v5 6 + 1)) := by
    rw [hv5, hq4, hq3, hv2, hv1, hsn]
    rfl
  rw [er]
  have e6 : ∀ y, nd (vset (itS runStep c v5) 6 (f_X12_lesser 9999 (itS runStep c v5 6 + 1))) k y = nd (itS runStep c v5) k y := fun y => by
    unfold nd
    rw [vset_ne (by omega)]
  unfold BN
  rw [e6, e6, e6, e6, e6, e6, e6]
  exact ⟨h7.2, h7.1.2⟩
theorem note_lo {v : Vec} {a b d : Int32} {i : Nat} (h : i < 9) (h7 : i ≠ 7) : noteS v a b d i = v i := by
  unfold noteS
  rw [if_neg h7, if_neg (by omega), if_neg (by omega), if_neg (by omega), if_neg (by omega), if_neg (by omega)]
theorem frz_lo {v : Vec} {k : Nat} {w : Int32} {i : Nat} (h : i < 7) : frzS v k w i = v i := by
  unfold frzS
  rw [note_lo (by omega) (by omega), ns_low (by omega)]
theorem calls_lo {L : LawS} {c i : Nat} {v : Vec} (h : i < 7) : callsS L c v i = v i := by
  have hw : itS waitStep c v i = v i := itS_pres (α := Vec) (fun u => u i) (fun k u => by
    unfold waitStep
    split
    · exact ns_low (by omega)
    · rfl) c v
  unfold callsS
  split
  · unfold startS
    rw [note_lo (by omega) (by omega), ns_low (by omega), ns_low (by omega), ns_low (by omega)]
    exact hw
  · refine (itS_pres (α := Vec) (fun u => u i) (fun k u => ?_) c _).trans hw
    unfold collStep
    split
    · rw [note_lo (by omega) (by omega), ns_low (by omega)]
    · rfl
theorem round_lo {L : LawS} {c i : Nat} {d : Int32} {q : Vec × Int32} (h : i < 7) : (roundS L c d q).1 i = if i = 6 then f_X12_lesser 9999 (q.1 6 + 1) else q.1 i := by
  have key : ∀ i, i < 7 → ∀ (w : Nat → Int32) (old snd : Int32) (hd : Nat → Int32) (x : Int32) (u : Vec), itS runStep c (itS (corStep w old) c (itS (outStep old) c (itS (denStep snd (fun k => nd (itS (cntStep old snd hd) c u) k 5)) c (itS (cntStep old snd hd) c u, x))).1) i = u i := by
    intro i h w old snd hd x u
    rw [itS_pres (α := Vec) (fun u => u i) (fun k u => by
      unfold runStep
      split
      · rfl
      · exact ns_low (by omega)) c _]
    rw [itS_pres (α := Vec) (fun u => u i) (fun k u => by
      unfold corStep
      split
      · split <;> exact ns_low (by omega)
      · rfl) c _]
    rw [itS_pres (α := Vec × Int32) (fun u => u.1 i) (fun k u => by
      unfold outStep
      split
      · exact frz_lo h
      · rfl) c _]
    rw [itS_pres (α := Vec × Int32) (fun u => u.1 i) (fun k u => by
      unfold denStep
      split
      · split
        · exact frz_lo h
        · exact ns_low (by omega)
      · rfl) c _]
    refine itS_pres (α := Vec) (fun u => u i) (fun k u => ?_) c u
    unfold cntStep
    split
    · rw [ns_low (by omega), ns_low (by omega), ns_low (by omega)]
    · rfl
  have snd : ∀ i, i < 7 → (sndS d (omitS L c q.1) (actS q.1 c) (passS L c q.1) c q.1).1 i = q.1 i := by
    intro i h
    unfold sndS
    refine itS_pres (α := Vec × Int32) (fun u => u.1 i) (fun k u => ?_) c (q.1, 0)
    unfold sndStep
    split
    · dsimp only
      split
      · rfl
      · exact vset_ne (by omega)
    · rfl
  have v1 : ∀ i, i < 7 → ∀ off to, (if (sndS d (omitS L c q.1) (actS q.1 c) (passS L c q.1) c q.1).2 = 0 then callsS L c (sndS d (omitS L c q.1) (actS q.1 c) (passS L c q.1) c q.1).1 else itS (joinStep off to) c (sndS d (omitS L c q.1) (actS q.1 c) (passS L c q.1) c q.1).1) i = q.1 i := by
    intro i h off to
    split
    · rw [calls_lo h, snd i h]
    · refine (itS_pres (α := Vec) (fun u => u i) (fun k u => ?_) c _).trans (snd i h)
      unfold joinStep
      split
      · rw [note_lo (by omega) (by omega), ns_low (by omega), ns_low (by omega), ns_low (by omega)]
      · rfl
  unfold roundS
  dsimp only
  by_cases e : i = 6
  · subst e
    rw [if_pos rfl, vset_at, key 6 (by omega), v1 6 (by omega)]
  · rw [if_neg e, vset_ne e, key i h, v1 i h]
theorem BV_round {L : LawS} {c : Nat} {d x : Int32} {v : Vec} (h8 : c ≤ 8) (h : BV c v) : BV c (roundS L c d (v, x)).1 := by
  obtain ⟨h1, h4, h5, h6⟩ := h
  refine ⟨fun k hk => BW_round hk h8 ?_, ?_, ?_, ?_⟩
  · obtain ⟨a0, a⟩ := h1 k hk
    exact ⟨fun _ => a0, a⟩
  · rw [round_lo (by omega), if_neg (by omega)]; exact h4
  · rw [round_lo (by omega), if_neg (by omega)]; exact h5
  · rw [round_lo (by omega), if_pos rfl]
    have := rng_add h6 (show rng 1 1 1 from ⟨by decide, by decide⟩) (by omega) (by omega)
    exact rng_mono (lesser_rng (x := 9999) (a := 9999) (b := 9999) ⟨by decide, by decide⟩ this) (by omega) (by omega)
