/-! the class's round is roundS -/
def playP (s : Nat) (o : ZId) (i : Nat) : Prop := clsP s o i ∨ viewP o i ∨ o = (0, 10, 0) ∨ o = (0, 11, 0)
theorem pl_c {s : Nat} {o : ZId} {i : Nat} (h : clsP s o i) : playP s o i := Or.inl h
theorem pl_v {s : Nat} {o : ZId} {i : Nat} (h : viewP o i) : playP s o i := Or.inr (Or.inl h)
theorem pl_w {s : Nat} {o : ZId} {i : Nat} (h : cowP s o i) : playP s o i := by
  rcases h with h | ⟨n, rfl⟩
  · exact Or.inl h
  · exact pl_v vw64
theorem pl_k {s : Nat} {o : ZId} {i : Nat} (h : corP s o i) : playP s o i := by
  rcases h with h | h
  · exact Or.inl h
  · exact Or.inr (Or.inr (Or.inl h))
theorem pl_a {s : Nat} {o : ZId} {i : Nat} (h : ackP s o i) : playP s o i := by
  rcases h with h | h
  · exact Or.inl h
  · exact Or.inr (Or.inr (Or.inr h))
theorem not_pl {s : Nat} {o : ZId} {i : Nat} (h1 : ¬ clsP s o i) (h2 : ¬ viewP o i) (h3 : o ≠ (0, 10, 0)) (h4 : o ≠ (0, 11, 0)) : ¬ playP s o i := by
  rintro (h | h | h | h)
  · exact h1 h
  · exact h2 h
  · exact h3 h
  · exact h4 h
theorem LawC_pl {y : ZLay} {μ0 μ1 : ZMem} {n s : Nat} {L : LawS} (h : LawC y μ0 n L) (f : fr (playP s) μ0 μ1) : LawC y μ1 n L :=
  LawC_fr h f (fun i => ⟨fun j hj => not_pl (not_cls (zne (by decide)) (zne (by decide)) (fun k => zne (by decide)) i) (not_vw (zne (by decide)) (zne (by decide)) (zne (by decide)) (zne (by decide)) (fun k => zne (by decide)) (fun m => n64 hj) i) (zne (by decide)) (zne (by decide)),
    not_pl (not_cls (zne (by decide)) (zne (by decide)) (fun k => zne (by decide)) i) (not_vw (zne (by decide)) (zne (by decide)) (zne (by decide)) (zne (by decide)) (fun k => zne (by decide)) (fun m => zne (by decide)) i) (zne (by decide)) (zne (by decide))⟩)
theorem pl_law {s t : Nat} {μ0 μ1 : ZMem} (f : fr (playP s) μ0 μ1) : μ1 (1, t, 0) 10 = μ0 (1, t, 0) 10 := by
  refine f.1 (1, t, 0) 10 (not_pl ?_ (not_vw (zne (by decide)) (zne (by decide)) (zne (by decide)) (zne (by decide)) (fun k => zne (by decide)) (fun m => zne (by decide)) _) (zne (by decide)) (zne (by decide)))
  rintro (h | ⟨-, h⟩ | ⟨k, h⟩)
  · exact zne (by decide) h
  · omega
  · exact zne (by decide) h
theorem CS_rnd {μ : ZMem} {s c : Nat} {v : Vec} {a : Int32} (h : CS μ s c v) : CS (mset μ (1, s, 0) 7 a) s c (vset v 6 a) := by
  obtain ⟨h8, h1, h2, h3, h4, h5, h6, h7, h9⟩ := h
  have e4 : (mset μ (1, s, 0) 7 a) (4, s, 0) = μ (4, s, 0) := mset_ne (zne (by decide))
  refine ⟨h8, by rw [mset_k (by decide), h1], by rw [vset_ne (by decide), h2], by rw [mset_k (by decide), h3, vset_ne (by decide)], by rw [mset_k (by decide), h4, vset_ne (by decide)], by rw [mset_at, vset_at], by rw [mset_k (by decide), h6, vset_ne (by decide)], ?_, ?_⟩
  · intro k hk x hx
    rw [mset_ne (zne (by decide)), h7 k hk x hx]
    unfold nd
    rw [vset_ne (by omega)]
  · exact ring_congr h9 (mset_k (by decide)) (mset_k (by decide)) e4 (vset_ne (by decide)) (fun i h1 h2 => vset_ne (by omega))
theorem out_sub {ol : Int32} {v : Vec} : ∀ n, n ≤ 8 → ∀ j, tbit (itS (outT ol) n (v, 0)).2 j = true → tbit ol j = true
  | 0, _, j, h => by rw [show (itS (outT ol) 0 (v, 0)).2 = 0 from rfl, tbit_zero] at h; exact absurd h (by decide)
  | n + 1, hn, j, h => by
    have ih := out_sub (ol := ol) (v := v) n (by omega) j
    rw [itS_s] at h
    generalize itS (outT ol) n (v, 0) = q at h ih
    unfold outT at h
    by_cases c1 : (tbit ol n && (decide (0 < nd q.1 n 7) && decide (nd q.1 n 6 ≤ nd q.1 n 7))) = true
    · rw [if_pos c1] at h
      dsimp only at h
      rw [tbit_or, tbit_bit1 (by omega)] at h
      by_cases e : j = n
      · subst e
        exact (Bool.and_eq_true_iff.mp c1).1
      · exact ih (by simpa [e] using h)
    · rw [if_neg c1] at h
      exact ih h
theorem frz_nd0 {u : Vec} {k j x : Nat} {w : Int32} (hj : j < 8) (hx : x < 11) (h3 : x ≠ 3) : nd (frzS u k w) j x = nd u j x := by rw [frz_nd hj hx, if_neg (fun q => h3 q.2)]
theorem denT_nd {snd : Int32} {wer : Nat → Int32} {j x : Nat} {v : Vec} (hj : j < 8) (hx : x < 11) (h3 : x ≠ 3) (h5 : x ≠ 5) (n : Nat) : nd (itS (denT snd wer) n (v, 0)).1 j x = nd v j x := by
  refine itS_pres (α := Vec × Int32) (fun q => nd q.1 j x) ?_ n (v, 0)
  intro k q
  unfold denT
  split
  · split
    · exact frz_nd0 hj hx h3
    · dsimp only
      rw [nd_ns (by omega) hx, if_neg (by omega)]
  · rfl
theorem outT_nd {ol : Int32} {j x : Nat} {v : Vec} (hj : j < 8) (hx : x < 11) (h3 : x ≠ 3) (n : Nat) : nd (itS (outT ol) n (v, 0)).1 j x = nd v j x := by
  refine itS_pres (α := Vec × Int32) (fun q => nd q.1 j x) ?_ n (v, 0)
  intro k q
  unfold outT
  split
  · exact frz_nd0 hj hx h3
  · rfl
theorem cnt_nd {old snd : Int32} {heard : Nat → Int32} {j x : Nat} {v : Vec} (hx : x < 11) (h5 : x ≠ 5) (h6 : x ≠ 6) (h7 : x ≠ 7) (n : Nat) : nd (itS (cntStep old snd heard) n v) j x = nd v j x := by
  refine itS_pres (α := Vec) (fun q => nd q j x) ?_ n v
  intro k q
  unfold cntStep
  split
  · rw [nd_ns (by omega) hx, if_neg (by omega), nd_ns (by omega) hx, if_neg (by omega), nd_ns (by omega) hx, if_neg (by omega)]
  · rfl
/-- who sends on is not touched -/
def stay (v : Vec) (k : Nat) (u : Vec) : Prop := nd u k 3 = 2 ∧ nd u k 0 = nd v k 0
theorem stay_join {off : Nat → Nat → Int32} {to c k : Nat} {v u : Vec} (hk : k < 8) (h : stay v k u) : stay v k (itS (joinStep off to) c u) := by
  refine itS_inv (p := fun u => stay v k u) c ?_ u h
  intro j w hj hw
  by_cases e : k = j
  · subst e
    unfold joinStep
    rw [if_neg (by rw [hw.1]; decide)]
    exact hw
  · exact ⟨by rw [join_far (by omega) j w k hk e]; exact hw.1, by rw [join_far (by omega) j w k hk e]; exact hw.2⟩
theorem stay_calls {L : LawS} {c k : Nat} {v u : Vec} (hk : k < 8) (h8 : c ≤ 8) (h : stay v k u) : stay v k (callsS L c u) := by
  have hw : stay v k (itS waitStep c u) := ⟨by rw [waits_nd (by omega) (by omega)]; exact h.1, by rw [waits_nd (by omega) (by omega)]; exact h.2⟩
  unfold callsS
  split
  · unfold startS
    refine ⟨?_, ?_⟩
    · rw [note_nd hk (by omega), nd_ns (by omega) (by omega), if_neg (by omega), nd_ns (by omega) (by omega), if_neg (by omega), nd_ns (by omega) (by omega)]
      split
      · rfl
      · exact hw.1
    · rw [note_nd hk (by omega), nd_ns (by omega) (by omega), if_neg (by omega), nd_ns (by omega) (by omega), if_neg (by omega), nd_ns (by omega) (by omega), if_neg (by omega)]
      exact hw.2
  · exact ⟨by rw [colls_nd hk (by omega) (Or.inl (by omega))]; exact hw.1, by rw [colls_nd hk (by omega) (Or.inl (by omega))]; exact hw.2⟩
theorem c_play {y : ZLay} {μ : ZMem} {s c n : Nat} {d x : Int32} {v : Vec} {L : LawS} (hz : 8 ≤ zlen y (0, 10, 0) ∧ zlen y (0, 10, 0) ≤ 1000) (h : CS μ s c v) (hW : WFv c v) (hB : BV c v) (hb : LB L) (hL : LawC y μ n L) (hn : (μ (1, s, 0) 10).toNatClampNeg = n) :
    ok (f_X9_play y s d μ) (fun q => CS q.2 s c (roundS L c d (v, x)).1 ∧ x + q.1 = (roundS L c d (v, x)).2 ∧ fr (playP s) μ q.2) := by
  have h8 := h.1
  have hO : okV c v v := ⟨hW, fun _ _ => rfl⟩
  have hold : ∀ k, tbit (actS v c) k = true → k < 8 → k < c ∧ nd v k 3 = 2 := by
    intro k h hk
    unfold actS at h
    rw [tbit_bset (by omega) (by omega)] at h
    simpa using h
  unfold f_X9_play
  refine ok_bd (ok_mono (c_look h hW hB hb hL hn) ?_)
  rintro μ1 ⟨C1, f1, ⟨l1, l2, l3⟩, l7⟩
  rw [zlt_s, l1]
  have hs2 := snd_sub (d := d) (old := actS v c) (pas := passS L c v) (om := omitS L c v) h8 v
  have hs3 := fun w x (hw : w < 8) => snd_nd (d := d) (old := actS v c) (pas := passS L c v) (om := omitS L c v) (c := c) (w := w) (x := x) (v := v) hw
  have hO1 : okV c v (sndS d (omitS L c v) (actS v c) (passS L c v) c v).1 := okV_it (g := fun q : Vec × Int32 => q.1) (fun k q hk hq => okV_snd hq) hO
  refine ok_bd2 (ok_mono (c_senders (d := d) (old := actS v c) (pas := passS L c v) (om := omitS L c v) C1 (fun k hk => (l3 k hk).2.1) (fun k hk => omit_le) l2) ?_)
  rintro ⟨snd, μ2⟩ ⟨e2, C2, f2⟩
  dsimp only at e2 C2 f2 ⊢
  subst e2
  have er : roundS L c d (v, x) = (let old := actS v c; let s := sndS d (omitS L c v) old (passS L c v) c v; let snd := s.2; let v1 := if snd = 0 then callsS L c s.1 else itS (joinStep (offS L c v) (lowS snd)) c s.1; let v2 := itS (cntStep old snd (heardS L c v)) c v1; let q3 := itS (denStep snd (fun k => nd v2 k 5)) c (v2, x); let q4 := itS (outStep old) c q3; let v5 := itS (corStep (midK (offS L c v) (heardS L c v) snd c) old) c q4.1; let v6 := itS runStep c v5; (vset v6 6 (f_X12_lesser 9999 (v6 6 + 1)), q4.2)) := rfl
  dsimp only at er
  obtain ⟨sn, hsn⟩ : ∃ sn, sn = sndS d (omitS L c v) (actS v c) (passS L c v) c v := ⟨_, rfl⟩
  rw [← hsn] at er hs2 hs3 hO1 C2 ⊢
  obtain ⟨hs1, hsub⟩ := hs2
  obtain ⟨v1, hv1⟩ : ∃ v1, v1 = if sn.2 = 0 then callsS L c sn.1 else itS (joinStep (offS L c v) (lowS sn.2)) c sn.1 := ⟨_, rfl⟩
  rw [← hv1] at er
  have F2 : fr (playP s) μ μ2 := fr_trans (fr_mono f1 (fun o i h => pl_v h)) (fr_mono f2 (fun o i h => pl_c h))
  have st0 : ∀ k, k < 8 → nd v k 3 = 2 → stay v k sn.1 := fun k hk h => ⟨by rw [hs3 k 3 hk]; exact h, hs3 k 0 hk⟩
  have st1 : ∀ k, k < 8 → nd v k 3 = 2 → stay v k v1 := by
    intro k hk h
    rw [hv1]
    split
    · exact stay_calls hk h8 (st0 k hk h)
    · exact stay_join hk (st0 k hk h)
  have in2 : ∀ o, (o = (0, 7, 0) ∨ ∃ k, o = (7, k, 0)) → μ2 o = μ1 o := by
    rintro o (rfl | ⟨k, rfl⟩)
    · exact fr_at f2 not_cls0
    · exact fr_at f2 (not_cls (zne (by decide)) (zne (by decide)) (fun k => zne (by decide)))
  refine ok_bd (ok_mono (Q := fun μ3 => CS μ3 s c v1 ∧ fr (cowP s) μ2 μ3) ?_ ?_)
  · rw [hv1]
    by_cases z : sn.2 = 0
    · rw [if_pos z, if_pos z]
      exact ok_bd (ok_mono (c_callOrWait C2 hO1.1 (LawC_pl hL F2) (by rw [pl_law F2]; exact hn)) (fun μ3 h => ok_some h))
    · rw [if_neg z, if_neg z]
      obtain ⟨lc, lo⟩ := hsub _ (low_bit hs1 z)
      refine ok_bd (ok_mono (c_joinAll (off := offS L c v) C2 hs1 z lc ?_) (fun μ3 h => ok_some ⟨h.1, fr_mono h.2 (fun o i h => cls_cow h)⟩))
      intro k hk
      rw [in2 _ (Or.inr ⟨_, rfl⟩), (l3 _ lc).2.2 k hk, hs3 k 0 (by omega)]
      unfold offS
      rw [Int32.sub_add_cancel]
  rintro μ3 ⟨C3, f3⟩
  have in3 : ∀ o, (o = (0, 7, 0) ∨ ∃ k, o = (7, k, 0)) → μ3 o = μ1 o := by
    intro o ho
    rw [← in2 o ho]
    rcases ho with rfl | ⟨k, rfl⟩
    · exact fr_at f3 (not_cow (zne (by decide)) (zne (by decide)) (fun k => zne (by decide)) (fun k => zne (by decide)))
    · exact fr_at f3 (not_cow (zne (by decide)) (zne (by decide)) (fun k => zne (by decide)) (fun k => zne (by decide)))
  obtain ⟨v2, hv2⟩ : ∃ v2, v2 = itS (cntStep (actS v c) sn.2 (heardS L c v)) c v1 := ⟨_, rfl⟩
  rw [← hv2] at er
  have st2 : ∀ k, k < 8 → nd v k 3 = 2 → stay v k v2 := fun k hk h => ⟨by rw [hv2, cnt_nd (by omega) (by omega) (by omega) (by omega)]; exact (st1 k hk h).1, by rw [hv2, cnt_nd (by omega) (by omega) (by omega) (by omega)]; exact (st1 k hk h).2⟩
  refine ok_bd (ok_mono (c_judge (heard := heardS L c v) (old := actS v c) C3 hs1 (fun k hk => by rw [in3 _ (Or.inl rfl)]; exact l7 k hk)) ?_)
  rintro μ4 ⟨C4, f4⟩
  rw [← hv2] at C4
  refine ok_bd2 (ok_mono (c_acknowledge C4 hs1 (fun k h => (hsub k h).1)) ?_)
  rintro ⟨x16, μ5⟩ ⟨e5, C5, f5⟩
  dsimp only at e5 C5 f5 ⊢
  obtain ⟨d1, d2⟩ := den_sets (snd := sn.2) (wer := fun k => nd v2 k 5) (v := v2) (x := x) c h8
  rw [d1] at er
  have d5 := fun j (hj : j < 8) => denT_nd (snd := sn.2) (wer := fun k => nd v2 k 5) (v := v2) (j := j) (x := 0) hj (by omega) (by omega) (by omega) c
  obtain ⟨q3, hq3⟩ : ∃ q3, q3 = itS (denT sn.2 (fun k => nd v2 k 5)) c (v2, 0) := ⟨_, rfl⟩
  rw [← hq3] at er e5 C5 d2 d5
  subst e5
  refine ok_bd2 (ok_mono (c_outvote C5) ?_)
  rintro ⟨x19, μ6⟩ ⟨e6, C6, f6⟩
  dsimp only at e6 C6 f6 ⊢
  have hol : ∀ k, k < 8 → tbit (actS v c &&& (q3.2 ^^^ (-1))) k = (tbit (actS v c) k && decide (nd q3.1 k 3 = 2)) := by
    intro k hk
    rw [tbit_and, tbit_not _ (by omega), d2.2.2 k hk]
    cases hb : tbit (actS v c) k
    · rfl
    · rw [(st2 k hk (hold k hb hk).2).1]
      cases tbit q3.2 k <;> simp
  obtain ⟨o1, o2⟩ := out_sets (old := actS v c) (ol := actS v c &&& (q3.2 ^^^ (-1))) (v := q3.1) (x := x + nI (pc q3.2)) hol c h8
  rw [o1] at er
  have o5 := fun j (hj : j < 8) => outT_nd (ol := actS v c &&& (q3.2 ^^^ (-1))) (v := q3.1) (j := j) (x := 0) hj (by omega) (by omega) c
  have osub := fun j => out_sub (ol := actS v c &&& (q3.2 ^^^ (-1))) (v := q3.1) c h8 j
  obtain ⟨q4, hq4⟩ : ∃ q4, q4 = itS (outT (actS v c &&& (q3.2 ^^^ (-1)))) c (q3.1, 0) := ⟨_, rfl⟩
  rw [← hq4] at er e6 C6 o2 o5 osub
  subst e6
  have hset : ∀ k, k < 8 → tbit (actS v c &&& ((q3.2 ||| q4.2) ^^^ (-1))) k = (tbit (actS v c) k && decide (nd q4.1 k 3 = 2)) := by
    intro k hk
    rw [tbit_and, tbit_not _ (by omega), tbit_or, o2.2.2 k hk, d2.2.2 k hk]
    cases hb : tbit (actS v c) k
    · rfl
    · rw [(st2 k hk (hold k hb hk).2).1]
      cases tbit q3.2 k <;> cases tbit q4.2 k <;> simp
  have in6 : ∀ o, (o = (0, 7, 0) ∨ ∃ k, o = (7, k, 0)) → μ6 o = μ1 o := by
    intro o ho
    have nc : ∀ i, ¬ clsP s o i := by
      rcases ho with rfl | ⟨k, rfl⟩
      · exact not_cls0
      · exact not_cls (zne (by decide)) (zne (by decide)) (fun k => zne (by decide))
    have na : ∀ i, ¬ ackP s o i := by
      rintro i (h | h)
      · exact nc i h
      · rcases ho with rfl | ⟨k, rfl⟩
        · exact absurd h (by decide)
        · exact zne (by decide) h
    rw [fr_at f6 nc, fr_at f5 na, fr_at f4 nc]
    exact in3 o ho
  rw [zlt_s]
  refine ok_bd (ok_mono (c_correct (off := offS L c v) (heard := heardS L c v) (old := actS v c) hz C6 (fun k hk => hset k (by omega)) (fun k hk => by rw [in6 _ (Or.inl rfl)]; exact l7 k hk) ?_) ?_)
  · intro k hk ht o ho hok
    rw [hset k (by omega)] at ht
    have hk3 := (hold k (Bool.and_eq_true_iff.mp ht).1 (by omega)).2
    rw [in6 _ (Or.inr ⟨_, rfl⟩), (l3 _ ho).2.2 k hk, o5 k (by omega), d5 k (by omega), (st2 k (by omega) hk3).2]
    unfold offS
    rw [Int32.sub_add_cancel]
  rintro μ7 ⟨C7, f7⟩
  refine ok_bd (ok_mono (c_runClocks C7) ?_)
  rintro μ8 ⟨C8, f8⟩
  rw [zlt_s]
  refine ok_some ⟨?_, ?_, ?_⟩
  · dsimp only
    rw [er, CS_rd C8, zmin_eq]
    exact CS_rnd C8
  · dsimp only
    rw [er, bc_eq (isS_or d2.1 o2.1), pc_or, Int32.add_assoc, nI_add]
    rintro k ⟨b1, b2⟩
    have := osub k b2
    rw [tbit_and] at this
    by_cases h32 : k < 32
    · rw [tbit_not _ h32, b1] at this
      simp at this
    · have h9 := isS_iff.mp d2.1 k (by omega)
      rw [h9] at b1
      exact absurd b1 (by decide)
  · refine fr_trans F2 (fr_trans (fr_mono f3 (fun o i h => pl_w h)) (fr_trans (fr_mono f4 (fun o i h => pl_c h)) (fr_trans (fr_mono f5 (fun o i h => pl_a h)) (fr_trans (fr_mono f6 (fun o i h => pl_c h)) (fr_trans (fr_mono f7 (fun o i h => pl_k h)) (fr_trans (fr_mono f8 (fun o i h => pl_c h)) (fr_mset (pl_c (Or.inr (Or.inl ⟨rfl, by omega⟩))))))))))
