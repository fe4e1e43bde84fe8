/-! acts on both sides: feed, rounds, power -/
section OX
variable {y : ZLay} {μ : ZMem} {S S' : SV} {tp tp' : Vec} {tl tl' : Nat} {fa fa' : Int32} {kp kp' : Option SV} {ac ac' : List (Nat × Vec)}
def tapP (o : ZId) (i : Nat) : Prop := o = (0, 1, 0) ∨ (o = (0, 0, 0) ∧ i = 1)
def byt (a : Int32) (j : Nat) : Int32 := zushr a (nI (24 - 8 * j)) &&& 255
theorem c_putB {a : Int32} {n : Nat} {tq : Vec} (hn : n + 4 ≤ 400) (h1 : μ (0, 0, 0) 1 = nI n) (h2 : ∀ i, i < n → μ (0, 1, 0) i = tq i) (hb : ∀ j, j < 4 → tq (n + j) = byt a j) :
    ok (f_X11_putBytes a μ) (fun μ' => fr tapP μ μ' ∧ μ' (0, 0, 0) 1 = nI (n + 4) ∧ ∀ i, i < n + 4 → μ' (0, 1, 0) i = tq i) := by
  unfold f_X11_putBytes
  refine ok_b1i (ok_seq 4 (fun k s => s.1 = nI 24 - nI (8 * k) ∧ fr tapP μ s.2 ∧ s.2 (0, 0, 0) 1 = nI (n + k) ∧ ∀ i, i < n + k → s.2 (0, 1, 0) i = tq i) ?_ ?_ ⟨rfl, fr_refl, h1, h2⟩ (FU_lt (by omega)))
  · rintro k ⟨x, μ1⟩ hk ⟨w1, w2, w3, w4⟩
    dsimp only at w1 w2 w3 w4
    have e1 : nI 24 - nI (8 * k) = nI (24 - 8 * k) := nI_sub (by omega)
    have e2 : nI (24 - 8 * k) + -8 = nI 24 - nI (8 * (k + 1)) := by
      have : k = 0 ∨ k = 1 ∨ k = 2 ∨ k = 3 := by omega
      rcases this with rfl | rfl | rfl | rfl <;> decide
    subst w1
    rw [un2_s, e1, if_neg (nI_pos (by omega)), w3, if_neg (show ¬ (400 : Int32) ≤ nI (n + k) from nI_ge (b := 400) (by omega) (by omega)), gd_eq (zin_nI (by omega) (by omega)), nI_cl (by omega), zlt_s, mset_ne (by decide), w3, nI_1, zlt_s, bd_s, e2]
    refine ok_some ⟨_, rfl, rfl, fr_trans w2 (fr_trans (fr_mset (Or.inl rfl)) (fr_mset (Or.inr ⟨rfl, rfl⟩))), (show (mset (mset μ1 (0, 1, 0) (n + k) (zushr a (nI (24 - 8 * k)) &&& 255)) (0, 0, 0) 1 (nI (n + k + 1))) (0, 0, 0) 1 = _ from mset_at), fun i hi => ?_⟩
    dsimp only
    rw [mset_ne (by decide)]
    by_cases e : i = n + k
    · subst e
      rw [mset_at, hb k hk]
      rfl
    · rw [mset_k e]
      exact w4 i (by omega)
  · rintro ⟨x, μ1⟩ ⟨w1, w2, w3, w4⟩
    dsimp only at w1 w2 w3 w4
    subst w1
    rw [un2_s, if_pos (by decide)]
    exact ok_some ⟨_, rfl, w2, w3, w4⟩
/-- what a feed lays on the tape -/
def fdS (a1 a2 a3 a4 a5 : Int32) (tp : Vec) (tl : Nat) : Vec := fun i => if i < tl then tp i else if i < tl + 4 then byt a1 (i - tl) else if i < tl + 8 then byt a2 (i - (tl + 4)) else if i < tl + 12 then byt a3 (i - (tl + 8)) else if i < tl + 16 then byt a4 (i - (tl + 12)) else byt a5 (i - (tl + 16))
theorem byt_B {a : Int32} {j : Nat} : isS (byt a j) := isS_and' ⟨255, by omega, rfl⟩
theorem RC_tape {μ' : ZMem} (hc : RC y μ S tp tl fa kp ac) (f : fr tapP μ μ') (h1 : μ' (0, 0, 0) 1 = nI tl') (h2 : ∀ i, i < tl' → μ' (0, 1, 0) i = tp' i) : RC y μ' S tp' tl' fa kp ac := by
  obtain ⟨g1, g2, g3, g4, g5, nx, g6, g7, g8, g9⟩ := hc
  have n2 : ∀ s i, ¬ tapP (1, s, 0) i ∧ ¬ tapP (4, s, 0) i ∧ (∀ k, ¬ tapP (3, s, k) i) ∧ (∀ n, ¬ tapP (5, n, 0) i) ∧ ∀ n j, j < 4 → ¬ tapP (6, n, j) i := fun s i => by
    have key : ∀ q r t, q ≠ 0 → ¬ tapP (q, r, t) i := fun q r t hq => by
      rintro (h | ⟨h, -⟩) <;> exact zne hq h
    exact ⟨key _ _ _ (by decide), key _ _ _ (by decide), fun k => key _ _ _ (by decide), fun n => key _ _ _ (by decide), fun n j _ => key _ _ _ (by decide)⟩
  have k0 : ∀ j i, j ≠ 1 → (j = 0 → i ≠ 1) → μ' (0, j, 0) i = μ (0, j, 0) i := fun j i hj hi =>
    f.1 _ _ (by
      rintro (h | ⟨h, h'⟩)
      · exact hj (congrArg (fun q : ZId => q.2.1) h)
      · exact hi (congrArg (fun q : ZId => q.2.1) h) h')
  refine ⟨SS_fr g1 f (n2 0), h2, h1, by rw [k0 0 2 (by omega) (by omega)]; exact g4, ?_, nx, g6, by rw [k0 2 1 (by omega) (by omega)]; exact g7, by rw [k0 2 2 (by omega) (by omega)]; exact g8, fun i hi => SS_fr (g9 i hi) f (n2 _)⟩
  cases kp with
  | none => exact (k0 0 6 (by omega) (by omega)).trans g5
  | some K => exact ⟨(k0 0 6 (by omega) (by omega)).trans g5.1, SS_fr g5.2 f (n2 2)⟩
def mtpP (o : ZId) (i : Nat) : Prop := o = (0, 37, 0) ∨ (o = MO0 ∧ i = 8)
theorem RM_tape {μ' : ZMem} (hm : RMo μ S tp tl fa kp ac) (f : fr mtpP μ μ') (h1 : μ' MO0 8 = nI tl') (h2 : ∀ i, i < tl' → μ' (0, 37, 0) i = tp' i) : RMo μ' S tp' tl' fa kp ac := by
  obtain ⟨a1, a2, a3, a4, a5, a6, a7, a8⟩ := hm
  have k0 : ∀ o i, o ≠ (0, 37, 0) → (o = MO0 → i ≠ 8) → μ' o i = μ o i := fun o i ho hi =>
    f.1 _ _ (by
      rintro (h | ⟨h, h'⟩)
      · exact ho h
      · exact hi h h')
  refine ⟨funext fun i => (k0 _ i (by decide) (fun h => absurd h (by decide))).trans (congrFun a1 i), h2, h1, (k0 _ _ (by decide) (fun _ => by decide)).trans a4, ?_, (k0 _ _ (by decide) (fun _ => by decide)).trans a6, fun i hi j hj => (k0 _ _ (by decide) (fun h => absurd h (by decide))).trans (a7 i hi j hj), ?_⟩
  · cases kp with
    | none => exact (k0 _ _ (by decide) (fun _ => by decide)).trans a5
    | some K => exact ⟨(k0 _ _ (by decide) (fun _ => by decide)).trans a5.1, fun j hj => (k0 _ _ (by decide) (fun h => absurd h (by decide))).trans (a5.2 j hj)⟩
  · unfold RM0
    rw [k0 _ _ (by decide) (fun h => absurd h (by decide)), k0 _ _ (by decide) (fun _ => by decide)]
    exact a8
theorem fd_lt {a1 a2 a3 a4 a5 : Int32} {i : Nat} (h : i < tl) : fdS a1 a2 a3 a4 a5 tp tl i = tp i := if_pos h
theorem OP_feed {a1 a2 a3 a4 a5 : Int32} : OPn y (f_X11_feed a1 a2 a3 a4 a5) (f_X12_feed a1 a2 a3 a4 a5) := by
  rintro μ ⟨S, tp, tl, fa, kp, ac, hc, hm, ho⟩
  have h4 : tl ≤ 400 := ho.2.1
  have e20 : nI tl + 20 = nI (tl + 20) := nI_add tl 20
  by_cases hl : tl + 20 ≤ 400
  · obtain ⟨tq, htq⟩ : ∃ tq, tq = fdS a1 a2 a3 a4 a5 tp tl := ⟨_, rfl⟩
    have q0 : ∀ i, i < tl → tq i = tp i := fun i hi => by rw [htq]; exact fd_lt hi
    have q1 : ∀ j, j < 4 → tq (tl + j) = byt a1 j := fun j hj => by rw [htq]; unfold fdS; rw [if_neg (by omega), if_pos (by omega), Nat.add_sub_cancel_left]
    have q2 : ∀ j, j < 4 → tq (tl + 4 + j) = byt a2 j := fun j hj => by rw [htq]; unfold fdS; rw [if_neg (by omega), if_neg (by omega), if_pos (by omega), Nat.add_sub_cancel_left]
    have q3 : ∀ j, j < 4 → tq (tl + 8 + j) = byt a3 j := fun j hj => by rw [htq]; unfold fdS; rw [if_neg (by omega), if_neg (by omega), if_neg (by omega), if_pos (by omega), Nat.add_sub_cancel_left]
    have q4 : ∀ j, j < 4 → tq (tl + 12 + j) = byt a4 j := fun j hj => by rw [htq]; unfold fdS; rw [if_neg (by omega), if_neg (by omega), if_neg (by omega), if_neg (by omega), if_pos (by omega), Nat.add_sub_cancel_left]
    have q5 : ∀ j, j < 4 → tq (tl + 16 + j) = byt a5 j := fun j hj => by rw [htq]; unfold fdS; rw [if_neg (by omega), if_neg (by omega), if_neg (by omega), if_neg (by omega), if_neg (by omega), Nat.add_sub_cancel_left]
    have qB : HB tq (tl + 20) := by
      intro k hk
      by_cases e : k < tl
      · rw [q0 k e]; exact ho.2.2.1 k e
      · rw [htq]
        unfold fdS
        rw [if_neg e]
        split
        · exact byt_B
        · split
          · exact byt_B
          · split
            · exact byt_B
            · split <;> exact byt_B
    have c20 : nI tl + 20 ≤ 400 := by rw [e20]; exact nI_le (b := 400) hl (by omega)
    refine op_n (A := nI (tl + 20)) (S' := S) (tp' := tq) (tl' := tl + 20) (fa' := fa) (kp' := kp) (ac' := ac) hm ?_ ?_ ⟨ho.1, hl, qB, ho.2.2.2⟩
    · unfold f_X11_feed
      rw [hc.2.2.1, if_pos c20]
      refine ok_b1 (c_putB (tq := tq) (n := tl) (by omega) hc.2.2.1 (fun i hi => by rw [q0 i hi]; exact hc.2.1 i hi) q1) ?_
      rintro μ1 ⟨f1, g1, k1⟩
      refine ok_b1 (c_putB (tq := tq) (n := tl + 4) (by omega) g1 k1 q2) ?_
      rintro μ2 ⟨f2, g2, k2⟩
      refine ok_b1 (c_putB (tq := tq) (n := tl + 8) (by omega) g2 k2 q3) ?_
      rintro μ3 ⟨f3, g3, k3⟩
      refine ok_b1 (c_putB (tq := tq) (n := tl + 12) (by omega) g3 k3 q4) ?_
      rintro μ4 ⟨f4, g4, k4⟩
      refine ok_b1 (c_putB (tq := tq) (n := tl + 16) (by omega) g4 k4 q5) ?_
      rintro μ5 ⟨f5, g5, k5⟩
      have ff := fr_trans f1 (fr_trans f2 (fr_trans f3 (fr_trans f4 f5)))
      refine ok_some ⟨g5, RC_tape hc ff g5 k5, fr_mono ff ?_⟩
      rintro o i (rfl | ⟨rfl, -⟩) <;> exact Or.inr (by decide)
    · intro μ1 r1
      unfold f_X12_feed
      rw [zlt_s, mset_k (by decide), show μ1 (0, 32, 0) 8 = nI tl from r1.2.2.1, if_pos c20]
      have r2 := thr_RM (x := 0) r1
      refine ok_b1 (ok_seq 20 (fun k s => s.1 = nI k ∧ fr mtpP (mset μ1 MO0 0 0) s.2 ∧ s.2 MO0 8 = nI (tl + k) ∧ ∀ i, i < tl + k → s.2 (0, 37, 0) i = tq i) ?_ ?_ (Q := fun μ2 => fr mtpP (mset μ1 MO0 0 0) μ2 ∧ μ2 MO0 8 = nI (tl + 20) ∧ ∀ i, i < tl + 20 → μ2 (0, 37, 0) i = tq i) ⟨rfl, fr_refl, r2.2.2.1, fun i hi => by rw [q0 i hi]; exact r2.2.1 i hi⟩ (FU_lt (by omega))) ?_
      · rintro k ⟨x, μ2⟩ hk ⟨w1, w2, w3, w4⟩
        dsimp only at w1 w2 w3 w4
        subst w1
        obtain ⟨x8, hx8⟩ : ∃ x8 : Int32, x8 = if (4 : Int32) ≤ nI k then if (8 : Int32) ≤ nI k then if (12 : Int32) ≤ nI k then if (16 : Int32) ≤ nI k then a5 else a4 else a3 else a2 else a1 := ⟨_, rfl⟩
        have hb : tq (tl + k) = zushr x8 (24 - 8 * zrem (nI k) 4) &&& 255 := by
          have er : (24 : Int32) - 8 * zrem (nI k) 4 = nI (24 - 8 * (k % 4)) := by
            have : ∀ k : Fin 20, (24 : Int32) - 8 * zrem (nI k.val) 4 = nI (24 - 8 * (k.val % 4)) := by decide +kernel
            exact this ⟨k, hk⟩
          rw [er, hx8]
          by_cases c1 : k < 4
          · rw [if_neg (show ¬ (4 : Int32) ≤ nI k from nI_ge (b := 4) c1 (by omega)), q1 k c1, show k % 4 = k by omega]; rfl
          rw [if_pos (show (4 : Int32) ≤ nI k from nI_le (a := 4) (by omega) (by omega))]
          by_cases c2 : k < 8
          · rw [if_neg (show ¬ (8 : Int32) ≤ nI k from nI_ge (b := 8) c2 (by omega)), show tl + k = tl + 4 + (k - 4) by omega, q2 _ (by omega), show k % 4 = k - 4 by omega]; rfl
          rw [if_pos (show (8 : Int32) ≤ nI k from nI_le (a := 8) (by omega) (by omega))]
          by_cases c3 : k < 12
          · rw [if_neg (show ¬ (12 : Int32) ≤ nI k from nI_ge (b := 12) c3 (by omega)), show tl + k = tl + 8 + (k - 8) by omega, q3 _ (by omega), show k % 4 = k - 8 by omega]; rfl
          rw [if_pos (show (12 : Int32) ≤ nI k from nI_le (a := 12) (by omega) (by omega))]
          by_cases c4 : k < 16
          · rw [if_neg (show ¬ (16 : Int32) ≤ nI k from nI_ge (b := 16) c4 (by omega)), show tl + k = tl + 12 + (k - 12) by omega, q4 _ (by omega), show k % 4 = k - 12 by omega]; rfl
          rw [if_pos (show (16 : Int32) ≤ nI k from nI_le (a := 16) (by omega) (by omega)), show tl + k = tl + 16 + (k - 16) by omega, q5 _ (by omega), show k % 4 = k - 16 by omega]; rfl
        rw [un2_s, if_neg (show ¬ (20 : Int32) ≤ nI k from nI_ge (b := 20) hk (by omega)), ← hx8, zlt_s, show μ2 (0, 32, 0) 8 = nI (tl + k) from w3, gd_eq (zin_nI (by omega) (by omega)), nI_cl (by omega), zlt_s, mset_ne (by decide), show μ2 (0, 32, 0) 8 = nI (tl + k) from w3, nI_1, zlt_s]
        refine ok_some ⟨_, rfl, nI_1 k, fr_trans w2 (fr_trans (fr_mset (Or.inl rfl)) (fr_mset (Or.inr ⟨rfl, rfl⟩))), (show (mset (mset μ2 (0, 37, 0) (tl + k) (zushr x8 (24 - 8 * zrem (nI k) 4) &&& 255)) (0, 32, 0) 8 (nI (tl + k + 1))) MO0 8 = _ from mset_at), fun i hi => ?_⟩
        dsimp only
        rw [mset_ne (by decide)]
        by_cases e : i = tl + k
        · subst e
          rw [mset_at, hb]
        · rw [mset_k e]
          exact w4 i (by omega)
      · rintro ⟨x, μ2⟩ ⟨w1, w2, w3, w4⟩
        dsimp only at w1 w2 w3 w4
        subst w1
        rw [un2_s, if_pos (by decide)]
        exact ok_some ⟨_, rfl, w2, w3, w4⟩
      · rintro μ2 ⟨w2, w3, w4⟩
        refine ok_some ⟨w3, RM_tape r2 w2 w3 w4, fr_trans (ms_fr thr_fr) (fr_mono w2 ?_)⟩
        rintro o i (rfl | ⟨rfl, -⟩) <;> exact ⟨rfl, by decide⟩
  · have c20 : ¬ nI tl + 20 ≤ 400 := by rw [e20]; exact nI_ge (a := 400) (by omega) (by omega)
    refine op_n (A := -1) (S' := S) (tp' := tp) (tl' := tl) (fa' := fa) (kp' := kp) (ac' := ac) hm ?_ ?_ ho
    · unfold f_X11_feed
      rw [hc.2.2.1, if_neg c20]
      exact ok_some ⟨rfl, hc, fr_refl⟩
    · intro μ1 r1
      unfold f_X12_feed
      rw [zlt_s, mset_k (by decide), show μ1 (0, 32, 0) 8 = nI tl from r1.2.2.1, if_neg c20]
      exact ok_some ⟨rfl, thr_RM r1, ms_fr thr_fr⟩
end OX
