/-! acts on both sides: rounds, power -/
section OY
variable {y : ZLay} {μ : ZMem} {S S' : SV} {tp tp' : Vec} {tl tl' : Nat} {fa fa' : Int32} {kp kp' : Option SV} {ac ac' : List (Nat × Vec)}
theorem vw_sc {o : ZId} {i : Nat} (h : viewP o i) : scP o i := by
  rcases h with ⟨rfl, -⟩ | rfl | rfl | rfl | ⟨k, rfl⟩ | ⟨n, rfl⟩
  · exact Or.inl ⟨rfl, by decide, by decide, rfl⟩
  · exact Or.inl ⟨rfl, by decide, by decide, rfl⟩
  · exact Or.inl ⟨rfl, by decide, by decide, rfl⟩
  · exact Or.inl ⟨rfl, by decide, by decide, rfl⟩
  · exact Or.inr (Or.inl rfl)
  · exact Or.inr (Or.inr (Or.inr ⟨rfl, rfl⟩))
theorem pl0_sc {o : ZId} {i : Nat} (h : playP 0 o i) : clsP 0 o i ∨ (o = (1, 0, 0) ∧ (i = 4 ∨ i = 5 ∨ i = 6)) ∨ scP o i := by
  rcases h with h | h | rfl | rfl
  · exact Or.inl h
  · exact Or.inr (Or.inr (vw_sc h))
  · exact Or.inr (Or.inr (Or.inl ⟨rfl, by decide, by decide, rfl⟩))
  · exact Or.inr (Or.inr (Or.inl ⟨rfl, by decide, by decide, rfl⟩))
theorem pl1_sc {o : ZId} {i : Nat} (h : playP 1 o i) : scP o i := by
  rcases h with h | h | rfl | rfl
  · rcases h with rfl | ⟨rfl, -⟩ | ⟨k, rfl⟩
    · exact Or.inr (Or.inr (Or.inl ⟨Or.inr (Or.inr rfl), rfl⟩))
    · exact Or.inr (Or.inr (Or.inl ⟨Or.inl rfl, rfl⟩))
    · exact Or.inr (Or.inr (Or.inl ⟨Or.inr (Or.inl rfl), rfl⟩))
  · exact vw_sc h
  · exact Or.inl ⟨rfl, by decide, by decide, rfl⟩
  · exact Or.inl ⟨rfl, by decide, by decide, rfl⟩
theorem cls0_cl {s : Nat} {o : ZId} {i : Nat} (h : clsP s o i) : clO o i := by
  rcases h with rfl | ⟨rfl, -⟩ | ⟨k, rfl⟩ <;> exact Or.inl (by intro h; simp at h)
theorem pl_cl {s : Nat} {o : ZId} {i : Nat} (h : playP s o i) : clO o i := by
  rcases h with h | h | rfl | rfl
  · exact cls0_cl h
  · exact sc_cl (vw_sc h)
  · exact Or.inr (by decide)
  · exact Or.inr (by decide)
theorem rP_ms {o : ZId} {i : Nat} (h : rP o i) : o = MV0 ∨ msP o i := by
  rcases h with (rfl | ⟨rfl, h⟩) | rfl | rfl | rfl | rfl | rfl | rfl | ⟨rfl, h⟩
  · exact Or.inr (Or.inr (Or.inr ⟨rfl, by decide⟩))
  · exact Or.inr (Or.inl ⟨rfl, by omega⟩)
  · exact Or.inr (Or.inr (Or.inr ⟨rfl, by decide⟩))
  · exact Or.inr (Or.inr (Or.inr ⟨rfl, by decide⟩))
  · exact Or.inr (Or.inr (Or.inr ⟨rfl, by decide⟩))
  · exact Or.inr (Or.inr (Or.inr ⟨rfl, by decide⟩))
  · exact Or.inr (Or.inr (Or.inr ⟨rfl, by decide⟩))
  · exact Or.inl rfl
  · exact Or.inr (Or.inl ⟨rfl, by omega⟩)
theorem rP_md {o : ZId} {i : Nat} (h : rP o i) : mdO o i := by
  rcases rP_ms h with rfl | h
  · exact ⟨rfl, by decide⟩
  · exact ms_md h
theorem goes_s {L : LawS} {c : Nat} {d : Int32} {n : Nat} {v : Vec} : goesS L c d (n + 1) v = roundS L c d (goesS L c d n v) := rfl
theorem goes_ok {L : LawS} {c : Nat} {d : Int32} {v : Vec} (h : okC c v) : ∀ n, okC c (goesS L c d n v).1 ∧ sameT (goesS L c d n v).1 v ∧ (goesS L c d n v).1 0 = v 0
  | 0 => ⟨h, fun _ _ => rfl, rfl⟩
  | n + 1 => by
    obtain ⟨h1, h2, h3⟩ := goes_ok (L := L) (d := d) h n
    rw [goes_s]
    have hO := okV_round (L := L) (d := d) (q := goesS L c d n v) (v0 := v) ⟨h1.1, h2⟩
    refine ⟨⟨hO.1, BV_round (x := (goesS L c d n v).2) h1.1.1 h1.2⟩, hO.2, ?_⟩
    rw [round_lo (by omega), if_neg (by omega)]
    exact h3
theorem c_plays {s n : Nat} {d : Int32} {S : SV} (hy : 8 ≤ zlen y (0, 10, 0) ∧ zlen y (0, 10, 0) ≤ 1000) (h : SS y μ s S) (ho : OS S) (hn : n ≤ 60) {N : Int32} (hN : N = nI n) :
    ok (lp (σ := Int32 × Int32 × ZMem) (fun q => un3 q (fun (x6 : Int32) (x7 : Int32) (μ8 : ZMem) => if N ≤ x7 then some (.inr (x6, μ8)) else bd2 (f_X9_play y s d μ8) (fun (x13 : Int32) (μ14 : ZMem) => zlt (x6 + x13) (fun (x15 : Int32) => some (.inl (x15, (x7 + 1), μ14)))))) FU (0, 0, μ)) (fun r => r.1 = (goesS S.2.2 S.1 d n S.2.1).2 ∧ CS r.2 s S.1 (goesS S.2.2 S.1 d n S.2.1).1 ∧ fr (playP s) μ r.2) := by
  subst hN
  obtain ⟨c, v, L⟩ := S
  obtain ⟨o1, o2, o3, o4, o5⟩ := ho
  obtain ⟨h1, h2, h3, h4⟩ := h
  dsimp only at o1 o2 o3 o4 o5 h1 h2 h3 h4 ⊢
  refine ok_seq n (fun k r => r.1 = (goesS L c d k v).2 ∧ r.2.1 = nI k ∧ CS r.2.2 s c (goesS L c d k v).1 ∧ fr (playP s) μ r.2.2) ?_ ?_ ⟨rfl, rfl, h1, fr_refl⟩ (FU_lt (by omega))
  · rintro k ⟨x, i, μ1⟩ hk ⟨w1, w2, w3, w4⟩
    dsimp only at w1 w2 w3 w4
    subst w2
    obtain ⟨g1, g2, g3⟩ := goes_ok (L := L) (d := d) o1 k
    rw [un3_s, if_neg (nI_ge hk (by omega))]
    refine ok_b2 (c_play (x := x) (n := lno μ s) hy w3 g1.1 g1.2 o2 (LawC_pl h3 w4) ?_) ?_
    · rw [pl_law w4]; rfl
    · rintro z μ2 ⟨z1, z2, z3⟩
      dsimp only at z1 z2 z3
      rw [zlt_s, z2]
      have e : roundS L c d ((goesS L c d k v).1, x) = goesS L c d (k + 1) v := by rw [goes_s, w1]
      rw [e] at z1 ⊢
      exact ok_some ⟨_, rfl, rfl, nI_1 k, z1, fr_trans w4 z3⟩
  · rintro ⟨x, i, μ1⟩ ⟨w1, w2, w3, w4⟩
    dsimp only at w1 w2 w3 w4
    subst w2
    rw [un3_s, if_pos (nI_le (Nat.le_refl _) (by omega))]
    exact ok_some ⟨_, rfl, w1, w3, w4⟩
theorem OP_rounds {a1 : Int32} (hy : 8 ≤ zlen y (0, 10, 0) ∧ zlen y (0, 10, 0) ≤ 1000) : OPx y cm1 (f_X11_rounds y a1) (f_X12_rounds a1) := by
  rintro μ ⟨S, tp, tl, fa, kp, ac, hc, hm, ho⟩
  by_cases hr : 1 ≤ a1 ∧ a1 ≤ 60
  · obtain ⟨n, hn, rfl⟩ := in_k (n := 60) (Int32.le_trans (by decide) hr.1) hr.2 (by omega)
    obtain ⟨g1, g2, g3⟩ := goes_ok (L := S.2.2) (d := 1) ho.1.1 n
    refine op_x (A := .inl (goesS S.2.2 S.1 1 n S.2.1).2) (S' := (S.1, (goesS S.2.2 S.1 1 n S.2.1).1, S.2.2)) (tp' := tp) (tl' := tl) (fa' := fa) (kp' := kp) (ac' := more ac (S.1, S.2.1)) hm ?_ ?_ (OA_v (OA_more ho) g1 g2 g3)
    · unfold f_X11_rounds
      rw [jk_s, if_neg (Int32.not_lt.mpr hr.1), if_pos hr.2]
      refine ok_b1 (c_remember hc (OA_len ho)) ?_
      rintro μ1 ⟨r1, f1⟩
      refine ok_b2 (c_plays hy r1.1 ho.1 hn rfl) ?_
      rintro x μ2 ⟨w1, w2, w3⟩
      dsimp only at w1 w2 w3
      refine ok_some ⟨by dsimp only; rw [w1], RC_setv r1 w3 (fun o i h => pl0_sc h) w2 g3 (g2 1 (Or.inl rfl)), fr_trans f1 (fr_mono w3 (fun o i h => pl_cl h))⟩
    · intro μ1 r1
      unfold f_X12_rounds
      rw [bd_eq m_isIn, decide_eq_true hr, if_neg b2i_t, zlt_s, zlt_s, thr_0, if_pos (by decide)]
      refine ok_b1 (m_remembers (thr_RM (x := 0) r1) (OA_len ho)) ?_
      rintro μ2 ⟨r2, f2⟩
      refine ok_b2 (m_goes (n := n) (d := 1) (by omega) r2.1 ho.1.2.2.1 ⟨ho.1.1.1, fun _ _ => rfl⟩) ?_
      rintro x μ3 ⟨w1, w2, w3, w4⟩
      dsimp only at w1 w2 w3 w4
      refine ok_some ⟨⟨?_, w1⟩, RM_put r2 w4 (fun o i h => rP_ms h) w2, fr_trans (ms_fr thr_fr) (fr_trans (fr_mono f2 (fun o i h => rem_md h)) (fr_mono w4 (fun o i h => rP_md h)))⟩
      dsimp only
      rw [w4.1 _ _ (by unfold rP askP; simp), f2.1 _ _ (by rintro (h | ⟨-, h⟩); exact absurd h (by decide); omega)]
      exact thr_0
  · refine op_ref (k := 1) hc hm ho (by decide) ?_ ?_
    · unfold f_X11_rounds
      rw [jk_s]
      by_cases h1 : a1 < 1
      · rw [if_pos h1]
      · rw [if_neg h1, if_neg (fun h2 => hr ⟨Int32.not_lt.mp h1, h2⟩)]
    · intro μ1 r1
      unfold f_X12_rounds
      rw [bd_eq m_isIn, decide_eq_false hr, if_pos b2i_f, zlt_s, zlt_s, thr_0, if_neg (by decide)]
      rfl
end OY
