/-! acts on both sides: power, shift, hears -/
theorem ok_early {σ ρ : Type} {F : σ → Option (σ ⊕ ρ)} {Q : ρ → Prop} (n : Nat) (I : Nat → σ → Prop) (step : ∀ k s, k < n → I k s → ok (F s) (fun z => (∃ s', z = .inl s' ∧ I (k + 1) s') ∨ ∃ r, z = .inr r ∧ Q r)) (fin : ∀ s, I n s → ok (F s) (fun z => ∃ r, z = .inr r ∧ Q r)) {s : σ} (h0 : I 0 s) (hn : n < FU) : ok (lp F FU s) Q := by
  refine ok_lp (fun m s => ∃ k, m + k = n ∧ I k s) ?_ (N := n) ⟨0, by omega, h0⟩ hn
  rintro m s ⟨k, hk, hI⟩
  by_cases e : k < n
  · refine ok_mono (step k s e hI) ?_
    rintro z (⟨s', rfl, h⟩ | ⟨r, rfl, h⟩)
    · exact ⟨m - 1, by omega, k + 1, by omega, h⟩
    · exact h
  · have : k = n := by omega
    subst this
    refine ok_mono (fin s hI) ?_
    rintro z ⟨r, rfl, h⟩
    exact h
section OZ
variable {y : ZLay} {μ : ZMem} {S S' : SV} {tp tp' : Vec} {tl tl' : Nat} {fa fa' : Int32} {kp kp' : Option SV} {ac ac' : List (Nat × Vec)}
theorem hz10 : 8 ≤ zlen y (0, 10, 0) ∧ zlen y (0, 10, 0) ≤ 1000 := ⟨Nat.le_refl 8, by show 8 ≤ 1000; omega⟩
theorem c_hold {k : Nat} (h : SS y μ 0 S) (ho : OS S) (hk : k < S.1) : ok (f_X3_sum y (lno μ 0) 0 (nI k) 1012 μ) (fun q => q.1 = holdS S.2.2 S.1 S.2.1 k ∧ fr (stP (lno μ 0)) μ q.2) :=
  h.2.2.1 μ 0 S.1 S.2.1 (fun _ _ => rfl) rfl h.1 (fun k hk => ho.1.1.2.2 k hk) k hk 2 (by omega)
theorem st_sc {n : Nat} {o : ZId} {i : Nat} (h : stP n o i) : scP o i := by
  cases h
  exact Or.inr (Or.inr (Or.inr ⟨rfl, rfl⟩))
theorem ask_ms {o : ZId} {i : Nat} (h : askP o i) : msP o i := by
  rcases h with rfl | ⟨rfl, h⟩
  · exact Or.inr (Or.inr ⟨rfl, by decide⟩)
  · exact Or.inl ⟨rfl, by omega⟩
theorem ask_0 : ¬ askP MO0 0 := by unfold askP; simp
/-- a node goes down or up -/
def powV (v : Vec) (k : Nat) (b : Bool) (w : Int32) : Vec := if b = true then ns (ns (ns (ns (ns v k 5 0) k 3 1) k 4 w) k 6 0) k 7 0 else ns (ns v k 5 0) k 3 0
theorem pow_vec {v : Vec} {k : Nat} {w : Int32} : ns (ns (ns (ns (ns v k 4 w) k 6 0) k 7 0) k 5 0) k 3 1 = ns (ns (ns (ns (ns v k 5 0) k 3 1) k 4 w) k 6 0) k 7 0 := by
  rw [ns_comm (x := 7) (y := 5) (by decide), ns_comm (x := 6) (y := 5) (by decide), ns_comm (x := 4) (y := 5) (by decide), ns_comm (x := 7) (y := 3) (by decide), ns_comm (x := 6) (y := 3) (by decide), ns_comm (x := 4) (y := 3) (by decide)]
theorem okC_pow {c k : Nat} {v : Vec} {b : Bool} {w : Int32} (hk : k < 8) (h : okC c v) : okC c (powV v k b w) := by
  have h1 := okC_ns (w := 5) (x := 0) hk (by omega) h (fun _ => isS_0) (by simp)
  have r1 : rng (1 : Int32) 0 3 := ⟨by decide, by decide⟩
  have r0 : rng (0 : Int32) 0 3 := ⟨by decide, by decide⟩
  unfold powV
  cases b
  · exact okC_ns (w := 3) hk (by omega) h1 (by omega) (by simp [r0])
  · exact okC_ns (w := 7) hk (by omega) (okC_ns (w := 6) hk (by omega) (okC_ns (w := 4) hk (by omega) (okC_ns (w := 3) hk (by omega) h1 (by omega) (by simp [r1])) (by omega) (by simp)) (by omega) (by simp)) (by omega) (by simp)
theorem pow_T {k : Nat} {v : Vec} {b : Bool} {w : Int32} (hk : k < 8) : sameT (powV v k b w) v := by
  unfold powV
  cases b
  · exact sameT_trans (ns_T hk (by omega)) (ns_T hk (by omega))
  · exact sameT_trans (ns_T hk (by omega)) (sameT_trans (ns_T hk (by omega)) (sameT_trans (ns_T hk (by omega)) (sameT_trans (ns_T hk (by omega)) (ns_T hk (by omega)))))
theorem pow_0 {k : Nat} {v : Vec} {b : Bool} {w : Int32} : powV v k b w 0 = v 0 := by
  unfold powV
  cases b
  · exact (ns_low (by omega)).trans (ns_low (by omega))
  · exact (ns_low (by omega)).trans ((ns_low (by omega)).trans ((ns_low (by omega)).trans ((ns_low (by omega)).trans (ns_low (by omega)))))
theorem m_setn {k w : Nat} {x : Int32} {f : Vec} (h : RMo μ S tp tl fa kp ac) (hv : S.2.1 = f) : RMo (mput μ MV0 (ns f k w x)) (S.1, ns f k w x, S.2.2) tp tl fa kp ac ∧ fr mdO μ (mput μ MV0 (ns f k w x)) := m_setv h
theorem wP_ms {o : ZId} {i : Nat} (h : o = MV0) : o = MV0 ∨ msP o i := Or.inl h
theorem OP_power {a1 a2 : Int32} : OPx y cmB (f_X11_power y a1 a2) (f_X12_power a1 a2) := by
  rintro μ ⟨S, tp, tl, fa, kp, ac, hc, hm, ho⟩
  have h8 := OA_c ho
  cases hn : nodeB S.1 a1
  · refine op_ref (k := 3) hc hm ho (by decide) ?_ ?_
    · unfold f_X11_power
      rw [bd_eq (c_isNode hc.1), hn, if_pos b2i_f]
    · intro μ1 r1
      unfold f_X12_power
      rw [bd_eq (m_node0 r1 ho), hn, if_pos b2i_f, zlt_s, zlt_s, thr_0, if_neg (by decide)]
      rfl
  · obtain ⟨k, hk, rfl⟩ := nodeB_t h8 hn
    obtain ⟨x, hx⟩ : ∃ x, x = nd S.2.1 k 3 := ⟨_, rfl⟩
    have hx3 := (ho.1.1.2.1 k hk).2.2.2.1
    rw [← hx] at hx3
    obtain ⟨b, hb⟩ : ∃ b : Bool, b = decide (¬ a2 = 0) := ⟨_, rfl⟩
    obtain ⟨g, hg⟩ : ∃ g : Bool, g = if a2 = 0 then decide (¬ x = 0) else decide (¬ (x = 1 ∨ x = 2)) := ⟨_, rfl⟩
    have bx5 : (jk (some (1 : Int32)) (fun k8 => if x = 1 then k8 else if x = 2 then k8 else some 0)) = some (b2i (decide (x = 1 ∨ x = 2))) := by
      rw [jk_s]
      by_cases z1 : x = 1
      · rw [if_pos z1, decide_eq_true (Or.inl z1)]; rfl
      · rw [if_neg z1]
        by_cases z2 : x = 2
        · rw [if_pos z2, decide_eq_true (Or.inr z2)]; rfl
        · rw [if_neg z2, decide_eq_false (by rintro (h | h); exact z1 h; exact z2 h)]; rfl
    have cif : ∀ (A B : Option ((Int32 ⊕ Nat) × ZMem)), (if a2 = 0 then if x = 0 then A else B else if b2i (decide (x = 1 ∨ x = 2)) = 0 then B else A) = if g = true then B else A := by
      intro A B
      rw [hg]
      by_cases z : a2 = 0
      · rw [if_pos z, if_pos z]
        by_cases z0 : x = 0
        · rw [if_pos z0, decide_eq_false (fun h => h z0), if_neg (by decide)]
        · rw [if_neg z0, decide_eq_true z0, if_pos rfl]
      · rw [if_neg z, if_neg z]
        by_cases z0 : x = 1 ∨ x = 2
        · rw [decide_eq_true z0, if_neg b2i_t, decide_eq_false (fun h => h z0), if_neg (by decide)]
        · rw [decide_eq_false z0, if_pos b2i_f, decide_eq_true z0, if_pos rfl]
    have mif : (jk (some (2 : Int32)) (fun k11 => jk (jk (some 0) (fun k16 => if a2 = 0 then if x = 0 then k11 else k16 else k16)) (fun k12 => if a2 = 0 then k12 else if x = 1 then k11 else if x = 2 then k11 else k12))) = some (if g = true then 0 else 2) := by
      rw [jk_s, jk_s, jk_s, hg]
      by_cases z : a2 = 0
      · rw [if_pos z, if_pos z, if_pos z]
        by_cases z0 : x = 0
        · rw [if_pos z0, decide_eq_false (fun h => h z0), if_neg (by decide)]
        · rw [if_neg z0, decide_eq_true z0, if_pos rfl]
      · rw [if_neg z, if_neg z, if_neg z]
        by_cases z1 : x = 1
        · rw [if_pos z1, decide_eq_false (fun h => h (Or.inl z1)), if_neg (by decide)]
        · rw [if_neg z1]
          by_cases z2 : x = 2
          · rw [if_pos z2, decide_eq_false (fun h => h (Or.inr z2)), if_neg (by decide)]
          · rw [if_neg z2, decide_eq_true (by rintro (h | h); exact z1 h; exact z2 h), if_pos rfl]
    cases g
    · refine op_ref (k := 5) hc hm ho (by decide) ?_ ?_
      · unfold f_X11_power
        rw [bd_eq (c_isNode hc.1), hn, if_neg b2i_t, gd_eq (zin_nI (by omega) (by omega)), nI_cl (by omega), zlt_s, CS_nd hc.1.1 hk (by omega), ← hx, bx5, bd_s, jk_s, jk_s, cif, if_neg (by decide)]
      · intro μ1 r1
        unfold f_X12_power
        rw [bd_eq (m_node0 r1 ho), hn, if_neg b2i_t, zlt_s, zlt_s, thr_0, if_pos (by decide), bd_eq (show f_X12_of (nI k) 3 (mset μ1 (0, 32, 0) 0 0) = some (nd S.2.1 k 3) from ofV (w := 3) ((mset_ne (by decide)).trans r1.1) rfl (by omega) (by omega)), ← hx, mif, if_neg (by decide), bd_s, zlt_s, thr_0, if_neg (by decide)]
        rw [mset_mset]
        rfl
    · obtain ⟨w, hw⟩ : ∃ w, w = f_X12_lesser 99 (2 + nI k + holdS S.2.2 S.1 S.2.1 k) := ⟨_, rfl⟩
      refine op_x (A := .inl x) (S' := (S.1, powV S.2.1 k b w, S.2.2)) (tp' := tp) (tl' := tl) (fa' := fa) (kp' := kp) (ac' := more ac (S.1, S.2.1)) hm ?_ ?_ (OA_v (OA_more ho) (okC_pow (by omega) ho.1.1) (pow_T (by omega)) pow_0)
      · unfold f_X11_power
        rw [bd_eq (c_isNode hc.1), hn, if_neg b2i_t, gd_eq (zin_nI (by omega) (by omega)), nI_cl (by omega), zlt_s, CS_nd hc.1.1 hk (by omega), ← hx, bx5, bd_s, jk_s, jk_s, cif, if_pos rfl]
        refine ok_b1 (c_remember hc (OA_len ho)) ?_
        rintro μ1 ⟨r1, f1⟩
        refine ok_b1 (P := fun μ2 => RC y μ2 (S.1, if b = true then ns (ns (ns S.2.1 k 4 w) k 6 0) k 7 0 else S.2.1, S.2.2) tp tl fa kp (more ac (S.1, S.2.1)) ∧ fr clO μ1 μ2) ?_ ?_
        · by_cases z : a2 = 0
          · rw [if_pos z, hb, decide_eq_false (fun h => h z), if_neg (by decide)]
            exact ok_some ⟨r1, fr_refl⟩
          · rw [if_neg z, hb, decide_eq_true z, if_pos rfl]
            refine ok_b2 (c_hold r1.1 ho.1 hk) ?_
            rintro x2 μ2 ⟨w1, w2⟩
            dsimp only at w1 w2
            have r2 := RC_sc r1 (fr_mono w2 (fun o i h => st_sc h))
            obtain ⟨r3, f3⟩ := c_setn (w := 4) (x := w) r2 hk (by omega)
            obtain ⟨r4, f4⟩ := c_setn (w := 6) (x := 0) r3 hk (by omega)
            obtain ⟨r5, f5⟩ := c_setn (w := 7) (x := 0) r4 hk (by omega)
            rw [w1, zmin_eq, ← hw, zlt_s, zlt_s, zlt_s]
            exact ok_some ⟨r5, fr_trans (fr_mono w2 (fun o i h => sc_cl (st_sc h))) (fr_trans f3 (fr_trans f4 f5))⟩
        · rintro μ2 ⟨r2, f2⟩
          obtain ⟨r3, f3⟩ := c_setn (w := 5) (x := 0) r2 hk (by omega)
          obtain ⟨r4, f4⟩ := c_setn (w := 3) (x := if a2 = 0 then 0 else 1) r3 hk (by omega)
          rw [zlt_s, zlt_s, zlt_s]
          have ev : ns (ns (if b = true then ns (ns (ns S.2.1 k 4 w) k 6 0) k 7 0 else S.2.1) k 5 0) k 3 (if a2 = 0 then 0 else 1) = powV S.2.1 k b w := by
            unfold powV
            by_cases z : a2 = 0
            · rw [hb, decide_eq_false (fun h => h z), if_neg (show ¬ (false = true) by decide), if_neg (show ¬ (false = true) by decide), if_pos z]
            · rw [hb, decide_eq_true z, if_pos rfl, if_pos rfl, if_neg z, pow_vec]
          dsimp only at r4
          rw [ev] at r4
          exact ok_some ⟨rfl, r4, fr_trans f1 (fr_trans f2 (fr_trans f3 f4))⟩
      · intro μ1 r1
        unfold f_X12_power
        rw [bd_eq (m_node0 r1 ho), hn, if_neg b2i_t, zlt_s, zlt_s, thr_0, if_pos (by decide), bd_eq (show f_X12_of (nI k) 3 (mset μ1 (0, 32, 0) 0 0) = some (nd S.2.1 k 3) from ofV (w := 3) ((mset_ne (by decide)).trans r1.1) rfl (by omega) (by omega)), ← hx, mif, if_pos rfl, bd_s, zlt_s, thr_0, if_pos (by decide)]
        refine ok_b1 (m_remembers (thr_RM (x := 0) (thr_RM (x := 0) r1)) (OA_len ho)) ?_
        rintro μ2 ⟨r2, f2⟩
        have hv2 : μ2 MV0 = S.2.1 := r2.1
        have z2 : μ2 MO0 0 = 0 := by
          rw [f2.1 _ _ (by rintro (h | ⟨-, h⟩); exact absurd h (by decide); omega)]
          exact thr_0
        refine ok_b1 (ho.1.2.2.1 S.1 μ2 (fun i _ => congrFun hv2 i) (by rw [hv2]; exact ho.1.1.1) k (by omega)) ?_
        rintro μ3 ⟨f3, -, -, e18⟩
        have r3 := RM_ms r2 (fr_mono f3 (fun o i h => ask_ms h))
        have hv3 : μ3 MV0 = S.2.1 := r3.1
        rw [hv2] at e18
        have m0 : fr mdO μ1 μ3 := fr_trans (ms_fr thr_fr) (fr_trans (ms_fr thr_fr) (fr_trans (fr_mono f2 (fun o i h => rem_md h)) (ms_fr (fr_mono f3 (fun o i h => ask_ms h)))))
        rw [bd_eq (lays5 (by omega)), hv3, zlt_s, bd_eq (lays3 (by omega)), mput_at, mput_mput]
        by_cases z : a2 = 0
        · have eb : b = false := by rw [hb, decide_eq_false (fun h => h z)]
          have ev : powV S.2.1 k b w = ns (ns S.2.1 k 5 0) k 3 0 := by unfold powV; rw [eb, if_neg (by decide)]
          rw [if_pos z, if_pos z, ← ev]
          obtain ⟨r4, f4⟩ := m_setv (v' := powV S.2.1 k b w) r3
          refine ok_some ⟨⟨?_, rfl⟩, r4, fr_trans m0 f4⟩
          dsimp only
          rw [mput_ne (by decide), f3.1 _ _ ask_0]
          exact z2
        · have eb : b = true := by rw [hb, decide_eq_true z]
          have ev : powV S.2.1 k b w = ns (ns (ns (ns (ns S.2.1 k 5 0) k 3 1) k 4 w) k 6 0) k 7 0 := by unfold powV; rw [eb, if_pos rfl]
          rw [if_neg z, if_neg z, mput_ne (show ((0, 32, 0) : ZId) ≠ MV0 by decide), show μ3 (0, 32, 0) 18 = holdS S.2.2 S.1 S.2.1 k from e18, ← hw, bd_eq (lays4 (by omega)), mput_at, mput_mput, bd_eq (lays6 (by omega)), mput_at, mput_mput, bd_eq (lays7 (by omega)), mput_at, mput_mput, ← ev]
          obtain ⟨r4, f4⟩ := m_setv (v' := powV S.2.1 k b w) r3
          refine ok_some ⟨⟨?_, rfl⟩, r4, fr_trans m0 f4⟩
          dsimp only
          rw [mput_ne (by decide), f3.1 _ _ ask_0]
          exact z2
end OZ
