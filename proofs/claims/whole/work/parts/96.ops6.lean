/-! acts on both sides: led, undo, image, back -/
section OV
variable {y : ZLay} {μ : ZMem} {S S' : SV} {tp tp' : Vec} {tl tl' : Nat} {fa fa' : Int32} {kp kp' : Option SV} {ac ac' : List (Nat × Vec)}
def ledT (v : Vec) (n : Nat) (a : Int32) : Nat → Int32 × Int32
  | 0 => (0, -1)
  | k + 1 => if v (97 + 4 * (n - 1 - k) + 1) = a then ((ledT v n a k).1 + 1, v (97 + 4 * (n - 1 - k) + 0)) else ledT v n a k
theorem ledT_s {v : Vec} {n k : Nat} {a : Int32} : ledT v n a (k + 1) = if v (97 + 4 * (n - 1 - k) + 1) = a then ((ledT v n a k).1 + 1, v (97 + 4 * (n - 1 - k) + 0)) else ledT v n a k := rfl
theorem led_k {n k : Nat} (h : k < n) : nI (n - k) - 1 = nI (n - 1 - k) := by
  rw [show n - k = (n - 1 - k) + 1 by omega]
  exact nI_pred _
theorem led_s {n k : Nat} (h : k < n) : nI (n - k) - 1 + -1 = nI (n - (k + 1)) - 1 := by
  rw [led_k h, show n - (k + 1) = n - 1 - k by omega]
  exact (Int32.sub_eq_add_neg (nI (n - 1 - k)) 1).symm
theorem led_e {n : Nat} : nI (n - n) - 1 < 0 := by rw [Nat.sub_self]; decide
theorem OP_led {a1 a2 : Int32} : OPx y cmB (f_X11_led a1 a2) (f_X12_led a1 a2) := by
  rintro μ ⟨S, tp, tl, fa, kp, ac, hc, hm, ho⟩
  have h8 := OA_c ho
  obtain ⟨n, hn, h7, h2⟩ := S_ring hc
  cases hd : nodeB S.1 a1
  · refine op_ref (k := 3) hc hm ho (by decide) ?_ ?_
    · unfold f_X11_led
      rw [bd_eq (c_isNode hc.1), hd, if_pos b2i_f]
    · intro μ1 r1
      unfold f_X12_led
      rw [bd_eq (m_node0 r1 ho), hd, if_pos b2i_f, zlt_s, zlt_s, thr_0, if_neg (by decide)]
      rfl
  · refine op_q (A := .inl (if a2 = 0 then (ledT S.2.1 n a1 n).1 else (ledT S.2.1 n a1 n).2)) hc hm ho ?_ ?_
    · unfold f_X11_led
      rw [bd_eq (c_isNode hc.1), hd, if_neg b2i_t, zlt_s, h2]
      rw [bd2_eq (lp_seq (r := ((ledT S.2.1 n a1 n).1, (ledT S.2.1 n a1 n).2)) n (fun k => ((ledT S.2.1 n a1 k).1, (ledT S.2.1 n a1 k).2, nI (n - k) - 1)) ?_ ?_ (FU_lt (by omega)) ?_), zlt_s]
      · exact ok_some ⟨rfl, fr_refl⟩
      · intro k hk
        try dsimp only
        rw [un3_s, led_s hk, led_k hk, if_neg (nI_pos (by omega)), bd_eq (show f_X7_rowOf 0 (nI (n - 1 - k)) 1 μ = _ from c_row (i := 1) hc.1.1 (by omega) h7 hn), bd_eq (show f_X7_rowOf 0 (nI (n - 1 - k)) 0 μ = _ from c_row (i := 0) hc.1.1 (by omega) h7 hn)]
        have er : ∀ i, rowS S.2.1 n (nI (n - 1 - k)) i = S.2.1 (97 + 4 * (n - 1 - k) + i) := fun i => by
          unfold rowS
          rw [if_pos ⟨nI_pos' (by omega), nI_lt (by omega) (by omega)⟩, nI_cl (by omega)]
        rw [er, er]
        rw [ledT_s]
        by_cases z : S.2.1 (97 + 4 * (n - 1 - k) + 1) = a1
        · rw [if_pos z, if_pos z]; rfl
        · rw [if_neg z, if_neg z]; rfl
      · try dsimp only
        rw [un3_s, if_pos led_e]
      · rfl
    · intro μ1 r1
      unfold f_X12_led
      rw [bd_eq (m_node0 r1 ho), hd, if_neg b2i_t, zlt_s, zlt_s, thr_0, if_pos (by decide), mset_ne (by decide), show μ1 (0, 33, 0) = S.2.1 from r1.1, h7, zlt_s]
      rw [bd2_eq (lp_seq (r := ((ledT S.2.1 n a1 n).1, (ledT S.2.1 n a1 n).2)) n (fun k => ((ledT S.2.1 n a1 k).1, (ledT S.2.1 n a1 k).2, nI (n - k) - 1)) ?_ ?_ (FU_lt (by omega)) ?_), zlt_s]
      · exact ok_some ⟨⟨(show (mset μ1 MO0 0 0) MO0 0 = 0 from mset_at), rfl⟩, thr_fr⟩
      · intro k hk
        have hv : (mset μ1 (0, 32, 0) 0 0) MV0 = S.2.1 := (mset_ne (by decide)).trans r1.1
        try dsimp only
        rw [un3_s, led_s hk, led_k hk, if_neg (nI_pos (by omega)), bd_eq (show f_X12_logged (nI (n - 1 - k)) 1 (mset μ1 (0, 32, 0) 0 0) = _ from m_row (i := 1) hv (by omega) (by omega)), bd_eq (show f_X12_logged (nI (n - 1 - k)) 0 (mset μ1 (0, 32, 0) 0 0) = _ from m_row (i := 0) hv (by omega) (by omega))]
        rw [ledT_s]
        by_cases z : S.2.1 (97 + 4 * (n - 1 - k) + 1) = a1
        · rw [if_pos z, if_pos z]; rfl
        · rw [if_neg z, if_neg z]; rfl
      · try dsimp only
        rw [un3_s, if_pos led_e]
      · rfl
/-- the class's control and state 0 change -/
def stQ (s : Nat) (o : ZId) (i : Nat) : Prop := stateP s o i ∨ (o.1 = 0 ∧ o.2.1 < 5)
theorem stQ_ne {s t i : Nat} (h : s ≠ t) : ¬ stQ s (1, t, 0) i ∧ ¬ stQ s (4, t, 0) i ∧ (∀ k, ¬ stQ s (3, t, k) i) ∧ (∀ n, ¬ stQ s (5, n, 0) i) ∧ ∀ n j, j < 4 → ¬ stQ s (6, n, j) i := by
  refine ⟨?_, ?_, fun k => ?_, fun n => ?_, fun n j _ => ?_⟩ <;> (unfold stQ stateP; simp; try omega)
theorem stQ_0 {s j i : Nat} (h : 5 ≤ j) : ¬ stQ s (0, j, 0) i := by
  rintro ((h1 | ⟨k, h1⟩ | h1) | ⟨-, h1⟩)
  · exact zne (by decide) h1
  · exact zne (by decide) h1
  · exact zne (by decide) h1
  · dsimp only at h1; omega
theorem st_Q {s : Nat} {o : ZId} {i : Nat} (h : stateP s o i) : stQ s o i := Or.inl h
theorem stQ_cl {s : Nat} {o : ZId} {i : Nat} (h : stQ s o i) : clO o i := by
  rcases h with h | ⟨-, h⟩
  · exact st_cl h
  · exact Or.inr (by omega)
theorem rem12 {nx : Nat} (h : nx < 12) : zrem (nI nx + 12 - 1) 12 = nI ((nx + 11) % 12) := (zrem12 h).2
theorem OP_undo : OPn y f_X11_undo f_X12_undo := by
  rintro μ ⟨S, tp, tl, fa, kp, ac, hc, hm, ho⟩
  cases ac with
  | nil =>
    refine op_n (A := 0) (S' := S) (tp' := tp) (tl' := tl) (fa' := fa) (kp' := kp) (ac' := []) hm ?_ ?_ ho
    · obtain ⟨-, -, -, -, -, nx, -, -, a8, -⟩ := id hc
      unfold f_X11_undo f_X6_recall
      rw [a8, if_neg (by decide), bd2_s, gd_eq (by decide)]
      exact ok_some ⟨rfl, hc, fr_refl⟩
    · intro μ1 r1
      unfold f_X12_undo
      rw [zlt_s, mset_k (by decide), show μ1 (0, 32, 0) 6 = nI 0 from r1.2.2.2.2.2.1, if_pos (by decide)]
      exact ok_some ⟨rfl, thr_RM r1, ms_fr thr_fr⟩
  | cons a ac =>
    obtain ⟨o1, o2, o3, o4, o5, o6⟩ := ho
    have hl : ac.length + 1 ≤ 12 := o5
    have oa := o6 0 (by simp)
    rw [show ((a :: ac).getD 0 (0, fun _ => 0)) = a from rfl] at oa
    have oA : OA (a.1, a.2, S.2.2) tp tl kp ac := ⟨oa.1, o2, o3, o4, by omega, fun i hi => by
      have := o6 (i + 1) (by simp; omega)
      rw [show (a :: ac).getD (i + 1) (0, fun _ => 0) = ac.getD i (0, fun _ => 0) from rfl] at this
      exact ⟨this.1, sameT_trans this.2 (sameT_symm oa.2)⟩⟩
    refine op_n (A := 1) (S' := (a.1, a.2, S.2.2)) (tp' := tp) (tl' := tl) (fa' := fa) (kp' := kp) (ac' := ac) hm ?_ ?_ oA
    · obtain ⟨h1, h2, h3, h4, h5, nx, h6, h7, h8, h9⟩ := id hc
      unfold f_X11_undo f_X6_recall
      have e2 : μ (0, 2, 0) 2 = nI (ac.length + 1) := h8
      rw [e2, if_pos (show (1 : Int32) ≤ nI (ac.length + 1) from nI_le (a := 1) (by omega) (by omega)), h7, rem12 h6, zlt_s, mset_k (by decide), e2, nI_pred, zlt_s, mset_k (by decide), mset_at, gd_eq (zin_nI (by omega) (by omega)), nI_cl (by omega)]
      obtain ⟨μ1, hμ1⟩ : ∃ μ1, μ1 = mset (mset μ (0, 2, 0) 1 (nI ((nx + 11) % 12))) (0, 2, 0) 2 (nI ac.length) := ⟨_, rfl⟩
      rw [← hμ1]
      have f1 : fr (stQ 0) μ μ1 := by rw [hμ1]; exact fr_trans (fr_mset (Or.inr ⟨rfl, by decide⟩)) (fr_mset (Or.inr ⟨rfl, by decide⟩))
      have g1 : μ1 (0, 2, 0) 1 = nI ((nx + 11) % 12) := by rw [hμ1, mset_k (by decide), mset_at]
      have g2 : μ1 (0, 2, 0) 2 = nI ac.length := by rw [hμ1, mset_at]
      have g0 : ∀ j i, (j = 0 ∨ j = 1) → μ1 (0, j, 0) i = μ (0, j, 0) i := fun j i hj => by
        rw [hμ1]
        rcases hj with rfl | rfl
        · rw [mset_ne (by decide), mset_ne (by decide)]
        · rw [mset_ne (by decide), mset_ne (by decide)]
      have s0 := h9 0 (by simp)
      rw [show ((a :: ac).getD 0 (0, fun _ => 0)) = a from rfl, show 3 + (nx + 11 - 0) % 12 = 3 + (nx + 11) % 12 from rfl] at s0
      have hQ : ∀ t, t ≠ 0 → ∀ i, ¬ stQ 0 (1, t, 0) i ∧ ¬ stQ 0 (4, t, 0) i ∧ (∀ k, ¬ stQ 0 (3, t, k) i) ∧ (∀ n, ¬ stQ 0 (5, n, 0) i) ∧ ∀ n j, j < 4 → ¬ stQ 0 (6, n, j) i := fun t ht i => stQ_ne (fun q => ht q.symm)
      have b0 : ok (f_X7_copyFrom 0 (3 + (nx + 11) % 12) μ1) (fun μ' => SS y μ' 0 (a.1, a.2, S.2.2) ∧ fr (stateP 0) μ1 μ') := c_copy (by omega) (SS_fr s0 f1 (hQ _ (by omega)))
      refine ok_b2 (P := fun q => q.1 = 1 ∧ RC y q.2 (a.1, a.2, S.2.2) tp tl fa kp ac ∧ fr clO μ q.2) (ok_b1 b0 ?_) ?_
      · rintro μ2 ⟨w1, w2⟩
        have ff : fr (stQ 0) μ μ2 := fr_trans f1 (fr_mono w2 (fun o i h => st_Q h))
        have k0 : ∀ j i, (j = 0 ∨ j = 1) → μ2 (0, j, 0) i = μ (0, j, 0) i := fun j i hj => by rw [w2.1 _ _ st_0]; exact g0 j i hj
        refine ok_some ?_
        dsimp only
        refine ⟨rfl, ⟨w1, fun i hi => by rw [k0 1 i (Or.inr rfl)]; exact h2 i hi, by rw [k0 0 1 (Or.inl rfl)]; exact h3, by rw [k0 0 2 (Or.inl rfl)]; exact h4, ?_, (nx + 11) % 12, by omega, by rw [w2.1 _ _ st_0]; exact g1, by rw [w2.1 _ _ st_0]; exact g2, ?_⟩, fr_mono ff (fun o i h => stQ_cl h)⟩
        · cases kp with
          | none => show μ2 (0, 0, 0) 6 = 0; rw [k0 0 6 (Or.inl rfl)]; exact h5
          | some K => exact ⟨by rw [k0 0 6 (Or.inl rfl)]; exact h5.1, SS_fr h5.2 ff (hQ 2 (by omega))⟩
        · intro i hi
          have := h9 (i + 1) (by simp; omega)
          rw [show (a :: ac).getD (i + 1) (0, fun _ => 0) = ac.getD i (0, fun _ => 0) from rfl] at this
          rw [show 3 + ((nx + 11) % 12 + 11 - i) % 12 = 3 + (nx + 11 - (i + 1)) % 12 by omega]
          exact SS_fr this ff (hQ _ (by omega))
      · rintro x μ2 ⟨w1, w2, w3⟩
        dsimp only at w1
        subst w1
        rw [gd_eq (by decide)]
        exact ok_some ⟨rfl, w2, w3⟩
    · intro μ1 r1
      obtain ⟨a1, a2, a3, a4, a5, a6, a7, a8⟩ := id r1
      unfold f_X12_undo
      have e6 : μ1 (0, 32, 0) 6 = nI (ac.length + 1) := a6
      rw [zlt_s, mset_k (by decide), e6, if_neg (show ¬ nI (ac.length + 1) = 0 from ne_code (a := ac.length + 1) (b := 0) rfl (by omega) (by omega) (by omega)), nI_pred, zlt_s]
      obtain ⟨μ2, hμ2⟩ : ∃ μ2, μ2 = mset (mset μ1 (0, 32, 0) 0 0) (0, 32, 0) 6 (nI ac.length) := ⟨_, rfl⟩
      rw [← hμ2]
      have f2 : fr remP (mset μ1 MO0 0 0) μ2 := by rw [hμ2]; exact fr_mset (Or.inr ⟨rfl, rfl⟩)
      have r2 : RMo μ2 S tp tl fa kp ac := by
        refine RMo_acts (thr_RM (x := 0) r1) f2 (by rw [hμ2]; exact mset_at) ?_
        intro i hi j hj
        have := a7 (i + 1) (by simp; omega) j hj
        rw [show (a :: ac).getD (i + 1) (0, fun _ => 0) = ac.getD i (0, fun _ => 0) from rfl, show (a :: ac).length - 1 - (i + 1) = ac.length - 1 - i by simp; omega] at this
        rw [hμ2, mset_ne (by decide), mset_ne (by decide)]
        exact this
      have g36 : ∀ j, j < 337 → μ2 (0, 36, 0) (337 * ac.length + j) = a.2 j := by
        intro j hj
        have := a7 0 (by simp) j hj
        rw [show ((a :: ac).getD 0 (0, fun _ => 0)) = a from rfl, show (a :: ac).length - 1 - 0 = ac.length by simp] at this
        rw [hμ2, mset_ne (by decide), mset_ne (by decide)]
        exact this
      have g6 : μ2 (0, 32, 0) 6 = nI ac.length := r2.2.2.2.2.2.1
      refine ok_b1 (ok_seq 337 (fun k s => s.1 = nI k ∧ fr (fun o _ => o = MV0) μ2 s.2 ∧ ∀ j, s.2 MV0 j = if j < k then a.2 j else S.2.1 j) ?_ ?_ (Q := fun μ3 => fr (fun o _ => o = MV0) μ2 μ3 ∧ μ3 MV0 = a.2) ⟨rfl, fr_refl, fun j => by rw [if_neg (by omega)]; exact congrFun r2.1 j⟩ (FU_lt (by omega))) ?_
      · rintro k ⟨i, μ3⟩ hk ⟨w1, w2, w3⟩
        dsimp only at w1 w2 w3
        subst w1
        rw [un2_s, if_neg (show ¬ (337 : Int32) ≤ nI k from nI_ge (b := 337) hk (by omega)), w2.1 (0, 32, 0) 6 (by decide), g6, z337, gd_eq (zin_nI (by omega) (by omega)), gd_eq (zin_nI (by omega) (by omega)), nI_cl (by omega), nI_cl (by omega), zlt_s, w2.1 (0, 36, 0) _ (show ¬ ((0, 36, 0) : ZId) = MV0 by decide), g36 k hk]
        refine ok_some ⟨_, rfl, nI_1 k, fr_trans w2 (fr_mset rfl), fun j => ?_⟩
        dsimp only
        by_cases e : j = k
        · subst e
          rw [show (mset μ3 (0, 33, 0) j (a.2 j)) MV0 j = a.2 j from mset_at, if_pos (by omega)]
        · rw [show (mset μ3 (0, 33, 0) k (a.2 k)) MV0 j = μ3 MV0 j from mset_k e, w3]
          by_cases hj : j < k
          · rw [if_pos hj, if_pos (by omega)]
          · rw [if_neg hj, if_neg (by omega)]
      · rintro ⟨i, μ3⟩ ⟨w1, w2, w3⟩
        dsimp only at w1 w2 w3
        subst w1
        rw [un2_s, if_pos (by decide)]
        refine ok_some ⟨_, rfl, w2, funext fun j => ?_⟩
        rw [w3]
        by_cases hj : j < 337
        · rw [if_pos hj]
        · rw [if_neg hj]; exact (oa.2 j (Or.inr (Or.inr (by omega)))).symm
      · rintro μ3 ⟨w1, w2⟩
        refine ok_some ⟨rfl, RM_setv r2 w1 (fun o i h => h) w2, fr_trans (ms_fr thr_fr) (fr_trans (fr_mono f2 (fun o i h => rem_md h)) (fr_mono w1 (fun o i h => by cases h; exact ⟨rfl, by decide⟩)))⟩
end OV
