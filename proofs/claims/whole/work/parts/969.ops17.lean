/-! the draft: settles, widest, leads, trial, ahead -/
theorem itS_fst {f : Nat → Vec × Int32 → Vec × Int32} (h : ∀ k q q', q.1 = q'.1 → (f k q).1 = (f k q').1) {q q' : Vec × Int32} (e : q.1 = q'.1) : ∀ n, (itS f n q).1 = (itS f n q').1
  | 0 => e
  | n + 1 => h n _ _ (itS_fst h e n)
theorem den_fst {snd : Int32} {wer : Nat → Int32} (k : Nat) (q q' : Vec × Int32) (e : q.1 = q'.1) : (denStep snd wer k q).1 = (denStep snd wer k q').1 := by
  obtain ⟨v, x⟩ := q
  obtain ⟨v', x'⟩ := q'
  dsimp only at e
  subst e
  unfold denStep
  split
  · split <;> rfl
  · rfl
theorem out_fst {old : Int32} (k : Nat) (q q' : Vec × Int32) (e : q.1 = q'.1) : (outStep old k q).1 = (outStep old k q').1 := by
  obtain ⟨v, x⟩ := q
  obtain ⟨v', x'⟩ := q'
  dsimp only at e
  subst e
  unfold outStep
  dsimp only
  split <;> rfl
theorem round_x {L : LawS} {c : Nat} {d : Int32} {v : Vec} (x x' : Int32) : (roundS L c d (v, x)).1 = (roundS L c d (v, x')).1 := by
  unfold roundS
  dsimp only
  rw [itS_fst (f := outStep (actS v c)) out_fst (itS_fst (f := denStep _ _) den_fst (q := (_, x)) (q' := (_, x')) rfl c) c]
section PF
variable {y : ZLay} {μ : ZMem} {S S' : SV} {tp tp' : Vec} {tl tl' : Nat} {fa fa' : Int32} {kp kp' : Option SV} {ac ac' : List (Nat × Vec)}
/-- after k rounds -/
def aft (S : SV) (d : Int32) (k : Nat) : Vec := (goesS S.2.2 S.1 d k S.2.1).1
theorem aft_s {d : Int32} {k : Nat} {x : Int32} : aft S d (k + 1) = (roundS S.2.2 S.1 d (aft S d k, x)).1 := round_x _ _
theorem aft_ok (ho : OS S) {d : Int32} (k : Nat) : okC S.1 (aft S d k) ∧ sameT (aft S d k) S.2.1 := ⟨(goes_ok ho.1 k).1, (goes_ok ho.1 k).2.1⟩
theorem st1_sc {o : ZId} {i : Nat} (h : stateP 1 o i) : scP o i := by
  rcases h with rfl | ⟨k, rfl⟩ | rfl
  · exact Or.inr (Or.inr (Or.inl ⟨Or.inl rfl, rfl⟩))
  · exact Or.inr (Or.inr (Or.inl ⟨Or.inr (Or.inl rfl), rfl⟩))
  · exact Or.inr (Or.inr (Or.inl ⟨Or.inr (Or.inr rfl), rfl⟩))
/-- the draft of the class, after k rounds -/
def DC (y : ZLay) (μ0 : ZMem) (S : SV) (d : Int32) (k : Nat) (μ : ZMem) : Prop := CS μ 1 S.1 (aft S d k) ∧ LawC y μ (lno μ 1) S.2.2 ∧ fr scP μ0 μ
theorem c_draft (hc : SS y μ 0 S) : ok (f_X7_copyFrom 1 0 μ) (fun μ' => SS y μ' 1 S ∧ fr scP μ μ' ∧ ∀ d, DC y μ S d 0 μ') := by
  refine ok_mono (c_copy (s0 := 1) (s1 := 0) (by omega) hc) ?_
  rintro μ' ⟨w1, w2⟩
  have f := fr_mono w2 (fun o i h => st1_sc h)
  exact ⟨w1, f, fun d => ⟨w1.1, w1.2.2.1, f⟩⟩
theorem c_dplay {μ0 : ZMem} {d : Int32} {k : Nat} (h : DC y μ0 S d k μ) (ho : OS S) : ok (f_X9_play y 1 d μ) (fun q => DC y μ0 S d (k + 1) q.2) := by
  obtain ⟨h1, h2, h3⟩ := h
  obtain ⟨g1, g2⟩ := aft_ok ho (d := d) k
  refine ok_mono (c_play (x := 0) (n := lno μ 1) hz10 h1 g1.1 g1.2 ho.2.1 h2 rfl) ?_
  rintro q ⟨w1, -, w3⟩
  refine ⟨by rw [aft_s (x := 0)]; exact w1, ?_, fr_trans h3 (fr_mono w3 (fun o i h => pl1_sc h))⟩
  have : lno q.2 1 = lno μ 1 := by unfold lno; rw [pl_law w3]
  rw [this]
  exact LawC_pl h2 w3
theorem c_dplays {μ0 : ZMem} {d : Int32} {n : Nat} (hn : n ≤ 60) (h : DC y μ0 S d 0 μ) (ho : OS S) : ok (f_X11_playDraft y (nI n) d μ) (DC y μ0 S d n) := by
  unfold f_X11_playDraft
  refine ok_b1i (ok_seq n (fun k s => s.1 = nI k ∧ DC y μ0 S d k s.2) ?_ ?_ ⟨rfl, h⟩ (FU_lt (by omega)))
  · rintro k ⟨x, μ1⟩ hk ⟨w1, w2⟩
    dsimp only at w1 w2
    subst w1
    rw [un2_s, if_neg (nI_ge hk (by omega))]
    refine ok_b2 (c_dplay w2 ho) ?_
    rintro x μ2 u
    exact ok_some ⟨_, rfl, nI_1 k, u⟩
  · rintro ⟨x, μ1⟩ ⟨w1, w2⟩
    dsimp only at w1 w2
    subst w1
    rw [un2_s, if_pos (nI_le (Nat.le_refl _) (by omega))]
    exact ok_some ⟨_, rfl, w2⟩
/-- the draft of the model, after k rounds -/
def drP (o : ZId) (i : Nat) : Prop := rP o i ∨ o = (0, 35, 0)
theorem drP_ms {o : ZId} {i : Nat} (h : drP o i) : o = MV0 ∨ msP o i := by
  rcases h with h | rfl
  · exact rP_ms h
  · exact Or.inr (Or.inr (Or.inl rfl))
theorem drP_0 : ¬ drP MO0 0 := by unfold drP rP askP; simp
def DM (μ0 : ZMem) (S : SV) (d : Int32) (k : Nat) (μ : ZMem) : Prop := μ MV0 = aft S d k ∧ (∀ j, j < 337 → μ (0, 35, 0) j = S.2.1 j) ∧ fr drP μ0 μ
theorem m_aside (hv : μ MV0 = S.2.1) : ok (f_X12_putsAside μ) (fun μ' => ∀ d, DM μ S d 0 μ') := by
  unfold f_X12_putsAside
  refine ok_b1i (ok_mono (cp_seq (oa := MV0) (ob := (0, 35, 0)) (n := 337) (N := 337) (by decide) (by decide) (by omega) (by omega) (by omega) ?_ ?_) ?_)
  · intro k μ3 hk
    rw [un2_s, if_neg (show ¬ (337 : Int32) ≤ nI k from nI_ge (b := 337) hk (by omega)), gd_eq (zin_nI (by omega) (by omega)), gd_eq (zin_nI (by omega) (by omega)), nI_cl (by omega), zlt_s]
  · intro μ3
    rw [un2_s, if_pos (by decide)]
  · rintro μ' ⟨w1, w2⟩ d
    refine ⟨?_, fun j hj => ?_, fr_mono w1 (fun o i h => Or.inr h)⟩
    · exact (fr_at w1 (fun i => (show ¬ MV0 = ((0, 35, 0) : ZId) by decide))).trans hv
    · rw [w2, if_pos hj, hv]
theorem m_dpass {μ0 : ZMem} {d : Int32} {k : Nat} (h : DM μ0 S d k μ) (ho : OS S) : ok (f_X12_passes d μ) (DM μ0 S d (k + 1)) := by
  obtain ⟨h1, h2, h3⟩ := h
  obtain ⟨g1, g2⟩ := aft_ok ho (d := d) k
  refine ok_mono (m_passes h1 ho.2.2.1 ⟨g1.1, g2⟩) ?_
  rintro μ' ⟨w1, w2⟩
  refine ⟨by rw [aft_s (x := μ MO0 25)]; exact congrArg Prod.fst w1, fun j hj => ?_, fr_trans h3 (fr_mono w2 (fun o i h => Or.inl h))⟩
  rw [w2.1 _ _ (by unfold rP askP; simp)]
  exact h2 j hj
theorem m_dgoes {μ0 : ZMem} {d : Int32} {n : Nat} (hn : n ≤ 60) (h : DM μ0 S d 0 μ) (ho : OS S) : ok (f_X12_goes (nI n) d μ) (fun q => DM μ0 S d n q.2) := by
  obtain ⟨h1, h2, h3⟩ := h
  refine ok_mono (m_goes (n := n) (d := d) (by omega) (show μ MV0 = S.2.1 from h1) ho.2.2.1 ⟨ho.1.1, fun _ _ => rfl⟩) ?_
  rintro q ⟨-, w2, -, w4⟩
  refine ⟨w2, fun j hj => ?_, fr_trans h3 (fr_mono w4 (fun o i h => Or.inl h))⟩
  rw [w4.1 _ _ (by unfold rP askP; simp)]
  exact h2 j hj
theorem m_comes {μ0 : ZMem} {v : Vec} (h1 : μ MV0 = v) (hT : sameT v S.2.1) (h2 : ∀ j, j < 337 → μ (0, 35, 0) j = S.2.1 j) (h3 : fr drP μ0 μ) : ok (f_X12_comesBack μ) (fun μ' => μ' MV0 = S.2.1 ∧ (∀ j, j < 337 → μ' (0, 35, 0) j = S.2.1 j) ∧ fr drP μ0 μ') := by
  unfold f_X12_comesBack
  refine ok_b1i (ok_mono (cp_seq (oa := (0, 35, 0)) (ob := MV0) (n := 337) (N := 337) (by decide) (by decide) (by omega) (by omega) (by omega) ?_ ?_) ?_)
  · intro k μ3 hk
    rw [un2_s, if_neg (show ¬ (337 : Int32) ≤ nI k from nI_ge (b := 337) hk (by omega)), gd_eq (zin_nI (by omega) (by omega)), gd_eq (zin_nI (by omega) (by omega)), nI_cl (by omega), zlt_s]
  · intro μ3
    rw [un2_s, if_pos (by decide)]
  · rintro μ' ⟨w1, w2⟩
    refine ⟨funext fun j => ?_, fun j hj => ?_, fr_trans h3 (fr_mono w1 (fun o i h => Or.inl (r_vec h)))⟩
    · rw [w2]
      by_cases hj : j < 337
      · rw [if_pos hj]; exact h2 j hj
      · rw [if_neg hj, h1]; exact hT j (Or.inr (Or.inr (by omega)))
    · rw [w1.1 _ _ (show ¬ ((0, 35, 0) : ZId) = MV0 by decide)]
      exact h2 j hj
theorem DM_back {μ0 : ZMem} {d : Int32} {k : Nat} (h : DM μ0 S d k μ) (ho : OS S) : ok (f_X12_comesBack μ) (fun μ' => μ' MV0 = S.2.1 ∧ fr drP μ0 μ') :=
  ok_mono (m_comes h.1 (aft_ok ho k).2 h.2.1 h.2.2) (fun _ h => ⟨h.1, h.2.2⟩)
/-- a query on the draft that may throw -/
theorem op_d {F : ZMem → Option ((Int32 ⊕ Nat) × ZMem)} {G : ZMem → Option (Int32 × ZMem)} {cm : Nat → Nat} {A : Int32} (hc : RC y μ S tp tl fa kp ac) (hm : RMo μ S tp tl fa kp ac) (ho : OA S tp tl kp ac) (h1 : ok (F μ) (fun r => r.1 = .inl A ∧ fr scP μ r.2))
    (h2 : ∀ μ1, RMo μ1 S tp tl fa kp ac → (mset μ1 MO0 0 0) MV0 = S.2.1 → ok (G μ1) (fun q => q.1 = A ∧ q.2 MV0 = S.2.1 ∧ fr drP (mset μ1 MO0 0 0) q.2)) :
    ok (F μ) (fun r => ∀ μ1, fr outP r.2 μ1 → ok (G μ1) (fun q => agr cm r.1 (q.2 MO0 0) q.1 ∧ INV y q.2)) := by
  refine op_x (A := .inl A) (fa' := fa) hm (ok_mono h1 ?_) ?_ ho
  · rintro r ⟨a, b⟩
    exact ⟨a, RC_sc hc b, fr_mono b (fun o i h => sc_cl h)⟩
  · intro μ1 r1
    refine ok_mono (h2 μ1 r1 ((mset_ne (by decide)).trans r1.1)) ?_
    rintro q ⟨a, b, c⟩
    refine ⟨⟨?_, a⟩, RM_put (thr_RM r1) c (fun o i h => drP_ms h) b, fr_trans (ms_fr thr_fr) (fr_mono c ?_)⟩
    · rw [c.1 _ _ drP_0]
      exact thr_0
    · intro o i h
      rcases drP_ms h with rfl | h
      · exact ⟨rfl, by decide⟩
      · exact ms_md h
theorem ahead_eq {a : Int32} : f_X11_isAhead a = some (b2i (decide (0 ≤ a ∧ a ≤ 60))) := by
  unfold f_X11_isAhead
  rw [jk_s]
  by_cases h1 : a < 0
  · rw [if_pos h1, bd_s, gd_eq (by decide), decide_eq_false (fun q => Int32.not_lt.mpr q.1 h1)]; rfl
  · rw [if_neg h1]
    by_cases h2 : 60 < a
    · rw [if_pos h2, bd_s, gd_eq (by decide), decide_eq_false (fun q => Int32.not_lt.mpr q.2 h2)]; rfl
    · rw [if_neg h2, bd_s, gd_eq (by decide), decide_eq_true ⟨Int32.not_lt.mp h1, Int32.not_lt.mp h2⟩]; rfl
theorem OP_trial {a1 a2 : Int32} : OPx y cm1 (f_X11_trial y a1 a2) (f_X12_trial a1 a2) := by
  rintro μ ⟨S, tp, tl, fa, kp, ac, hc, hm, ho⟩
  have h8 := OA_c ho
  by_cases hr : 0 ≤ a1 ∧ a1 ≤ 60
  · obtain ⟨n, hn, rfl⟩ := in_k hr.1 (show a1 ≤ nI 60 from hr.2) (by omega)
    obtain ⟨g1, g2⟩ := aft_ok ho.1 (d := 1) n
    refine op_d (A := if a2 = 0 then actS (aft S 1 n) S.1 else spreadS (aft S 1 n) S.1) hc hm ho ?_ ?_
    · unfold f_X11_trial
      rw [bd_eq ahead_eq, decide_eq_true hr, if_neg b2i_t]
      refine ok_b1 (c_draft hc.1) ?_
      rintro μ1 ⟨-, -, w3⟩
      refine ok_b1 (c_dplays hn (w3 1) ho.1) ?_
      rintro μ2 ⟨u1, -, u3⟩
      rw [bd_eq (show f_X7_inState 1 2 μ2 = some (actS (aft S 1 n) S.1) from CS_act u1), bd_eq (c_spread u1)]
      by_cases z : a2 = 0
      · rw [if_pos z, if_pos z]; exact ok_some ⟨rfl, u3⟩
      · rw [if_neg z, if_neg z]; exact ok_some ⟨rfl, u3⟩
    · intro μ1 r1 hv
      unfold f_X12_trial
      rw [bd_eq m_isIn, decide_eq_true hr, if_neg b2i_t, zlt_s, zlt_s, thr_0, if_pos (by decide)]
      refine ok_b1 (m_aside hv) ?_
      intro μ2 w
      refine ok_b2 (m_dgoes hn (w 1) ho.1) ?_
      rintro x μ3 u
      dsimp only at u
      have e1 : f_X12_inState 2 μ3 = some (actS (aft S 1 n) S.1) := by rw [m_inState_eq (by rw [u.1]; exact g1.1.2.1) h8, u.1]; rfl
      rw [bd_eq e1, bd_eq (m_spread u.1 g1)]
      refine ok_b1 (P := fun x => x = if a2 = 0 then actS (aft S 1 n) S.1 else spreadS (aft S 1 n) S.1) (by by_cases z : a2 = 0; (rw [if_pos z, if_pos z]; exact ok_some rfl); (rw [if_neg z, if_neg z]; exact ok_some rfl)) ?_
      rintro x2 rfl
      refine ok_b1 (DM_back u ho.1) ?_
      rintro μ4 ⟨p1, p2⟩
      exact ok_some ⟨rfl, p1, p2⟩
  · refine op_ref (k := 1) hc hm ho (by decide) ?_ ?_
    · unfold f_X11_trial
      rw [bd_eq ahead_eq, decide_eq_false hr, if_pos b2i_f]
    · intro μ1 r1
      unfold f_X12_trial
      rw [bd_eq m_isIn, decide_eq_false hr, if_pos b2i_f, zlt_s, zlt_s, thr_0, if_neg (by decide)]
      rfl
theorem OP_ahead {a1 a2 a3 : Int32} : OPx y cmB (f_X11_ahead y a1 a2 a3) (f_X12_ahead a1 a2 a3) := by
  rintro μ ⟨S, tp, tl, fa, kp, ac, hc, hm, ho⟩
  have h8 := OA_c ho
  cases hn : nodeB S.1 a1
  · refine op_ref (k := 3) hc hm ho (by decide) ?_ ?_
    · unfold f_X11_ahead
      rw [bd_eq (c_isNode hc.1), hn, if_pos b2i_f]
    · intro μ1 r1
      unfold f_X12_ahead
      rw [bd_eq (m_node0 r1 ho), hn, if_pos b2i_f, bd_s, zlt_s, thr_0, if_neg (by decide)]
      rfl
  · obtain ⟨k, hk, rfl⟩ := nodeB_t h8 hn
    by_cases hr : 0 ≤ a2 ∧ a2 ≤ 60
    · obtain ⟨n, hn', rfl⟩ := in_k hr.1 (show a2 ≤ nI 60 from hr.2) (by omega)
      refine op_d (A := if a3 = 0 then nd (aft S 0 n) k 0 else nd (aft S 0 n) k 3) hc hm ho ?_ ?_
      · unfold f_X11_ahead
        rw [bd_eq (c_isNode hc.1), hn, if_neg b2i_t, bd_eq ahead_eq, decide_eq_true hr, if_neg b2i_t]
        refine ok_b1 (c_draft hc.1) ?_
        rintro μ1 ⟨-, -, w3⟩
        refine ok_b1 (c_dplays hn' (w3 0) ho.1) ?_
        rintro μ2 ⟨u1, -, u3⟩
        rw [gd_eq (zin_nI (by omega) (by omega)), gd_eq (zin_nI (by omega) (by omega)), nI_cl (by omega), CS_nd u1 hk (by omega), CS_nd u1 hk (by omega)]
        by_cases z : a3 = 0
        · rw [if_pos z, if_pos z]; exact ok_some ⟨rfl, u3⟩
        · rw [if_neg z, if_neg z]; exact ok_some ⟨rfl, u3⟩
      · intro μ1 r1 hv
        unfold f_X12_ahead
        rw [bd_eq (m_node0 r1 ho), hn, if_neg b2i_t, bd_eq m_isIn, decide_eq_true hr, if_neg b2i_t, bd_s, zlt_s, thr_0, if_pos (by decide)]
        refine ok_b1 (m_aside hv) ?_
        intro μ2 w
        refine ok_b2 (m_dgoes hn' (w 0) ho.1) ?_
        rintro x μ3 u
        dsimp only at u
        have e1 : f_X12_of (nI k) (if a3 = 0 then 0 else 3) μ3 = some (if a3 = 0 then nd (aft S 0 n) k 0 else nd (aft S 0 n) k 3) := by
          by_cases z : a3 = 0
          · rw [if_pos z, if_pos z]; exact ofV (w := 0) u.1 rfl (by omega) (by omega)
          · rw [if_neg z, if_neg z]; exact ofV (w := 3) u.1 rfl (by omega) (by omega)
        rw [zlt_s, bd_eq e1]
        refine ok_b1 (DM_back u ho.1) ?_
        rintro μ4 ⟨p1, p2⟩
        exact ok_some ⟨rfl, p1, p2⟩
    · refine op_ref (k := 1) hc hm ho (by decide) ?_ ?_
      · unfold f_X11_ahead
        rw [bd_eq (c_isNode hc.1), hn, if_neg b2i_t, bd_eq ahead_eq, decide_eq_false hr, if_pos b2i_f]
      · intro μ1 r1
        unfold f_X12_ahead
        rw [bd_eq (m_node0 r1 ho), hn, if_neg b2i_t, bd_eq m_isIn, decide_eq_false hr, if_pos b2i_f, bd_s, zlt_s, thr_0, if_neg (by decide)]
        rfl
end PF
