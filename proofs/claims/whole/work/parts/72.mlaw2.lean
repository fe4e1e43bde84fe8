/-! the model reads a law's condition: plain ones, loops -/
section MD
variable {T : Vec} {e : Nat} {E : Nat → Int32}
theorem joined_less {a b : Int32} : f_X3_joined 2060 a b = if b ≤ a then 0 else 1 := by
  unfold f_X3_joined
  rw [if_neg (by decide), if_neg (by decide), if_pos rfl]
  rfl
theorem joined_more {a b : Int32} : f_X3_joined 2062 a b = if a ≤ b then 0 else 1 := by
  unfold f_X3_joined
  rw [if_neg (by decide), if_neg (by decide), if_neg (by decide), if_pos rfl]
  rfl
theorem zbo_if {c : Prop} [Decidable c] : zbo (if c then (0 : Int32) else 1) = true := by
  by_cases h : c
  · rw [if_pos h]; decide
  · rw [if_neg h]; decide
theorem fault_ne {μ : ZMem} {f : Nat} (h : μ MO0 12 = nI f) (hf : f ≤ 400) : ¬ μ (0, 32, 0) 12 = -1 := by
  rw [show μ (0, 32, 0) 12 = nI f from h]
  exact neg1 (by omega)
theorem RB_plain (hB : HB T e) (he : e ≤ 400) {dp : Nat} (hdp : dp ≤ 7) {μ : ZMem} {q : Nat} (h : MR μ T e q dp) (hE : EF E μ) : ok (f_X12_plain μ) (fun r => mOut T e E μ dp 3 (pPlain T e q) r ∧ zbo r.1 = true) := by
  have hg := MP_gq h.1
  have hqe := hg.1
  obtain ⟨e1, e2, e3, e4, k, e5, e6, e7⟩ := id hE
  have word : ∀ (j : Nat) (x : Int32), 7 ≤ j → j < 10 → cd T e q = nI (1000 + j) → x = E j → zbo x = true → ∀ μ', fr mpP μ μ' → MP μ' T e (nx T e q) dp → mOut T e E μ dp 3 (pPlain T e q) (x, μ') ∧ zbo x = true := by
    intro j x hj hj2 hc hx hz μ' f' m'
    have hp : 1007 ≤ cd T e q ∧ cd T e q ≤ 1009 := by
      rw [hc]
      exact ⟨nI_le (a := 1007) (by omega) (by omega), nI_le (b := 1009) (by omega) (by omega)⟩
    refine ⟨mOut_r (by unfold pPlain; rw [if_pos hp]) f' m' ?_, hz⟩
    have ep := EV_push (E := E) (c := cd T e q) hp.2
    rw [if_neg (by rw [hc]; exact nI_nlt (a := 1000 + j) (b := 1000) (by omega) (by omega))] at ep
    have ej : (cd T e q - 1000).toNatClampNeg = j := by
      rw [hc, show (1000 : Int32) = nI 1000 from rfl, nI_sub (by omega), nI_cl (by omega)]
      omega
    rw [ej, ← hx] at ep
    exact EV_mono ep (by omega)
  unfold f_X12_plain
  by_cases c7 : cd T e q = nI (1000 + 7)
  · have hq : q < e := cd_lt (ne_code c7 (by omega) (b := 3001) (by omega) (by omega))
    rw [has_t hB h (by omega) (show jmL.getD 19 0 = 7 by decide) c7, if_neg (by decide), zlt_s]
    have ex : (if zrem ((mset μ MO0 11 (nI (tend T e q))) (0, 33, 0) 6) 2 = 0 then (1 : Int32) else 0) = E 7 := by
      rw [mset_ne (by decide), ← e2]
      show (if zrem (μ MV0 6) 2 = 0 then (1 : Int32) else 0) = _
      by_cases z : zrem (μ MV0 6) 2 = 0
      · rw [if_pos z, decide_eq_true z]; rfl
      · rw [if_neg z, decide_eq_false z]; rfl
    rw [ex, gd_eq (by rw [← e2]; exact zbo_b2i _)]
    exact ok_some (word 7 _ (by omega) (by omega) c7 rfl (by rw [← e2]; exact zbo_b2i _) _ at_fr (MP_nx h.1 hq))
  rw [has_f hB h (by omega) (show jmL.getD 19 0 = 7 by decide) c7, if_pos rfl]
  by_cases c8 : cd T e q = nI (1000 + 8)
  · have hq : q < e := cd_lt (ne_code c8 (by omega) (b := 3001) (by omega) (by omega))
    rw [has_t hB h (by omega) (show jmL.getD 20 0 = 8 by decide) c8, if_neg (by decide)]
    have ex : (mset μ MO0 11 (nI (tend T e q))) (0, 32, 0) 15 = E 8 := by
      rw [← e3]
      exact mset_k (by decide)
    rw [ex, gd_eq e4]
    exact ok_some (word 8 _ (by omega) (by omega) c8 rfl e4 _ at_fr (MP_nx h.1 hq))
  rw [has_f hB h (by omega) (show jmL.getD 20 0 = 8 by decide) c8, if_pos rfl]
  by_cases c9 : cd T e q = nI (1000 + 9)
  · have hq : q < e := cd_lt (ne_code c9 (by omega) (b := 3001) (by omega) (by omega))
    rw [has_t hB h (by omega) (show jmL.getD 5 0 = 9 by decide) c9, if_neg (by decide)]
    have ei : (mset μ MO0 11 (nI (tend T e q))) (0, 38, 0) 0 = nI k := by
      rw [mset_ne (by decide)]; exact e6
    have ev : (mset μ MO0 11 (nI (tend T e q))) MV0 = μ MV0 := mset_ne (by decide)
    rw [ei, bd_eq (of8 e5), ev, zlt_s]
    have ex : (if nd (μ MV0) k 8 ≤ 0 then (0 : Int32) else 1) = E 9 := by
      rw [← e7]
      by_cases z : 0 < nd (μ MV0) k 8
      · rw [if_neg (Int32.not_le.mpr z), decide_eq_true z]; rfl
      · rw [if_pos (Int32.not_lt.mp z), decide_eq_false z]; rfl
    rw [ex, gd_eq (by rw [← e7]; exact zbo_b2i _)]
    exact ok_some (word 9 _ (by omega) (by omega) c9 rfl (by rw [← e7]; exact zbo_b2i _) _ at_fr (MP_nx h.1 hq))
  rw [has_f hB h (by omega) (show jmL.getD 5 0 = 9 by decide) c9, if_pos rfl]
  have hp : ¬ (1007 ≤ cd T e q ∧ cd T e q ≤ 1009) := by
    rintro ⟨h1, h2⟩
    obtain ⟨n, n1, n2, -⟩ := cd_nat (q := q) hB
    rw [n2] at h1 h2
    rw [Int32.le_iff_toInt_le, nI_toInt (by omega)] at h1 h2
    have x1 : (1007 : Int32).toInt = 1007 := by decide
    have x2 : (1009 : Int32).toInt = 1009 := by decide
    have hh : n = 1000 + 7 ∨ n = 1000 + 8 ∨ n = 1000 + 9 := by omega
    rcases hh with rfl | rfl | rfl
    · exact c7 n2
    · exact c8 n2
    · exact c9 n2
  have hS : PG T e (pSum T e) := chain_g he (by decide) (part_g he)
  unfold pPlain
  rw [if_neg hp]
  refine ok_b2 (RM_sum hB he hdp μ q h.1 hE) ?_
  rintro x14 μ1 ⟨o1, o2, o3⟩
  dsimp only at o1 o2 o3
  cases hs : pSum T e q with
  | inl f =>
    have hf := (hS q hg).1 f hs
    rw [if_neg (fault_ne (o2 f hs).1 (by omega))]
    exact ok_some ⟨mOut_f rfl o1 (o2 f hs), (show zbo (0 : Int32) = true by decide)⟩
  | inr qc =>
    obtain ⟨q1, a⟩ := qc
    obtain ⟨m1, v1⟩ := o3 q1 a hs
    obtain ⟨p1, p2, p3⟩ := (hS q hg).2 q1 a hs
    have hq1 := p1.1
    show ok _ (fun r => mOut T e E μ dp 3 (if cd T e q1 = 2060 ∨ cd T e q1 = 2062 then prB (pSum T e (nx T e q1)) (fun q2 b => .inr (q2, a ++ (b ++ [cd T e q1]))) else .inl q1) r ∧ zbo r.1 = true)
    rw [if_pos (show μ1 (0, 32, 0) 12 = -1 from m1.2.1), bd2_eq (show f_X12_isSign 60 μ1 = _ from m_isSign hB m1 (c := 60) (by omega) (by decide) (by decide)), jk_s]
    have m2 := MP_rest m1
    have f2 : fr mpP μ (mset μ1 MO0 11 (nI q1)) := fr_trans o1 at_fr
    -- behind the sign
    have tail : ∀ (op : Nat) (x18 : Int32), (op = 60 ∧ x18 = 1 ∨ op = 62 ∧ x18 = 0) → cd T e q1 = nI (2000 + op) → ∀ μ2, fr mpP μ μ2 → MP μ2 T e q1 dp → μ2 MO0 11 = nI q1 → ok (zlt (mset μ2 (0, 32, 0) 11 ((μ2 (0, 32, 0) 11) + 1)) (fun (μ29 : ZMem) => bd2 (f_X12_sum μ29) (fun (x31 : Int32) (μ32 : ZMem) => zlt (α := Int32) (if x18 = 0 then if x14 ≤ x31 then 0 else 1 else if x31 ≤ x14 then 0 else 1) (fun (x34 : Int32) => gd (zbo x34) (some (x34, μ32)))))) (fun r => mOut T e E μ dp 3 (prB (pSum T e (nx T e q1)) (fun q2 b => .inr (q2, a ++ (b ++ [cd T e q1])))) r ∧ zbo r.1 = true) := by
      intro op x18 hop hc μ2 f2 m2 a2
      have hop2 : op < 256 ∧ isLt (nI op) = false ∧ isDg (nI op) = false := by
        rcases hop with ⟨rfl, -⟩ | ⟨rfl, -⟩
        · exact ⟨by omega, by decide, by decide⟩
        · exact ⟨by omega, by decide, by decide⟩
      obtain ⟨hq, ht⟩ := (cd_sign hB hop2.1 hop2.2.1 hop2.2.2).mp hc
      have m3 := MP_nx m2 hq
      rw [tend_sign ht hop2.2.1 hop2.2.2] at m3
      rw [zlt_s, show μ2 (0, 32, 0) 11 = nI q1 from a2, nI_1]
      refine ok_b2 (RM_sum hB he hdp _ _ m3 (EF_mp hE (fr_trans f2 at_fr))) ?_
      rintro x31 μ3 ⟨s1, s2, s3⟩
      dsimp only at s1 s2 s3
      have f3 := fr_trans f2 (fr_trans at_fr s1)
      have hzb : zbo (if x18 = 0 then if x14 ≤ x31 then (0 : Int32) else 1 else if x31 ≤ x14 then 0 else 1) = true := by
        by_cases z : x18 = 0
        · rw [if_pos z]; exact zbo_if
        · rw [if_neg z]; exact zbo_if
      rw [zlt_s, gd_eq hzb]
      refine ok_some ⟨?_, hzb⟩
      cases hs2 : pSum T e (nx T e q1) with
      | inl f => exact mOut_f rfl f3 (s2 f hs2)
      | inr qc2 =>
        obtain ⟨q2, b⟩ := qc2
        obtain ⟨m4, v2⟩ := s3 q2 b hs2
        refine mOut_r rfl f3 m4 ?_
        rcases hop with ⟨rfl, rfl⟩ | ⟨rfl, rfl⟩
        · have ev := EV_op (op := 2060) (D := 3) (by decide) (by decide) (EV_mono v1 (by omega)) v2 (by omega)
          rw [joined_less] at ev
          rw [if_neg (by decide), hc]
          exact ev
        · have ev := EV_op (op := 2062) (D := 3) (by decide) (by decide) (EV_mono v1 (by omega)) v2 (by omega)
          rw [joined_more] at ev
          rw [if_pos rfl, hc]
          exact ev
    by_cases c60 : cd T e q1 = nI (2000 + 60)
    · rw [if_pos (Or.inl (show cd T e q1 = 2060 from c60)), decide_eq_true c60, if_neg (show ¬ b2i true = 0 by decide)]
      exact tail 60 _ (Or.inl ⟨rfl, rfl⟩) c60 _ f2 m2 mset_at
    · rw [decide_eq_false c60, if_pos (show b2i false = 0 by decide), bd2_eq (show f_X12_isSign 62 _ = _ from m_isSign hB m2 (c := 62) (by omega) (by decide) (by decide)), show mset (mset μ1 MO0 11 (nI q1)) MO0 11 (nI q1) = mset μ1 MO0 11 (nI q1) from mset_mset]
      by_cases c62 : cd T e q1 = nI (2000 + 62)
      · rw [if_pos (Or.inr (show cd T e q1 = 2062 from c62)), decide_eq_true c62, if_neg (show ¬ b2i true = 0 by decide)]
        exact tail 62 _ (Or.inr ⟨rfl, rfl⟩) c62 _ f2 m2 mset_at
      · rw [if_neg (show ¬ (cd T e q1 = 2060 ∨ cd T e q1 = 2062) by rintro (h | h); exact c60 h; exact c62 h), decide_eq_false c62, if_pos (show b2i false = 0 by decide), MP_at (dp := dp), bd_eq (m_wrong m2.2.1)]
        exact ok_some ⟨mOut_f rfl (fr_trans f2 wrong_fr) (FA_wrong hdp (by omega) mset_at), (show zbo (0 : Int32) = true by decide)⟩
theorem has_go {μ : ZMem} {q dp w j : Nat} (hB : HB T e) (h : MP μ T e q dp) (hw : 1 ≤ w ∧ w < 27) (hj : jmL.getD w 0 = j) : f_X12_has w μ = some (b2i (decide (cd T e q = nI (1000 + j))), mset μ MO0 11 (nI (if cd T e q = nI (1000 + j) then tend T e q else q))) := by
  rw [m_has hB h hw, hj]
/-- the loops of every and some -/
theorem RB_chain (hB : HB T e) (he : e ≤ 400) {dp D D' w j : Nat} {F : ZMem → Option (Int32 × ZMem)} {P : Nat → PR} {G : Int32 → Int32 → Option Int32} (hw : 1 ≤ w ∧ w < 27) (hj : jmL.getD w 0 = j) (hj2 : 10 ≤ j) (hj3 : j ≠ 16) (hj26 : j < 26)
    (hG : ∀ a b, zbo a = true → zbo b = true → G a b = some (f_X3_joined (nI (1000 + j)) a b) ∧ zbo (f_X3_joined (nI (1000 + j)) a b) = true) (hP : PG T e P) (hF : RB T e E dp D' F P) (hD : D' + 1 ≤ D) :
    RB T e E dp D (fun μ => bd2 (F μ) (fun (x2 : Int32) (μ3 : ZMem) => bd2 (lp (σ := Int32 × ZMem) (fun q => un2 q (fun (x4 : Int32) (μ5 : ZMem) => if (μ5 (0, 32, 0) 12) = (-1) then bd2 (f_X12_has w μ5) (fun (x10 : Int32) (μ11 : ZMem) => if x10 = 0 then some (.inr (x4, μ11)) else bd2 (F μ11) (fun (x14 : Int32) (μ15 : ZMem) => bd (α := Int32) (G x4 x14) (fun (x17 : Int32) => some (.inl (x17, μ15))))) else some (.inr (x4, μ5)))) FU (x2, μ3)) (fun (x6 : Int32) (μ7 : ZMem) => gd (zbo x6) (some (x6, μ7))))) (chain T e (nI (1000 + j)) P) := by
  intro μ q h hE
  have hg := MP_gq h
  have hop : ¬ nI (1000 + j) = 3001 := ne_code (a := 1000 + j) (b := 3001) rfl (by omega) (by omega) (by omega)
  have hop1 : ¬ nI (1000 + j) ≤ 1009 := nI_ge (b := 1000 + j) (a := 1009) (by omega) (by omega)
  have hop2 : ¬ nI (1000 + j) = 1016 := ne_code (a := 1000 + j) (b := 1016) rfl (by omega) (by omega) (by omega)
  refine ok_b2 (hF μ q h hE) ?_
  rintro x μ1 ⟨⟨o1, o2, o3⟩, o4⟩
  dsimp only at o1 o2 o3 o4
  obtain ⟨R, hR⟩ : ∃ R, R = chain T e (nI (1000 + j)) P q := ⟨_, rfl⟩
  rw [← hR]
  have hRf : ∀ f, R = .inl f → f ≤ 400 := by
    intro f hf
    have := (chain_g (T := T) he hop hP q hg).1 f (by rw [← hR]; exact hf)
    omega
  obtain ⟨N, hN, hI⟩ : ∃ N, N < 1000 ∧ ((∃ q1 cs1 m, MP μ1 T e q1 dp ∧ EV E D cs1 x ∧ zbo x = true ∧ fr mpP μ μ1 ∧ gq T e q1 ∧ e < q1 + m ∧ opL T e (nI (1000 + j)) P m q1 cs1 = R ∧ N = e - q1 + 1) ∨ ∃ f, R = .inl f ∧ FA μ1 dp f ∧ zbo x = true ∧ fr mpP μ μ1 ∧ N = 0) := by
    cases hp : P q with
    | inl f =>
      refine ⟨0, by omega, Or.inr ⟨f, ?_, o2 f hp, o4, o1, rfl⟩⟩
      rw [hR]
      unfold chain
      rw [hp]
      rfl
    | inr qc =>
      obtain ⟨q1, c⟩ := qc
      obtain ⟨a, b⟩ := o3 q1 c hp
      obtain ⟨p1, p2, p3⟩ := (hP q hg).2 q1 c hp
      refine ⟨e - q1 + 1, by omega, Or.inl ⟨q1, c, 401, a, EV_mono b (by omega), o4, o1, p1, by omega, ?_, rfl⟩⟩
      rw [hR]
      unfold chain
      rw [hp]
      rfl
  refine ok_b2 (P := fun r => mOut T e E μ dp D R r ∧ zbo r.1 = true) ?_ (fun a b h => by rw [gd_eq h.2]; exact ok_some h)
  refine ok_lp (fun n s => (∃ q1 cs1 m, MP s.2 T e q1 dp ∧ EV E D cs1 s.1 ∧ zbo s.1 = true ∧ fr mpP μ s.2 ∧ gq T e q1 ∧ e < q1 + m ∧ opL T e (nI (1000 + j)) P m q1 cs1 = R ∧ n = e - q1 + 1) ∨ ∃ f, R = .inl f ∧ FA s.2 dp f ∧ zbo s.1 = true ∧ fr mpP μ s.2 ∧ n = 0) ?_ (N := N) hI (FU_lt (by omega))
  rintro n ⟨x1, μ2⟩ (⟨q1, cs1, m, c1, v1, z1, f1, g1, hm, hr, hn⟩ | ⟨f, h1, h2, h5, h3, h4⟩)
  · dsimp only at c1 v1 f1 z1
    have hq1 := g1.1
    rw [un2_s, if_pos (show μ2 (0, 32, 0) 12 = -1 from c1.2.1), bd2_eq (has_go hB c1 hw hj)]
    obtain ⟨m', rfl⟩ : ∃ m', m = m' + 1 := ⟨m - 1, by omega⟩
    rw [opL] at hr
    by_cases hc : cd T e q1 = nI (1000 + j)
    · rw [if_pos hc] at hr
      have hq : q1 < e := cd_lt (by rw [hc]; exact hop)
      have hnx := nx_lt (T := T) he hq
      rw [decide_eq_true hc, if_neg (show ¬ b2i true = 0 by decide), if_pos hc]
      refine ok_b2 (hF _ _ (MP_nx c1 hq) (EF_mp hE (fr_trans f1 at_fr))) ?_
      rintro x2 μ3 ⟨⟨p1, p2, p3⟩, p4⟩
      dsimp only at p1 p2 p3 p4
      have f3 := fr_trans f1 (fr_trans at_fr p1)
      obtain ⟨y1, y2⟩ := hG x1 x2 z1 p4
      rw [y1, bd_s]
      cases hp : P (nx T e q1) with
      | inl f =>
        rw [hp] at hr
        exact ok_some ⟨0, by omega, Or.inr ⟨f, hr.symm, p2 f hp, y2, f3, rfl⟩⟩
      | inr qc =>
        obtain ⟨q2, c⟩ := qc
        rw [hp] at hr
        obtain ⟨a, b⟩ := p3 q2 c hp
        obtain ⟨w1, w2, w3⟩ := (hP _ (gq_nx he hq)).2 q2 c hp
        have hq2 := w1.1
        have ev := EV_op hop1 hop2 v1 b hD
        exact ok_some ⟨e - q2 + 1, by omega, Or.inl ⟨q2, cs1 ++ (c ++ [nI (1000 + j)]), m', a, ev, y2, f3, w1, by omega, hr, rfl⟩⟩
    · rw [if_neg hc] at hr
      rw [decide_eq_false hc, if_pos (show b2i false = 0 by decide), if_neg hc]
      exact ok_some ⟨mOut_r hr.symm (fr_trans f1 at_fr) (MP_rest c1) v1, z1⟩
  · dsimp only at h2 h3 h5
    rw [un2_s, if_neg (fault_ne h2.1 (hRf f h1))]
    exact ok_some ⟨mOut_f h1 h3 h2, h5⟩
theorem zbo_cases {x : Int32} (h : zbo x = true) : x = 0 ∨ x = 1 := by
  unfold zbo at h
  simpa using h
theorem RB_every (hB : HB T e) (he : e ≤ 400) {dp D : Nat} {F : ZMem → Option (Int32 × ZMem)} {P : Nat → PR} (hP : PG T e P) (hF : RB T e E dp D F P) : RB T e E dp (D + 1) (g_X12_every F) (chain T e 1015 P) := by
  refine RB_chain (w := 22) (j := 15) (G := fun x4 x14 => jk (some 0) (fun k18 => if x4 = 0 then k18 else if x14 = 0 then k18 else some 1)) hB he (by omega) (by decide) (by omega) (by omega) (by omega) ?_ hP hF (Nat.le_refl _)
  intro a b ha hb
  rcases zbo_cases ha with rfl | rfl <;> rcases zbo_cases hb with rfl | rfl <;> decide
theorem RB_some (hB : HB T e) (he : e ≤ 400) {dp D : Nat} {F : ZMem → Option (Int32 × ZMem)} {P : Nat → PR} (hP : PG T e P) (hF : RB T e E dp D F P) : RB T e E dp (D + 2) (g_X12_some (g_X12_every F)) (pSome T e P) := by
  refine RB_chain (w := 23) (j := 14) (G := fun x4 x14 => jk (some 1) (fun k18 => if x4 = 0 then if x14 = 0 then some 0 else k18 else k18)) hB he (by omega) (by decide) (by omega) (by omega) (by omega) ?_ (chain_g he (by decide) hP) (RB_every hB he hP hF) (Nat.le_refl _)
  intro a b ha hb
  rcases zbo_cases ha with rfl | rfl <;> rcases zbo_cases hb with rfl | rfl <;> decide
end MD
