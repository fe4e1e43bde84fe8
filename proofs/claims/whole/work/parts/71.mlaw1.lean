/-! the model reads a law's condition -/
def EF (E : Nat → Int32) (μ : ZMem) : Prop := (∀ t, t < 7 → μ (0, 38, 0) t = E t) ∧ b2i (decide (zrem (μ MV0 6) 2 = 0)) = E 7 ∧ μ MO0 15 = E 8 ∧ zbo (E 8) = true ∧ ∃ k : Nat, k < 8 ∧ μ (0, 38, 0) 0 = nI k ∧ b2i (decide (0 < nd (μ MV0) k 8)) = E 9
theorem EF_mp {E : Nat → Int32} {μ μ' : ZMem} (h : EF E μ) (f : fr mpP μ μ') : EF E μ' := by
  obtain ⟨h1, h2, h3, h4, k, h5, h6, h7⟩ := h
  have e38 : μ' (0, 38, 0) = μ (0, 38, 0) := fr_at f (by rintro i ⟨h, -⟩; exact absurd h (by decide))
  have e33 : μ' MV0 = μ MV0 := fr_at f (by rintro i ⟨h, -⟩; exact absurd h (by decide))
  exact ⟨fun t ht => by rw [e38]; exact h1 t ht, by rw [e33]; exact h2, by rw [f.1 _ _ (by rintro ⟨-, h⟩; omega)]; exact h3, h4, k, h5, by rw [e38]; exact h6, by rw [e33]; exact h7⟩
/-- a fault is told, and the place is not far behind the end -/
def FA (μ : ZMem) (dp f : Nat) : Prop := μ MO0 12 = nI f ∧ ∃ p, p + dp ≤ 407 ∧ μ MO0 11 = nI p
def mOut (T : Vec) (e : Nat) (E : Nat → Int32) (μ : ZMem) (dp D : Nat) (R : PR) (r : Int32 × ZMem) : Prop := fr mpP μ r.2 ∧ (∀ f, R = .inl f → FA r.2 dp f) ∧ ∀ q' cs, R = .inr (q', cs) → MP r.2 T e q' dp ∧ EV E D cs r.1
def RM (T : Vec) (e : Nat) (E : Nat → Int32) (dp D : Nat) (F : ZMem → Option (Int32 × ZMem)) (P : Nat → PR) : Prop := ∀ μ q, MP μ T e q dp → EF E μ → ok (F μ) (mOut T e E μ dp D (P q))
/-- and the answer is a boolean -/
def RB (T : Vec) (e : Nat) (E : Nat → Int32) (dp D : Nat) (F : ZMem → Option (Int32 × ZMem)) (P : Nat → PR) : Prop := ∀ μ q, MP μ T e q dp → EF E μ → ok (F μ) (fun r => mOut T e E μ dp D (P q) r ∧ zbo r.1 = true)
section MC
variable {T : Vec} {e : Nat} {E : Nat → Int32}
theorem mOut_mp {μ μ' : ZMem} {dp D : Nat} {R : PR} {r : Int32 × ZMem} (f : fr mpP μ μ') (h : mOut T e E μ' dp D R r) : mOut T e E μ dp D R r := ⟨fr_trans f h.1, h.2.1, h.2.2⟩
theorem mOut_f {μ μ' : ZMem} {dp D f : Nat} {R : PR} {x : Int32} (hr : R = .inl f) (f0 : fr mpP μ μ') (h : FA μ' dp f) : mOut T e E μ dp D R (x, μ') := by
  rw [hr]
  exact ⟨f0, fun f' h' => (by cases h'; exact h), fun q' cs h' => by cases h'⟩
theorem mOut_r {μ μ' : ZMem} {dp D q : Nat} {R : PR} {x : Int32} {cs : List Int32} (hr : R = .inr (q, cs)) (f0 : fr mpP μ μ') (h : MP μ' T e q dp) (h2 : EV E D cs x) : mOut T e E μ dp D R (x, μ') := by
  rw [hr]
  exact ⟨f0, fun f' h' => (by cases h'), fun q' cs' h' => by cases h'; exact ⟨h, h2⟩⟩
theorem wrong_fr {μ : ZMem} {x : Int32} : fr mpP μ (mset μ MO0 12 x) := fr_mset ⟨rfl, Or.inr (Or.inl rfl)⟩
/-- at the beginning of something -/
def MR (μ : ZMem) (T : Vec) (e q dp : Nat) : Prop := MP μ T e q dp ∧ μ MO0 11 = nI q
theorem MR_of {μ : ZMem} {q dp : Nat} (h : MP μ T e q dp) : MR (mset μ MO0 11 (nI q)) T e q dp := ⟨MP_rest h, mset_at⟩
theorem MR_has {μ : ZMem} {q dp w : Nat} (hB : HB T e) (h : MR μ T e q dp) (hw : 1 ≤ w ∧ w < 27) :
    f_X12_has w μ = some (if cd T e q = nI (1000 + jmL.getD w 0) then (1, mset μ MO0 11 (nI (tend T e q))) else (0, μ)) := by
  rw [m_has hB h.1 hw]
  by_cases hc : cd T e q = nI (1000 + jmL.getD w 0)
  · rw [if_pos hc, if_pos hc, decide_eq_true hc]; rfl
  · rw [if_neg hc, if_neg hc, decide_eq_false hc, mset_self h.2]; rfl
theorem has_f {μ : ZMem} {q dp w j : Nat} {α : Type} {f : Int32 → ZMem → Option α} (hB : HB T e) (h : MR μ T e q dp) (hw : 1 ≤ w ∧ w < 27) (hj : jmL.getD w 0 = j) (hc : ¬ cd T e q = nI (1000 + j)) : bd2 (f_X12_has w μ) f = f 0 μ := by
  rw [MR_has hB h hw, hj, if_neg hc]
  rfl
theorem has_t {μ : ZMem} {q dp w j : Nat} {α : Type} {f : Int32 → ZMem → Option α} (hB : HB T e) (h : MR μ T e q dp) (hw : 1 ≤ w ∧ w < 27) (hj : jmL.getD w 0 = j) (hc : cd T e q = nI (1000 + j)) : bd2 (f_X12_has w μ) f = f 1 (mset μ MO0 11 (nI (tend T e q))) := by
  rw [MR_has hB h hw, hj, if_pos hc]
  rfl
theorem ne_code {x : Int32} {a b : Nat} (h : x = nI a) (ha : a < 4000) (hb : b < 4000) (hab : a ≠ b) : ¬ x = nI b := by
  rw [h, nI_eq (by omega) (by omega)]
  exact hab
theorem FA_wrong {μ : ZMem} {q dp : Nat} (hdp : dp ≤ 7) (hq : q ≤ 400) (h : μ MO0 11 = nI q) : FA (mset μ MO0 12 (nI q)) dp q := ⟨mset_at, q, by omega, by rw [mset_k (by decide)]; exact h⟩
theorem RM_part (hB : HB T e) {dp : Nat} (hdp : dp ≤ 7) : RM T e E dp 1 f_X12_part (pPart T e) := by
  intro μ q h hE
  have he := h.1.1
  unfold f_X12_part
  rw [if_pos (show μ (0, 32, 0) 12 = -1 from h.2.1), bd_eq (m_skip h), jk_s]
  have hR := MR_of h
  obtain ⟨μ1, hμ1⟩ : ∃ μ1, μ1 = mset μ MO0 11 (nI q) := ⟨_, rfl⟩
  have f1 : fr mpP μ μ1 := by rw [hμ1]; exact at_fr
  rw [← hμ1] at hR ⊢
  have hE1 := EF_mp hE f1
  have hg := MP_gq hR.1
  have hqe := hg.1
  rw [MP_end hR.1, show μ1 (0, 32, 0) 11 = nI q from hR.2]
  refine ok_mono (Q := mOut T e E μ1 dp 1 (pPart T e q)) ?_ (fun r h => mOut_mp f1 h)
  obtain ⟨n, n1, n2, n3, n4, n5, n6⟩ := cd_nat (q := q) hB
  -- words
  have words : ¬ (q < e ∧ isDg (T q) = true) → ok (bd2 (f_X12_has 11 μ1) (fun (x15 : Int32) (μ16 : ZMem) => bd2 (α := Int32) (β := ZMem) (if x15 = 0 then bd2 (f_X12_has 3 μ16) (fun (x21 : Int32) (μ22 : ZMem) => if x21 = 0 then bd2 (f_X12_has 4 μ22) (fun (x25 : Int32) (μ26 : ZMem) => if x25 = 0 then bd2 (f_X12_has 15 μ26) (fun (x29 : Int32) (μ30 : ZMem) => if x29 = 0 then bd2 (f_X12_has 16 μ30) (fun (x33 : Int32) (μ34 : ZMem) => if x33 = 0 then bd2 (f_X12_has 17 μ34) (fun (x37 : Int32) (μ38 : ZMem) => if x37 = 0 then bd2 (f_X12_has 18 μ38) (fun (x41 : Int32) (μ42 : ZMem) => if x41 = 0 then some ((-1), μ42) else some (6, μ42)) else some (5, μ38)) else some (4, μ34)) else some (3, μ30)) else some (2, μ26)) else some (1, μ22)) else some (0, μ16)) (fun (x18 : Int32) (μ19 : ZMem) => if x18 = (-1) then bd (f_X12_wrong (μ19 (0, 32, 0) 11) μ19) (fun (μ47 : ZMem) => some (0, μ47)) else gd (zin x18 7) (some ((μ19 (0, 38, 0) x18.toNatClampNeg), μ19))))) (mOut T e E μ1 dp 1 (pPart T e q)) := by
    intro hnd
    have good : ∀ j : Nat, j < 7 → cd T e q = nI (1000 + j) → ok (bd2 (α := Int32) (β := ZMem) (some (nI j, mset μ1 MO0 11 (nI (tend T e q)))) (fun (x18 : Int32) (μ19 : ZMem) => if x18 = (-1) then bd (f_X12_wrong (μ19 (0, 32, 0) 11) μ19) (fun (μ47 : ZMem) => some (0, μ47)) else gd (zin x18 7) (some ((μ19 (0, 38, 0) x18.toNatClampNeg), μ19)))) (mOut T e E μ1 dp 1 (pPart T e q)) := by
      intro j hj hc
      have hq : q < e := cd_lt (ne_code hc (by omega) (b := 3001) (by omega) (by omega))
      rw [bd2_s, if_neg (neg1 (by omega)), gd_eq (zin_nI hj (by omega)), nI_cl (by omega), mset_ne (show ((0, 38, 0) : ZId) ≠ MO0 by decide), hE1.1 j hj]
      have hp : 0 ≤ cd T e q ∧ cd T e q ≤ 1006 := by
        rw [hc]
        exact ⟨nI_le (a := 0) (by omega) (by omega), nI_le (b := 1006) (by omega) (by omega)⟩
      refine ok_some (mOut_r (by unfold pPart; rw [if_pos hp]) at_fr (MP_nx hR.1 hq) ?_)
      have ep := EV_push (E := E) (c := cd T e q) (by rw [hc]; exact nI_le (b := 1009) (by omega) (by omega))
      rw [if_neg (by rw [hc]; exact nI_nlt (a := 1000 + j) (b := 1000) (by omega) (by omega))] at ep
      have ej : (cd T e q - 1000).toNatClampNeg = j := by
        rw [hc, show (1000 : Int32) = nI 1000 from rfl, nI_sub (by omega), nI_cl (by omega)]
        omega
      rw [ej] at ep
      exact ep
    by_cases c0 : cd T e q = nI (1000 + 0)
    · rw [has_t hB hR (by omega) (show jmL.getD 11 0 = 0 by decide) c0, if_neg (by decide)]
      exact good 0 (by omega) c0
    rw [has_f hB hR (by omega) (show jmL.getD 11 0 = 0 by decide) c0, if_pos rfl]
    by_cases c1 : cd T e q = nI (1000 + 1)
    · rw [has_t hB hR (by omega) (show jmL.getD 3 0 = 1 by decide) c1, if_neg (by decide)]
      exact good 1 (by omega) c1
    rw [has_f hB hR (by omega) (show jmL.getD 3 0 = 1 by decide) c1, if_pos rfl]
    by_cases c2 : cd T e q = nI (1000 + 2)
    · rw [has_t hB hR (by omega) (show jmL.getD 4 0 = 2 by decide) c2, if_neg (by decide)]
      exact good 2 (by omega) c2
    rw [has_f hB hR (by omega) (show jmL.getD 4 0 = 2 by decide) c2, if_pos rfl]
    by_cases c3 : cd T e q = nI (1000 + 3)
    · rw [has_t hB hR (by omega) (show jmL.getD 15 0 = 3 by decide) c3, if_neg (by decide)]
      exact good 3 (by omega) c3
    rw [has_f hB hR (by omega) (show jmL.getD 15 0 = 3 by decide) c3, if_pos rfl]
    by_cases c4 : cd T e q = nI (1000 + 4)
    · rw [has_t hB hR (by omega) (show jmL.getD 16 0 = 4 by decide) c4, if_neg (by decide)]
      exact good 4 (by omega) c4
    rw [has_f hB hR (by omega) (show jmL.getD 16 0 = 4 by decide) c4, if_pos rfl]
    by_cases c5 : cd T e q = nI (1000 + 5)
    · rw [has_t hB hR (by omega) (show jmL.getD 17 0 = 5 by decide) c5, if_neg (by decide)]
      exact good 5 (by omega) c5
    rw [has_f hB hR (by omega) (show jmL.getD 17 0 = 5 by decide) c5, if_pos rfl]
    by_cases c6 : cd T e q = nI (1000 + 6)
    · rw [has_t hB hR (by omega) (show jmL.getD 18 0 = 6 by decide) c6, if_neg (by decide)]
      exact good 6 (by omega) c6
    rw [has_f hB hR (by omega) (show jmL.getD 18 0 = 6 by decide) c6, if_pos rfl, bd2_s, if_pos rfl, show μ1 (0, 32, 0) 11 = nI q from hR.2, bd_eq (m_wrong hR.1.2.1)]
    refine ok_some (mOut_f ?_ wrong_fr (FA_wrong hdp (by omega) hR.2))
    unfold pPart
    rw [if_neg]
    rintro ⟨-, h2⟩
    rw [n2] at h2
    have hn : n ≤ 1006 := by
      rw [Int32.le_iff_toInt_le, nI_toInt (by omega)] at h2
      have e1 : (1006 : Int32).toInt = 1006 := by decide
      omega
    by_cases hn1 : n < 1000
    · exact hnd (n3 hn1)
    · have hh : n = 1000 + 0 ∨ n = 1000 + 1 ∨ n = 1000 + 2 ∨ n = 1000 + 3 ∨ n = 1000 + 4 ∨ n = 1000 + 5 ∨ n = 1000 + 6 := by omega
      rcases hh with rfl | rfl | rfl | rfl | rfl | rfl | rfl
      · exact c0 n2
      · exact c1 n2
      · exact c2 n2
      · exact c3 n2
      · exact c4 n2
      · exact c5 n2
      · exact c6 n2
  by_cases hq : q < e
  · rw [if_neg (nI_ge hq (by omega)), bd_eq (m_letter hR.1.1 hq), bd_eq m_isIn]
    cases hd : isDg (T q)
    · rw [show decide (48 ≤ T q ∧ T q ≤ 57) = false from hd, if_pos (by decide)]
      exact words (by rw [hd]; simp)
    · rw [show decide (48 ≤ T q ∧ T q ≤ 57) = true from hd, if_neg (by decide)]
      refine ok_b2 (m_figures hB hR.1 (by decide) (by decide)) ?_
      rintro x μ2 ⟨w1, w2, w3⟩
      dsimp only at w1 w2 w3
      by_cases hp : 0 ≤ cd T e q ∧ cd T e q ≤ 999
      · obtain ⟨w4, w5⟩ := w2 hp
        have hp2 : 0 ≤ cd T e q ∧ cd T e q ≤ 1006 := ⟨hp.1, Int32.le_trans hp.2 (by decide)⟩
        refine ok_some (mOut_r (by unfold pPart; rw [if_pos hp2]) w1 w5 ?_)
        have ep := EV_push (E := E) (c := cd T e q) (Int32.le_trans hp.2 (by decide))
        have hlt : cd T e q < 1000 := by
          have := hp.2
          rw [Int32.le_iff_toInt_le] at this
          rw [Int32.lt_iff_toInt_lt]
          have e1 : (999 : Int32).toInt = 999 := by decide
          have e2 : (1000 : Int32).toInt = 1000 := by decide
          omega
        rw [if_pos hlt] at ep
        rw [w4]
        exact ep
      · obtain ⟨w6, p, w7, w8⟩ := w3 hp
        refine ok_some (mOut_f ?_ w1 ⟨w6, p, by omega, w8⟩)
        unfold pPart
        rw [if_neg]
        rintro ⟨h1, h2⟩
        apply hp
        refine ⟨h1, ?_⟩
        have ecd := cd_n hq hd
        rcases ncode_rng (e := e) hd with hr | ⟨m, hm, hr⟩
        · rw [ecd, hr] at h2
          exact absurd h2 (by decide)
        · rw [ecd, hr]
          exact nI_le (b := 999) (by omega) (by omega)
  · rw [if_pos (nI_le (by omega) (by omega))]
    exact words (fun q => hq q.1)
theorem joined_plus {a b : Int32} : f_X3_joined 2043 a b = a + b := by
  unfold f_X3_joined
  rw [if_neg (by decide), if_pos rfl]
theorem sign_go {μ : ZMem} {q dp c : Nat} (hB : HB T e) (h : MP μ T e q dp) (hc : c < 256) (c1 : isLt (nI c) = false) (c2 : isDg (nI c) = false) (hcd : cd T e q = nI (2000 + c)) : q < e ∧ MP (mset (mset μ MO0 11 (nI q)) MO0 11 ((mset μ MO0 11 (nI q)) (0, 32, 0) 11 + 1)) T e (nx T e q) dp := by
  obtain ⟨hq, ht⟩ := (cd_sign hB hc c1 c2).mp hcd
  refine ⟨hq, ?_⟩
  have := MP_nx (MP_rest h) hq
  rw [tend_sign ht c1 c2] at this
  rw [MP_at (dp := dp), nI_1]
  exact this
theorem RM_sum (hB : HB T e) (he : e ≤ 400) {dp : Nat} (hdp : dp ≤ 7) : RM T e E dp 2 f_X12_sum (pSum T e) := by
  intro μ q h hE
  have hg := MP_gq h
  unfold f_X12_sum
  refine ok_b2 (RM_part hB hdp μ q h hE) ?_
  rintro x μ1 ⟨o1, o2, o3⟩
  dsimp only at o1 o2 o3
  obtain ⟨R, hR⟩ : ∃ R, R = pSum T e q := ⟨_, rfl⟩
  rw [← hR]
  refine ok_b2 (P := mOut T e E μ dp 2 R) ?_ (fun a b h => ok_some h)
  have start : (∃ q1 cs1 m, MP μ1 T e q1 dp ∧ EV E 2 cs1 x ∧ fr mpP μ μ1 ∧ gq T e q1 ∧ e < q1 + m ∧ opL T e 2043 (pPart T e) m q1 cs1 = R ∧ ∃ j, j = e - q1 + 1 ∧ j < 1000) ∨ ∃ f, R = .inl f ∧ FA μ1 dp f ∧ fr mpP μ μ1 := by
    cases hp : pPart T e q with
    | inl f =>
      refine Or.inr ⟨f, ?_, o2 f hp, o1⟩
      rw [hR]
      unfold pSum chain
      rw [hp]
      rfl
    | inr qc =>
      obtain ⟨q1, c⟩ := qc
      obtain ⟨a, b⟩ := o3 q1 c hp
      obtain ⟨p1, p2, p3⟩ := (part_g (T := T) he q hg).2 q1 c hp
      refine Or.inl ⟨q1, c, 401, a, EV_mono b (by omega), o1, p1, by omega, ?_, _, rfl, by omega⟩
      rw [hR]
      unfold pSum chain
      rw [hp]
      rfl
  obtain ⟨N, hN, hI⟩ : ∃ N, N < 1000 ∧ ((∃ q1 cs1 m, MP μ1 T e q1 dp ∧ EV E 2 cs1 x ∧ fr mpP μ μ1 ∧ gq T e q1 ∧ e < q1 + m ∧ opL T e 2043 (pPart T e) m q1 cs1 = R ∧ N = e - q1 + 1) ∨ ∃ f, R = .inl f ∧ FA μ1 dp f ∧ fr mpP μ μ1 ∧ N = 0) := by
    rcases start with ⟨q1, cs1, m, a, b, c, d, f, g, j, hj, hj2⟩ | ⟨f, a, b, c⟩
    · exact ⟨j, hj2, Or.inl ⟨q1, cs1, m, a, b, c, d, f, g, hj⟩⟩
    · exact ⟨0, by omega, Or.inr ⟨f, a, b, c, rfl⟩⟩
  refine ok_lp (fun j s => (∃ q1 cs1 m, MP s.2 T e q1 dp ∧ EV E 2 cs1 s.1 ∧ fr mpP μ s.2 ∧ gq T e q1 ∧ e < q1 + m ∧ opL T e 2043 (pPart T e) m q1 cs1 = R ∧ j = e - q1 + 1) ∨ ∃ f, R = .inl f ∧ FA s.2 dp f ∧ fr mpP μ s.2 ∧ j = 0) ?_ (N := N) hI (FU_lt (by omega))
  rintro j ⟨x1, μ2⟩ (⟨q1, cs1, m, c1, v1, f1, g1, hm, hr, hj⟩ | ⟨f, h1, h2, h3, h4⟩)
  · dsimp only at c1 v1 f1
    have hq1 := g1.1
    rw [un2_s, if_pos (show μ2 (0, 32, 0) 12 = -1 from c1.2.1), bd2_eq (show f_X12_isSign 43 μ2 = _ from m_isSign hB c1 (c := 43) (by omega) (by decide) (by decide))]
    obtain ⟨m', rfl⟩ : ∃ m', m = m' + 1 := ⟨m - 1, by omega⟩
    rw [opL] at hr
    by_cases hc : cd T e q1 = nI (2000 + 43)
    · rw [if_pos (show cd T e q1 = 2043 from hc)] at hr
      obtain ⟨hq, hmp⟩ := sign_go hB c1 (c := 43) (by omega) (by decide) (by decide) hc
      have hn := nx_lt (T := T) he hq
      rw [decide_eq_true hc, if_neg (show ¬ b2i true = 0 by decide), zlt_s]
      have f2 : fr mpP μ2 (mset (mset μ2 MO0 11 (nI q1)) MO0 11 ((mset μ2 MO0 11 (nI q1)) (0, 32, 0) 11 + 1)) := fr_trans at_fr at_fr
      refine ok_b2 (RM_part hB hdp _ _ hmp (EF_mp hE (fr_trans f1 f2))) ?_
      rintro x2 μ3 ⟨p1, p2, p3⟩
      dsimp only at p1 p2 p3
      have f3 := fr_trans f1 (fr_trans f2 p1)
      rw [zlt_s]
      cases hp : pPart T e (nx T e q1) with
      | inl f =>
        rw [hp] at hr
        exact ok_some ⟨0, by omega, Or.inr ⟨f, hr.symm, p2 f hp, f3, rfl⟩⟩
      | inr qc =>
        obtain ⟨q2, c⟩ := qc
        rw [hp] at hr
        obtain ⟨a, b⟩ := p3 q2 c hp
        obtain ⟨w1, w2, w3⟩ := (part_g (T := T) he _ (gq_nx he hq)).2 q2 c hp
        have hq2 := w1.1
        have ev := EV_op (op := 2043) (D := 2) (by decide) (by decide) v1 b (by omega)
        rw [joined_plus] at ev
        exact ok_some ⟨e - q2 + 1, by omega, Or.inl ⟨q2, cs1 ++ (c ++ [2043]), m', a, ev, f3, w1, by omega, hr, rfl⟩⟩
    · rw [if_neg (show ¬ cd T e q1 = 2043 from hc)] at hr
      rw [decide_eq_false hc, if_pos (show b2i false = 0 by decide)]
      exact ok_some (mOut_r hr.symm (fr_trans f1 at_fr) (MP_rest c1) v1)
  · dsimp only at h2 h3
    have hf : f < 2 ^ 31 := by
      have hle := (chain_g (T := T) he (show ¬ (2043 : Int32) = 3001 by decide) (part_g he) q hg).1 f (by rw [← h1, hR]; rfl)
      omega
    rw [un2_s, if_neg (show ¬ μ2 (0, 32, 0) 12 = -1 by rw [show μ2 (0, 32, 0) 12 = nI f from h2.1]; exact neg1 hf)]
    exact ok_some (mOut_f h1 h3 h2)
end MC
