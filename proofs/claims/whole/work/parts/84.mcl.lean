/-! the model reads a cluster -/
def mcP (o : ZId) (i : Nat) : Prop := mpP o i ∨ (o = MV0 ∧ i < 337)
theorem fr_mv {μ : ZMem} {f : Vec} {P : ZId → Nat → Prop} (hP : ∀ i, i < 337 → P MV0 i) (h : ∀ i, 337 ≤ i → f i = μ MV0 i) : fr P μ (mput μ MV0 f) := by
  refine ⟨fun o k hn => ?_, Or.inl (by rw [mput_ne (by decide)]), Or.inl (by rw [mput_ne (by decide)])⟩
  by_cases ho : o = MV0
  · subst ho
    rw [mput_at]
    exact h k (by
      rcases Nat.lt_or_ge k 337 with h1 | h1
      · exact absurd (hP k h1) hn
      · exact h1)
  · rw [mput_ne ho]
theorem mp_mc {o : ZId} {i : Nat} (h : mpP o i) : mcP o i := Or.inl h
section MJ
variable {T : Vec} {e : Nat}
theorem MP_mv {μ : ZMem} {q dp : Nat} {f : Vec} (h : MP μ T e q dp) (h9 : μ MO0 9 = -1) : MP (mput μ MV0 f) T e q dp := by
  obtain ⟨⟨a0, a1, a2⟩, h2, h3, p, h4, h5⟩ := h
  have em : (mput μ MV0 f) MO0 = μ MO0 := mput_ne (by decide)
  refine ⟨⟨a0, by rw [em]; exact a1, Or.inl ?_⟩, by rw [em]; exact h2, by rw [em]; exact h3, p, by rw [em]; exact h4, h5⟩
  rcases a2 with ⟨b1, b2⟩ | ⟨b1, b2⟩
  · exact ⟨by rw [em]; exact b1, fun k hk => by rw [mput_ne (by decide)]; exact b2 k hk⟩
  · rw [h9] at b1
    exact absurd b1 (by decide)
/-- a value is read -/
def vOut (T : Vec) (e : Nat) (μ : ZMem) (R : Nat ⊕ (Nat × Int32)) (r : Int32 × ZMem) : Prop := fr mpP μ r.2 ∧ (∀ f, R = .inl f → FA r.2 0 f) ∧ ∀ q' x, R = .inr (q', x) → r.1 = x ∧ MP r.2 T e q' 0
theorem vOut_mp {μ μ1 : ZMem} {R : Nat ⊕ (Nat × Int32)} {r : Int32 × ZMem} (f : fr mpP μ μ1) (h : vOut T e μ1 R r) : vOut T e μ R r := ⟨fr_trans f h.1, h.2⟩
theorem m_nV {μ : ZMem} {q : Nat} {lo hi : Int32} (hB : HB T e) (h : MP μ T e q 0) (hlo : 0 ≤ lo) (hhi : hi ≤ 999) : ok (f_X12_figures lo hi μ) (vOut T e μ (nV T e lo hi q)) := by
  refine ok_mono (m_figures hB h hlo hhi) ?_
  rintro r ⟨w1, w2, w3⟩
  unfold nV
  by_cases hp : lo ≤ cd T e q ∧ cd T e q ≤ hi
  · rw [if_pos hp]
    obtain ⟨a, b⟩ := w2 hp
    exact ⟨w1, fun f hf => (by cases hf), fun q' x hx => by cases hx; exact ⟨a, b⟩⟩
  · rw [if_neg hp]
    obtain ⟨a, p, b, c⟩ := w3 hp
    exact ⟨w1, fun f hf => (by cases hf; exact ⟨a, p, by omega, c⟩), fun q' x hx => by cases hx⟩
theorem m_signed {μ : ZMem} {q w1 w2 a b : Nat} {hi : Int32} (hB : HB T e) (h : MP μ T e q 0) (hw1 : 1 ≤ w1 ∧ w1 < 27) (hw2 : 1 ≤ w2 ∧ w2 < 27) (ha : jmL.getD w1 0 = a) (hb : jmL.getD w2 0 = b) (ha6 : a < 26) (hb6 : b < 26) (hhi : hi ≤ 999) : ok (f_X12_signed w1 w2 hi μ) (vOut T e μ (oV T e a b hi q)) := by
  unfold f_X12_signed
  rw [if_pos (show μ (0, 32, 0) 12 = -1 from h.2.1), bd2_eq (has_go hB h hw1 ha)]
  have m1 := MR_of h
  unfold oV
  by_cases h1 : cd T e q = nI (1000 + a)
  · have hq := code_lt h1 ha6
    rw [decide_eq_true h1, if_neg (show ¬ b2i true = 0 by decide), if_pos h1, if_pos h1]
    refine ok_b2 (m_nV hB (MP_nx h hq) (by decide) hhi) ?_
    intro x μ2 hv
    exact ok_some (vOut_mp at_fr hv)
  · rw [decide_eq_false h1, if_pos (show b2i false = 0 by decide), if_neg h1, if_neg h1]
    have f1 : fr mpP μ (mset μ MO0 11 (nI q)) := at_fr
    generalize mset μ MO0 11 (nI q) = μ1 at m1 f1 ⊢
    rw [bd2_eq (has_go hB m1.1 hw2 hb)]
    by_cases h2 : cd T e q = nI (1000 + b)
    · have hq := code_lt h2 hb6
      rw [decide_eq_true h2, if_neg (show ¬ b2i true = 0 by decide), if_pos h2, if_pos h2]
      refine ok_b2 (P := vOut T e μ (negV (nV T e 0 hi (nx T e q)))) ?_ (fun x μ2 hv => ok_some hv)
      refine ok_b2 (m_nV (lo := 0) hB (MP_nx m1.1 hq) (by decide) hhi) ?_
      rintro x μ2 ⟨v1, v2, v3⟩
      refine ok_some ⟨fr_trans f1 (fr_trans at_fr v1), fun f hf => ?_, fun q' x' hx => ?_⟩
      · cases hv : nV T e 0 hi (nx T e q) with
        | inl f' => rw [hv] at hf; cases hf; exact v2 f hv
        | inr r => rw [hv] at hf; cases hf
      · cases hv : nV T e 0 hi (nx T e q) with
        | inl f' => rw [hv] at hx; cases hx
        | inr r =>
          rw [hv] at hx
          cases hx
          obtain ⟨y1, y2⟩ := v3 r.1 r.2 hv
          exact ⟨by dsimp only at y1 ⊢; rw [y1], y2⟩
    · rw [decide_eq_false h2, if_pos (show b2i false = 0 by decide), if_neg h2, if_neg h2, bd2_s]
      exact ok_some ⟨fr_trans f1 at_fr, fun f hf => (by cases hf), fun q' x hx => by cases hx; exact ⟨rfl, MP_rest m1.1⟩⟩
theorem m_joins {μ : ZMem} {v : Vec} {c : Nat} {d : Int32} (hv : μ MV0 = v) (h3 : v 3 = nI c) (hc : c < 8) : f_X12_joins d μ = some (mput μ MV0 (nodeV v c (ndF c 0 d 0 0 0 1))) := by
  unfold f_X12_joins
  rw [zlt_s, show μ (0, 33, 0) 3 = nI c by rw [show μ (0, 33, 0) = v from hv]; exact h3]
  rw [bd_eq (lp_seq (r := mput μ MV0 (fun i => if 9 + 11 * c ≤ i ∧ i < 9 + 11 * c + 11 then 0 else v i)) 11 (fun k => (nI k, mput μ MV0 (fun i => if 9 + 11 * c ≤ i ∧ i < 9 + 11 * c + k then 0 else v i))) ?_ ?_ (FU_lt (by omega)) ?_)]
  · rw [bd_eq (lays1 hc), mput_at, mput_mput, bd_eq (lays3 hc), mput_at, mput_mput, bd_eq (lays4 hc), mput_at, mput_mput, zlt_s, mset_eq, mput_at, mput_mput]
    congr 2
    funext i
    unfold vset ns nodeV vset
    dsimp only
    by_cases e3 : i = 3
    · subst e3
      rw [if_pos rfl, if_pos rfl, if_neg (show ¬ 3 = 9 + 11 * c + 4 by omega), if_neg (show ¬ 3 = 9 + 11 * c + 3 by omega), if_neg (show ¬ 3 = 9 + 11 * c + 1 by omega), if_neg (by omega), h3, nI_1]
    · rw [if_neg e3, if_neg e3]
      by_cases hr : 9 + 11 * c ≤ i ∧ i < 9 + 11 * c + 11
      · rw [if_pos hr, if_pos hr]
        obtain ⟨w, rfl⟩ : ∃ w, i = 9 + 11 * c + w := ⟨i - (9 + 11 * c), by omega⟩
        rw [Nat.add_sub_cancel_left]
        unfold ndF
        have h : w = 0 ∨ w = 1 ∨ w = 2 ∨ w = 3 ∨ w = 4 ∨ w = 5 ∨ w = 6 ∨ w = 7 ∨ w = 8 ∨ w = 9 ∨ w = 10 := by omega
        rcases h with rfl | rfl | rfl | rfl | rfl | rfl | rfl | rfl | rfl | rfl | rfl <;> simp
      · rw [if_neg hr, if_neg hr, if_neg (show ¬ i = 9 + 11 * c + 4 by omega), if_neg (show ¬ i = 9 + 11 * c + 3 by omega), if_neg (show ¬ i = 9 + 11 * c + 1 by omega)]
  · intro k hk
    rw [un2_s, if_neg (show ¬ (11 : Int32) ≤ nI k from nI_ge (b := 11) hk (by omega)), bd_eq (lays_gen (w := k) rfl hc hk), mput_at, mput_mput, nI_1]
    congr 4
    funext i
    unfold ns vset
    dsimp only
    by_cases e1 : i = 9 + 11 * c + k
    · rw [if_pos e1, if_pos (by omega)]
    · rw [if_neg e1]
      by_cases hr : 9 + 11 * c ≤ i ∧ i < 9 + 11 * c + k
      · rw [if_pos hr, if_pos (by omega)]
      · rw [if_neg hr, if_neg (by omega)]
  · rw [un2_s, if_pos (by decide)]
  · rw [show (fun i => if 9 + 11 * c ≤ i ∧ i < 9 + 11 * c + 0 then (0 : Int32) else v i) = v from by funext i; rw [if_neg (by omega)], ← hv, mput_self]
    rfl
theorem FA_keep {μ : ZMem} {f : Nat} (hf : f ≤ 400) (h : FA μ 0 f) : ¬ μ (0, 32, 0) 12 = -1 := fault_ne h.1 hf
/-- between two stages -/
def mmid (T : Vec) (e : Nat) (μ : ZMem) (R : Nat ⊕ (Nat × Vec)) (S : Nat → Int32 → Prop) (r : Int32 × ZMem) : Prop := fr mpP μ r.2 ∧ ((∃ f, R = .inl f ∧ FA r.2 0 f) ∨ ∃ q, gq T e q ∧ MP r.2 T e q 0 ∧ S q r.1)
theorem mmid_n {μ μ1 : ZMem} {R : Nat ⊕ (Nat × Vec)} {S : Nat → Int32 → Prop} {V : Nat ⊕ (Nat × Int32)} {rest : Nat → Int32 → Nat ⊕ (Nat × Vec)} {r : Int32 × ZMem} (f1 : fr mpP μ μ1) (h : vOut T e μ1 V r) (hR : vB V rest = R) (hg : ∀ q' x, V = .inr (q', x) → gq T e q') (hS : ∀ q' x, V = .inr (q', x) → rest q' x = R → S q' x) : mmid T e μ R S r := by
  obtain ⟨h1, h2, h3⟩ := h
  refine ⟨fr_trans f1 h1, ?_⟩
  cases hV : V with
  | inl f =>
    rw [hV] at hR
    exact Or.inl ⟨f, hR.symm, h2 f hV⟩
  | inr q =>
    obtain ⟨q', x⟩ := q
    rw [hV] at hR
    obtain ⟨a, b⟩ := h3 q' x hV
    exact Or.inr ⟨q', hg q' x hV, b, by rw [a]; exact hS q' x hV hR⟩
theorem rN_le {c q : Nat} {f : Nat} (he : e ≤ 400) (hc : c < 8) (hg : gq T e q) (h : sNode T e c q = .inl f) : f ≤ 400 := by
  have := (node_g (T := T) he hc hg).1 f h
  omega
theorem m_nodeLine {μ : ZMem} {q b c : Nat} {v : Vec} (hB : HB T e) (he : e ≤ 400) (hm : MP μ T e q 0) (h9 : μ MO0 9 = -1) (hv : μ MV0 = v) (h3 : v 3 = nI c) (h8 : c ≤ 8) (hb : b ≤ 400) :
    ok (f_X12_nodeLine (nI b) μ) (fun μ' => (c = 8 → μ' = mset μ MO0 12 (nI b)) ∧ (c < 8 → (∀ f, sNode T e c q = .inl f → fr mpP μ μ' ∧ FA μ' 0 f) ∧ ∀ q' g, sNode T e c q = .inr (q', g) → fr mcP μ μ' ∧ MP μ' T e q' 0 ∧ μ' MV0 = nodeV v c g)) := by
  have hg := MP_gq hm
  unfold f_X12_nodeLine
  rw [show μ (0, 33, 0) 3 = nI c by rw [show μ (0, 33, 0) = v from hv]; exact h3]
  by_cases hc8 : c = 8
  · rw [if_pos (show nI c = 8 by rw [hc8]; rfl), bd_eq (m_wrong hm.2.1), bd_s, if_neg (by
      rw [show (mset μ MO0 12 (nI b)) (0, 32, 0) 12 = nI b from mset_at]
      exact neg1 (by omega))]
    exact ok_some ⟨fun _ => rfl, fun q => absurd q (by omega)⟩
  · rw [if_neg (show ¬ nI c = 8 from ne_code (a := c) (b := 8) rfl (by omega) (by omega) (by omega)), bd_s, if_pos (show μ (0, 32, 0) 12 = -1 from hm.2.1)]
    obtain ⟨R, hR⟩ : ∃ R, R = sNode T e c q := ⟨_, rfl⟩
    have hRf : ∀ f, R = .inl f → f ≤ 400 := fun f hf => rN_le (T := T) (c := c) he (by omega) hg (by rw [← hR]; exact hf)
    rw [← hR]
    rw [sNode_rs] at hR
    refine ok_mono (Q := fun μ' => (∀ f, R = .inl f → fr mpP μ μ' ∧ FA μ' 0 f) ∧ ∀ q' g, R = .inr (q', g) → fr mcP μ μ' ∧ MP μ' T e q' 0 ∧ μ' MV0 = nodeV v c g) ?_ (fun μ' h => ⟨fun q => absurd q hc8, fun _ => h⟩)
    refine ok_b2 (P := mmid T e μ R (fun q1 a => rs1 T e c a q1 = R)) ?_ ?_
    · refine ok_mono (m_signed (w1 := 1) (w2 := 2) (a := 17) (b := 18) hB hm (by omega) (by omega) (by decide) (by decide) (by omega) (by omega) (by decide)) (fun r h => mmid_n fr_refl h hR.symm ?_ ?_)
      · intro q' x hx
        exact ((oV_g (B := 999) he hg (by omega) (by omega) (by decide) (by decide) (by omega)).2 q' x hx).1
      · intro q' x _ hx
        exact hx
    rintro x7 μ1 ⟨f1, hm1⟩
    dsimp only at f1 hm1
    refine ok_b2 (P := mmid T e μ R (fun q1 b => rs2 T e c x7 b q1 = R)) ?_ ?_
    · rcases hm1 with ⟨f, h1, h2⟩ | ⟨q1, g1, m1, hr⟩
      · unfold f_X12_signed
        rw [if_neg (FA_keep (hRf f h1) h2)]
        exact ok_some ⟨f1, Or.inl ⟨f, h1, h2⟩⟩
      · refine ok_mono (m_signed (w1 := 3) (w2 := 4) (a := 1) (b := 2) hB m1 (by omega) (by omega) (by decide) (by decide) (by omega) (by omega) (by decide)) (fun r h => mmid_n f1 h hr ?_ ?_)
        · intro q' x hx
          exact ((oV_g (B := 9) he g1 (by omega) (by omega) (by decide) (by decide) (by omega)).2 q' x hx).1
        · intro q' x _ hx
          exact hx
    clear hm1 f1
    rintro x10 μ2 ⟨f1, hm1⟩
    dsimp only at f1 hm1
    refine ok_b2 (P := mmid T e μ R (fun q1 d => rs3 T e c x7 x10 d q1 = R)) ?_ ?_
    · rw [jk_s]
      rcases hm1 with ⟨f, h1, h2⟩ | ⟨q1, g1, m1, hr⟩
      · rw [if_neg (FA_keep (hRf f h1) h2)]
        exact ok_some ⟨f1, Or.inl ⟨f, h1, h2⟩⟩
      · rw [if_pos (show μ2 (0, 32, 0) 12 = -1 from m1.2.1), bd2_eq (has_go hB m1 (w := 5) (by omega) (show jmL.getD 5 0 = 9 by decide))]
        refine ok_mono (Q := vOut T e μ2 (fV T e q1)) ?_ (fun r h => mmid_n f1 h hr ?_ ?_)
        · unfold fV
          by_cases h1 : cd T e q1 = nI (1000 + 9)
          · rw [decide_eq_true h1, if_neg (show ¬ b2i true = 0 by decide), if_pos h1, if_pos h1]
            refine ok_b2 (m_nV hB (MP_nx m1 (code_lt h1 (by omega))) (by decide) (by decide)) ?_
            intro x μ3 hv
            exact ok_some (vOut_mp at_fr hv)
          · rw [decide_eq_false h1, if_pos (show b2i false = 0 by decide), if_neg h1, if_neg h1]
            exact ok_some ⟨at_fr, fun f hf => (by cases hf), fun q' x hx => by cases hx; exact ⟨rfl, MP_rest m1⟩⟩
        · intro q' x hx
          exact ((fV_g he g1).2 q' x hx).1
        · intro q' x _ hx
          exact hx
    clear hm1 f1
    rintro x13 μ3 ⟨f1, hm1⟩
    dsimp only at f1 hm1
    -- the kind of the fault
    refine ok_b2 (P := fun r : Int32 × ZMem => fr mpP μ r.2 ∧ ((∃ f, R = .inl f ∧ FA r.2 0 f ∧ r.1 = 0) ∨ ∃ q, gq T e q ∧ MP r.2 T e q 0 ∧ vB (hV T e r.1 q) (fun q4 how => rs4 T e c x7 x10 x13 r.1 how q4) = R)) ?_ ?_
    · rcases hm1 with ⟨f, h1, h2⟩ | ⟨q1, g1, m1, hr⟩
      · rw [if_neg (FA_keep (hRf f h1) h2)]
        exact ok_some ⟨f1, Or.inl ⟨f, h1, h2, rfl⟩⟩
      · have hk1 := (kV_g he g1).1
        rw [if_pos (show μ3 (0, 32, 0) 12 = -1 from m1.2.1), bd2_eq (has_go hB m1 (w := 6) (by omega) (show jmL.getD 6 0 = 10 by decide))]
        unfold rs3 at hr
        have fin : ∀ (q' : Nat) (kd : Int32) (μ4 : ZMem), kV T e q1 = (q', kd) → fr mpP μ3 μ4 → MP μ4 T e q' 0 → ok (bd2 (α := Int32) (β := ZMem) (some (kd, μ4)) (fun (x31 : Int32) (μ32 : ZMem) => some (x31, μ32))) (fun r : Int32 × ZMem => fr mpP μ r.2 ∧ ((∃ f, R = .inl f ∧ FA r.2 0 f ∧ r.1 = 0) ∨ ∃ q, gq T e q ∧ MP r.2 T e q 0 ∧ vB (hV T e r.1 q) (fun q4 how => rs4 T e c x7 x10 x13 r.1 how q4) = R)) := by
          intro q' kd μ4 hk f4 m4
          rw [hk] at hr hk1
          exact ok_some ⟨fr_trans f1 f4, Or.inr ⟨q', hk1, m4, hr⟩⟩
        by_cases h1 : cd T e q1 = nI (1000 + 10)
        · rw [decide_eq_true h1, if_neg (show ¬ b2i true = 0 by decide), if_pos h1]
          exact fin _ 1 _ (by unfold kV; rw [if_pos h1]) at_fr (MP_nx m1 (code_lt h1 (by omega)))
        · rw [decide_eq_false h1, if_pos (show b2i false = 0 by decide), if_neg h1]
          have r1 := MR_of m1
          have fa : fr mpP μ3 (mset μ3 MO0 11 (nI q1)) := at_fr
          generalize mset μ3 MO0 11 (nI q1) = μ4 at r1 fa ⊢
          by_cases h2 : cd T e q1 = nI (1000 + 19)
          · rw [has_t hB r1 (by omega) (show jmL.getD 7 0 = 19 by decide) h2, if_neg (by decide)]
            exact fin _ 2 _ (by unfold kV; rw [if_neg h1, if_pos h2]) (fr_trans fa at_fr) (MP_nx r1.1 (code_lt h2 (by omega)))
          · rw [has_f hB r1 (by omega) (show jmL.getD 7 0 = 19 by decide) h2, if_pos rfl]
            by_cases h3 : cd T e q1 = nI (1000 + 20)
            · rw [has_t hB r1 (by omega) (show jmL.getD 8 0 = 20 by decide) h3, if_neg (by decide)]
              exact fin _ 3 _ (by unfold kV; rw [if_neg h1, if_neg h2, if_pos h3]) (fr_trans fa at_fr) (MP_nx r1.1 (code_lt h3 (by omega)))
            · rw [has_f hB r1 (by omega) (show jmL.getD 8 0 = 20 by decide) h3, if_pos rfl]
              exact fin _ 0 _ (by unfold kV; rw [if_neg h1, if_neg h2, if_neg h3]) fa r1.1
    clear hm1 f1
    rintro x25 μ4 ⟨f1, hm1⟩
    dsimp only at f1 hm1
    -- by how much
    refine ok_b2 (P := mmid T e μ R (fun q1 how => rs4 T e c x7 x10 x13 x25 how q1 = R)) ?_ ?_
    · rw [jk_s]
      rcases hm1 with ⟨f, h1, h2, h4⟩ | ⟨q1, g1, m1, hr⟩
      · rw [h4, if_neg (by decide), if_neg (by decide)]
        exact ok_some ⟨f1, Or.inl ⟨f, h1, h2⟩⟩
      · refine ok_mono (Q := vOut T e μ4 (hV T e x25 q1)) ?_ (fun r h => mmid_n f1 h hr (fun q' x hx => ((hV_g he g1).2 q' x hx).1) (fun q' x _ hx => hx))
        have hn : ok (bd2 (f_X12_figures 0 99 μ4) (fun (x47 : Int32) (μ48 : ZMem) => some (x47, μ48))) (vOut T e μ4 (nV T e 0 99 q1)) := ok_b2 (m_nV hB m1 (by decide) (by decide)) (fun x μ5 h => ok_some h)
        unfold hV
        by_cases h1 : x25 = 1
        · rw [if_pos h1, if_pos (Or.inl h1)]; exact hn
        · rw [if_neg h1]
          by_cases h3 : x25 = 3
          · rw [if_pos h3, if_pos (Or.inr h3)]; exact hn
          · rw [if_neg h3, if_neg (by rintro (h | h); exact h1 h; exact h3 h)]
            exact ok_some ⟨fr_refl, fun f hf => (by cases hf), fun q' x hx => by cases hx; exact ⟨rfl, m1⟩⟩
    clear hm1 f1
    rintro x42 μ5 ⟨f1, hm1⟩
    dsimp only at f1 hm1
    -- the state
    refine ok_b2 (P := fun r : Int32 × ZMem => fr mpP μ r.2 ∧ ((∃ f, R = .inl f ∧ FA r.2 0 f) ∨ ∃ q', MP r.2 T e q' 0 ∧ R = .inr (q', ndF c x7 x10 x13 x25 x42 r.1))) ?_ ?_
    · rcases hm1 with ⟨f, h1, h2⟩ | ⟨q1, g1, m1, hr⟩
      · rw [if_neg (FA_keep (hRf f h1) h2)]
        exact ok_some ⟨f1, Or.inl ⟨f, h1, h2⟩⟩
      · rw [if_pos (show μ5 (0, 32, 0) 12 = -1 from m1.2.1), bd2_eq (has_go hB m1 (w := 9) (by omega) (show jmL.getD 9 0 = 21 by decide))]
        unfold rs4 at hr
        have fin : ∀ (q' : Nat) (st : Int32) (μ6 : ZMem), tV T e q1 = (q', st) → fr mpP μ5 μ6 → MP μ6 T e q' 0 → ok (bd2 (α := Int32) (β := ZMem) (some (st, μ6)) (fun (x56 : Int32) (μ57 : ZMem) => some (x56, μ57))) (fun r : Int32 × ZMem => fr mpP μ r.2 ∧ ((∃ f, R = .inl f ∧ FA r.2 0 f) ∨ ∃ q', MP r.2 T e q' 0 ∧ R = .inr (q', ndF c x7 x10 x13 x25 x42 r.1))) := by
          intro q' st μ6 hk f6 m6
          rw [hk] at hr
          exact ok_some ⟨fr_trans f1 f6, Or.inr ⟨q', m6, hr.symm⟩⟩
        by_cases h1 : cd T e q1 = nI (1000 + 21)
        · rw [decide_eq_true h1, if_neg (show ¬ b2i true = 0 by decide), if_pos h1]
          exact fin _ 0 _ (by unfold tV; rw [if_pos h1]) at_fr (MP_nx m1 (code_lt h1 (by omega)))
        · rw [decide_eq_false h1, if_pos (show b2i false = 0 by decide), if_neg h1]
          have r1 := MR_of m1
          have fa : fr mpP μ5 (mset μ5 MO0 11 (nI q1)) := at_fr
          generalize mset μ5 MO0 11 (nI q1) = μ6 at r1 fa ⊢
          by_cases h2 : cd T e q1 = nI (1000 + 22)
          · rw [has_t hB r1 (by omega) (show jmL.getD 10 0 = 22 by decide) h2, if_neg (by decide)]
            exact fin _ 2 _ (by unfold tV; rw [if_neg h1, if_pos h2]) (fr_trans fa at_fr) (MP_nx r1.1 (code_lt h2 (by omega)))
          · rw [has_f hB r1 (by omega) (show jmL.getD 10 0 = 22 by decide) h2, if_pos rfl]
            exact fin _ 1 _ (by unfold tV; rw [if_neg h1, if_neg h2]) fa r1.1
    clear hm1 f1
    rintro x50 μ6 ⟨f1, hm1⟩
    dsimp only at f1 hm1
    rcases hm1 with ⟨f, h1, h2⟩ | ⟨q', m1, hr⟩
    · rw [if_neg (FA_keep (hRf f h1) h2)]
      rw [h1]
      exact ok_some ⟨fun f' hf => (by cases hf; exact ⟨f1, h2⟩), fun q' g hx => by cases hx⟩
    · have hc : c < 8 := by omega
      have hv6 : μ6 MV0 = v := (fr_at f1 (by rintro i ⟨h, -⟩; exact absurd h (by decide))).trans hv
      rw [if_pos (show μ6 (0, 32, 0) 12 = -1 from m1.2.1), zlt_s, show μ6 (0, 33, 0) 3 = nI c by rw [show μ6 (0, 33, 0) = v from hv6]; exact h3, bd_eq (m_joins hv6 h3 hc), bd_eq (lays0 hc), mput_at, mput_mput, ns_nodeV (by omega), ndF_0, bd_eq (lays8 hc), mput_at, mput_mput, ns_nodeV (by omega), ndF_8, bd_eq (lays9 hc), mput_at, mput_mput, ns_nodeV (by omega), ndF_9, bd_eq (lays10 hc), mput_at, mput_mput, ns_nodeV (by omega), ndF_10, bd_eq (lays3 hc), mput_at, mput_mput, ns_nodeV (by omega)]
      have fin : ∀ g : Vec, g = ndF c x7 x10 x13 x25 x42 x50 → ok (bd (α := ZMem) (some (mput μ6 MV0 (nodeV v c g))) (fun (μ77 : ZMem) => some μ77)) (fun μ' => (∀ f, R = .inl f → fr mpP μ μ' ∧ FA μ' 0 f) ∧ ∀ q' g, R = .inr (q', g) → fr mcP μ μ' ∧ MP μ' T e q' 0 ∧ μ' MV0 = nodeV v c g) := by
        intro g hgg
        rw [hr, hgg]
        have h96 : μ6 MO0 9 = -1 := by rw [f1.1 _ _ (by rintro ⟨-, h⟩; omega)]; exact h9
        refine ok_some ⟨fun f hf => (by cases hf), fun q2 g2 hx => ?_⟩
        cases hx
        refine ⟨fr_trans (fr_mono f1 (fun o i h => mp_mc h)) (fr_mv (fun i hi => Or.inr ⟨rfl, hi⟩) (fun i hi => ?_)), MP_mv m1 h96, mput_at⟩
        rw [nodeV_high hc (by omega), hv6]
      by_cases h2 : x50 = 2
      · rw [if_pos h2, bd_eq (show f_X12_lays (nI c) 5 (1 <<< (nI c &&& 31)) _ = _ from lays5 (x := bit1 c) hc), mput_at, mput_mput, ns_nodeV (by omega)]
        exact fin _ (by rw [h2]; exact ndF_32)
      · rw [if_neg h2]
        refine fin _ ?_
        funext i
        unfold vset ndF
        by_cases e3 : i = 3
        · simp [e3]
        · by_cases e5 : i = 5
          · simp [e5, h2]
          · simp [e3, e5]
/-- a line of a cluster -/
def mclOut (T : Vec) (e : Nat) (μ : ZMem) (R : Nat ⊕ (Nat × Nat × Vec)) (μ' : ZMem) : Prop := fr mcP μ μ' ∧ (∀ f, R = .inl f → FA μ' 0 f) ∧ ∀ q' c' v', R = .inr (q', c', v') → MP μ' T e q' 0 ∧ μ' MV0 = v'
theorem m_tells {μ : ZMem} {q c i : Nat} {I lo : Int32} {v : Vec} (hB : HB T e) (he : e ≤ 400) (hm : MP μ T e q 0) (h9 : μ MO0 9 = -1) (hv : μ MV0 = v) (hI : I = nI i) (hi : i = 4 ∨ i = 5 ∨ i = 6) (hlo : 0 ≤ lo) : ok (f_X12_tells I lo 999 μ) (mclOut T e μ (vB (nV T e lo 999 q) (fun q' x => .inr (q', c, vset v i x)))) := by
  subst hI
  have hg := MP_gq hm
  unfold f_X12_tells
  refine ok_b2 (m_nV hB hm hlo (by decide)) ?_
  rintro x μ1 ⟨v1, v2, v3⟩
  dsimp only at v1 v2 v3
  cases hV : nV T e lo 999 q with
  | inl f =>
    have hf := (nV_g (T := T) he hg hlo (show (999 : Int32) ≤ 999 by decide)).1 f hV
    rw [if_neg (FA_keep (by omega) (v2 f hV)), bd_s]
    exact ok_some ⟨fr_mono v1 (fun o i h => mp_mc h), fun f' hf' => (by cases hf'; exact v2 f hV), fun q' c' v' hx => by cases hx⟩
  | inr r =>
    obtain ⟨q', y⟩ := r
    obtain ⟨a, b⟩ := v3 q' y hV
    subst a
    have hv1 : μ1 MV0 = v := (fr_at v1 (by rintro i ⟨h, -⟩; exact absurd h (by decide))).trans hv
    have h91 : μ1 MO0 9 = -1 := by rw [v1.1 _ _ (by rintro ⟨-, h⟩; omega)]; exact h9
    rw [if_pos (show μ1 (0, 32, 0) 12 = -1 from b.2.1), gd_eq (zin_nI (by omega) (by omega)), nI_cl (by omega), zlt_s, mset_eq, bd_s, show μ1 (0, 33, 0) = v from hv1]
    refine ok_some ⟨fr_trans (fr_mono v1 (fun o i h => mp_mc h)) (fr_mv (fun i hi => Or.inr ⟨rfl, hi⟩) (fun j hj => by rw [vset_ne (by omega), hv1])), fun f' hf' => (by cases hf'), fun q2 c2 v2 hx => ?_⟩
    cases hx
    exact ⟨MP_mv b h91, mput_at⟩
theorem m_cline {μ : ZMem} {q c : Nat} {v : Vec} (hB : HB T e) (he : e ≤ 400) (hm : MP μ T e q 0) (h9 : μ MO0 9 = -1) (hv : μ MV0 = v) (h3 : v 3 = nI c) (h8 : c ≤ 8) : ok (f_X12_clusterLine μ) (mclOut T e μ (sLine T e c v q)) := by
  have hg := MP_gq hm
  have hqe := hg.1
  unfold f_X12_clusterLine
  rw [bd2_eq (m_here hm)]
  have r1 := MR_of hm
  have fa : fr mpP μ (mset μ MO0 11 (nI q)) := at_fr
  have hv1 : (mset μ MO0 11 (nI q)) MV0 = v := by rw [mset_ne (by decide)]; exact hv
  have h91 : (mset μ MO0 11 (nI q)) MO0 9 = -1 := by rw [mset_k (by decide)]; exact h9
  generalize mset μ MO0 11 (nI q) = μ1 at r1 fa hv1 h91 ⊢
  have goes : ∀ {μ2 : ZMem} {R : Nat ⊕ (Nat × Nat × Vec)} {μ' : ZMem}, fr mpP μ1 μ2 → mclOut T e μ2 R μ' → mclOut T e μ R μ' := fun f h => ⟨fr_trans (fr_mono (fr_trans fa f) (fun o i h => mp_mc h)) h.1, h.2⟩
  have tv : (mset μ1 MO0 11 (nI (tend T e q))) MV0 = v := by rw [mset_ne (by decide)]; exact hv1
  have t9 : (mset μ1 MO0 11 (nI (tend T e q))) MO0 9 = -1 := by rw [mset_k (by decide)]; exact h91
  unfold sLine
  by_cases h0 : cd T e q = nI (1000 + 0)
  · have hq := code_lt h0 (by omega)
    have ht := (tend_RS (T := T) he hq).2.1
    rw [has_t hB r1 (by omega) (show jmL.getD 11 0 = 0 by decide) h0, if_neg (by decide), if_pos h0]
    refine ok_b1 (ok_b1 (m_nodeLine (b := q) hB he (MP_nx r1.1 hq) t9 tv h3 h8 (by omega)) (fun μ2 h => ok_some h)) ?_
    rintro μ2 ⟨w1, w2⟩
    by_cases hc8 : c = 8
    · rw [if_pos hc8, w1 hc8]
      refine ok_some ⟨fr_mono (fr_trans fa (fr_trans at_fr wrong_fr)) (fun o i h => mp_mc h), fun f' hf' => ?_, fun q' c' v' hx => by cases hx⟩
      cases hf'
      exact ⟨mset_at, tend T e q, by omega, by rw [mset_k (by decide)]; exact mset_at⟩
    · rw [if_neg hc8]
      obtain ⟨w3, w4⟩ := w2 (by omega)
      cases hs : sNode T e c (nx T e q) with
      | inl f =>
        obtain ⟨a, b⟩ := w3 f hs
        exact ok_some ⟨fr_mono (fr_trans fa (fr_trans at_fr a)) (fun o i h => mp_mc h), fun f' hf' => (by cases hf'; exact b), fun q' c' v' hx => by cases hx⟩
      | inr r =>
        obtain ⟨a, b, d⟩ := w4 r.1 r.2 hs
        refine ok_some ⟨fr_trans (fr_mono (fr_trans fa at_fr) (fun o i h => mp_mc h)) a, fun f' hf' => (by cases hf'), fun q' c' v' hx => ?_⟩
        cases hx
        exact ⟨b, d⟩
  rw [has_f hB r1 (by omega) (show jmL.getD 11 0 = 0 by decide) h0, if_pos rfl, if_neg h0]
  by_cases h1 : cd T e q = nI (1000 + 23)
  · rw [has_t hB r1 (by omega) (show jmL.getD 12 0 = 23 by decide) h1, if_neg (by decide), if_pos h1]
    refine ok_b1 (ok_b1 (m_tells (c := c) (i := 4) hB he (MP_nx r1.1 (code_lt h1 (by omega))) t9 tv rfl (by omega) (by decide)) (fun μ2 h => ok_some h)) (fun μ2 h => ok_some (goes at_fr h))
  rw [has_f hB r1 (by omega) (show jmL.getD 12 0 = 23 by decide) h1, if_pos rfl, if_neg h1]
  by_cases h2 : cd T e q = nI (1000 + 24)
  · rw [has_t hB r1 (by omega) (show jmL.getD 13 0 = 24 by decide) h2, if_neg (by decide), if_pos h2]
    refine ok_b1 (ok_b1 (m_tells (c := c) (i := 5) hB he (MP_nx r1.1 (code_lt h2 (by omega))) t9 tv rfl (by omega) (by decide)) (fun μ2 h => ok_some h)) (fun μ2 h => ok_some (goes at_fr h))
  rw [has_f hB r1 (by omega) (show jmL.getD 13 0 = 24 by decide) h2, if_pos rfl, if_neg h2]
  by_cases h4 : cd T e q = nI (1000 + 25)
  · rw [has_t hB r1 (by omega) (show jmL.getD 14 0 = 25 by decide) h4, if_neg (by decide), if_pos h4]
    refine ok_b1 (ok_b1 (m_tells (c := c) (i := 6) hB he (MP_nx r1.1 (code_lt h4 (by omega))) t9 tv rfl (by omega) (by decide)) (fun μ2 h => ok_some h)) (fun μ2 h => ok_some (goes at_fr h))
  rw [has_f hB r1 (by omega) (show jmL.getD 14 0 = 25 by decide) h4, if_pos rfl, if_neg h4, show μ1 (0, 32, 0) 11 = nI q from r1.2, bd_eq (m_wrong r1.1.2.1), bd_s]
  exact ok_some ⟨fr_mono (fr_trans fa wrong_fr) (fun o i h => mp_mc h), fun f' hf' => (by cases hf'; exact FA_wrong (by omega) (by omega) r1.2), fun q' c' v' hx => by cases hx⟩
end MJ
