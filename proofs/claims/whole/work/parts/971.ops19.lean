/-! acts on both sides: twins, most, byState, narrow, tight -/
section PH
variable {y : ZLay} {μ : ZMem} {S S' : SV} {tp tp' : Vec} {tl tl' : Nat} {fa fa' : Int32} {kp kp' : Option SV} {ac ac' : List (Nat × Vec)}
def twB (v : Vec) (k j : Nat) : Bool := decide (nd v k 1 = nd v j 1) && decide (nd v k 3 = nd v j 3)
def twI (v : Vec) (k n : Nat) (a : Int32) : Int32 := itS (fun i a => a + b2i (twB v k (k + 1 + i))) n a
def twS (v : Vec) (c : Nat) : Int32 := itS (fun k a => twI v k (c - (k + 1)) a) c 0
theorem c_twins {c : Nat} {v : Vec} (h : CS μ 0 c v) : f_X11_twins μ = some (twS v c) := by
  have h8 := h.1
  unfold f_X11_twins
  rw [CS_c h]
  refine (bd_eq (lp_seq (s0 := ((0 : Int32), (0 : Int32))) c (fun n => (itS (fun k a => twI v k (c - (k + 1)) a) n 0, nI n)) ?_ ?_ (FU_lt (by omega)) rfl)).trans rfl
  · intro k hk
    rw [un2_s, if_neg (nI_ge hk (by omega)), nI_1, zlt_s]
    rw [bd_eq (lp_seq (s0 := (itS (fun k a => twI v k (c - (k + 1)) a) k 0, nI (k + 1))) (r := twI v k (c - (k + 1)) (itS (fun k a => twI v k (c - (k + 1)) a) k 0)) (c - (k + 1)) (fun i => (twI v k i (itS (fun k a => twI v k (c - (k + 1)) a) k 0), nI (k + 1 + i))) ?_ ?_ (FU_lt (by omega)) rfl)]
    · rfl
    · intro i hi
      rw [un2_s, if_neg (nI_ge (by omega) (by omega)), gd_eq (zin_nI (by omega) (by omega)), gd_eq (zin_nI (by omega) (by omega)), nI_cl (by omega), nI_cl (by omega), CS_nd h hk (by omega), CS_nd h hk (by omega), CS_nd h (show k + 1 + i < c by omega) (by omega), CS_nd h (show k + 1 + i < c by omega) (by omega), jk_s, nI_1]
      have e : (if nd v k 1 = nd v (k + 1 + i) 1 then if nd v k 3 = nd v (k + 1 + i) 3 then some (1 : Int32) else some 0 else some 0) = some (b2i (twB v k (k + 1 + i))) := by
        unfold twB
        by_cases a : nd v k 1 = nd v (k + 1 + i) 1
        · rw [if_pos a, decide_eq_true a]
          by_cases b : nd v k 3 = nd v (k + 1 + i) 3
          · rw [if_pos b, decide_eq_true b]; rfl
          · rw [if_neg b, decide_eq_false b]; rfl
        · rw [if_neg a, decide_eq_false a]; rfl
      rw [e, bd_s, zlt_s, zlt_s]
      have e2 : (if b2i (twB v k (k + 1 + i)) = 0 then (0 : Int32) else 1) = b2i (twB v k (k + 1 + i)) := by cases twB v k (k + 1 + i) <;> rfl
      rw [e2]
      rfl
    · rw [un2_s, if_pos (show nI c ≤ nI (k + 1 + (c - (k + 1))) from nI_le (by omega) (by omega))]
  · rw [un2_s, if_pos (nI_le (Nat.le_refl _) (by omega))]; rfl
theorem OP_twins : OPr y f_X11_twins f_X12_twins := by
  rintro μ ⟨S, tp, tl, fa, kp, ac, hc, hm, ho⟩
  have h8 := OA_c ho
  refine op_r hc ho (c_twins hc.1.1) ?_
  unfold f_X12_twins
  have hv : (mset μ (0, 32, 0) 0 0) MV0 = S.2.1 := (mset_ne (by decide)).trans hm.1
  have v3 : (mset μ (0, 32, 0) 0 0) (0, 33, 0) 3 = nI S.1 := by rw [show _ = S.2.1 from hv]; exact OA_3 ho
  rw [zlt_s, v3]
  refine ok_eq (a := (twS S.2.1 S.1, mset μ MO0 0 0)) (bd_eq (lp_seq (s0 := ((0 : Int32), (0 : Int32))) S.1 (fun n => (itS (fun k a => twI S.2.1 k (S.1 - (k + 1)) a) n 0, nI n)) ?_ ?_ (FU_lt (by omega)) rfl)) ⟨rfl, thr_RM hm, ms_fr thr_fr⟩
  · intro k hk
    rw [un2_s, if_neg (nI_ge hk (by omega)), nI_1, zlt_s]
    rw [bd_eq (lp_seq (s0 := (itS (fun k a => twI S.2.1 k (S.1 - (k + 1)) a) k 0, nI (k + 1))) (r := twI S.2.1 k (S.1 - (k + 1)) (itS (fun k a => twI S.2.1 k (S.1 - (k + 1)) a) k 0)) (S.1 - (k + 1)) (fun i => (twI S.2.1 k i (itS (fun k a => twI S.2.1 k (S.1 - (k + 1)) a) k 0), nI (k + 1 + i))) ?_ ?_ (FU_lt (by omega)) rfl)]
    · rfl
    · intro i hi
      rw [un2_s, if_neg (nI_ge (by omega) (by omega)), bd_eq (show f_X12_of (nI k) 1 _ = some (nd S.2.1 k 1) from ofV (w := 1) hv rfl (by omega) (by omega)), bd_eq (show f_X12_of (nI (k + 1 + i)) 1 _ = some (nd S.2.1 (k + 1 + i) 1) from ofV (w := 1) hv rfl (by omega) (by omega)), jk_s, bd_eq (show f_X12_of (nI k) 3 _ = some (nd S.2.1 k 3) from ofV (w := 3) hv rfl (by omega) (by omega)), bd_eq (show f_X12_of (nI (k + 1 + i)) 3 _ = some (nd S.2.1 (k + 1 + i) 3) from ofV (w := 3) hv rfl (by omega) (by omega)), nI_1]
      have e : (if nd S.2.1 k 1 = nd S.2.1 (k + 1 + i) 1 then if nd S.2.1 k 3 = nd S.2.1 (k + 1 + i) 3 then some (1 : Int32) else some 0 else some 0) = some (b2i (twB S.2.1 k (k + 1 + i))) := by
        unfold twB
        by_cases a : nd S.2.1 k 1 = nd S.2.1 (k + 1 + i) 1
        · rw [if_pos a, decide_eq_true a]
          by_cases b : nd S.2.1 k 3 = nd S.2.1 (k + 1 + i) 3
          · rw [if_pos b, decide_eq_true b]; rfl
          · rw [if_neg b, decide_eq_false b]; rfl
        · rw [if_neg a, decide_eq_false a]; rfl
      rw [e, bd_s, zlt_s]
      rfl
    · rw [un2_s, if_pos (show nI S.1 ≤ nI (k + 1 + (S.1 - (k + 1))) from nI_le (by omega) (by omega))]
  · rw [un2_s, if_pos (nI_le (Nat.le_refl _) (by omega))]; rfl
/-- the node with the most -/
def valS (v : Vec) (a : Int32) (k : Nat) : Int32 := if a = 0 then nd v k 1 + nd v k 2 else if a = 1 then -(nd v k 1 + nd v k 2) else f_X12_sign (nd v k 0)
def mosS (v : Vec) (a : Int32) : Nat → Option Nat
  | 0 => none
  | k + 1 => match mosS v a k with
    | none => some k
    | some i => if valS v a k ≤ valS v a i then some i else some k
def onI : Option Nat → Int32
  | none => -1
  | some i => nI i
def ovl (v : Vec) (a : Int32) : Option Nat → Int32
  | none => 0
  | some i => valS v a i
theorem mos_lt {v : Vec} {a : Int32} : ∀ k i, mosS v a k = some i → i < k
  | 0, i, h => by cases h
  | k + 1, i, h => by
    have ih := mos_lt (v := v) (a := a) k
    unfold mosS at h
    cases e : mosS v a k with
    | none =>
      rw [e] at h
      cases h
      omega
    | some j =>
      rw [e] at h
      have := ih j e
      dsimp only at h
      split at h <;> (cases h; omega)
theorem mos_s {v : Vec} {a : Int32} {k : Nat} : mosS v a (k + 1) = match mosS v a k with
    | none => some k
    | some i => if valS v a k ≤ valS v a i then some i else some k := rfl
theorem OP_most {a1 : Int32} : OPx y cm1 (f_X11_most a1) (f_X12_most a1) := by
  rintro μ ⟨S, tp, tl, fa, kp, ac, hc, hm, ho⟩
  have h8 := OA_c ho
  by_cases hr : 0 ≤ a1 ∧ a1 ≤ 2
  · refine op_q (A := .inl (onI (mosS S.2.1 a1 S.1))) hc hm ho ?_ ?_
    · unfold f_X11_most
      rw [jk_s, if_neg (Int32.not_lt.mpr hr.1), if_pos hr.2, CS_c hc.1.1]
      rw [bd_eq (lp_seq (s0 := ((-1 : Int32), (0 : Int32), (0 : Int32))) (r := onI (mosS S.2.1 a1 S.1)) S.1 (fun k => (onI (mosS S.2.1 a1 k), ovl S.2.1 a1 (mosS S.2.1 a1 k), nI k)) ?_ ?_ (FU_lt (by omega)) rfl)]
      · exact ok_some ⟨rfl, fr_refl⟩
      · intro k hk
        rw [un3_s, if_neg (nI_ge hk (by omega)), gd_eq (zin_nI (by omega) (by omega)), nI_cl (by omega), CS_nd hc.1.1 hk (by omega), CS_nd hc.1.1 hk (by omega), CS_nd hc.1.1 hk (by omega), zlt_s, zabs_sign, zlt_s, jk_s, nI_1, mos_s]
        rw [show (if a1 = 0 then nd S.2.1 k 1 + nd S.2.1 k 2 else if a1 = 1 then -(nd S.2.1 k 1 + nd S.2.1 k 2) else f_X12_sign (nd S.2.1 k 0)) = valS S.2.1 a1 k from rfl]
        cases e : mosS S.2.1 a1 k with
        | none =>
          rw [if_pos (show onI none = -1 from rfl), bd2_s]; rfl
        | some i =>
          have hi := mos_lt k i e
          rw [if_neg (show ¬ onI (some i) = -1 from nI_ne1 (by omega))]
          dsimp only
          rw [show ovl S.2.1 a1 (some i) = valS S.2.1 a1 i from rfl]
          by_cases c : valS S.2.1 a1 k ≤ valS S.2.1 a1 i
          · rw [if_pos c, if_pos c]; rfl
          · rw [if_neg c, if_neg c]; rfl
      · rw [un3_s, if_pos (nI_le (Nat.le_refl _) (by omega))]
    · intro μ1 r1
      unfold f_X12_most
      have hv : (mset μ1 (0, 32, 0) 0 0) MV0 = S.2.1 := (mset_ne (by decide)).trans r1.1
      have v3 : (mset μ1 (0, 32, 0) 0 0) (0, 33, 0) 3 = nI S.1 := by rw [show _ = S.2.1 from hv]; exact OA_3 ho
      have ev : ∀ k, k < 8 → f_X12_valueOf a1 (nI k) (mset μ1 (0, 32, 0) 0 0) = some (valS S.2.1 a1 k) := fun k hk => by
        unfold f_X12_valueOf valS
        rw [bd_eq (show f_X12_of (nI k) 1 _ = some (nd S.2.1 k 1) from ofV (w := 1) hv rfl hk (by omega)), bd_eq (show f_X12_of (nI k) 2 _ = some (nd S.2.1 k 2) from ofV (w := 2) hv rfl hk (by omega)), bd_eq (show f_X12_of (nI k) 0 _ = some (nd S.2.1 k 0) from ofV (w := 0) hv rfl hk (by omega)), zlt_s]
        by_cases z0 : a1 = 0
        · rw [if_pos z0, if_pos z0]; rfl
        · rw [if_neg z0, if_neg z0]
          by_cases z1 : a1 = 1
          · rw [if_pos z1, if_pos z1]; rfl
          · rw [if_neg z1, if_neg z1]; rfl
      rw [bd_eq m_isIn, decide_eq_true hr, if_neg b2i_t, zlt_s, zlt_s, thr_0, if_pos (by decide), v3]
      rw [bd_eq (lp_seq (s0 := ((-1 : Int32), (0 : Int32))) (r := onI (mosS S.2.1 a1 S.1)) S.1 (fun k => (onI (mosS S.2.1 a1 k), nI k)) ?_ ?_ (FU_lt (by omega)) rfl)]
      · exact ok_some ⟨⟨(show (mset μ1 MO0 0 0) MO0 0 = 0 from mset_at), rfl⟩, thr_fr⟩
      · intro k hk
        rw [un2_s, if_neg (nI_ge hk (by omega)), jk_s, nI_1, mos_s]
        cases e : mosS S.2.1 a1 k with
        | none =>
          rw [if_pos (show onI none = -1 from rfl), bd_s]; rfl
        | some i =>
          have hi := mos_lt k i e
          rw [if_neg (show ¬ onI (some i) = -1 from nI_ne1 (by omega)), bd_eq (ev k (by omega)), show onI (some i) = nI i from rfl, bd_eq (ev i (by omega))]
          dsimp only
          by_cases c : valS S.2.1 a1 k ≤ valS S.2.1 a1 i
          · rw [if_pos c, if_pos c]; rfl
          · rw [if_neg c, if_neg c]; rfl
      · rw [un2_s, if_pos (nI_le (Nat.le_refl _) (by omega))]
  · refine op_ref (k := 4) hc hm ho (by decide) ?_ ?_
    · unfold f_X11_most
      rw [jk_s]
      by_cases h1 : a1 < 0
      · rw [if_pos h1]
      · rw [if_neg h1, if_neg (fun h2 => hr ⟨Int32.not_lt.mp h1, h2⟩)]
    · intro μ1 r1
      unfold f_X12_most
      rw [bd_eq m_isIn, decide_eq_false hr, if_pos b2i_f, zlt_s, zlt_s, thr_0, if_neg (by decide)]
      rfl
theorem OP_byState {a1 : Int32} : OPx y cm1 (f_X11_byState a1) (f_X12_byState a1) := by
  rintro μ ⟨S, tp, tl, fa, kp, ac, hc, hm, ho⟩
  have h8 := OA_c ho
  by_cases hr : 0 ≤ a1 ∧ a1 ≤ 3
  · refine op_q (A := .inl (bset (fun k => decide (nd S.2.1 k 3 = a1)) S.1)) hc hm ho ?_ ?_
    · unfold f_X11_byState
      rw [jk_s, if_neg (Int32.not_lt.mpr hr.1), if_pos hr.2, bd_eq (f_X7_inState_eq (CS_c hc.1.1) h8)]
      refine ok_some ⟨congrArg Sum.inl (bset_congr fun k hk => ?_), fr_refl⟩
      rw [CS_nd hc.1.1 hk (by omega)]
    · intro μ1 r1
      unfold f_X12_byState
      have hv : (mset μ1 (0, 32, 0) 0 0) MV0 = S.2.1 := (mset_ne (by decide)).trans r1.1
      rw [bd_eq m_isIn, decide_eq_true hr, if_neg b2i_t, zlt_s, zlt_s, thr_0, if_pos (by decide), bd_eq (m_inState_eq (c := S.1) (by rw [hv]; exact OA_3 ho) h8), hv, bd_s]
      exact ok_some ⟨⟨(show (mset μ1 MO0 0 0) MO0 0 = 0 from mset_at), rfl⟩, thr_fr⟩
  · refine op_ref (k := 4) hc hm ho (by decide) ?_ ?_
    · unfold f_X11_byState
      rw [jk_s]
      by_cases h1 : a1 < 0
      · rw [if_pos h1]
      · rw [if_neg h1, if_neg (fun h2 => hr ⟨Int32.not_lt.mp h1, h2⟩)]
    · intro μ1 r1
      unfold f_X12_byState
      rw [bd_eq m_isIn, decide_eq_false hr, if_pos b2i_f, zlt_s, zlt_s, thr_0, if_neg (by decide)]
      rfl
/-- the narrowest window -/
def narT (L : LawS) (c : Nat) (v : Vec) (k : Nat) (a : Int32) : Int32 := if nd v k 3 = 2 then (if nd v k 9 = 2 then a else f_X12_greater a (f_X12_sign (sendS L c v k))) else a
def narS (L : LawS) (c : Nat) (v : Vec) (n : Nat) : Int32 := itS (narT L c v) n 1
theorem narS_s {L : LawS} {c : Nat} {v : Vec} {n : Nat} : narS L c v (n + 1) = narT L c v n (narS L c v n) := rfl
/-- a query that changes no state and never throws -/
theorem op_p {F G : ZMem → Option (Int32 × ZMem)} {A : Int32} (hc : RC y μ S tp tl fa kp ac) (hm : RMo μ S tp tl fa kp ac) (ho : OA S tp tl kp ac) (h1 : ok (F μ) (fun r => r.1 = A ∧ fr scP μ r.2))
    (h2 : ∀ μ1, RMo μ1 S tp tl fa kp ac → (mset μ1 MO0 0 0) MV0 = S.2.1 → ok (G μ1) (fun q => q.1 = A ∧ fr msP (mset μ1 MO0 0 0) q.2)) :
    ok (F μ) (fun r => ok (G r.2) (fun q => q.1 = r.1 ∧ INV y q.2)) := by
  refine op_n (A := A) (S' := S) (tp' := tp) (tl' := tl) (fa' := fa) (kp' := kp) (ac' := ac) hm (ok_mono h1 ?_) ?_ ho
  · rintro r ⟨a, b⟩
    exact ⟨a, RC_sc hc b, fr_mono b (fun o i h => sc_cl h)⟩
  · intro μ1 r1
    refine ok_mono (h2 μ1 r1 ((mset_ne (by decide)).trans r1.1)) ?_
    rintro q ⟨a, b⟩
    exact ⟨a, RM_ms (thr_RM r1) b, fr_trans (ms_fr thr_fr) (ms_fr b)⟩
theorem OP_narrow : OPn y (f_X11_narrow y) f_X12_narrow := by
  rintro μ ⟨S, tp, tl, fa, kp, ac, hc, hm, ho⟩
  have h8 := OA_c ho
  refine op_p (A := if narS S.2.2 S.1 S.2.1 S.1 ≤ 999 then narS S.2.2 S.1 S.2.1 S.1 else -1) hc hm ho ?_ ?_
  · unfold f_X11_narrow
    refine ok_b1 (c_look0 hc.1 ho.1) ?_
    rintro μ1 ⟨w1, w2, w3, w4⟩
    rw [CS_c w1]
    rw [bd_eq (lp_seq (s0 := ((1 : Int32), (0 : Int32))) (r := narS S.2.2 S.1 S.2.1 S.1) S.1 (fun k => (narS S.2.2 S.1 S.2.1 k, nI k)) ?_ ?_ (FU_lt (by omega)) rfl), zlt_s]
    · exact ok_some ⟨rfl, fr_mono w2 (fun o i h => vw_sc h)⟩
    · intro k hk
      rw [un2_s, if_neg (nI_ge hk (by omega)), gd_eq (zin_nI (by omega) (by omega)), nI_cl (by omega), CS_nd w1 hk (by omega), CS_nd w1 hk (by omega), CS_nd w1 hk (by omega), (w3.2.2 k hk).1, zlt_s, nI_1, narS_s, zabs_sign, zmax_eq, zlt_s]
      rfl
    · rw [un2_s, if_pos (nI_le (Nat.le_refl _) (by omega))]
  · intro μ1 r1 hv
    unfold f_X12_narrow
    have v3 : ∀ {μ2 : ZMem}, fr askP (mset μ1 (0, 32, 0) 0 0) μ2 → μ2 (0, 33, 0) 3 = nI S.1 := fun f => by rw [show _ = S.2.1 from (ask_vec f).trans hv]; exact OA_3 ho
    rw [zlt_s]
    refine ok_b2 (P := fun q => q.1 = narS S.2.2 S.1 S.2.1 S.1 ∧ fr askP (mset μ1 (0, 32, 0) 0 0) q.2) (ok_seq S.1 (fun k s => s.1 = narS S.2.2 S.1 S.2.1 k ∧ s.2.1 = nI k ∧ fr askP (mset μ1 (0, 32, 0) 0 0) s.2.2) ?_ ?_ ⟨rfl, rfl, fr_refl⟩ (FU_lt (by omega))) ?_
    · rintro k ⟨x2, x3, μ2⟩ hk ⟨u1, u2, u3⟩
      dsimp only at u1 u2 u3
      subst u2
      have hv2 := (ask_vec u3).trans hv
      rw [un3_s, v3 u3, if_neg (nI_ge hk (by omega)), bd_eq (isActive_eq (by omega)), hv2, bd_eq (show f_X12_of (nI k) 9 μ2 = some (nd S.2.1 k 9) from ofV (w := 9) hv2 rfl (by omega) (by omega))]
      refine ok_b2 (P := fun q => q.1 = narS S.2.2 S.1 S.2.1 (k + 1) ∧ fr askP (mset μ1 (0, 32, 0) 0 0) q.2) ?_ ?_
      · rw [narS_s]
        unfold narT
        by_cases a : nd S.2.1 k 3 = 2
        · rw [decide_eq_true a, if_neg b2i_t, if_pos a]
          by_cases b : nd S.2.1 k 9 = 2
          · rw [if_pos b, if_pos b]; exact ok_some ⟨u1, u3⟩
          · rw [if_neg b, if_neg b]
            refine ok_b2 (m_sentBy hv2 ho.1.2.2.1 (fun _ _ => rfl) ho.1.1.1 (by omega)) ?_
            rintro x μ3 ⟨p1, p2⟩
            dsimp only at p1 p2
            rw [zlt_s, p1, u1]
            exact ok_some ⟨rfl, fr_trans u3 p2⟩
        · rw [decide_eq_false a, if_pos b2i_f, if_neg a]
          exact ok_some ⟨u1, u3⟩
      · rintro x μ3 ⟨p1, p2⟩
        exact ok_some ⟨_, rfl, p1, nI_1 k, p2⟩
    · rintro ⟨x2, x3, μ2⟩ ⟨u1, u2, u3⟩
      dsimp only at u1 u2 u3
      subst u2
      rw [un3_s, v3 u3, if_pos (nI_le (Nat.le_refl _) (by omega))]
      exact ok_some ⟨_, rfl, u1, u3⟩
    · rintro x μ2 ⟨u1, u2⟩
      dsimp only at u1 u2
      rw [zlt_s, u1]
      exact ok_some ⟨rfl, fr_mono u2 (fun o i h => ask_ms h)⟩
/-- the tightest precision -/
def tigT (L : LawS) (c : Nat) (v : Vec) (k j : Nat) (a : Int32) : Int32 := if (decide (k ≠ j) && (tbit (actS v c) k && tbit (actS v c) j)) = true then f_X12_greater a (f_X12_sign (offS L c v j k)) else a
def tigI (L : LawS) (c : Nat) (v : Vec) (k n : Nat) (a : Int32) : Int32 := itS (tigT L c v k) n a
def tigS (L : LawS) (c : Nat) (v : Vec) (n : Nat) : Int32 := itS (fun k a => tigI L c v k c a) n 1
theorem tigS_s {L : LawS} {c : Nat} {v : Vec} {n : Nat} : tigS L c v (n + 1) = tigI L c v n c (tigS L c v n) := rfl
theorem tigI_s {L : LawS} {c : Nat} {v : Vec} {k n : Nat} {a : Int32} : tigI L c v k (n + 1) a = tigT L c v k n (tigI L c v k n a) := rfl
theorem OP_tight : OPn y (f_X11_tight y) f_X12_tight := by
  rintro μ ⟨S, tp, tl, fa, kp, ac, hc, hm, ho⟩
  have h8 := OA_c ho
  refine op_p (A := if tigS S.2.2 S.1 S.2.1 S.1 ≤ 999 then tigS S.2.2 S.1 S.2.1 S.1 else -1) hc hm ho ?_ ?_
  · unfold f_X11_tight
    refine ok_b1 (c_look0 hc.1 ho.1) ?_
    rintro μ1 ⟨w1, w2, w3, w4⟩
    rw [CS_c w1, w3.1, zlt_s]
    rw [bd_eq (lp_seq (s0 := ((1 : Int32), (0 : Int32))) (r := tigS S.2.2 S.1 S.2.1 S.1) S.1 (fun k => (tigS S.2.2 S.1 S.2.1 k, nI k)) ?_ ?_ (FU_lt (by omega)) rfl), zlt_s]
    · exact ok_some ⟨rfl, fr_mono w2 (fun o i h => vw_sc h)⟩
    · intro k hk
      rw [un2_s, if_neg (nI_ge hk (by omega))]
      rw [bd_eq (lp_seq (s0 := (tigS S.2.2 S.1 S.2.1 k, (0 : Int32))) (r := tigI S.2.2 S.1 S.2.1 k S.1 (tigS S.2.2 S.1 S.2.1 k)) S.1 (fun j => (tigI S.2.2 S.1 S.2.1 k j (tigS S.2.2 S.1 S.2.1 k), nI j)) ?_ ?_ (FU_lt (by omega)) rfl), nI_1, tigS_s]
      · intro j hj
        rw [un2_s, if_neg (nI_ge hj (by omega)), bd_eq (isIn_eq (by omega)), bd_eq (isIn_eq (by omega)), gd_eq (zin_nI (by omega) (by omega)), gd_eq (zin_nI (by omega) (by omega)), nI_cl (by omega), nI_cl (by omega), (w3.2.2 j hj).2.2 k hk, CS_nd w1 hk (by omega), zabs_sign, zmax_eq, zlt_s, nI_1, tigI_s]
        unfold tigT
        by_cases e : nI k = nI j
        · have : k = j := (nI_inj' (by omega) (by omega)).mp e
          rw [if_pos e, decide_eq_false (fun q => q this), Bool.false_and, if_neg (by decide)]; rfl
        · rw [if_neg e, decide_eq_true (show k ≠ j from fun q => e (by rw [q])), Bool.true_and]
          cases tbit (actS S.2.1 S.1) k
          · rw [if_pos b2i_f, Bool.false_and, if_neg (by decide)]; rfl
          · rw [if_neg b2i_t, Bool.true_and]
            cases tbit (actS S.2.1 S.1) j
            · rw [if_pos b2i_f, if_neg (by decide)]; rfl
            · rw [if_neg b2i_t, if_pos rfl]; rfl
      · rw [un2_s, if_pos (nI_le (Nat.le_refl _) (by omega))]
    · rw [un2_s, if_pos (nI_le (Nat.le_refl _) (by omega))]
  · intro μ1 r1 hv
    unfold f_X12_tight
    have v3 : ∀ {μ2 : ZMem}, fr askP (mset μ1 (0, 32, 0) 0 0) μ2 → μ2 (0, 33, 0) 3 = nI S.1 := fun f => by rw [show _ = S.2.1 from (ask_vec f).trans hv]; exact OA_3 ho
    rw [zlt_s]
    refine ok_b2 (P := fun q => q.1 = tigS S.2.2 S.1 S.2.1 S.1 ∧ fr askP (mset μ1 (0, 32, 0) 0 0) q.2) (ok_seq S.1 (fun k s => s.1 = tigS S.2.2 S.1 S.2.1 k ∧ s.2.1 = nI k ∧ fr askP (mset μ1 (0, 32, 0) 0 0) s.2.2) ?_ ?_ ⟨rfl, rfl, fr_refl⟩ (FU_lt (by omega))) ?_
    · rintro k ⟨x2, x3, μ2⟩ hk ⟨u1, u2, u3⟩
      dsimp only at u1 u2 u3
      subst u2
      rw [un3_s, v3 u3, if_neg (nI_ge hk (by omega))]
      refine ok_b2 (P := fun q => q.1 = tigS S.2.2 S.1 S.2.1 (k + 1) ∧ fr askP (mset μ1 (0, 32, 0) 0 0) q.2) (ok_seq S.1 (fun j s => s.1 = tigI S.2.2 S.1 S.2.1 k j x2 ∧ s.2.1 = nI j ∧ fr askP (mset μ1 (0, 32, 0) 0 0) s.2.2) ?_ ?_ ⟨rfl, rfl, u3⟩ (FU_lt (by omega))) ?_
      · rintro j ⟨x8, x9, μ3⟩ hj ⟨p1, p2, p3⟩
        dsimp only at p1 p2 p3
        subst p2
        have hv3 := (ask_vec p3).trans hv
        rw [un3_s, v3 p3, if_neg (nI_ge hj (by omega)), bd_eq (m_active h8 hk hv3), bd_eq (m_active h8 hj hv3)]
        refine ok_b2 (P := fun q => q.1 = tigI S.2.2 S.1 S.2.1 k (j + 1) x2 ∧ fr askP (mset μ1 (0, 32, 0) 0 0) q.2) ?_ ?_
        · rw [tigI_s, ← p1]
          unfold tigT
          by_cases e : nI k = nI j
          · have : k = j := (nI_inj' (by omega) (by omega)).mp e
            rw [if_pos e, decide_eq_false (fun q => q this), Bool.false_and, if_neg (by decide)]
            exact ok_some ⟨rfl, p3⟩
          · rw [if_neg e, decide_eq_true (show k ≠ j from fun q => e (by rw [q])), Bool.true_and]
            cases tbit (actS S.2.1 S.1) k
            · rw [if_pos b2i_f, Bool.false_and, if_neg (by decide)]
              exact ok_some ⟨rfl, p3⟩
            · rw [if_neg b2i_t, Bool.true_and]
              cases tbit (actS S.2.1 S.1) j
              · rw [if_pos b2i_f, if_neg (by decide)]
                exact ok_some ⟨rfl, p3⟩
              · rw [if_neg b2i_t, if_pos rfl]
                refine ok_b2 (m_law hv3 ho.1 (by omega) (by omega)) ?_
                rintro x μ4 ⟨q1, q2⟩
                dsimp only at q1 q2
                rw [bd_eq (show f_X12_of (nI k) 0 μ4 = some (nd S.2.1 k 0) from ofV (w := 0) ((ask_vec q2).trans hv3) rfl (by omega) (by omega)), zlt_s, q1]
                exact ok_some ⟨rfl, fr_trans p3 q2⟩
        · rintro x μ4 ⟨q1, q2⟩
          exact ok_some ⟨_, rfl, q1, nI_1 j, q2⟩
      · rintro ⟨x8, x9, μ3⟩ ⟨p1, p2, p3⟩
        dsimp only at p1 p2 p3
        subst p2
        rw [un3_s, v3 p3, if_pos (nI_le (Nat.le_refl _) (by omega))]
        exact ok_some ⟨_, rfl, by dsimp only; rw [p1, u1, tigS_s], p3⟩
      · rintro x μ4 ⟨q1, q2⟩
        exact ok_some ⟨_, rfl, q1, nI_1 k, q2⟩
    · rintro ⟨x2, x3, μ2⟩ ⟨u1, u2, u3⟩
      dsimp only at u1 u2 u3
      subst u2
      rw [un3_s, v3 u3, if_pos (nI_le (Nat.le_refl _) (by omega))]
      exact ok_some ⟨_, rfl, u1, u3⟩
    · rintro x μ2 ⟨u1, u2⟩
      dsimp only at u1 u2
      rw [zlt_s, u1]
      exact ok_some ⟨rfl, fr_mono u2 (fun o i h => ask_ms h)⟩
end PH
