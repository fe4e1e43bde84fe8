/-! acts on both sides: seed, count, log, led, undo, image, back -/
section OU
variable {y : ZLay} {μ : ZMem} {S S' : SV} {tp tp' : Vec} {tl tl' : Nat} {fa fa' : Int32} {kp kp' : Option SV} {ac ac' : List (Nat × Vec)}
theorem RM_put {v' : Vec} {μ' : ZMem} {P : ZId → Nat → Prop} (h : RMo μ S tp tl fa kp ac) (f : fr P μ μ') (hP : ∀ o i, P o i → o = MV0 ∨ msP o i) (hv : μ' MV0 = v') : RMo μ' (S.1, v', S.2.2) tp tl fa kp ac := by
  have h1 : RMo (mput μ MV0 v') (S.1, v', S.2.2) tp tl fa kp ac := (m_setv h).1
  refine RM_ms h1 ⟨fun o i hn => ?_, ?_, ?_⟩
  · by_cases e : o = MV0
    · subst e; rw [mput_at, hv]
    · rw [mput_ne e]
      exact f.1 o i (fun h => (hP o i h).elim e hn)
  · rw [mput_ne (by decide)]; exact f.2.1
  · rw [mput_ne (by decide)]; exact f.2.2
theorem op_q {F : ZMem → Option ((Int32 ⊕ Nat) × ZMem)} {G : ZMem → Option (Int32 × ZMem)} {cm : Nat → Nat} {A : Int32 ⊕ Nat} (hc : RC y μ S tp tl fa kp ac) (hm : RMo μ S tp tl fa kp ac) (ho : OA S tp tl kp ac) (h1 : ok (F μ) (fun r => r.1 = A ∧ fr scP μ r.2)) (h2 : ∀ μ1, RMo μ1 S tp tl fa kp ac → ok (G μ1) (fun q => agr cm A (q.2 MO0 0) q.1 ∧ fr msP μ1 q.2)) :
    ok (F μ) (fun r => ∀ μ1, fr outP r.2 μ1 → ok (G μ1) (fun q => agr cm r.1 (q.2 MO0 0) q.1 ∧ INV y q.2)) := by
  refine op_x (A := A) (fa' := fa) hm (ok_mono h1 ?_) ?_ ho
  · rintro r ⟨a, b⟩
    exact ⟨a, RC_sc hc b, fr_mono b (fun o i h => sc_cl h)⟩
  · intro μ1 r1
    refine ok_mono (h2 μ1 r1) ?_
    rintro q ⟨a, b⟩
    exact ⟨a, RM_ms r1 b, ms_fr b⟩
theorem CS_seed {μ : ZMem} {s c : Nat} {v : Vec} {a : Int32} (h : CS μ s c v) : CS (mset μ (1, s, 0) 8 a) s c (vset v 8 a) := by
  obtain ⟨h8, h1, h2, h3, h4, h5, h6, h7, h9⟩ := h
  have e4 : (mset μ (1, s, 0) 8 a) (4, s, 0) = μ (4, s, 0) := mset_ne (zne (by decide))
  refine ⟨h8, by rw [mset_k (by decide), h1], by rw [vset_ne (by decide), h2], by rw [mset_k (by decide), h3, vset_ne (by decide)], by rw [mset_k (by decide), h4, vset_ne (by decide)], by rw [mset_k (by decide), h5, vset_ne (by decide)], by rw [mset_at, vset_at], ?_, ?_⟩
  · intro k hk x hx
    rw [mset_ne (zne (by decide)), h7 k hk x hx]
    unfold nd
    rw [vset_ne (by omega)]
  · exact ring_congr h9 (mset_k (by decide)) (mset_k (by decide)) e4 (vset_ne (by decide)) (fun i h1 h2 => vset_ne (by omega))
theorem okC_8 {c : Nat} {v : Vec} {x : Int32} (h : okC c v) : okC c (vset v 8 x) := by
  obtain ⟨⟨w1, w2, w3⟩, b1, b4, b5, b6⟩ := h
  have hn : ∀ k w, nd (vset v 8 x) k w = nd v k w := fun k w => by unfold nd; rw [vset_ne (by omega)]
  refine ⟨⟨w1, by rw [vset_ne (by omega)]; exact w2, fun k hk => by rw [hn]; exact w3 k hk⟩, fun k hk => ?_, ?_, ?_, ?_⟩
  · unfold BN
    rw [hn, hn, hn, hn, hn, hn, hn]
    exact b1 k hk
  · rw [vset_ne (by omega)]; exact b4
  · rw [vset_ne (by omega)]; exact b5
  · rw [vset_ne (by omega)]; exact b6
theorem OP_seed {a1 : Int32} : OPn y (f_X11_seed a1) (f_X12_seed a1) := by
  rintro μ ⟨S, tp, tl, fa, kp, ac, hc, hm, ho⟩
  have hT : sameT (vset S.2.1 8 a1) S.2.1 := fun j hj => vset_ne (by omega)
  refine op_n (A := S.2.1 8) (S' := (S.1, vset S.2.1 8 a1, S.2.2)) (tp' := tp) (tl' := tl) (fa' := fa) (kp' := kp) (ac' := ac) hm ?_ ?_ (OA_v ho (okC_8 ho.1.1) hT (vset_ne (by omega)))
  · unfold f_X11_seed
    rw [zlt_s, zlt_s, show μ (1, 0, 0) 8 = S.2.1 8 from hc.1.1.2.2.2.2.2.2.1]
    exact ok_some ⟨rfl, RC_setv (P := fun o i => o = (1, 0, 0) ∧ i = 8) hc (fr_mset ⟨rfl, rfl⟩) (fun o i h => Or.inl (Or.inr (Or.inl ⟨h.1, by omega⟩))) (CS_seed hc.1.1) (vset_ne (by omega)) (vset_ne (by omega)), fr_mset (Or.inl (by decide))⟩
  · intro μ1 r1
    unfold f_X12_seed
    rw [zlt_s, zlt_s, zlt_s, mset_ne (by decide), show μ1 (0, 33, 0) 8 = S.2.1 8 by rw [show μ1 (0, 33, 0) = S.2.1 from r1.1], mset_eq, mset_ne (by decide), show μ1 (0, 33, 0) = S.2.1 from r1.1]
    obtain ⟨r2, f2⟩ := m_setv (v' := vset S.2.1 8 a1) (thr_RM (x := 0) r1)
    exact ok_some ⟨rfl, r2, fr_trans (ms_fr thr_fr) f2⟩
theorem in35 {a : Int32} (h : 3 ≤ a ∧ a ≤ 5) : a = 3 ∨ a = 4 ∨ a = 5 := by
  have h1 := Int32.le_iff_toInt_le.mp h.1
  have h2 := Int32.le_iff_toInt_le.mp h.2
  have e3 : (3 : Int32).toInt = 3 := by decide
  have e4 : (4 : Int32).toInt = 4 := by decide
  have e5 : (5 : Int32).toInt = 5 := by decide
  have : a.toInt = 3 ∨ a.toInt = 4 ∨ a.toInt = 5 := by omega
  rcases this with h | h | h
  · exact Or.inl (Int32.toInt_inj.mp (h.trans e3.symm))
  · exact Or.inr (Or.inl (Int32.toInt_inj.mp (h.trans e4.symm)))
  · exact Or.inr (Or.inr (Int32.toInt_inj.mp (h.trans e5.symm)))
theorem OP_count {a1 : Int32} : OPr y (f_X11_count a1) (f_X12_count a1) := by
  rintro μ ⟨S, tp, tl, fa, kp, ac, hc, hm, ho⟩
  have h8 := OA_c ho
  have hC := hc.1.1
  have hv0 : (mset μ (0, 32, 0) 0 0) (0, 33, 0) = S.2.1 := (mset_ne (by decide)).trans hm.1
  have fin : ∀ {x : Int32} {X : Option (Int32 × ZMem)}, X = some (x, mset μ (0, 32, 0) 0 0) → ok X (fun q => q.1 = x ∧ RMo q.2 S tp tl fa kp ac ∧ fr mdO μ q.2) := fun e => ok_eq e ⟨rfl, thr_RM hm, ms_fr thr_fr⟩
  have nin : ¬ (3 ≤ a1 ∧ a1 ≤ 5) → b2i (decide (3 ≤ a1 ∧ a1 ≤ 5)) = 0 := fun h => by rw [decide_eq_false h]; rfl
  by_cases z0 : a1 = 0
  · subst z0
    refine op_r (A := nI S.1) hc ho (by unfold f_X11_count; rw [if_pos rfl, CS_c hC]) ?_
    unfold f_X12_count
    rw [zlt_s, if_pos rfl, hv0, OA_3 ho]
    exact fin rfl
  by_cases z1 : a1 = 1
  · subst z1
    refine op_r (A := S.2.1 0) hc ho (by unfold f_X11_count; rw [if_neg (by decide), if_pos rfl, hc.1.2.1]) ?_
    unfold f_X12_count
    rw [zlt_s, if_neg (by decide), if_pos rfl, hv0]
    exact fin rfl
  by_cases z2 : a1 = 2
  · subst z2
    refine op_r (A := S.2.1 1) hc ho (by unfold f_X11_count; rw [if_neg (by decide), if_neg (by decide), if_pos rfl]; exact congrArg some hc.1.2.2.2) ?_
    unfold f_X12_count
    rw [zlt_s, if_neg (by decide), if_neg (by decide), if_pos rfl, hv0]
    exact fin rfl
  by_cases z3 : a1 = 3
  · subst z3
    refine op_r (A := S.2.1 4) hc ho (by unfold f_X11_count; rw [if_neg (by decide), if_neg (by decide), if_neg (by decide), if_pos rfl, CS_win hC]) ?_
    unfold f_X12_count
    rw [zlt_s, if_neg (by decide), if_neg (by decide), if_neg (by decide), bd_eq m_isIn, if_neg (by decide), hv0]
    exact fin rfl
  by_cases z4 : a1 = 4
  · subst z4
    refine op_r (A := S.2.1 5) hc ho (by unfold f_X11_count; rw [if_neg (by decide), if_neg (by decide), if_neg (by decide), if_neg (by decide), if_pos rfl, CS_pre hC]) ?_
    unfold f_X12_count
    rw [zlt_s, if_neg (by decide), if_neg (by decide), if_neg (by decide), bd_eq m_isIn, if_neg (by decide), hv0]
    exact fin rfl
  by_cases z5 : a1 = 5
  · subst z5
    refine op_r (A := S.2.1 6) hc ho (by unfold f_X11_count; rw [if_neg (by decide), if_neg (by decide), if_neg (by decide), if_neg (by decide), if_neg (by decide), if_pos rfl, CS_rd hC]) ?_
    unfold f_X12_count
    rw [zlt_s, if_neg (by decide), if_neg (by decide), if_neg (by decide), bd_eq m_isIn, if_neg (by decide), hv0]
    exact fin rfl
  have n35 : ¬ (3 ≤ a1 ∧ a1 ≤ 5) := fun h => by rcases in35 h with h | h | h <;> contradiction
  by_cases z6 : a1 = 6
  · refine op_r (A := nI (pc (actS S.2.1 S.1))) hc ho (by unfold f_X11_count; rw [if_neg z0, if_neg z1, if_neg z2, if_neg z3, if_neg z4, if_neg z5, if_pos z6, bd_eq (CS_act hC), bc_eq (x := actS S.2.1 S.1) (isS_bset h8)]) ?_
    unfold f_X12_count
    rw [zlt_s, if_neg z0, if_neg z1, if_neg z2, bd_eq m_isIn, nin n35, if_pos rfl, if_pos z6, bd_eq (m_inState_eq (c := S.1) (by rw [show (mset μ (0, 32, 0) 0 0) MV0 = S.2.1 from hv0]; exact OA_3 ho) h8), show (mset μ (0, 32, 0) 0 0) MV0 = S.2.1 from hv0, bd_eq (bits_eq (isS_bset h8))]
    exact fin rfl
  by_cases z7 : a1 = 7
  · obtain ⟨n, r, r1, r2, r3, r4, -⟩ := hC.2.2.2.2.2.2.2.2
    refine op_r (A := nI n) hc ho (by unfold f_X11_count; rw [if_neg z0, if_neg z1, if_neg z2, if_neg z3, if_neg z4, if_neg z5, if_neg z6, if_pos z7, r3]) ?_
    unfold f_X12_count
    rw [zlt_s, if_neg z0, if_neg z1, if_neg z2, bd_eq m_isIn, nin n35, if_pos rfl, if_neg z6, if_pos z7, hv0, r4]
    exact fin rfl
  by_cases z8 : a1 = 8
  · obtain ⟨nx, -, -, h8', -⟩ := hc.2.2.2.2.2
    refine op_r (A := nI ac.length) hc ho (by unfold f_X11_count; rw [if_neg z0, if_neg z1, if_neg z2, if_neg z3, if_neg z4, if_neg z5, if_neg z6, if_neg z7, if_pos z8, h8']) ?_
    unfold f_X12_count
    rw [zlt_s, if_neg z0, if_neg z1, if_neg z2, bd_eq m_isIn, nin n35, if_pos rfl, if_neg z6, if_neg z7, if_pos z8, zlt_s, mset_k (by decide), show μ (0, 32, 0) 6 = nI ac.length from hm.2.2.2.2.2.1]
    exact fin rfl
  refine op_r (A := -1) hc ho (by unfold f_X11_count; rw [if_neg z0, if_neg z1, if_neg z2, if_neg z3, if_neg z4, if_neg z5, if_neg z6, if_neg z7, if_neg z8]) ?_
  unfold f_X12_count
  rw [zlt_s, if_neg z0, if_neg z1, if_neg z2, bd_eq m_isIn, nin n35, if_pos rfl, if_neg z6, if_neg z7, if_neg z8, zlt_s]
  exact fin rfl
/-- the rows of the log -/
theorem rem60' {m : Nat} (h : m < 120) : zrem (nI m) 60 = nI (m % 60) := by
  have : ∀ m : Fin 120, zrem (nI m.val) 60 = nI (m.val % 60) := by decide +kernel
  exact this ⟨m, h⟩
def rowS (v : Vec) (n : Nat) (a : Int32) (i : Nat) : Int32 := if 0 ≤ a ∧ a < nI n then v (97 + 4 * a.toNatClampNeg + i) else -1
theorem in_n {a : Int32} {n : Nat} (hn : n ≤ 1000) (h : 0 ≤ a ∧ a < nI n) : ∃ k, k < n ∧ a = nI k := by
  obtain ⟨h1, h2⟩ := h
  rw [Int32.lt_iff_toInt_lt, nI_toInt (by omega)] at h2
  rw [Int32.le_iff_toInt_le] at h1
  have e0 : (0 : Int32).toInt = 0 := by decide
  refine ⟨a.toInt.toNat, by omega, ?_⟩
  apply Int32.toInt_inj.mp
  rw [nI_toInt (by omega)]
  omega
theorem c_row {s c i n : Nat} {v : Vec} {a : Int32} (h : CS μ s c v) (hi : i < 4) (h7 : v 7 = nI n) (hn : n ≤ 60) : f_X7_rowOf s a (nI i) μ = some (rowS v n a i) := by
  obtain ⟨n', r, r1, r2, r3, r4, r5, r6⟩ := h.2.2.2.2.2.2.2.2
  have en : n' = n := (nI_inj' (by omega) (by omega)).mp (r4.symm.trans h7)
  subst en
  unfold f_X7_rowOf rowS
  rw [jk_s, r3]
  by_cases h1 : a < 0
  · rw [if_pos h1, if_neg (fun q => Int32.not_lt.mpr q.1 h1)]
  · rw [if_neg h1]
    by_cases h2 : nI n' ≤ a
    · rw [if_pos h2, if_neg (fun q => Int32.not_lt.mpr h2 q.2)]
    · have hr : 0 ≤ a ∧ a < nI n' := ⟨Int32.not_lt.mp h1, Int32.not_le.mp h2⟩
      rw [if_neg h2, if_pos hr, if_neg (nI_pos (by omega)), if_pos (show nI i ≤ 3 from nI_le (b := 3) (by omega) (by omega))]
      obtain ⟨k, hk, rfl⟩ := in_n (by omega) hr
      have e1 : nI r + 60 - 1 - nI k = nI (r + 59 - k) := by
        rw [show nI r + 60 = nI (r + 59 + 1) from nI_add r 60, nI_pred, nI_sub (by omega)]
      rw [r5, zlt_s, zlt_s, e1, rem60' (by omega), show (4 : Int32) * nI ((r + 59 - k) % 60) = nI (4 * ((r + 59 - k) % 60)) from (Int32.ofNat_mul 4 _).symm, nI_add, jk_s, if_neg (nI_pos (by omega)), if_neg (show ¬ (240 : Int32) ≤ nI (4 * ((r + 59 - k) % 60) + i) from nI_ge (b := 240) (by omega) (by omega)), gd_eq (zin_nI (by omega) (by omega)), nI_cl (by omega), nI_cl (by omega), bd_s, r6 k hk i hi]
theorem m_row {k i : Nat} {v : Vec} (hv : μ MV0 = v) (hk : k < 60) (hi : i < 4) : f_X12_logged (nI k) (nI i) μ = some (v (97 + 4 * k + i)) := by
  unfold f_X12_logged
  rw [show (97 : Int32) + 4 * nI k = nI (97 + 4 * k) by rw [show (4 : Int32) * nI k = nI (4 * k) from (Int32.ofNat_mul 4 k).symm, show (97 : Int32) = nI 97 from rfl, nI_add], nI_add, gd_eq (zin_nI (by omega) (by omega)), nI_cl (by omega), show μ (0, 33, 0) = v from hv]
theorem S_ring (hc : RC y μ S tp tl fa kp ac) : ∃ n, n ≤ 60 ∧ S.2.1 7 = nI n ∧ μ (1, 0, 0) 2 = nI n := by
  obtain ⟨n, r, r1, r2, r3, r4, r5, r6⟩ := hc.1.1.2.2.2.2.2.2.2.2
  exact ⟨n, r1, r4, r3⟩
theorem nI_m1 {n : Nat} (hn : n ≤ 1000) {a : Int32} : a ≤ nI n - 1 ↔ a < nI n := by
  cases n with
  | zero =>
    rw [Int32.le_iff_toInt_le, Int32.lt_iff_toInt_lt, show nI 0 - 1 = -1 by decide, show nI 0 = 0 from rfl]
    have e1 : (-1 : Int32).toInt = -1 := by decide
    have e2 : (0 : Int32).toInt = 0 := by decide
    omega
  | succ c =>
    rw [nI_pred, Int32.le_iff_toInt_le, Int32.lt_iff_toInt_lt, nI_toInt (by omega), nI_toInt (by omega)]
    omega
theorem in_k {a : Int32} {n : Nat} (h1 : 0 ≤ a) (h2 : a ≤ nI n) (hn : n ≤ 900) : ∃ k, k ≤ n ∧ a = nI k := by
  have h3 : a < nI (n + 1) := by
    rw [Int32.lt_iff_toInt_lt, nI_toInt (by omega)]
    rw [Int32.le_iff_toInt_le, nI_toInt (by omega)] at h2
    omega
  obtain ⟨k, hk, e⟩ := in_n (n := n + 1) (a := a) (by omega) ⟨h1, h3⟩
  exact ⟨k, by omega, e⟩
theorem OP_log {a1 a2 : Int32} : OPx y cm1 (f_X11_log a1 a2) (f_X12_log a1 a2) := by
  rintro μ ⟨S, tp, tl, fa, kp, ac, hc, hm, ho⟩
  obtain ⟨n, hn, h7, -⟩ := S_ring hc
  by_cases hr : 0 ≤ a2 ∧ a2 ≤ 3
  · obtain ⟨i, hi, rfl⟩ := in_k (n := 3) hr.1 hr.2 (by omega)
    refine op_q (A := .inl (rowS S.2.1 n a1 i)) hc hm ho ?_ ?_
    · unfold f_X11_log
      rw [jk_s, if_neg (Int32.not_lt.mpr hr.1), if_pos hr.2, bd_eq (c_row hc.1.1 (by omega) h7 hn)]
      exact ok_some ⟨rfl, fr_refl⟩
    · intro μ1 r1
      unfold f_X12_log
      rw [bd_eq m_isIn, decide_eq_true hr, if_neg b2i_t, zlt_s, zlt_s, thr_0, if_pos (by decide), mset_ne (by decide), show μ1 (0, 33, 0) = S.2.1 from r1.1, h7, bd_eq m_isIn]
      by_cases ha : 0 ≤ a1 ∧ a1 < nI n
      · obtain ⟨k, hk, rfl⟩ := in_n (by omega) ha
        rw [decide_eq_true (p := 0 ≤ nI k ∧ nI k ≤ nI n - 1) ⟨ha.1, (nI_m1 (by omega)).mpr ha.2⟩, if_neg b2i_t, bd_eq (m_row (v := S.2.1) (by rw [mset_ne (by decide)]; exact r1.1) (by omega) (by omega))]
        refine ok_some ⟨⟨(show (mset μ1 MO0 0 0) MO0 0 = 0 from mset_at), ?_⟩, thr_fr⟩
        unfold rowS
        rw [if_pos ha, nI_cl (by omega)]
      · rw [decide_eq_false (p := 0 ≤ a1 ∧ a1 ≤ nI n - 1) (fun q => ha ⟨q.1, (nI_m1 (by omega)).mp q.2⟩), if_pos b2i_f]
        refine ok_some ⟨⟨(show (mset μ1 MO0 0 0) MO0 0 = 0 from mset_at), ?_⟩, thr_fr⟩
        unfold rowS
        rw [if_neg ha]
  · refine op_ref (k := 4) hc hm ho (by decide) ?_ ?_
    · unfold f_X11_log
      rw [jk_s]
      by_cases h1 : a2 < 0
      · rw [if_pos h1]
      · rw [if_neg h1, if_neg (fun h2 => hr ⟨Int32.not_lt.mp h1, h2⟩)]
    · intro μ1 r1
      unfold f_X12_log
      rw [bd_eq m_isIn, decide_eq_false hr, if_pos b2i_f, zlt_s, zlt_s, thr_0, if_neg (by decide)]
      rfl
end OU
