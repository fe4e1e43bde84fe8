/-! acts on both sides -/
theorem ok_b2i {α β : Type} {x : Option (α × β)} {P : α × β → Prop} (h : ok x P) : ok (bd2 x (fun a b => some (a, b))) P := ok_b2 h (fun a b h => ok_some h)
theorem ok_b1i {α : Type} {x : Option α} {P : α → Prop} (h : ok x P) : ok (bd x (fun a => some a)) P := ok_b1 h (fun a h => ok_some h)
section OR
variable {y : ZLay}
theorem BN_ns {v : Vec} {k j w : Nat} {x : Int32} (hw : w < 11) (h : BN v j) (hx : (w = 0 ∧ rng x (-999) 999) ∨ (w = 1 ∧ rng x (-9) 9) ∨ (w = 2 ∧ rng x (-9) 9) ∨ (w = 3 ∧ rng x 0 3) ∨ w = 4 ∨ w = 5 ∨ w = 6 ∨ w = 7 ∨ (w = 8 ∧ rng x 0 100) ∨ (w = 9 ∧ rng x 0 3) ∨ (w = 10 ∧ rng x 0 99)) : BN (ns v k w x) j := by
  obtain ⟨h0, h1, h2, h3, h8, h9, h10⟩ := h
  by_cases e : j = k
  · subst e
    unfold BN
    rw [nd_ns hw (by omega), nd_ns hw (by omega), nd_ns hw (by omega), nd_ns hw (by omega), nd_ns hw (by omega), nd_ns hw (by omega), nd_ns hw (by omega)]
    rcases hx with ⟨rfl, hx⟩ | ⟨rfl, hx⟩ | ⟨rfl, hx⟩ | ⟨rfl, hx⟩ | rfl | rfl | rfl | rfl | ⟨rfl, hx⟩ | ⟨rfl, hx⟩ | ⟨rfl, hx⟩ <;> simp only [true_and, Nat.reduceEqDiff, if_false, if_true]
    · exact ⟨hx, h1, h2, h3, h8, h9, h10⟩
    · exact ⟨h0, hx, h2, h3, h8, h9, h10⟩
    · exact ⟨h0, h1, hx, h3, h8, h9, h10⟩
    · exact ⟨h0, h1, h2, hx, h8, h9, h10⟩
    · exact ⟨h0, h1, h2, h3, h8, h9, h10⟩
    · exact ⟨h0, h1, h2, h3, h8, h9, h10⟩
    · exact ⟨h0, h1, h2, h3, h8, h9, h10⟩
    · exact ⟨h0, h1, h2, h3, h8, h9, h10⟩
    · exact ⟨h0, h1, h2, h3, hx, h9, h10⟩
    · exact ⟨h0, h1, h2, h3, h8, hx, h10⟩
    · exact ⟨h0, h1, h2, h3, h8, h9, hx⟩
  · unfold BN
    rw [ns_far hw (by omega) e, ns_far hw (by omega) e, ns_far hw (by omega) e, ns_far hw (by omega) e, ns_far hw (by omega) e, ns_far hw (by omega) e, ns_far hw (by omega) e]
    exact ⟨h0, h1, h2, h3, h8, h9, h10⟩
theorem okC_ns {c k w : Nat} {v : Vec} {x : Int32} (hk : k < 8) (hw : w < 11) (h : okC c v) (h5 : w = 5 → isS x) (hx : (w = 0 ∧ rng x (-999) 999) ∨ (w = 1 ∧ rng x (-9) 9) ∨ (w = 2 ∧ rng x (-9) 9) ∨ (w = 3 ∧ rng x 0 3) ∨ w = 4 ∨ w = 5 ∨ w = 6 ∨ w = 7 ∨ (w = 8 ∧ rng x 0 100) ∨ (w = 9 ∧ rng x 0 3) ∨ (w = 10 ∧ rng x 0 99)) : okC c (ns v k w x) := by
  obtain ⟨hW, hB1, hB2, hB3, hB4⟩ := h
  refine ⟨(okV_ns (v0 := v) ⟨hW, fun _ _ => rfl⟩ hk hw h5).1, fun j hj => BN_ns hw (hB1 j hj) hx, ?_, ?_, ?_⟩
  · rw [ns_low (by omega)]; exact hB2
  · rw [ns_low (by omega)]; exact hB3
  · rw [ns_low (by omega)]; exact hB4
theorem ns_T {k w : Nat} {v : Vec} {x : Int32} (hk : k < 8) (hw : w < 11) : sameT (ns v k w x) v := by
  intro i hi
  rcases hi with rfl | rfl | hi
  · exact ns_low (by omega)
  · exact ns_low (by omega)
  · exact ns_high hk hw (by omega)
theorem LawM_T {u v : Vec} {L : LawS} (h : LawM v L) (hT : sameT u v) : LawM u L := fun c μ hs hW k hk => h c μ (sameT_trans hs hT) hW k hk
theorem OS_v {S : SV} {c' : Nat} {v' : Vec} (h : OS S) (h1 : okC c' v') (hT : sameT v' S.2.1) (h0 : v' 0 = S.2.1 0) : OS (c', v', S.2.2) :=
  ⟨h1, h.2.1, LawM_T h.2.2.1 hT, by show rng (v' 0) 0 12; rw [h0]; exact h.2.2.2.1, fun j hj => by show v' j = 0; rw [hT j (Or.inr (Or.inr (by omega)))]; exact h.2.2.2.2 j hj⟩
theorem sameT_symm {u v : Vec} (h : sameT u v) : sameT v u := fun i hi => (h i hi).symm
theorem OA_v {S : SV} {tp : Vec} {tl : Nat} {kp : Option SV} {ac : List (Nat × Vec)} {c' : Nat} {v' : Vec} (h : OA S tp tl kp ac) (h1 : okC c' v') (hT : sameT v' S.2.1) (h0 : v' 0 = S.2.1 0) : OA (c', v', S.2.2) tp tl kp ac :=
  ⟨OS_v h.1 h1 hT h0, h.2.1, h.2.2.1, h.2.2.2.1, h.2.2.2.2.1, fun i hi => ⟨(h.2.2.2.2.2 i hi).1, sameT_trans (h.2.2.2.2.2 i hi).2 (sameT_symm hT)⟩⟩
variable {μ : ZMem} {S S' : SV} {tp tp' : Vec} {tl tl' : Nat} {fa fa' : Int32} {kp kp' : Option SV} {ac ac' : List (Nat × Vec)}
/-- the class sets a number of node k -/
theorem c_setn {k w : Nat} {x : Int32} (h : RC y μ S tp tl fa kp ac) (hk : k < S.1) (hw : w < 11) : RC y (mset μ (3, 0, k) w x) (S.1, ns S.2.1 k w x, S.2.2) tp tl fa kp ac ∧ fr clO μ (mset μ (3, 0, k) w x) := by
  have h8 := h.1.1.1
  exact ⟨RC_setv (P := fun o _ => o = (3, 0, k)) h (fr_mset rfl) (fun o i h => Or.inl (by cases h; exact cls_nd)) (CS_ns h.1.1 hk hw) (ns_low (by omega)) (ns_low (by omega)), fr_mset (Or.inl (by intro h; simp at h))⟩
theorem m_setv {v' : Vec} (h : RMo μ S tp tl fa kp ac) : RMo (mput μ MV0 v') (S.1, v', S.2.2) tp tl fa kp ac ∧ fr mdO μ (mput μ MV0 v') :=
  ⟨RM_setv (P := fun o _ => o = MV0) h (fr_mput (fun _ => rfl)) (fun o i h => h) mput_at, fr_mput (fun _ => ⟨rfl, by decide⟩)⟩
theorem RM_at (h : RMo μ S tp tl fa kp ac) : μ MV0 = S.2.1 := h.1
theorem m_sets {i : Nat} {I x : Int32} (hI : I = nI i) (hi : i < 737) (h : RMo μ S tp tl fa kp ac) (h12 : ac.length ≤ 12) : ok (f_X12_sets I x μ) (fun q => q.1 = S.2.1 i ∧ RMo q.2 (S.1, vset S.2.1 i x, S.2.2) tp tl fa kp (more ac (S.1, S.2.1)) ∧ fr mdO μ q.2 ∧ q.2 MO0 0 = μ MO0 0) := by
  subst hI
  unfold f_X12_sets
  refine ok_b1 (m_remembers h h12) ?_
  rintro μ1 ⟨r1, f1⟩
  have hv : μ1 (0, 33, 0) = S.2.1 := r1.1
  rw [gd_eq (zin_nI hi (by omega)), nI_cl (by omega), zlt_s, zlt_s, hv, mset_eq, hv]
  obtain ⟨a, b⟩ := m_setv (v' := vset S.2.1 i x) r1
  refine ok_some ⟨rfl, a, fr_trans (fr_mono f1 (fun o i h => rem_md h)) b, ?_⟩
  dsimp only
  rw [mput_ne (by decide), f1.1 _ _ (by rintro (h | ⟨-, h⟩); exact absurd h (by decide); omega)]
theorem rng_in {a lo hi : Int32} {x z : Int} (h1 : ¬ a < lo) (h2 : a ≤ hi) (e1 : lo.toInt = x) (e2 : hi.toInt = z) : rng a x z := rng_of (Int32.not_lt.mp h1) h2 e1 e2
theorem OA_len (h : OA S tp tl kp ac) : ac.length ≤ 12 := h.2.2.2.2.1
theorem OA_c (h : OA S tp tl kp ac) : S.1 ≤ 8 := h.1.1.1.1
theorem OA_3 (h : OA S tp tl kp ac) : S.2.1 3 = nI S.1 := h.1.1.1.2.1
/-- refusals change nothing -/
theorem op_ref {F : ZMem → Option ((Int32 ⊕ Nat) × ZMem)} {G : ZMem → Option (Int32 × ZMem)} {cm : Nat → Nat} {k : Nat} (hc : RC y μ S tp tl fa kp ac) (hm : RMo μ S tp tl fa kp ac) (ho : OA S tp tl kp ac) (hk : 1 ≤ cm k ∧ cm k ≤ 2) (h1 : F μ = some (.inr k, μ)) (h2 : ∀ μ1, RMo μ1 S tp tl fa kp ac → G μ1 = some (0, mset μ1 MO0 0 (nI (cm k)))) :
    ok (F μ) (fun r => ∀ μ1, fr outP r.2 μ1 → ok (G μ1) (fun q => agr cm r.1 (q.2 MO0 0) q.1 ∧ INV y q.2)) := by
  refine op_x (A := .inr k) (fa' := fa) hm ?_ ?_ ho
  · rw [h1]; exact ok_some ⟨rfl, hc, fr_refl⟩
  · intro μ1 r1
    rw [h2 μ1 r1]
    exact ok_some ⟨⟨(show (mset μ1 MO0 0 (nI (cm k))) MO0 0 = _ from mset_at), hk⟩, thr_RM r1, ms_fr thr_fr⟩
def cmA (k : Nat) : Nat := if k = 1 then 1 else 2
def cmB (k : Nat) : Nat := if k = 3 then 1 else 2
def cm1 (_ : Nat) : Nat := 1
theorem b2i_t : ¬ b2i true = 0 := by decide
theorem b2i_f : b2i false = 0 := by decide
theorem thr_0 {μ : ZMem} {x : Int32} : (mset μ (0, 32, 0) 0 x) (0, 32, 0) 0 = x := mset_at
theorem nle0 {n : Nat} (h : 1 ≤ n ∧ n ≤ 2) : ¬ nI n ≤ 0 := nI_nle (by omega) (by omega)
theorem m_node0 {a : Int32} (h : RMo μ S tp tl fa kp ac) (ho : OA S tp tl kp ac) : f_X12_isNode a μ = some (b2i (nodeB S.1 a)) := m_isNode h.1 (OA_3 ho) (OA_c ho)
theorem OP_set {a1 a2 : Int32} : OPx y cmB (f_X11_set a1 a2) (f_X12_set a1 a2) := by
  rintro μ ⟨S, tp, tl, fa, kp, ac, hc, hm, ho⟩
  have h8 := OA_c ho
  cases hn : nodeB S.1 a1
  · refine op_ref (k := 3) hc hm ho (by decide) ?_ ?_
    · unfold f_X11_set
      rw [bd_eq (c_isNode hc.1), hn, if_pos b2i_f]
    · intro μ1 r1
      unfold f_X12_set
      rw [bd_eq (m_node0 r1 ho), hn, if_pos b2i_f, bd_s, zlt_s, thr_0, if_neg (by decide)]
      rfl
  · obtain ⟨k, hk, rfl⟩ := nodeB_t h8 hn
    by_cases hr : -999 ≤ a2 ∧ a2 ≤ 999
    · have hx : rng a2 (-999) 999 := rng_of hr.1 hr.2 (by decide) (by decide)
      have e0 : ns S.2.1 k 0 a2 = vset S.2.1 (9 + 11 * k + 0) a2 := rfl
      refine op_x (A := .inl (nd S.2.1 k 0)) (S' := (S.1, ns S.2.1 k 0 a2, S.2.2)) (tp' := tp) (tl' := tl) (fa' := fa) (kp' := kp) (ac' := more ac (S.1, S.2.1)) hm ?_ ?_ (OA_v (OA_more ho) (okC_ns (by omega) (by omega) ho.1.1 (by omega) (Or.inl ⟨rfl, hx⟩)) (ns_T (by omega) (by omega)) (ns_low (by omega)))
      · unfold f_X11_set
        rw [bd_eq (c_isNode hc.1), hn, if_neg b2i_t, jk_s, if_neg (Int32.not_lt.mpr hr.1), if_pos hr.2]
        refine ok_b1 (c_remember hc (OA_len ho)) ?_
        rintro μ1 ⟨r1, f1⟩
        obtain ⟨r2, f2⟩ := c_setn (w := 0) (x := a2) r1 hk (by omega)
        rw [gd_eq (zin_nI (by omega) (by omega)), nI_cl (by omega), zlt_s, zlt_s, CS_nd r1.1.1 hk (by omega)]
        exact ok_some ⟨rfl, r2, fr_trans f1 f2⟩
      · intro μ1 r1
        unfold f_X12_set
        rw [bd_eq (m_node0 r1 ho), hn, if_neg b2i_t, bd_eq m_isIn, decide_eq_true hr, if_neg b2i_t, bd_s, zlt_s, thr_0, if_pos (by decide)]
        refine ok_b2 (ok_b2i (m_sets (i := 9 + 11 * k + 0) (ix_eq (w := 0) rfl) (by omega) (thr_RM r1) (OA_len ho))) ?_
        rintro x μ2 ⟨w1, w2, w3, w4⟩
        refine ok_some ⟨⟨?_, w1⟩, w2, fr_trans (ms_fr thr_fr) w3⟩
        rw [w4]
        exact thr_0
    · refine op_ref (k := 1) hc hm ho (by decide) ?_ ?_
      · unfold f_X11_set
        rw [bd_eq (c_isNode hc.1), hn, if_neg b2i_t, jk_s]
        by_cases h1 : a2 < -999
        · rw [if_pos h1]
        · rw [if_neg h1, if_neg (fun h2 => hr ⟨Int32.not_lt.mp h1, h2⟩)]
      · intro μ1 r1
        unfold f_X12_set
        rw [bd_eq (m_node0 r1 ho), hn, if_neg b2i_t, bd_eq m_isIn, decide_eq_false hr, if_pos b2i_f, bd_s, zlt_s, thr_0, if_neg (by decide)]
        rfl
theorem OP_tune {a1 a2 : Int32} : OPx y cm1 (f_X11_tune a1 a2) (f_X12_tune a1 a2) := by
  rintro μ ⟨S, tp, tl, fa, kp, ac, hc, hm, ho⟩
  by_cases hr : 1 ≤ a2 ∧ a2 ≤ 999
  · have hx : rng a2 1 999 := rng_of hr.1 hr.2 (by decide) (by decide)
    have key : ∀ i : Nat, ((a1 = 0 ∧ i = 4) ∨ (¬ a1 = 0 ∧ i = 5)) → ok (f_X11_tune a1 a2 μ) (fun r => ∀ μ1, fr outP r.2 μ1 → ok (f_X12_tune a1 a2 μ1) (fun q => agr cm1 r.1 (q.2 MO0 0) q.1 ∧ INV y q.2)) := by
      intro i hi
      have hT : sameT (vset S.2.1 i a2) S.2.1 := fun j hj => vset_ne (by omega)
      have h9 : S.2.1 i = S.2.1 i := rfl
      refine op_x (A := .inl (S.2.1 i)) (S' := (S.1, vset S.2.1 i a2, S.2.2)) (tp' := tp) (tl' := tl) (fa' := fa) (kp' := kp) (ac' := more ac (S.1, S.2.1)) hm ?_ ?_ (OA_v (OA_more ho) (okC_set ho.1.1 (Or.inl ⟨by omega, hx⟩)) hT (vset_ne (by omega)))
      · unfold f_X11_tune
        rw [jk_s, if_neg (Int32.not_lt.mpr hr.1), if_pos hr.2]
        refine ok_b1 (c_remember hc (OA_len ho)) ?_
        rintro μ1 ⟨r1, f1⟩
        rw [zlt_s, zlt_s]
        have fin : ∀ w : Nat, (w = 5 ∧ i = 4 ∨ w = 6 ∧ i = 5) → ok (some (.inl (S.2.1 i), mset μ1 (1, 0, 0) w a2) : Option ((Int32 ⊕ Nat) × ZMem)) (fun r => r.1 = .inl (S.2.1 i) ∧ RC y r.2 (S.1, vset S.2.1 i a2, S.2.2) tp tl fa kp (more ac (S.1, S.2.1)) ∧ fr clO μ r.2) := by
          intro w hw
          refine ok_some ⟨rfl, ?_, fr_trans f1 (fr_mset (Or.inl (by decide)))⟩
          exact RC_setv (P := fun o i => o = (1, 0, 0) ∧ (i = 5 ∨ i = 6)) r1 (fr_mset ⟨rfl, by omega⟩) (fun o i h => Or.inr (Or.inl ⟨h.1, by omega⟩)) (CS_win_set r1.1.1 (by omega)) (vset_ne (by omega)) (vset_ne (by omega))
        rcases hi with ⟨z, rfl⟩ | ⟨z, rfl⟩
        · rw [if_pos z, if_pos z, CS_win r1.1.1]
          exact fin 5 (Or.inl ⟨rfl, rfl⟩)
        · rw [if_neg z, if_neg z, CS_pre r1.1.1]
          exact fin 6 (Or.inr ⟨rfl, rfl⟩)
      · intro μ1 r1
        unfold f_X12_tune
        rw [bd_eq m_isIn, decide_eq_true hr, if_neg b2i_t, zlt_s, zlt_s, thr_0, if_pos (by decide), zlt_s]
        have hI : (if a1 = 0 then (4 : Int32) else 5) = nI i := by
          rcases hi with ⟨z, rfl⟩ | ⟨z, rfl⟩
          · rw [if_pos z]; rfl
          · rw [if_neg z]; rfl
        refine ok_b2 (ok_b2i (m_sets hI (by omega) (thr_RM r1) (OA_len ho))) ?_
        rintro x μ2 ⟨w1, w2, w3, w4⟩
        refine ok_some ⟨⟨?_, w1⟩, w2, fr_trans (ms_fr thr_fr) w3⟩
        rw [w4]
        exact thr_0
    by_cases z : a1 = 0
    · exact key 4 (Or.inl ⟨z, rfl⟩)
    · exact key 5 (Or.inr ⟨z, rfl⟩)
  · refine op_ref (k := 1) hc hm ho (by decide) ?_ ?_
    · unfold f_X11_tune
      rw [jk_s]
      by_cases h1 : a2 < 1
      · rw [if_pos h1]
      · rw [if_neg h1, if_neg (fun h2 => hr ⟨Int32.not_lt.mp h1, h2⟩)]
    · intro μ1 r1
      unfold f_X12_tune
      rw [bd_eq m_isIn, decide_eq_false hr, if_pos b2i_f, zlt_s, zlt_s, thr_0, if_neg (by decide)]
      rfl
end OR
