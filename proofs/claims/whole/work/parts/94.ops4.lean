/-! acts on both sides: spoil, add; seed, count, log -/
section OT
variable {y : ZLay} {μ : ZMem} {S S' : SV} {tp tp' : Vec} {tl tl' : Nat} {fa fa' : Int32} {kp kp' : Option SV} {ac ac' : List (Nat × Vec)}
def OPr (y : ZLay) (F : ZMem → Option Int32) (G : ZMem → Option (Int32 × ZMem)) : Prop := ∀ μ, INV y μ → ok (F μ) (fun r => ok (G μ) (fun q => q.1 = r ∧ INV y q.2))
theorem op_r {F : ZMem → Option Int32} {G : ZMem → Option (Int32 × ZMem)} {A : Int32} (hc : RC y μ S tp tl fa kp ac) (ho : OA S tp tl kp ac) (h1 : F μ = some A) (h2 : ok (G μ) (fun q => q.1 = A ∧ RMo q.2 S tp tl fa kp ac ∧ fr mdO μ q.2)) : ok (F μ) (fun r => ok (G μ) (fun q => q.1 = r ∧ INV y q.2)) := by
  rw [h1]
  refine ok_some (ok_mono h2 ?_)
  rintro q ⟨g1, g2, g3⟩
  exact ⟨g1, S, tp, tl, fa, kp, ac, RC_md hc g3, g2, ho⟩
theorem OP_spoil {a1 a2 a3 : Int32} : OPx y cmB (f_X11_spoil a1 a2 a3) (f_X12_spoil a1 a2 a3) := by
  rintro μ ⟨S, tp, tl, fa, kp, ac, hc, hm, ho⟩
  have h8 := OA_c ho
  cases hn : nodeB S.1 a1
  · refine op_ref (k := 3) hc hm ho (by decide) ?_ ?_
    · unfold f_X11_spoil
      rw [bd_eq (c_isNode hc.1), hn, if_pos b2i_f]
    · intro μ1 r1
      unfold f_X12_spoil
      rw [bd_eq (m_node0 r1 ho), hn, if_pos b2i_f, bd_s, zlt_s, thr_0, if_neg (by decide)]
      rfl
  · obtain ⟨k, hk, rfl⟩ := nodeB_t h8 hn
    obtain ⟨hb, hhb⟩ : ∃ hb : Bool, hb = decide (a2 = 1 ∨ a2 = 3) := ⟨_, rfl⟩
    have cby : (if a2 = 1 then some (1 : Int32) else if a2 = 3 then some 1 else some 0) = some (b2i hb) := by
      rw [hhb]
      by_cases z1 : a2 = 1
      · rw [if_pos z1, decide_eq_true (Or.inl z1)]; rfl
      · rw [if_neg z1]
        by_cases z3 : a2 = 3
        · rw [if_pos z3, decide_eq_true (Or.inr z3)]; rfl
        · rw [if_neg z3, decide_eq_false (by rintro (h | h); exact z1 h; exact z3 h)]; rfl
    have mby : ∀ (A B : Option Int32), (if a2 = 1 then A else if a2 = 3 then A else B) = if hb = true then A else B := by
      intro A B
      rw [hhb]
      by_cases z1 : a2 = 1
      · rw [if_pos z1, if_pos (by simp [z1])]
      · rw [if_neg z1]
        by_cases z3 : a2 = 3
        · rw [if_pos z3, if_pos (by simp [z3])]
        · rw [if_neg z3, if_neg (by simp [z1, z3])]
    by_cases hr : (0 ≤ a2 ∧ a2 ≤ 3) ∧ (hb = true → 0 ≤ a3 ∧ a3 ≤ 99)
    · obtain ⟨hr, hr3⟩ := hr
      have hx : rng a2 0 3 := rng_of hr.1 hr.2 (by decide) (by decide)
      obtain ⟨b, hbv⟩ : ∃ b : Int32, b = if hb = true then a3 else 0 := ⟨_, rfl⟩
      have hbr : rng b 0 99 := by
        rw [hbv]
        exact rng_if (fun h => rng_of (hr3 h).1 (hr3 h).2 (by decide) (by decide)) (fun _ => rng_0 (by omega) (by omega))
      refine op_x (A := .inl (nd S.2.1 k 9)) (S' := (S.1, ns (ns S.2.1 k 9 a2) k 10 b, S.2.2)) (tp' := tp) (tl' := tl) (fa' := fa) (kp' := kp) (ac' := more ac (S.1, S.2.1)) hm ?_ ?_ (OA_v (OA_more ho) (okC_ns (by omega) (by omega) (okC_ns (by omega) (by omega) ho.1.1 (by omega) (by simp [hx])) (by omega) (by simp [hbr])) (sameT_trans (ns_T (by omega) (by omega)) (ns_T (by omega) (by omega))) ((ns_low (by omega)).trans (ns_low (by omega))))
      · unfold f_X11_spoil
        rw [bd_eq (c_isNode hc.1), hn, if_neg b2i_t, jk_s, if_neg (Int32.not_lt.mpr hr.1), if_pos hr.2, jk_s, cby, bd_s, jk_s, jk_s]
        have main : ok (bd (f_X6_remember 0 μ) (fun (μ17 : ZMem) => gd (zin (nI k) 8) (zlt (μ17 (3, 0, (nI k).toNatClampNeg) 9) (fun (x19 : Int32) => zlt (mset μ17 (3, 0, (nI k).toNatClampNeg) 9 a2) (fun (μ20 : ZMem) => zlt (α := Int32) (if b2i hb = 0 then 0 else a3) (fun (x22 : Int32) => zlt (mset μ20 (3, 0, (nI k).toNatClampNeg) 10 x22) (fun (μ23 : ZMem) => some (.inl x19, μ23)))))))) (fun (r : (Int32 ⊕ Nat) × ZMem) => r.1 = .inl (nd S.2.1 k 9) ∧ RC y r.2 (S.1, ns (ns S.2.1 k 9 a2) k 10 b, S.2.2) tp tl fa kp (more ac (S.1, S.2.1)) ∧ fr clO μ r.2) := by
          refine ok_b1 (c_remember hc (OA_len ho)) ?_
          rintro μ1 ⟨r1, f1⟩
          obtain ⟨r2, f2⟩ := c_setn (w := 9) (x := a2) r1 hk (by omega)
          obtain ⟨r3, f3⟩ := c_setn (w := 10) (x := b) r2 hk (by omega)
          rw [gd_eq (zin_nI (by omega) (by omega)), nI_cl (by omega), zlt_s, zlt_s, zlt_s, zlt_s, CS_nd r1.1.1 hk (by omega)]
          have eb : (if b2i hb = 0 then 0 else a3) = b := by rw [hbv]; cases hb <;> rfl
          rw [eb]
          exact ok_some ⟨rfl, r3, fr_trans f1 (fr_trans f2 f3)⟩
        cases hb
        · rw [if_pos b2i_f]; exact main
        · rw [if_neg b2i_t, if_neg (Int32.not_lt.mpr (hr3 rfl).1), if_pos (hr3 rfl).2]; exact main
      · intro μ1 r1
        unfold f_X12_spoil
        rw [bd_eq (m_node0 r1 ho), hn, if_neg b2i_t, bd_eq m_isIn, decide_eq_true hr, jk_s, if_neg b2i_t, jk_s, jk_s, mby, bd_eq m_isIn]
        have et : (if hb = true then (if b2i (decide (0 ≤ a3 ∧ a3 ≤ 99)) = 0 then some (2 : Int32) else some 0) else some 0) = some 0 := by
          cases hb
          · rw [if_neg (by decide)]
          · rw [if_pos rfl, decide_eq_true (hr3 rfl), if_neg b2i_t]
        rw [et, bd_s, zlt_s, thr_0, if_pos (by decide)]
        refine ok_b2 (m_sets (i := 9 + 11 * k + 9) (ix_eq (w := 9) rfl) (by omega) (thr_RM r1) (OA_len ho)) ?_
        rintro x μ2 ⟨w1, w2, w3, w4⟩
        dsimp only at w1 w2 w3 w4
        have eb : (if hb = true then some a3 else some 0) = some b := by rw [hbv]; cases hb <;> rfl
        obtain ⟨r3, f3⟩ := m_setv (v' := ns (ns S.2.1 k 9 a2) k 10 b) w2
        rw [jk_s, mby, eb, bd_s, bd_eq (lays10 (by omega)), show μ2 MV0 = ns S.2.1 k 9 a2 from w2.1]
        refine ok_some ⟨⟨?_, w1⟩, r3, fr_trans (ms_fr thr_fr) (fr_trans w3 f3)⟩
        dsimp only
        rw [mput_ne (by decide), w4]
        exact thr_0
    · refine op_ref (k := 1) hc hm ho (by decide) ?_ ?_
      · unfold f_X11_spoil
        rw [bd_eq (c_isNode hc.1), hn, if_neg b2i_t, jk_s]
        by_cases h1 : a2 < 0
        · rw [if_pos h1]
        · rw [if_neg h1]
          by_cases h2 : a2 ≤ 3
          · rw [if_pos h2, jk_s, cby, bd_s, jk_s, jk_s]
            have h3 : ¬ (hb = true → 0 ≤ a3 ∧ a3 ≤ 99) := fun h => hr ⟨⟨Int32.not_lt.mp h1, h2⟩, h⟩
            cases hb
            · exact absurd (fun h => absurd h (by decide)) h3
            · rw [if_neg b2i_t]
              by_cases h4 : a3 < 0
              · rw [if_pos h4]
              · rw [if_neg h4, if_neg (fun h5 => h3 (fun _ => ⟨Int32.not_lt.mp h4, h5⟩))]
          · rw [if_neg h2]
      · intro μ1 r1
        unfold f_X12_spoil
        rw [bd_eq (m_node0 r1 ho), hn, if_neg b2i_t, bd_eq m_isIn, jk_s]
        have et : (if b2i (decide (0 ≤ a2 ∧ a2 ≤ 3)) = 0 then some (2 : Int32) else jk (some 0) (fun k10 => jk (bd (f_X12_isIn a3 0 99) (fun (x14 : Int32) => if x14 = 0 then some 2 else k10)) (fun k11 => if a2 = 1 then k11 else if a2 = 3 then k11 else k10))) = some 2 := by
          by_cases h1 : 0 ≤ a2 ∧ a2 ≤ 3
          · rw [decide_eq_true h1, if_neg b2i_t, jk_s, jk_s, mby, bd_eq m_isIn]
            have h3 : ¬ (hb = true → 0 ≤ a3 ∧ a3 ≤ 99) := fun h => hr ⟨h1, h⟩
            cases hb
            · exact absurd (fun h => absurd h (by decide)) h3
            · rw [if_pos rfl, decide_eq_false (fun h => h3 (fun _ => h)), if_pos b2i_f]
          · rw [decide_eq_false h1, if_pos b2i_f]
        rw [et, bd_s, zlt_s, thr_0, if_neg (by decide)]
        rfl
theorem NF_new {c : Nat} {d : Int32} (h : rng d (-9) 9) : NF (ndF c 0 d 0 0 0 1) := by
  refine ⟨?_, h, ?_, ?_, ?_, ?_, ?_, ?_⟩
  · exact rng_0 (by omega) (by omega)
  · exact rng_0 (by omega) (by omega)
  · show rng 1 0 3
    exact ⟨by decide, by decide⟩
  · exact rng_0 (by omega) (by omega)
  · exact rng_0 (by omega) (by omega)
  · exact rng_0 (by omega) (by omega)
  · exact isS_0
theorem nodeV_T {v f : Vec} {k : Nat} (hk : k < 8) : sameT (nodeV v k f) v := by
  intro i hi
  rcases hi with rfl | rfl | hi
  · exact nodeV_low (by omega) (by omega)
  · exact nodeV_low (by omega) (by omega)
  · exact nodeV_high hk (by omega)
theorem OP_add {a1 : Int32} : OPx y cmA (f_X11_add a1) (f_X12_add a1) := by
  rintro μ ⟨S, tp, tl, fa, kp, ac, hc, hm, ho⟩
  have h8 := OA_c ho
  by_cases hr : -9 ≤ a1 ∧ a1 ≤ 9
  · by_cases hc8 : S.1 = 8
    · refine op_ref (k := 5) hc hm ho (by decide) ?_ ?_
      · unfold f_X11_add
        rw [jk_s, if_neg (Int32.not_lt.mpr hr.1), if_pos hr.2, CS_c hc.1.1, if_neg (show ¬ nI S.1 < (8 : Int32) by rw [hc8]; decide)]
      · intro μ1 r1
        unfold f_X12_add
        rw [bd_eq m_isIn, decide_eq_true hr, show μ1 (0, 33, 0) 3 = nI S.1 by rw [show μ1 (0, 33, 0) = S.2.1 from r1.1]; exact OA_3 ho, if_neg b2i_t, if_pos (show nI S.1 = 8 by rw [hc8]; rfl), zlt_s, zlt_s, thr_0, if_neg (by decide)]
        rfl
    · have hx : rng a1 (-9) 9 := rng_of hr.1 hr.2 (by decide) (by decide)
      refine op_x (A := .inl (nI S.1)) (S' := (S.1 + 1, nodeV S.2.1 S.1 (ndF S.1 0 a1 0 0 0 1), S.2.2)) (tp' := tp) (tl' := tl) (fa' := fa) (kp' := kp) (ac' := more ac (S.1, S.2.1)) hm ?_ ?_ (OA_v (OA_more ho) (okC_node ho.1.1 (by omega) (NF_new hx)) (nodeV_T (by omega)) (nodeV_low (by omega) (by omega)))
      · unfold f_X11_add
        rw [jk_s, if_neg (Int32.not_lt.mpr hr.1), if_pos hr.2, CS_c hc.1.1, if_pos (show nI S.1 < (8 : Int32) from nI_lt (b := 8) (by omega) (by omega))]
        refine ok_b1 (c_remember hc (OA_len ho)) ?_
        rintro μ1 ⟨r1, f1⟩
        refine ok_b2 (c_add (d := a1) r1.1.1 (by omega)) ?_
        rintro x μ2 ⟨w1, w2, w3⟩
        dsimp only at w1 w2 w3
        refine ok_some ⟨by dsimp only; rw [w1], RC_setv r1 w2 ?_ w3 (nodeV_low (by omega) (by omega)) (nodeV_low (by omega) (by omega)), fr_trans f1 (fr_mono w2 ?_)⟩
        · rintro o i (rfl | ⟨rfl, rfl⟩)
          · exact Or.inl cls_nd
          · exact Or.inr (Or.inl ⟨rfl, by omega⟩)
        · rintro o i (rfl | ⟨rfl, rfl⟩)
          · exact Or.inl (by intro h; simp at h)
          · exact Or.inl (by decide)
      · intro μ1 r1
        unfold f_X12_add
        rw [bd_eq m_isIn, decide_eq_true hr, show μ1 (0, 33, 0) 3 = nI S.1 by rw [show μ1 (0, 33, 0) = S.2.1 from r1.1]; exact OA_3 ho, if_neg b2i_t, if_neg (show ¬ nI S.1 = 8 from ne_code (a := S.1) (b := 8) rfl (by omega) (by omega) hc8), zlt_s, zlt_s, thr_0, if_pos (by decide)]
        refine ok_b1 (m_remembers (thr_RM (x := 0) r1) (OA_len ho)) ?_
        rintro μ2 ⟨r2, f2⟩
        obtain ⟨r3, f3⟩ := m_setv (v' := nodeV S.2.1 S.1 (ndF S.1 0 a1 0 0 0 1)) r2
        rw [bd_eq (m_joins (c := S.1) r2.1 (OA_3 ho) (by omega))]
        have e3 : (mput μ2 MV0 (nodeV S.2.1 S.1 (ndF S.1 0 a1 0 0 0 1))) (0, 33, 0) 3 - 1 = nI S.1 := by
          rw [show (mput μ2 MV0 (nodeV S.2.1 S.1 (ndF S.1 0 a1 0 0 0 1))) (0, 33, 0) = nodeV S.2.1 S.1 (ndF S.1 0 a1 0 0 0 1) from mput_at, nodeV_3]
          exact nI_pred S.1
        refine ok_some ⟨⟨?_, e3⟩, ?_, fr_trans (ms_fr thr_fr) (fr_trans (fr_mono f2 (fun o i h => rem_md h)) f3)⟩
        · dsimp only
          rw [mput_ne (by decide), f2.1 _ _ (by rintro (h | ⟨-, h⟩); exact absurd h (by decide); omega)]
          exact thr_0
        · exact r3
  · refine op_ref (k := 1) hc hm ho (by decide) ?_ ?_
    · unfold f_X11_add
      rw [jk_s]
      by_cases h1 : a1 < -9
      · rw [if_pos h1]
      · rw [if_neg h1, if_neg (fun h2 => hr ⟨Int32.not_lt.mp h1, h2⟩)]
    · intro μ1 r1
      unfold f_X12_add
      rw [bd_eq m_isIn, decide_eq_false hr, if_pos b2i_f, zlt_s, zlt_s, thr_0, if_neg (by decide)]
      rfl
end OT
