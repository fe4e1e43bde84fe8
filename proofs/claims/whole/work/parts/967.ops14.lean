/-! acts on both sides: node, agreed -/
section PD
variable {y : ZLay} {μ : ZMem} {S S' : SV} {tp tp' : Vec} {tl tl' : Nat} {fa fa' : Int32} {kp kp' : Option SV} {ac ac' : List (Nat × Vec)}
def knowS (v : Vec) (c : Nat) (a : Nat) : Int32 := bset (fun k => tbit (nd v k 5) a) c
theorem c_knowing {s c a : Nat} {v : Vec} (h : CS μ s c v) (ha : a < 8) : f_X7_knowing s (nI a) μ = some (knowS v c a) := by
  have h8 := h.1
  unfold f_X7_knowing knowS
  refine (bd_eq (lp_seq c (fun k => (bset (fun k => tbit (nd v k 5) a) k, nI k)) ?_ ?_ (FU_lt (by omega)) rfl)).trans rfl
  · intro k hk
    rw [un2_s, CS_c h, if_neg (nI_ge hk (by omega)), gd_eq (zin_nI (by omega) (by omega)), nI_cl (by omega), CS_nd h hk (by omega), bd_eq (isIn_eq (by omega)), nI_1]
    cases b : tbit (nd v k 5) a
    · rw [if_pos b2i_f, zlt_s, bset_f (p := fun k => tbit (nd v k 5) a) b]
    · rw [if_neg b2i_t, zlt_s, zlt_s, bset_t (p := fun k => tbit (nd v k 5) a) b]; rfl
  · rw [un2_s, CS_c h, if_pos (nI_le (Nat.le_refl _) (by omega))]
theorem m_knowing {c a : Nat} {v : Vec} (hv : μ MV0 = v) (h3 : v 3 = nI c) (h8 : c ≤ 8) (ha : a < 8) : f_X12_knownOf (nI a) μ = some (knowS v c a) := by
  unfold f_X12_knownOf knowS
  refine (bd_eq (lp_seq c (fun k => (bset (fun k => tbit (nd v k 5) a) k, nI k)) ?_ ?_ (FU_lt (by omega)) rfl)).trans rfl
  · intro k hk
    rw [un2_s, show μ (0, 33, 0) 3 = nI c by rw [show μ (0, 33, 0) = v from hv]; exact h3, if_neg (nI_ge hk (by omega)), bd_eq (show f_X12_of (nI k) 5 μ = some (nd v k 5) from ofV (w := 5) hv rfl (by omega) (by omega)), bd_eq (isOf_eq (by omega)), nI_1]
    cases b : tbit (nd v k 5) a
    · rw [if_pos b2i_f, zlt_s, zlt_s, bset_f (p := fun k => tbit (nd v k 5) a) b, Int32.or_zero]
    · rw [if_neg b2i_t, zlt_s, zlt_s, bset_t (p := fun k => tbit (nd v k 5) a) b]; rfl
  · rw [un2_s, show μ (0, 33, 0) 3 = nI c by rw [show μ (0, 33, 0) = v from hv]; exact h3, if_pos (nI_le (Nat.le_refl _) (by omega))]
def midS (L : LawS) (c : Nat) (v : Vec) (k : Nat) : Int32 := if nd v k 3 = 2 then midK (offS L c v) (heardS L c v) (passS L c v) c k else 0
theorem told_eq {s c k w : Nat} {v : Vec} (h : CS μ s c v) (hk : k < c) (hw : w ≤ 10) : f_X5_told s k (nI w) μ = nd v k w := by
  unfold f_X5_told
  have e : w = 0 ∨ w = 1 ∨ w = 2 ∨ w = 3 ∨ w = 4 ∨ w = 5 ∨ w = 6 ∨ w = 7 ∨ w = 8 ∨ w = 9 ∨ w = 10 := by omega
  rcases e with rfl | rfl | rfl | rfl | rfl | rfl | rfl | rfl | rfl | rfl | rfl
  · rw [if_pos (by decide), CS_nd h hk (by omega)]
  · rw [if_neg (by decide), if_pos (by decide), CS_nd h hk (by omega)]
  · rw [if_neg (by decide), if_neg (by decide), if_pos (by decide), CS_nd h hk (by omega)]
  · rw [if_neg (by decide), if_neg (by decide), if_neg (by decide), if_pos (by decide), CS_nd h hk (by omega)]
  · rw [if_neg (by decide), if_neg (by decide), if_neg (by decide), if_neg (by decide), if_pos (by decide), CS_nd h hk (by omega)]
  · rw [if_neg (by decide), if_neg (by decide), if_neg (by decide), if_neg (by decide), if_neg (by decide), if_pos (by decide), CS_nd h hk (by omega)]
  · rw [if_neg (by decide), if_neg (by decide), if_neg (by decide), if_neg (by decide), if_neg (by decide), if_neg (by decide), if_pos (by decide), CS_nd h hk (by omega)]
  · rw [if_neg (by decide), if_neg (by decide), if_neg (by decide), if_neg (by decide), if_neg (by decide), if_neg (by decide), if_neg (by decide), if_pos (by decide), CS_nd h hk (by omega)]
  · rw [if_neg (by decide), if_neg (by decide), if_neg (by decide), if_neg (by decide), if_neg (by decide), if_neg (by decide), if_neg (by decide), if_neg (by decide), if_pos (by decide), CS_nd h hk (by omega)]
  · rw [if_neg (by decide), if_neg (by decide), if_neg (by decide), if_neg (by decide), if_neg (by decide), if_neg (by decide), if_neg (by decide), if_neg (by decide), if_neg (by decide), if_pos (by decide), CS_nd h hk (by omega)]
  · rw [if_neg (by decide), if_neg (by decide), if_neg (by decide), if_neg (by decide), if_neg (by decide), if_neg (by decide), if_neg (by decide), if_neg (by decide), if_neg (by decide), if_neg (by decide), CS_nd h hk (by omega)]
/-- what is told of a node -/
def tellS (L : LawS) (c : Nat) (v : Vec) (k w : Nat) : Int32 := if w ≤ 10 then nd v k w else if w = 11 then lateS L c v k else if w = 12 then omitS L c v k else if w = 13 then holdS L c v k else if w = 14 then b2i (passB L c v k) else if w = 15 then clqS L c v k else if w = 16 then midS L c v k else knowS v c k
theorem w_dec {w : Nat} (h1 : 11 ≤ w) (h2 : w ≤ 17) : w = 11 ∨ w = 12 ∨ w = 13 ∨ w = 14 ∨ w = 15 ∨ w = 16 ∨ w = 17 := by omega
theorem OP_node {a1 a2 : Int32} : OPx y cmB (f_X11_node y a1 a2) (f_X12_node a1 a2) := by
  rintro μ ⟨S, tp, tl, fa, kp, ac, hc, hm, ho⟩
  have h8 := OA_c ho
  cases hn : nodeB S.1 a1
  · refine op_ref (k := 3) hc hm ho (by decide) ?_ ?_
    · unfold f_X11_node
      rw [bd_eq (c_isNode hc.1), hn, if_pos b2i_f]
    · intro μ1 r1
      unfold f_X12_node
      rw [bd_eq (m_node0 r1 ho), hn, if_pos b2i_f, bd_s, zlt_s, thr_0, if_neg (by decide)]
      rfl
  · obtain ⟨k, hk, rfl⟩ := nodeB_t h8 hn
    by_cases hr : 0 ≤ a2 ∧ a2 ≤ 17
    · obtain ⟨w, hw, rfl⟩ := in_k (n := 17) hr.1 hr.2 (by omega)
      refine op_q (A := .inl (tellS S.2.2 S.1 S.2.1 k w)) hc hm ho ?_ ?_
      · unfold f_X11_node
        rw [bd_eq (c_isNode hc.1), hn, if_neg b2i_t, jk_s, if_neg (nI_pos (by omega)), if_pos hr.2]
        by_cases h10 : w ≤ 10
        · rw [if_neg (show ¬ (10 : Int32) < nI w from nI_nlt (a := 10) h10 (by omega)), gd_eq (zin_nI (by omega) (by omega)), nI_cl (by omega), told_eq hc.1.1 hk h10]
          refine ok_some ⟨?_, fr_refl⟩
          unfold tellS
          rw [if_pos h10]
        · rw [if_pos (show (10 : Int32) < nI w from nI_lt (a := 10) (by omega) (by omega))]
          refine ok_b1 (c_look0 hc.1 ho.1) ?_
          rintro μ1 ⟨w1, w2, w3, w4⟩
          have f1 : fr scP μ μ1 := fr_mono w2 (fun o i h => vw_sc h)
          have t10 : tellS S.2.2 S.1 S.2.1 k w = if w = 11 then lateS S.2.2 S.1 S.2.1 k else if w = 12 then omitS S.2.2 S.1 S.2.1 k else if w = 13 then holdS S.2.2 S.1 S.2.1 k else if w = 14 then b2i (passB S.2.2 S.1 S.2.1 k) else if w = 15 then clqS S.2.2 S.1 S.2.1 k else if w = 16 then midS S.2.2 S.1 S.2.1 k else knowS S.2.1 S.1 k := if_neg h10
          rw [t10]
          rcases w_dec (by omega) hw with rfl | rfl | rfl | rfl | rfl | rfl | rfl
          · rw [if_pos (by decide), gd_eq (zin_nI (by omega) (by omega)), nI_cl (by omega), (w3.2.2 k hk).1]
            exact ok_some ⟨rfl, f1⟩
          · rw [if_neg (by decide), if_pos (by decide), gd_eq (zin_nI (by omega) (by omega)), nI_cl (by omega), (w3.2.2 k hk).2.1]
            exact ok_some ⟨rfl, f1⟩
          · rw [if_neg (by decide), if_neg (by decide), if_pos (by decide)]
            have s1 : SS y μ1 0 S := (RC_sc hc f1).1
            refine ok_b2 (c_hold s1 ho.1 hk) ?_
            rintro x μ2 ⟨u1, u2⟩
            dsimp only at u1 u2
            rw [u1]
            exact ok_some ⟨rfl, fr_trans f1 (fr_mono u2 (fun o i h => st_sc h))⟩
          · rw [if_neg (by decide), if_neg (by decide), if_neg (by decide), if_pos (by decide), w3.2.1, sh1 (by omega), tbit_bset (by omega) (by omega), decide_eq_true hk, Bool.true_and]
            exact ok_some ⟨rfl, f1⟩
          · rw [if_neg (by decide), if_neg (by decide), if_neg (by decide), if_neg (by decide), if_pos (by decide)]
            refine ok_b1 (c_load1 (c := S.1) (v := S.2.1) (L := S.2.2) h8 w3.1 w4) ?_
            rintro μ2 ⟨u1, u2⟩
            rw [bd_eq (c_clique h8 (by omega) u1)]
            exact ok_some ⟨rfl, fr_trans f1 (fr_mono u2 (fun o i h => grp_sc h))⟩
          · rw [if_neg (by decide), if_neg (by decide), if_neg (by decide), if_neg (by decide), if_neg (by decide), if_pos (by decide), gd_eq (zin_nI (by omega) (by omega)), nI_cl (by omega), CS_nd w1 hk (by omega)]
            show ok _ (fun (r : (Int32 ⊕ Nat) × ZMem) => r.1 = .inl (midS S.2.2 S.1 S.2.1 k) ∧ fr scP μ r.2)
            unfold midS
            by_cases a : nd S.2.1 k 3 = 2
            · rw [if_pos a, if_pos a, w3.2.1]
              refine ok_b2 (ok_b2i (c_middleOf (off := offS S.2.2 S.1 S.2.1) (heard := heardS S.2.2 S.1 S.2.1) (snd := passS S.2.2 S.1 S.2.1) hz10 w1 hk (w4 k hk) ?_)) ?_
              · intro o hq hne
                rw [(w3.2.2 o hq).2.2 k hk]
                unfold offS
                rw [Int32.sub_add_cancel]
              · rintro x μ2 ⟨u1, u2⟩
                dsimp only at u1 u2
                rw [u1]
                exact ok_some ⟨rfl, fr_trans f1 (fr_mono u2 (fun o i h => by cases h; exact Or.inl ⟨rfl, by decide, by decide, rfl⟩))⟩
            · rw [if_neg a, if_neg a, bd2_s]
              exact ok_some ⟨rfl, f1⟩
          · rw [if_neg (by decide), if_neg (by decide), if_neg (by decide), if_neg (by decide), if_neg (by decide), if_neg (by decide), bd_eq (c_knowing w1 (by omega))]
            exact ok_some ⟨rfl, f1⟩
      · intro μ1 r1
        unfold f_X12_node
        have hv : (mset μ1 (0, 32, 0) 0 0) MV0 = S.2.1 := (mset_ne (by decide)).trans r1.1
        rw [bd_eq (m_node0 r1 ho), hn, if_neg b2i_t, bd_eq m_isIn, decide_eq_true hr, if_neg b2i_t, bd_s, zlt_s, thr_0, if_pos (by decide)]
        have z0 : ∀ {μ2 : ZMem}, fr askP (mset μ1 (0, 32, 0) 0 0) μ2 → μ2 MO0 0 = 0 := fun f => by rw [f.1 _ _ ask_0]; exact thr_0
        have mf : ∀ {μ2 : ZMem}, fr askP (mset μ1 (0, 32, 0) 0 0) μ2 → fr msP μ1 μ2 := fun f => fr_trans thr_fr (fr_mono f (fun o i h => ask_ms h))
        by_cases h10 : w ≤ 10
        · rw [if_neg (show ¬ (11 : Int32) ≤ nI w from nI_ge (b := 11) (by omega) (by omega)), bd_eq (ofV (w := w) hv rfl (by omega) (by omega))]
          refine ok_some ⟨⟨(show (mset μ1 MO0 0 0) MO0 0 = 0 from mset_at), ?_⟩, thr_fr⟩
          unfold tellS
          rw [if_pos h10]
        · rw [if_pos (show (11 : Int32) ≤ nI w from nI_le (a := 11) (by omega) (by omega))]
          have t10 : tellS S.2.2 S.1 S.2.1 k w = if w = 11 then lateS S.2.2 S.1 S.2.1 k else if w = 12 then omitS S.2.2 S.1 S.2.1 k else if w = 13 then holdS S.2.2 S.1 S.2.1 k else if w = 14 then b2i (passB S.2.2 S.1 S.2.1 k) else if w = 15 then clqS S.2.2 S.1 S.2.1 k else if w = 16 then midS S.2.2 S.1 S.2.1 k else knowS S.2.1 S.1 k := if_neg h10
          rw [t10]
          have hL := ho.1.2.2.1 S.1 (mset μ1 (0, 32, 0) 0 0) (fun i _ => congrFun hv i) (by rw [hv]; exact ho.1.1.1) k (by omega)
          rw [hv] at hL
          rcases w_dec (by omega) hw with rfl | rfl | rfl | rfl | rfl | rfl | rfl
          · rw [if_neg (by decide), if_neg (by decide), if_neg (by decide), if_neg (by decide)]
            refine ok_b1 hL ?_
            rintro μ2 ⟨f2, g1, g2, g3⟩
            rw [if_pos (by decide), zlt_s]
            exact ok_some ⟨⟨z0 f2, g1⟩, mf f2⟩
          · rw [if_neg (by decide), if_neg (by decide), if_neg (by decide), if_neg (by decide)]
            refine ok_b1 hL ?_
            rintro μ2 ⟨f2, g1, g2, g3⟩
            rw [if_neg (by decide), if_pos (by decide), zlt_s]
            exact ok_some ⟨⟨z0 f2, g2⟩, mf f2⟩
          · rw [if_neg (by decide), if_neg (by decide), if_neg (by decide), if_neg (by decide)]
            refine ok_b1 hL ?_
            rintro μ2 ⟨f2, g1, g2, g3⟩
            rw [if_neg (by decide), if_neg (by decide), zlt_s]
            exact ok_some ⟨⟨z0 f2, g3⟩, mf f2⟩
          · rw [if_pos (by decide)]
            refine ok_b2 (m_isPassing hv ho.1.2.2.1 (fun _ _ => rfl) ho.1.1.1 (by omega)) ?_
            rintro x μ2 ⟨g1, g2⟩
            dsimp only at g1 g2
            rw [zlt_s, g1]
            refine ok_some ⟨⟨z0 g2, ?_⟩, mf g2⟩
            dsimp only
            cases passB S.2.2 S.1 S.2.1 k <;> rfl
          · rw [if_neg (by decide), if_pos (by decide)]
            refine ok_b2 (m_clique hv ho.1 hk) ?_
            rintro x μ2 ⟨g1, g2⟩
            exact ok_some ⟨⟨z0 g2, g1⟩, mf g2⟩
          · rw [if_neg (by decide), if_neg (by decide), if_pos (by decide)]
            show ok _ (fun (q : Int32 × ZMem) => agr cmB (.inl (midS S.2.2 S.1 S.2.1 k)) (q.2 MO0 0) q.1 ∧ fr msP μ1 q.2)
            unfold f_X12_middleNow midS
            rw [bd_eq (isActive_eq (by omega)), hv]
            by_cases a : nd S.2.1 k 3 = 2
            · rw [decide_eq_true a, if_neg b2i_t, if_pos a]
              refine ok_b2 (P := fun q => q.1 = midK (offS S.2.2 S.1 S.2.1) (heardS S.2.2 S.1 S.2.1) (passS S.2.2 S.1 S.2.1) S.1 k ∧ fr rP (mset μ1 (0, 32, 0) 0 0) q.2 ∧ q.2 MV0 = S.2.1) (ok_b1 (m_allShifts hv ho.1.2.2.1 (fun _ _ => rfl) ho.1.1.1) ?_) ?_
              · rintro μ2 ⟨u1, u2, u3, u4⟩
                have hv2 : μ2 MV0 = S.2.1 := (sh_vec u1).trans hv
                rw [show μ2 (0, 32, 0) 24 = passS S.2.2 S.1 S.2.1 from u2]
                refine ok_b2 (m_middleOf (off := offS S.2.2 S.1 S.2.1) (heard := heardS S.2.2 S.1 S.2.1) h8 (by rw [hv2]; exact OA_3 ho) (by omega) (u3 k hk).1 (fun o hq hne => u4 k hk o hq hne)) ?_
                rintro x μ3 ⟨p1, p2⟩
                refine ok_some ⟨p1, fr_trans (fr_mono u1 (fun o i h => sh_r h)) (fr_mono p2 (fun o i h => r_42 h)), ?_⟩
                exact (fr_at p2 (fun i h => absurd h (show ¬ MV0 = ((0, 42, 0) : ZId) by decide))).trans hv2
              · rintro x μ2 ⟨p1, p2, p3⟩
                dsimp only at p1 p2 p3
                refine ok_some ⟨⟨?_, p1⟩, ?_⟩
                · dsimp only
                  rw [p2.1 _ _ (by unfold rP askP; simp)]
                  exact thr_0
                · refine fr_trans thr_fr ⟨fun o i hn => ?_, p2.2⟩
                  by_cases e : o = MV0
                  · subst e
                    exact (congrFun p3 i).trans (congrFun hv i).symm
                  · exact p2.1 o i (fun h => (rP_ms h).elim e hn)
            · rw [decide_eq_false a, if_pos b2i_f, if_neg a, bd2_s]
              exact ok_some ⟨⟨(show (mset μ1 MO0 0 0) MO0 0 = 0 from mset_at), rfl⟩, thr_fr⟩
          · rw [if_neg (by decide), if_neg (by decide), if_neg (by decide), if_pos (by decide), bd_eq (m_knowing hv (OA_3 ho) h8 (by omega))]
            exact ok_some ⟨⟨(show (mset μ1 MO0 0 0) MO0 0 = 0 from mset_at), rfl⟩, thr_fr⟩
    · refine op_ref (k := 4) hc hm ho (by decide) ?_ ?_
      · unfold f_X11_node
        rw [bd_eq (c_isNode hc.1), hn, if_neg b2i_t, jk_s]
        by_cases h1 : a2 < 0
        · rw [if_pos h1]
        · rw [if_neg h1, if_neg (fun h2 => hr ⟨Int32.not_lt.mp h1, h2⟩)]
      · intro μ1 r1
        unfold f_X12_node
        rw [bd_eq (m_node0 r1 ho), hn, if_neg b2i_t, bd_eq m_isIn, decide_eq_false hr, if_pos b2i_f, bd_s, zlt_s, thr_0, if_neg (by decide)]
        rfl
end PD
