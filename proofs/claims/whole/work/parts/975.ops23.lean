/-! acts on both sides: share, span -/
section PL
variable {y : ZLay} {μ : ZMem} {S S' : SV} {tp tp' : Vec} {tl tl' : Nat} {fa fa' : Int32} {kp kp' : Option SV} {ac ac' : List (Nat × Vec)}
theorem gnz_nI {n : Nat} (h : n < 1000) : gnz (nI n + 1) = true := by
  unfold gnz
  rw [nI_1, decide_eq_false (show ¬ nI (n + 1) = 0 from ne_code (a := n + 1) (b := 0) rfl (by omega) (by omega) (by omega))]
  rfl
theorem zmax0 {n : Nat} (h : n < 1000) : zmax 0 (nI n) = nI n := by
  rw [zmax_eq, greater_eq, if_neg]
  exact nI_pos (by omega)
theorem c_next_share {c : Nat} {v : Vec} {cn : Nat → Nat} (h : CS μ 0 c v) (h0 : 0 < c) (hB : ∀ k, k < c → rng (nd v k 8) 0 100) (h30 : ∀ k, k < 8 → μ (0, 30, 0) k = nI (cn k)) (hc : ∀ k, cn k < 100) : f_X11_nextOfShare μ = some (nI (pkI v cn c)) := by
  have h8 := h.1
  unfold f_X11_nextOfShare
  rw [CS_c h]
  rw [bd_eq (lp_seq (s0 := ((0 : Int32), (-1 : Int32), (0 : Int32))) (r := nI (pkI v cn c)) c (fun k => (nI (pkI v cn k), (if k = 0 then -1 else shV v cn (pkI v cn k)), nI k)) ?_ ?_ (FU_lt (by omega)) rfl)]
  · intro k hk
    have hck := hc k
    rw [un3_s, if_neg (nI_ge hk (by omega)), gd_eq (zin_nI (by omega) (by omega)), nI_cl (by omega), h30 k (by omega), zmax0 (by omega), gd_eq (gnz_nI (by omega)), CS_nd h hk (by omega), zlt_s, show (100 - nd v k 8) / (nI (cn k) + 1) = shV v cn k from rfl, nI_1 k, if_neg (show ¬ k + 1 = 0 by omega), pkI_s]
    by_cases z : k = 0
    · subst z
      rw [if_pos rfl, if_neg (shV_pos (hB 0 hk) hck), if_pos (show shV v cn 0 ≤ shV v cn (pkI v cn 0) from Int32.le_refl _)]
      rfl
    · rw [if_neg z]
      by_cases e : shV v cn k ≤ shV v cn (pkI v cn k)
      · rw [if_pos e, if_pos e]; rfl
      · rw [if_neg e, if_neg e]; rfl
  · rw [un3_s, if_pos (nI_le (Nat.le_refl _) (by omega))]
theorem m_next_share {c : Nat} {v : Vec} {cn : Nat → Nat} (hv : μ MV0 = v) (h3 : v 3 = nI c) (h8 : c ≤ 8) (h0 : 0 < c) (h46 : ∀ k, k < 8 → μ (0, 46, 0) k = nI (cn k)) (hc : ∀ k, cn k < 100) : lp (σ := Int32 × Int32) (fun q => un2 q (fun (x20 : Int32) (x21 : Int32) => if (μ (0, 33, 0) 3) ≤ x21 then some (.inr x20) else bd (f_X12_of x21 8 μ) (fun (x25 : Int32) => gd (zin x21 8) (gd (gnz ((μ (0, 46, 0) x21.toNatClampNeg) + 1)) (bd (f_X12_of x20 8 μ) (fun (x29 : Int32) => gd (zin x20 8) (gd (gnz ((μ (0, 46, 0) x20.toNatClampNeg) + 1)) (zlt (α := Int32) (if ((100 - x25) / ((μ (0, 46, 0) x21.toNatClampNeg) + 1)) ≤ ((100 - x29) / ((μ (0, 46, 0) x20.toNatClampNeg) + 1)) then x20 else x21) (fun (x33 : Int32) => some (.inl (x33, (x21 + 1)))))))))))) FU (0, 1) = some (nI (pkI v cn c)) := by
  have e3 : μ (0, 33, 0) 3 = nI c := by rw [show μ (0, 33, 0) = v from hv]; exact h3
  rw [e3]
  refine lp_seq (c - 1) (fun k => (nI (pkI v cn (k + 1)), nI (k + 1))) ?_ ?_ (FU_lt (by omega)) (by rw [pkI_1]; rfl)
  · intro k hk
    have hp := pkI_lt (v := v) (cn := cn) (k + 1) (by omega)
    have a1 := hc (k + 1)
    have a2 := hc (pkI v cn (k + 1))
    rw [un2_s, if_neg (nI_ge (by omega) (by omega)), bd_eq (show f_X12_of (nI (k + 1)) 8 μ = some (nd v (k + 1) 8) from ofV (w := 8) hv rfl (by omega) (by omega)), bd_eq (show f_X12_of (nI (pkI v cn (k + 1))) 8 μ = some (nd v (pkI v cn (k + 1)) 8) from ofV (w := 8) hv rfl (by omega) (by omega)), gd_eq (zin_nI (by omega) (by omega)), gd_eq (zin_nI (by omega) (by omega)), nI_cl (by omega), nI_cl (by omega), h46 (k + 1) (by omega), h46 (pkI v cn (k + 1)) (by omega), gd_eq (gnz_nI (by omega)), gd_eq (gnz_nI (by omega)), zlt_s, show (100 - nd v (k + 1) 8) / (nI (cn (k + 1)) + 1) = shV v cn (k + 1) from rfl, show (100 - nd v (pkI v cn (k + 1)) 8) / (nI (cn (pkI v cn (k + 1))) + 1) = shV v cn (pkI v cn (k + 1)) from rfl, nI_1 (k + 1), pkI_s (k := k + 1)]
    by_cases e : shV v cn (k + 1) ≤ shV v cn (pkI v cn (k + 1))
    · rw [if_pos e, if_pos e]
    · rw [if_neg e, if_neg e]
  · rw [un2_s, show c - 1 + 1 = c by omega, if_pos (nI_le (Nat.le_refl _) (by omega))]
theorem zero8 {o : ZId} (hx : ¬ o = (0, 38, 0) ∧ ¬ o = (0, 32, 0)) {F : Int32 × ZMem → Option ((Int32 × ZMem) ⊕ ZMem)} (hF : ∀ k μ1, k < 8 → F (nI k, μ1) = some (.inl (nI k + 1, mset μ1 o k 0))) (hE : ∀ μ1, F (nI 8, μ1) = some (.inr μ1)) : ok (lp F FU (0, μ)) (fun μ' => fr (oP o) μ μ' ∧ ∀ k, k < 8 → μ' o k = nI 0) := by
  refine ok_seq 8 (fun k s => s.1 = nI k ∧ fr (oP o) μ s.2 ∧ ∀ j, j < k → s.2 o j = nI 0) ?_ ?_ ⟨rfl, fr_refl, fun j hj => absurd hj (by omega)⟩ (FU_lt (by omega))
  · rintro k ⟨i, μ3⟩ hk ⟨w1, w2, w3⟩
    dsimp only at w1 w2 w3
    subst w1
    rw [hF k μ3 hk]
    refine ok_some ⟨_, rfl, nI_1 k, fr_trans w2 (fr_mset rfl ⟨fun h => hx.1 h.1, fun h => hx.2 h.1⟩), fun j hj => ?_⟩
    dsimp only
    by_cases e : j = k
    · subst e; rw [mset_at]; rfl
    · rw [mset_k e]; exact w3 j (by omega)
  · rintro ⟨i, μ3⟩ ⟨w1, w2, w3⟩
    dsimp only at w1 w2 w3
    subst w1
    rw [hE]
    exact ok_some ⟨_, rfl, w2, w3⟩
theorem OP_share {a1 a2 : Int32} : OPx y cmB (f_X11_share a1 a2) (f_X12_share a1 a2) := by
  rintro μ ⟨S, tp, tl, fa, kp, ac, hc, hm, ho⟩
  have h8 := OA_c ho
  cases hn : nodeB S.1 a1
  · refine op_ref (k := 3) hc hm ho (by decide) ?_ ?_
    · unfold f_X11_share
      rw [bd_eq (c_isNode hc.1), hn, if_pos b2i_f]
    · intro μ1 r1
      unfold f_X12_share
      rw [bd_eq (m_node0 r1 ho), hn, if_pos b2i_f, bd_s, zlt_s, thr_0, if_neg (by decide)]
      rfl
  · obtain ⟨k, hk, rfl⟩ := nodeB_t h8 hn
    by_cases hr : 0 ≤ a2 ∧ a2 ≤ 99
    · obtain ⟨n, hn', rfl⟩ := in_k hr.1 (show a2 ≤ nI 99 from hr.2) (by omega)
      have hle : ∀ j, j < n → ∀ i, shC S.2.1 S.1 j i < 100 := fun j hj i => by have := shC_le (v := S.2.1) (c := S.1) j i; omega
      have hB8 : ∀ k, k < S.1 → rng (nd S.2.1 k 8) 0 100 := fun k hk => (ho.1.1.2.1 k hk).2.2.2.2.1
      have hpk : ∀ j, pkI S.2.1 (shC S.2.1 S.1 j) S.1 < 8 := fun j => by have := pkI_lt (v := S.2.1) (cn := shC S.2.1 S.1 j) S.1 (by omega); omega
      refine op_q (A := .inl (nI (shC S.2.1 S.1 n k))) hc hm ho ?_ ?_
      · unfold f_X11_share
        rw [bd_eq (c_isNode hc.1), hn, if_neg b2i_t, jk_s, if_neg (nI_pos (by omega)), if_pos hr.2]
        refine ok_b1 (zero8 (μ := μ) (o := (0, 30, 0)) (by decide) ?_ ?_) ?_
        · intro k μ1 hk
          rw [un2_s, if_neg (show ¬ (8 : Int32) ≤ nI k from nI_ge (b := 8) hk (by omega)), gd_eq (zin_nI (by omega) (by omega)), nI_cl (by omega), zlt_s]
        · intro μ1
          rw [un2_s, if_pos (by decide)]
        · rintro μ1 ⟨f1, g1⟩
          have cs : ∀ {μ2 : ZMem}, fr (oP (0, 30, 0)) μ μ2 → CS μ2 0 S.1 S.2.1 := fun f => CS_fr hc.1.1 f (fun i => ⟨zne (by decide), zne (by decide), fun k => zne (by decide)⟩)
          refine ok_b1 (ok_seq n (fun j s => s.1 = nI j ∧ fr (oP (0, 30, 0)) μ s.2 ∧ ∀ i, i < 8 → s.2 (0, 30, 0) i = nI (shC S.2.1 S.1 j i)) ?_ ?_ (Q := fun μ2 => fr (oP (0, 30, 0)) μ μ2 ∧ ∀ i, i < 8 → μ2 (0, 30, 0) i = nI (shC S.2.1 S.1 n i)) ⟨rfl, f1, g1⟩ (FU_lt (by omega))) ?_
          · rintro j ⟨x, μ2⟩ hj ⟨w1, w2, w3⟩
            dsimp only at w1 w2 w3
            subst w1
            rw [un2_s, if_neg (nI_ge hj (by omega)), bd_eq (c_next_share (cs w2) (by omega) hB8 w3 (hle j hj)), gd_eq (zin_nI (hpk j) (by omega)), nI_cl (by have := hpk j; omega), w3 _ (hpk j), nI_1, zlt_s]
            refine ok_some ⟨_, rfl, nI_1 j, fr_trans w2 (fr_mset rfl), fun i hi => ?_⟩
            dsimp only
            rw [shC_s]
            by_cases e : i = pkI S.2.1 (shC S.2.1 S.1 j) S.1
            · rw [if_pos e, e, mset_at]
            · rw [if_neg e, mset_k e]; exact w3 i hi
          · rintro ⟨x, μ2⟩ ⟨w1, w2, w3⟩
            dsimp only at w1 w2 w3
            subst w1
            rw [un2_s, if_pos (nI_le (Nat.le_refl _) (by omega))]
            exact ok_some ⟨_, rfl, w2, w3⟩
          · rintro μ2 ⟨w2, w3⟩
            rw [gd_eq (zin_nI (by omega) (by omega)), nI_cl (by omega), w3 k (by omega)]
            exact ok_some ⟨rfl, fr_mono w2 (fun o i h => by cases h; exact Or.inl ⟨rfl, by decide, by decide, rfl⟩)⟩
      · intro μ1 r1
        unfold f_X12_share
        have hv : (mset μ1 (0, 32, 0) 0 0) MV0 = S.2.1 := (mset_ne (by decide)).trans r1.1
        rw [bd_eq (m_node0 r1 ho), hn, if_neg b2i_t, bd_eq m_isIn, decide_eq_true hr, if_neg b2i_t, bd_s, zlt_s, thr_0, if_pos (by decide)]
        refine ok_b1 (zero8 (μ := mset μ1 (0, 32, 0) 0 0) (o := (0, 46, 0)) (by decide) ?_ ?_) ?_
        · intro k μ1 hk
          rw [un2_s, if_neg (show ¬ (8 : Int32) ≤ nI k from nI_ge (b := 8) hk (by omega)), gd_eq (zin_nI (by omega) (by omega)), nI_cl (by omega), zlt_s]
        · intro μ1
          rw [un2_s, if_pos (by decide)]
        · rintro μ2 ⟨f1, g1⟩
          have vv : ∀ {μ3 : ZMem}, fr (oP (0, 46, 0)) (mset μ1 (0, 32, 0) 0 0) μ3 → μ3 MV0 = S.2.1 := fun f => (fr_at f (fun i => (show ¬ MV0 = ((0, 46, 0) : ZId) by decide))).trans hv
          refine ok_b1 (ok_seq n (fun j s => s.1 = nI j ∧ fr (oP (0, 46, 0)) (mset μ1 (0, 32, 0) 0 0) s.2 ∧ ∀ i, i < 8 → s.2 (0, 46, 0) i = nI (shC S.2.1 S.1 j i)) ?_ ?_ (Q := fun μ2 => fr (oP (0, 46, 0)) (mset μ1 (0, 32, 0) 0 0) μ2 ∧ ∀ i, i < 8 → μ2 (0, 46, 0) i = nI (shC S.2.1 S.1 n i)) ⟨rfl, f1, g1⟩ (FU_lt (by omega))) ?_
          · rintro j ⟨x, μ3⟩ hj ⟨w1, w2, w3⟩
            dsimp only at w1 w2 w3
            subst w1
            rw [un2_s, if_neg (nI_ge hj (by omega)), bd_eq (m_next_share (vv w2) (OA_3 ho) h8 (by omega) w3 (hle j hj)), gd_eq (zin_nI (hpk j) (by omega)), nI_cl (by have := hpk j; omega), w3 _ (hpk j), nI_1, zlt_s]
            refine ok_some ⟨_, rfl, nI_1 j, fr_trans w2 (fr_mset rfl), fun i hi => ?_⟩
            dsimp only
            rw [shC_s]
            by_cases e : i = pkI S.2.1 (shC S.2.1 S.1 j) S.1
            · rw [if_pos e, e, mset_at]
            · rw [if_neg e, mset_k e]; exact w3 i hi
          · rintro ⟨x, μ3⟩ ⟨w1, w2, w3⟩
            dsimp only at w1 w2 w3
            subst w1
            rw [un2_s, if_pos (nI_le (Nat.le_refl _) (by omega))]
            exact ok_some ⟨_, rfl, w2, w3⟩
          · rintro μ3 ⟨w2, w3⟩
            rw [gd_eq (zin_nI (by omega) (by omega)), nI_cl (by omega), w3 k (by omega)]
            refine ok_some ⟨⟨?_, rfl⟩, fr_trans thr_fr (fr_mono w2 (fun o i h => by cases h; exact Or.inr (Or.inr ⟨rfl, by decide⟩)))⟩
            dsimp only
            rw [w2.1 _ _ (show ¬ MO0 = ((0, 46, 0) : ZId) by decide)]
            exact thr_0
    · refine op_ref (k := 1) hc hm ho (by decide) ?_ ?_
      · unfold f_X11_share
        rw [bd_eq (c_isNode hc.1), hn, if_neg b2i_t, jk_s]
        by_cases h1 : a2 < 0
        · rw [if_pos h1]
        · rw [if_neg h1, if_neg (fun h2 => hr ⟨Int32.not_lt.mp h1, h2⟩)]
      · intro μ1 r1
        unfold f_X12_share
        rw [bd_eq (m_node0 r1 ho), hn, if_neg b2i_t, bd_eq m_isIn, decide_eq_false hr, if_pos b2i_f, bd_s, zlt_s, thr_0, if_neg (by decide)]
        rfl
end PL
