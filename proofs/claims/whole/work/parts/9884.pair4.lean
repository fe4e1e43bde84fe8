/-! pairs: the model, both -/
def pI (w : Nat → Nat → Nat) (k o : Nat) : Int32 := if w k o = 0 then -1 else nI (w k o)
def mprP (o : ZId) (i : Nat) : Prop := askP o i ∨ o = (0, 45, 0) ∨ o = (0, 44, 0)
theorem mprP_ms {o : ZId} {i : Nat} (h : mprP o i) : msP o i := by
  rcases h with h | rfl | rfl
  · exact ask_ms h
  · exact Or.inr (Or.inr ⟨rfl, by decide⟩)
  · exact Or.inr (Or.inr ⟨rfl, by decide⟩)
theorem mprP_v {μ1 μ2 : ZMem} (f : fr mprP μ1 μ2) : μ2 MV0 = μ1 MV0 := fr_at f (by
  rintro i (h | h | h)
  · exact not_ask (by decide) (by decide) i h
  · exact absurd h (by decide)
  · exact absurd h (by decide))
theorem mprP_0 {μ1 μ2 : ZMem} (f : fr mprP μ1 μ2) : μ2 MO0 0 = μ1 MO0 0 := f.1 _ _ (by
  rintro (h | h | h)
  · exact ask_0 h
  · exact absurd h (by decide)
  · exact absurd h (by decide))
theorem stp_hi {w : Nat → Nat → Nat} {n : Nat} {X : Nat → Nat} {b : Nat} (hn : n < 256) (h0 : n ≠ 0) {c : Nat} (h : ∀ j, c ≤ j → j < 8 → n.testBit j = false) : ∀ d, c + d ≤ 8 → itS (stp w n X) (c + d) b = itS (stp w n X) c b
  | 0, _ => rfl
  | d + 1, hd => by
    rw [show c + (d + 1) = c + d + 1 by omega, itS_s, stp_hi hn h0 h d (by omega)]
    unfold stp
    rw [if_neg]
    rw [rmv_tb hn (lob_lt hn h0) (by omega), h _ (by omega) (by omega)]
    simp
theorem pow_nI : ∀ c : Fin 9, (1 : Int32) <<< (nI c.val &&& 31) = nI (2 ^ c.val) ∧ 2 ^ c.val ≤ 256 := by decide +kernel
theorem lt_pow_tb {n c : Nat} (h : n < 2 ^ c) : ∀ j, c ≤ j → n.testBit j = false := fun j hj => Nat.testBit_lt_two_pow (Nat.lt_of_lt_of_le h (Nat.pow_le_pow_right (by decide) hj))
theorem tb_lt_all : ∀ c : Fin 9, ∀ n : Fin 256, (∀ j : Fin 8, c.val ≤ j.val → n.val.testBit j.val = false) → n.val < 2 ^ c.val := by decide +kernel
section PQ
variable {y : ZLay} {μ : ZMem} {S S' : SV} {tp tp' : Vec} {tl tl' : Nat} {fa fa' : Int32} {kp kp' : Option SV} {ac ac' : List (Nat × Vec)}
theorem m_apart {v : Vec} {k o : Nat} (hv : μ MV0 = v) (hk : k < 8) (hq : o < 8) : f_X12_apart (nI k) (nI o) μ = some (f_X12_sign (nd v k 0 - nd v o 0)) := by
  unfold f_X12_apart
  rw [bd_eq (show f_X12_of (nI k) 0 μ = some (nd v k 0) from ofV (w := 0) hv rfl hk (by omega)), bd_eq (show f_X12_of (nI o) 0 μ = some (nd v o 0) from ofV (w := 0) hv rfl hq (by omega))]
theorem m_both (hv : μ MV0 = S.2.1) (ho : OS S) {k o : Nat} (hk : k < S.1) (hq : o < S.1) : ok (f_X12_both (nI k) (nI o) μ) (fun q => q.1 = pI (wS S.2.2 S.1 S.2.1) k o ∧ fr askP μ q.2) := by
  have h8 : S.1 ≤ 8 := ho.1.1.1
  obtain ⟨ew, lw⟩ := wS_eq (L := S.2.2) h8 ho.1.2 k o
  unfold f_X12_both
  rw [bd_eq (m_apart hv (by omega) (by omega)), zlt_s, jk_s]
  have eW : wI S.2.2 S.1 S.2.1 k o = if frB S.2.2 S.1 S.2.1 k o = true then f_X12_greater 0 (100 - f_X12_sign (nd S.2.1 k 0 - nd S.2.1 o 0)) else 0 := by
    unfold wI
    rw [decide_eq_true (show k < 8 ∧ o < 8 by omega), Bool.true_and]
  rw [ew, greater_eq] at eW
  have z0 : ∀ {x : Int32}, nI (wS S.2.2 S.1 S.2.1 k o) = 0 → pI (wS S.2.2 S.1 S.2.1) k o = -1 := fun {x} h => by
    unfold pI
    rw [if_pos ((nI_inj' (b := 0) (by omega) (by omega)).mp h)]
  refine ok_b2 (P := fun q => q.1 = pI (wS S.2.2 S.1 S.2.1) k o ∧ fr askP μ q.2) ?_ (fun a b h => ok_some h)
  by_cases e : 100 - f_X12_sign (nd S.2.1 k 0 - nd S.2.1 o 0) ≤ 0
  · rw [if_pos e]
    have g0 : (if 100 - f_X12_sign (nd S.2.1 k 0 - nd S.2.1 o 0) < 0 then (0 : Int32) else 100 - f_X12_sign (nd S.2.1 k 0 - nd S.2.1 o 0)) = 0 := by
      split
      · rfl
      · rename_i hx
        exact Int32.le_antisymm e (Int32.not_lt.mp hx)
    rw [g0] at eW
    refine ok_some ⟨(z0 (x := 0) ?_).symm, fr_refl⟩
    rw [eW]
    split <;> rfl
  · rw [if_neg e]
    refine ok_b2 (m_friends hv ho hk hq) ?_
    rintro x μ2 ⟨u1, u2⟩
    dsimp only at u1 u2
    subst u1
    cases ef : frB S.2.2 S.1 S.2.1 k o
    · rw [if_pos b2i_f]
      rw [ef, if_neg (by decide)] at eW
      exact ok_some ⟨(z0 (x := 0) eW).symm, u2⟩
    · rw [if_neg b2i_t]
      rw [ef, if_pos rfl] at eW
      have hlt : 0 < 100 - f_X12_sign (nd S.2.1 k 0 - nd S.2.1 o 0) := Int32.not_le.mp e
      rw [if_neg (Int32.not_lt.mpr (Int32.le_of_lt hlt))] at eW
      refine ok_some ⟨?_, u2⟩
      dsimp only
      rw [← eW]
      unfold pI
      rw [if_neg]
      intro h
      rw [← eW, h] at hlt
      exact absurd hlt (by decide)
def mWI (w : Nat → Nat → Nat) (c : Nat) (μ : ZMem) : Prop := ∀ i, i < c → ∀ j, j < c → μ (0, 45, 0) (8 * i + j) = pI w i j
def mBI (w : Nat → Nat → Nat) (n : Nat) (μ : ZMem) : Prop := ∀ m, m < n → μ (0, 44, 0) m = nI (bst w m)
theorem m_paths (hv : μ MV0 = S.2.1) (ho : OS S) : ok (lp (σ := Int32 × ZMem) (fun q => un2 q (fun (x9 : Int32) (μ10 : ZMem) => if (μ10 (0, 33, 0) 3) ≤ x9 then some (.inr μ10) else bd (lp (σ := Int32 × ZMem) (fun q => un2 q (fun (x13 : Int32) (μ14 : ZMem) => if (μ14 (0, 33, 0) 3) ≤ x13 then some (.inr μ14) else bd2 (α := Int32) (β := ZMem) (if x9 = x13 then some ((-1), μ14) else bd2 (f_X12_both x9 x13 μ14) (fun (x21 : Int32) (μ22 : ZMem) => some (x21, μ22))) (fun (x18 : Int32) (μ19 : ZMem) => gd (zin ((8 * x9) + x13) 2048) (zlt (mset μ19 (0, 45, 0) ((8 * x9) + x13).toNatClampNeg x18) (fun (μ24 : ZMem) => some (.inl ((x13 + 1), μ24))))))) FU (0, μ10)) (fun (μ15 : ZMem) => some (.inl ((x9 + 1), μ15))))) FU (0, μ)) (fun μ' => fr mprP μ μ' ∧ mWI (wS S.2.2 S.1 S.2.1) S.1 μ') := by
  have h8 : S.1 ≤ 8 := ho.1.1.1
  have v3 : ∀ {μ1 : ZMem}, fr mprP μ μ1 → μ1 (0, 33, 0) 3 = nI S.1 := fun f => by rw [show _ = S.2.1 from (mprP_v f).trans hv]; exact ho.1.1.2.1
  refine ok_seq S.1 (fun k s => s.1 = nI k ∧ fr mprP μ s.2 ∧ ∀ i, i < k → ∀ j, j < S.1 → s.2 (0, 45, 0) (8 * i + j) = pI (wS S.2.2 S.1 S.2.1) i j) ?_ ?_ ⟨rfl, fr_refl, fun i hi => absurd hi (by omega)⟩ (FU_lt (by omega))
  · rintro k ⟨x, μ1⟩ hk ⟨w1, w2, w3⟩
    dsimp only at w1 w2 w3
    subst w1
    rw [un2_s, v3 w2, if_neg (nI_ge hk (by omega))]
    refine ok_b1 (ok_seq S.1 (fun m s => s.1 = nI m ∧ fr mprP μ s.2 ∧ (∀ i, i < k → ∀ j, j < S.1 → s.2 (0, 45, 0) (8 * i + j) = pI (wS S.2.2 S.1 S.2.1) i j) ∧ ∀ j, j < m → s.2 (0, 45, 0) (8 * k + j) = pI (wS S.2.2 S.1 S.2.1) k j) ?_ ?_ (Q := fun μ2 => fr mprP μ μ2 ∧ ∀ i, i < k + 1 → ∀ j, j < S.1 → μ2 (0, 45, 0) (8 * i + j) = pI (wS S.2.2 S.1 S.2.1) i j) ⟨rfl, w2, w3, fun j hj => absurd hj (by omega)⟩ (FU_lt (by omega))) ?_
    · rintro m ⟨x, μ2⟩ hm ⟨u1, u2, u3, u4⟩
      dsimp only at u1 u2 u3 u4
      subst u1
      have hv2 := (mprP_v u2).trans hv
      rw [un2_s, v3 u2, if_neg (nI_ge hm (by omega))]
      refine ok_b2 (P := fun q => q.1 = pI (wS S.2.2 S.1 S.2.1) k m ∧ fr askP μ2 q.2) ?_ ?_
      · by_cases e : nI k = nI m
        · have e2 : k = m := (nI_inj' (by omega) (by omega)).mp e
          subst e2
          rw [if_pos rfl]
          refine ok_some ⟨?_, fr_refl⟩
          unfold pI
          rw [if_pos]
          by_cases hz : wS S.2.2 S.1 S.2.1 k k = 0
          · exact hz
          · have := (wS_fr hz).2.2
            rw [frB_self] at this
            cases this
        · rw [if_neg e]
          exact ok_b2i (m_both hv2 ho hk hm)
      · rintro x μ3 ⟨p1, p2⟩
        dsimp only at p1 p2
        have hot : ∀ t, μ3 (0, 45, 0) t = μ2 (0, 45, 0) t := fun t => p2.1 _ _ (not_ask (by decide) (by decide) t)
        rw [mul8, gd_eq (zin_nI (by omega) (by omega)), nI_cl (by omega), zlt_s]
        refine ok_some ⟨_, rfl, nI_1 m, fr_trans u2 (fr_trans (fr_mono p2 (fun o i h => Or.inl h)) (fr_mset (Or.inr (Or.inl rfl)))), fun i hi j hj => ?_, fun j hj => ?_⟩
        · dsimp only
          rw [mset_k (by omega), hot]
          exact u3 i hi j hj
        · dsimp only
          by_cases e : j = m
          · rw [e, mset_at, p1]
          · rw [mset_k (by omega), hot]
            exact u4 j (by omega)
    · rintro ⟨x, μ2⟩ ⟨u1, u2, u3, u4⟩
      dsimp only at u1 u2 u3 u4
      subst u1
      rw [un2_s, v3 u2, if_pos (nI_le (Nat.le_refl _) (by omega))]
      refine ok_some ⟨_, rfl, u2, fun i hi j hj => ?_⟩
      by_cases e : i = k
      · rw [e]; exact u4 j hj
      · exact u3 i (by omega) j hj
    · rintro μ2 ⟨u2, u3⟩
      exact ok_some ⟨_, rfl, nI_1 k, u2, u3⟩
  · rintro ⟨x, μ1⟩ ⟨w1, w2, w3⟩
    dsimp only at w1 w2 w3
    subst w1
    rw [un2_s, v3 w2, if_pos (nI_le (Nat.le_refl _) (by omega))]
    exact ok_some ⟨_, rfl, w2, w3⟩
theorem m_allBest {w : Nat → Nat → Nat} {c : Nat} (hw : ∀ i j, w i j ≤ 100) (h8 : c ≤ 8) (h3 : μ (0, 33, 0) 3 = nI c) (hW : mWI w c μ) : ok (f_X12_allBest μ) (fun μ' => fr (oP (0, 44, 0)) μ μ' ∧ mBI w (2 ^ c) μ') := by
  obtain ⟨ep, lp2⟩ := pow_nI ⟨c, by omega⟩
  dsimp only at ep lp2
  have h44 : ∀ {μ1 : ZMem}, fr (oP (0, 44, 0)) μ μ1 → μ1 (0, 33, 0) 3 = nI c := fun f => by rw [f.1 _ _ (show ¬ oP (0, 44, 0) (0, 33, 0) 3 from fun q => absurd (show ((0, 33, 0) : ZId) = (0, 44, 0) from q) (by decide))]; exact h3
  have hWW : ∀ {μ1 : ZMem}, fr (oP (0, 44, 0)) μ μ1 → mWI w c μ1 := fun f i hi j hj => by rw [f.1 _ _ (show ¬ oP (0, 44, 0) (0, 45, 0) _ from fun q => absurd (show ((0, 45, 0) : ZId) = (0, 44, 0) from q) (by decide))]; exact hW i hi j hj
  unfold f_X12_allBest
  rw [zlt_s]
  have hp : 1 ≤ 2 ^ c := Nat.one_le_two_pow
  refine ok_b1i (ok_seq (2 ^ c - 1) (fun k s => s.1 = nI (k + 1) ∧ fr (oP (0, 44, 0)) μ s.2 ∧ mBI w (k + 1) s.2) ?_ ?_ ⟨rfl, fr_mset rfl, fun m hm => by rw [show m = 0 by omega]; exact (show (mset μ (0, 44, 0) 0 0) (0, 44, 0) 0 = _ from mset_at.trans (by rw [bst_0]; rfl))⟩ (FU_lt (by omega)))
  · rintro k ⟨x, μ2⟩ hk ⟨u1, u2, u4⟩
    dsimp only at u1 u2 u4
    subst u1
    obtain ⟨n, hn⟩ : ∃ n, n = k + 1 := ⟨_, rfl⟩
    rw [← hn] at u4 ⊢
    have hnc : n < 2 ^ c := by omega
    have hn2 : n < 256 := by omega
    have h0 : n ≠ 0 := by omega
    have hz : ¬ nI n = 0 := fun q => h0 ((nI_inj' (b := 0) (by omega) (by omega)).mp q)
    have hl := lob_lt hn2 h0
    have hlc : lob n < c := by
      rcases Nat.lt_or_ge (lob n) c with e | e
      · exact e
      · have := lob_tb hn2 h0; rw [lt_pow_tb hnc _ e] at this; cases this
    have hr := rmv_lt hn2 hl (lob_tb hn2 h0)
    rw [un2_s, h44 u2, ep, if_neg (nI_ge hnc (by omega)), bd_eq (show f_X12_lowest (nI n) = some (nI (lob n)) from m_low2 ⟨n, hn2, rfl⟩ hz), zlt_s, show nI n &&& (((1 : Int32) <<< (nI (lob n) &&& 31)) ^^^ (-1)) = nI (rmv n (lob n)) from rmv_eq hn2 hl, gd_eq (zin_nI (by omega) (by omega)), gd_eq (zin_nI (by omega) (by omega)), zlt_s, nI_cl (by omega), nI_cl (by omega), u4 _ hr, zlt_s, nI_1]
    refine ok_b1 (ok_seq (c - (lob n + 1)) (fun d s => s.1 = nI (lob n + 1 + d) ∧ fr (oP (0, 44, 0)) μ s.2 ∧ mBI w n s.2 ∧ s.2 (0, 44, 0) n = nI (itS (stp w n (bst w)) (lob n + 1 + d) (bst w (rmv n (lob n))))) ?_ ?_ (Q := fun μ1 => fr (oP (0, 44, 0)) μ μ1 ∧ mBI w (n + 1) μ1) ⟨rfl, fr_trans u2 (fr_mset rfl), fun m hm => (mset_k (show m ≠ n by omega)).trans (u4 m hm), by rw [Nat.add_zero, stp_low hn2 h0 _ (Nat.le_refl _)]; exact mset_at⟩ (FU_lt (by omega))) ?_
    · rintro d ⟨x, μ3⟩ hd ⟨p1, p2, p3, p4⟩
      dsimp only at p1 p2 p3 p4
      subst p1
      have htc : lob n + 1 + d < c := by omega
      have ht : lob n + 1 + d < 8 := by omega
      have hrt := rmv_le (n := rmv n (lob n)) (j := lob n + 1 + d) (by omega) ht
      have hbd := stp_bd hw hn2 h0 (lob n + 1 + d) (by omega)
      have hge := ((stp_le (w := w) (n := n) (X := bst w) (b := bst w (rmv n (lob n))) (M := itS (stp w n (bst w)) (lob n + 1 + d) (bst w (rmv n (lob n)))) (lob n + 1 + d)).mp (Nat.le_refl _)).1
      have hb2 := bst_sm hw (n := rmv (rmv n (lob n)) (lob n + 1 + d)) (by omega)
      have hw2 := hw (lob n) (lob n + 1 + d)
      have hmo := bst_rm (w := w) (n := rmv n (lob n)) (j := lob n + 1 + d) (by omega) ht
      have hs : itS (stp w n (bst w)) (lob n + 1 + (d + 1)) (bst w (rmv n (lob n))) = stp w n (bst w) (lob n + 1 + d) (itS (stp w n (bst w)) (lob n + 1 + d) (bst w (rmv n (lob n)))) := rfl
      rw [un2_s, h44 p2, if_neg (nI_ge htc (by omega)), bd_eq (isOf_eq (by omega)), tb_nI (by omega), nI_1, mul8, show nI (rmv n (lob n)) &&& (((1 : Int32) <<< (nI (lob n + 1 + d) &&& 31)) ^^^ (-1)) = nI (rmv (rmv n (lob n)) (lob n + 1 + d)) from rmv_eq (by omega) ht]
      generalize itS (stp w n (bst w)) (lob n + 1 + d) (bst w (rmv n (lob n))) = a at hbd hs p4 hge
      rw [show stp w n (bst w) (lob n + 1 + d) a = if (rmv n (lob n)).testBit (lob n + 1 + d) = true then max a (w (lob n) (lob n + 1 + d) + bst w (rmv (rmv n (lob n)) (lob n + 1 + d))) else a from rfl] at hs
      cases e : (rmv n (lob n)).testBit (lob n + 1 + d)
      · rw [e, if_neg (by decide)] at hs
        rw [if_pos b2i_f, bd_s]
        exact ok_some ⟨_, rfl, rfl, p2, p3, by rw [hs]; exact p4⟩
      · rw [e, if_pos rfl] at hs
        rw [if_neg b2i_t, gd_eq (zin_nI (by omega) (by omega)), nI_cl (by omega), (hWW p2) _ hlc _ htc]
        by_cases ew : w (lob n) (lob n + 1 + d) = 0
        · rw [show pI w (lob n) (lob n + 1 + d) = -1 from if_pos ew, if_pos (by decide), bd_s]
          rw [ew, Nat.zero_add, Nat.max_eq_left (by omega)] at hs
          exact ok_some ⟨_, rfl, rfl, p2, p3, by rw [hs]; exact p4⟩
        · rw [show pI w (lob n) (lob n + 1 + d) = nI (w (lob n) (lob n + 1 + d)) from if_neg ew, if_neg (nI_nle (by omega) (by omega)), gd_eq (zin_nI (by omega) (by omega)), nI_cl (by omega), p4, p3 _ (by omega), nI_add, great_nI (by omega) (by omega), zlt_s, bd_s, ← hs]
          exact ok_some ⟨_, rfl, rfl, fr_trans p2 (fr_mset rfl), fun m hm => (mset_k (show m ≠ n by omega)).trans (p3 m hm), mset_at⟩
    · rintro ⟨x, μ3⟩ ⟨p1, p2, p3, p4⟩
      dsimp only at p1 p2 p3 p4
      subst p1
      rw [show lob n + 1 + (c - (lob n + 1)) = c by omega] at p4 ⊢
      rw [un2_s, h44 p2, if_pos (nI_le (Nat.le_refl _) (by omega))]
      refine ok_some ⟨_, rfl, p2, fun m hm => ?_⟩
      by_cases e : m = n
      · rw [e, p4, bst_s hn2 h0]
        have := stp_hi (w := w) (X := bst w) (b := bst w (rmv n (lob n))) hn2 h0 (c := c) (fun j h1 _ => lt_pow_tb hnc j h1) (8 - c) (by omega)
        rw [show c + (8 - c) = 8 by omega] at this
        rw [this]
      · exact p3 m (by omega)
    · rintro μ3 ⟨p2, p3⟩
      exact ok_some ⟨_, rfl, nI_1 n, p2, p3⟩
  · rintro ⟨x, μ2⟩ ⟨u1, u2, u4⟩
    dsimp only at u1 u2 u4
    subst u1
    rw [show 2 ^ c - 1 + 1 = 2 ^ c by omega] at u4 ⊢
    rw [un2_s, h44 u2, ep, if_pos (nI_le (Nat.le_refl _) (by omega))]
    exact ok_some ⟨_, rfl, u2, u4⟩
theorem m_first {w : Nat → Nat → Nat} {c n : Nat} (hw : ∀ i j, w i j ≤ 100) (h8 : c ≤ 8) (hc : 2 ^ c ≤ 256) (hnc : n < 2 ^ c) (h0 : n ≠ 0) (hW : mWI w c μ) (hB : mBI w (2 ^ c) μ) : lp (σ := Int32 × Int32) (fun q => un2 q (fun (x36 : Int32) (x37 : Int32) => if x37 ≤ nI (lob n) then some (.inr x36) else gd (zin (nI (rmv n (lob n))) 256) (gd (zin (nI n) 256) (if (μ (0, 44, 0) (nI (rmv n (lob n))).toNatClampNeg) = (μ (0, 44, 0) (nI n).toNatClampNeg) then some (.inr x36) else bd (f_X12_isOf (nI (rmv n (lob n))) x37) (fun (x44 : Int32) => bd (α := Int32) (if x44 = 0 then some x36 else gd (zin ((8 * nI (lob n)) + x37) 2048) (if (μ (0, 45, 0) ((8 * nI (lob n)) + x37).toNatClampNeg) ≤ 0 then some x36 else gd (zin (nI (rmv n (lob n)) &&& ((1 <<< (x37 &&& 31)) ^^^ (-1))) 256) (if ((μ (0, 45, 0) ((8 * nI (lob n)) + x37).toNatClampNeg) + (μ (0, 44, 0) (nI (rmv n (lob n)) &&& ((1 <<< (x37 &&& 31)) ^^^ (-1))).toNatClampNeg)) = (μ (0, 44, 0) (nI n).toNatClampNeg) then some x37 else some x36))) (fun (x46 : Int32) => some (.inl (x46, (x37 + (-1)))))))))) FU ((-1), nI c - 1) = some (onI (fpS w n (lob n))) := by
  have hn2 : n < 256 := by omega
  have hl := lob_lt hn2 h0
  have hlc : lob n < c := by
    rcases Nat.lt_or_ge (lob n) c with e | e
    · exact e
    · have := lob_tb hn2 h0; rw [lt_pow_tb hnc _ e] at this; cases this
  have hr := rmv_lt hn2 hl (lob_tb hn2 h0)
  have s1 := bst_sm hw hn2
  have s2 := bst_sm hw (n := rmv n (lob n)) (by omega)
  have ec : nI c - 1 = nI (c - 1) := by rw [show c = (c - 1) + 1 by omega, nI_pred, show c - 1 + 1 - 1 = c - 1 by omega]
  have key : ∀ R, R = onI (fpS w n (lob n)) → ok (lp (σ := Int32 × Int32) (fun q => un2 q (fun (x36 : Int32) (x37 : Int32) => if x37 ≤ nI (lob n) then some (.inr x36) else gd (zin (nI (rmv n (lob n))) 256) (gd (zin (nI n) 256) (if (μ (0, 44, 0) (nI (rmv n (lob n))).toNatClampNeg) = (μ (0, 44, 0) (nI n).toNatClampNeg) then some (.inr x36) else bd (f_X12_isOf (nI (rmv n (lob n))) x37) (fun (x44 : Int32) => bd (α := Int32) (if x44 = 0 then some x36 else gd (zin ((8 * nI (lob n)) + x37) 2048) (if (μ (0, 45, 0) ((8 * nI (lob n)) + x37).toNatClampNeg) ≤ 0 then some x36 else gd (zin (nI (rmv n (lob n)) &&& ((1 <<< (x37 &&& 31)) ^^^ (-1))) 256) (if ((μ (0, 45, 0) ((8 * nI (lob n)) + x37).toNatClampNeg) + (μ (0, 44, 0) (nI (rmv n (lob n)) &&& ((1 <<< (x37 &&& 31)) ^^^ (-1))).toNatClampNeg)) = (μ (0, 44, 0) (nI n).toNatClampNeg) then some x37 else some x36))) (fun (x46 : Int32) => some (.inl (x46, (x37 + (-1)))))))))) FU ((-1), nI c - 1)) (fun r => r = R) := by
    intro R hR
    rw [ec]
    by_cases e : bst w (rmv n (lob n)) = bst w n
    · refine ok_lp (fun m s => s = ((-1 : Int32), nI (c - 1))) ?_ (N := 0) rfl (FU_lt (by omega))
      rintro m s rfl
      have eR : R = -1 := by rw [hR]; unfold fpS; rw [if_pos e]; rfl
      rw [un2_s, gd_eq (zin_nI (by omega) (by omega)), gd_eq (zin_nI (by omega) (by omega)), nI_cl (by omega), nI_cl (by omega), hB _ (by omega), hB _ hnc, if_pos (congrArg nI e)]
      split
      · exact ok_some eR.symm
      · exact ok_some eR.symm
    · refine ok_lp (fun m s => ∃ d, m + d = c ∧ lob n + 1 ≤ m ∧ s = (onI (fsU (pP w n (lob n)) d m), nI (m - 1))) ?_ (N := c) ⟨0, by omega, by omega, rfl⟩ (FU_lt (by omega))
      rintro m s ⟨d, e1, e2, rfl⟩
      rw [un2_s, gd_eq (zin_nI (by omega) (by omega)), gd_eq (zin_nI (by omega) (by omega)), nI_cl (by omega), nI_cl (by omega), hB _ (by omega), hB _ hnc, if_neg (show ¬ nI (bst w (rmv n (lob n))) = nI (bst w n) from fun q => e ((nI_inj' (by omega) (by omega)).mp q))]
      by_cases em : m = lob n + 1
      · rw [if_pos (nI_le (by omega) (by omega))]
        refine ok_some ?_
        dsimp only
        rw [hR]
        unfold fpS
        rw [if_neg e, em]
        congr 1
        have := fsU_ext (P := pP w n (lob n)) d (8 - c) (lob n + 1) (fun j h1 h2 => by
          unfold pP
          rw [rmv_tb hn2 hl (by omega), lt_pow_tb hnc j (by omega)]; rfl)
        rw [← this, show d + (8 - c) = 7 - lob n by omega]
      · obtain ⟨t, rfl⟩ : ∃ t, m = t + 1 := ⟨m - 1, by omega⟩
        rw [show t + 1 - 1 = t by omega]
        have ht8 : t < 8 := by omega
        have hrt := rmv_le (n := rmv n (lob n)) (j := t) (by omega) ht8
        have hb2 := bst_sm hw (n := rmv (rmv n (lob n)) t) (by omega)
        have hw2 := hw (lob n) t
        have e4 : fsU (pP w n (lob n)) (d + 1) t = if pP w n (lob n) t = true then some t else fsU (pP w n (lob n)) d (t + 1) := rfl
        have next : ∃ m, m < t + 1 ∧ ∃ d', m + d' = c ∧ lob n + 1 ≤ m ∧ (onI (fsU (pP w n (lob n)) (d + 1) t), nI t + (-1)) = (onI (fsU (pP w n (lob n)) d' m), nI (m - 1)) := by
          refine ⟨t, by omega, d + 1, by omega, by omega, ?_⟩
          rw [show nI t + (-1) = nI (t - 1) by rw [show t = (t - 1) + 1 by omega, nI_dec, show t - 1 + 1 - 1 = t - 1 by omega]]
        rw [if_neg (nI_ge (by omega) (by omega)), bd_eq (isOf_eq (by omega)), tb_nI (by omega), mul8, show nI (rmv n (lob n)) &&& (((1 : Int32) <<< (nI t &&& 31)) ^^^ (-1)) = nI (rmv (rmv n (lob n)) t) from rmv_eq (by omega) ht8]
        rw [e4] at next
        cases eb : (rmv n (lob n)).testBit t
        · have ep : pP w n (lob n) t = false := by unfold pP; rw [eb]; rfl
          rw [ep, if_neg (by decide)] at next
          rw [if_pos b2i_f, bd_s]
          exact ok_some next
        · rw [if_neg b2i_t, gd_eq (zin_nI (by omega) (by omega)), nI_cl (by omega), hW _ hlc _ (by omega)]
          by_cases ew : w (lob n) t = 0
          · rw [pP_pos hn2 hl ht8 e ew, if_neg (by decide)] at next
            rw [show pI w (lob n) t = -1 from if_pos ew, if_pos (by decide), bd_s]
            exact ok_some next
          · rw [show pI w (lob n) t = nI (w (lob n) t) from if_neg ew, if_neg (nI_nle (by omega) (by omega)), gd_eq (zin_nI (by omega) (by omega)), nI_cl (by omega), hB _ (by omega), nI_add]
            rw [show pP w n (lob n) t = ((rmv n (lob n)).testBit t && decide (w (lob n) t + bst w (rmv (rmv n (lob n)) t) = bst w n)) from rfl] at next
            rw [eb, Bool.true_and] at next
            by_cases ev : w (lob n) t + bst w (rmv (rmv n (lob n)) t) = bst w n
            · rw [decide_eq_true ev, if_pos rfl] at next
              rw [if_pos (congrArg nI ev), bd_s]
              exact ok_some next
            · rw [decide_eq_false ev, if_neg (by decide)] at next
              rw [if_neg (fun q => ev ((nI_inj' (by omega) (by omega)).mp q)), bd_s]
              exact ok_some next
  obtain ⟨r, er, hr'⟩ := key _ rfl
  rw [er, hr']
theorem OP_pairs {a1 : Int32} : OPx y cmB (f_X11_pairs y a1) (f_X12_pairs a1) := by
  rintro μ ⟨S, tp, tl, fa, kp, ac, hc, hm, ho⟩
  have h8 := OA_c ho
  obtain ⟨A, hA, eA⟩ : isS (actS S.2.1 S.1) := isS_bset h8
  have hw := wS_100 (L := S.2.2) h8 ho.1.1.2
  have ha := wS_A (L := S.2.2) h8 eA
  have hAc : A < 2 ^ S.1 := tb_lt_all ⟨S.1, by omega⟩ ⟨A, hA⟩ (fun j hj => by
    have : tbit (nI A) j.val = false := by rw [← eA]; exact bset_hi h8 hj
    rw [tb_nI (by omega)] at this
    exact this)
  obtain ⟨ep, lp2⟩ := pow_nI ⟨S.1, by omega⟩
  dsimp only at ep lp2
  have hsm := bst_sm hw hA
  have CL : ok (bd (f_X10_look y 0 μ) (fun (μ7 : ZMem) => bd (f_X1_load μ7) (fun (μ9 : ZMem) => f_X1_weighPairs 0 μ9))) (fun μ' => cWI (wS S.2.2 S.1 S.2.1) μ' ∧ cBI (wS S.2.2 S.1 S.2.1) 256 μ' ∧ fr scP μ μ') := by
    refine ok_b1 (c_look0 hc.1 ho.1) ?_
    rintro μ1 ⟨w1, w2, w3, w4⟩
    refine ok_b1 (c_load1 (c := S.1) (v := S.2.1) (L := S.2.2) h8 w3.1 w4) ?_
    rintro μ2 ⟨u1, u2⟩
    have f2 : fr scP μ μ2 := fr_trans (fr_mono w2 (fun o i h => vw_sc h)) (fr_mono u2 (fun o i h => grp_sc h))
    refine ok_mono (c_weigh (L := S.2.2) ho.1.1 (RC_sc hc f2).1.1 u1) ?_
    rintro μ3 ⟨p1, p2, p3⟩
    exact ⟨p1, p2, fr_trans f2 (fr_mono p3 (fun o i h => prP_sc h))⟩
  have MD : ∀ μ1, RMo μ1 S tp tl fa kp ac → ok (bd (lp (σ := Int32 × ZMem) (fun q => un2 q (fun (x9 : Int32) (μ10 : ZMem) => if (μ10 (0, 33, 0) 3) ≤ x9 then some (.inr μ10) else bd (lp (σ := Int32 × ZMem) (fun q => un2 q (fun (x13 : Int32) (μ14 : ZMem) => if (μ14 (0, 33, 0) 3) ≤ x13 then some (.inr μ14) else bd2 (α := Int32) (β := ZMem) (if x9 = x13 then some ((-1), μ14) else bd2 (f_X12_both x9 x13 μ14) (fun (x21 : Int32) (μ22 : ZMem) => some (x21, μ22))) (fun (x18 : Int32) (μ19 : ZMem) => gd (zin ((8 * x9) + x13) 2048) (zlt (mset μ19 (0, 45, 0) ((8 * x9) + x13).toNatClampNeg x18) (fun (μ24 : ZMem) => some (.inl ((x13 + 1), μ24))))))) FU (0, μ10)) (fun (μ15 : ZMem) => some (.inl ((x9 + 1), μ15))))) FU (0, (mset μ1 (0, 32, 0) 0 0))) (fun (μ11 : ZMem) => f_X12_allBest μ11)) (fun μ' => mWI (wS S.2.2 S.1 S.2.1) S.1 μ' ∧ mBI (wS S.2.2 S.1 S.2.1) (2 ^ S.1) μ' ∧ fr msP μ1 μ' ∧ μ' MO0 0 = 0 ∧ μ' MV0 = S.2.1) := by
    intro μ1 r1
    have hv : (mset μ1 (0, 32, 0) 0 0) MV0 = S.2.1 := (mset_ne (by decide)).trans r1.1
    refine ok_b1 (m_paths hv ho.1) ?_
    rintro μ2 ⟨u1, u2⟩
    have hv2 := (mprP_v u1).trans hv
    refine ok_mono (m_allBest hw h8 (by rw [show μ2 (0, 33, 0) = S.2.1 from hv2]; exact OA_3 ho) u2) ?_
    rintro μ3 ⟨p1, p2⟩
    have p3 : fr mprP μ2 μ3 := fr_mono p1 (fun o i h => Or.inr (Or.inr h))
    refine ⟨fun i hi j hj => by rw [p1.1 _ _ (show ¬ oP (0, 44, 0) (0, 45, 0) _ from fun q => absurd (show ((0, 45, 0) : ZId) = (0, 44, 0) from q) (by decide))]; exact u2 i hi j hj, p2, fr_trans thr_fr (fr_mono (fr_trans u1 p3) (fun o i h => mprP_ms h)), ?_, (mprP_v p3).trans hv2⟩
    rw [mprP_0 p3, mprP_0 u1]
    exact thr_0
  obtain ⟨μc, ec, c1, c2, c3⟩ := CL
  have ECL : ∀ {β : Type} (K : ZMem → Option β), bd (f_X10_look y 0 μ) (fun (μ7 : ZMem) => bd (f_X1_load μ7) (fun (μ9 : ZMem) => bd (f_X1_weighPairs 0 μ9) K)) = K μc := by
    intro β K
    obtain ⟨μ7, q1, ec⟩ := bd_s' ec
    obtain ⟨μ9, q2, ec⟩ := bd_s' ec
    rw [bd_eq q1, bd_eq q2, bd_eq ec]
  have act2 : ∀ {μ2 : ZMem}, μ2 MV0 = S.2.1 → f_X12_inState 2 μ2 = some (nI A) := fun h => by rw [m_inState_eq (by rw [h]; exact OA_3 ho) h8, h, ← eA]; rfl
  by_cases e1 : a1 = -1
  · subst e1
    refine op_q (A := .inl (nI (bst (wS S.2.2 S.1 S.2.1) A))) hc hm ho ?_ ?_
    · unfold f_X11_pairs
      rw [jk_s, if_pos rfl, ECL, if_pos rfl, bd_eq (c_mostP hA ha c2), bd_s]
      exact ok_some ⟨rfl, c3⟩
    · intro μ1 r1
      obtain ⟨μm, em, m1, m2, m3, m4, m5⟩ := MD μ1 r1
      obtain ⟨μ2, q1, em⟩ := bd_s' em
      unfold f_X12_pairs
      rw [jk_s, if_pos rfl, bd_s, zlt_s, thr_0, if_pos (by decide), bd_eq q1, bd_eq em, bd_eq (act2 m5), if_pos rfl, gd_eq (zin_nI hA (by omega)), nI_cl (by omega), m2 A hAc]
      exact ok_some ⟨⟨m4, rfl⟩, m3⟩
  · cases hn : nodeB S.1 a1
    · refine op_ref (k := 3) hc hm ho (by decide) ?_ ?_
      · unfold f_X11_pairs
        rw [jk_s, if_neg e1, bd_eq (c_isNode hc.1), hn, if_pos b2i_f]
      · intro μ1 r1
        unfold f_X12_pairs
        rw [jk_s, if_neg e1, bd_eq (m_node0 r1 ho), hn, if_pos b2i_f, bd_s, zlt_s, thr_0, if_neg (by decide)]
        rfl
    · obtain ⟨k, hk, rfl⟩ := nodeB_t h8 hn
      refine op_q (A := .inl (ptS (wS S.2.2 S.1 S.2.1) (nI k) A)) hc hm ho ?_ ?_
      · unfold f_X11_pairs
        rw [jk_s, if_neg e1, bd_eq (c_isNode hc.1), hn, if_neg b2i_t, ECL, if_neg e1, bd_eq (c_partner hw hA ha (by omega) c1 c2), bd_s]
        exact ok_some ⟨rfl, c3⟩
      · intro μ1 r1
        obtain ⟨μm, em, m1, m2, m3, m4, m5⟩ := MD μ1 r1
        obtain ⟨μ2, q1, em⟩ := bd_s' em
        unfold f_X12_pairs
        rw [jk_s, if_neg e1, bd_eq (m_node0 r1 ho), hn, if_neg b2i_t, bd_s, zlt_s, thr_0, if_pos (by decide), bd_eq q1, bd_eq em, bd_eq (act2 m5), if_neg e1, show μm (0, 33, 0) 3 = nI S.1 by rw [show μm (0, 33, 0) = S.2.1 from m5]; exact OA_3 ho]
        refine ok_b1 (P := fun z => sm z (fun (_ : Unit) => some ((-1 : Int32), μm)) (fun r0 => some r0) = some (ptS (wS S.2.2 S.1 S.2.1) (nI k) A, μm)) ?_ ?_
        · refine ok_lp (fun m s => s = nI m ∧ m < 2 ^ S.1 ∧ ptS (wS S.2.2 S.1 S.2.1) (nI k) m = ptS (wS S.2.2 S.1 S.2.1) (nI k) A) ?_ (N := A) ⟨rfl, hAc, rfl⟩ (FU_lt (by omega))
          rintro n s ⟨rfl, hnc, hR⟩
          have hn2 : n < 256 := by omega
          by_cases h0 : n = 0
          · subst h0
            rw [if_pos (show nI 0 = 0 from rfl)]
            refine ok_some ?_
            dsimp only
            rw [← hR, ptS_0]
            rfl
          · have hz : ¬ nI n = 0 := fun q => h0 ((nI_inj' (b := 0) (by omega) (by omega)).mp q)
            have hl := lob_lt hn2 h0
            have hr := rmv_lt hn2 hl (lob_tb hn2 h0)
            rw [if_neg hz, bd_eq (show f_X12_lowest (nI n) = some (nI (lob n)) from m_low2 ⟨n, hn2, rfl⟩ hz), zlt_s, show nI n &&& (((1 : Int32) <<< (nI (lob n) &&& 31)) ^^^ (-1)) = nI (rmv n (lob n)) from rmv_eq hn2 hl, zlt_s, bd_eq (m_first hw h8 lp2 hnc h0 m1 m2)]
            rw [ptS_s hn2 h0] at hR
            by_cases ek : nI (lob n) = nI k
            · rw [if_pos ek] at hR
              rw [if_pos ek]
              refine ok_some ?_
              dsimp only
              rw [← hR]
              rfl
            · rw [if_neg ek] at hR
              rw [if_neg ek]
              by_cases eo : onI (fpS (wS S.2.2 S.1 S.2.1) n (lob n)) = nI k
              · rw [if_pos eo] at hR
                rw [if_pos eo]
                refine ok_some ?_
                dsimp only
                rw [← hR]
                rfl
              · rw [if_neg eo] at hR
                rw [if_neg eo]
                have hx := nxS_lt (w := wS S.2.2 S.1 S.2.1) hn2 hl (lob_tb hn2 h0)
                unfold nxS at hR hx
                cases ef : fpS (wS S.2.2 S.1 S.2.1) n (lob n) with
                | none =>
                  rw [ef] at hR hx
                  rw [if_pos (show onI none = -1 from rfl), zlt_s]
                  exact ok_some ⟨rmv n (lob n), hx, rfl, by omega, hR⟩
                | some j =>
                  rw [ef] at hR hx
                  have hj := (fpS_some ef).2.2 hl
                  rw [if_neg (show ¬ onI (some j) = -1 from nI_ne1 (by omega)), zlt_s, show nI (rmv n (lob n)) &&& (((1 : Int32) <<< (onI (some j) &&& 31)) ^^^ (-1)) = nI (rmv (rmv n (lob n)) j) from rmv_eq (by omega) hj]
                  exact ok_some ⟨rmv (rmv n (lob n)) j, hx, rfl, by dsimp only at hx; omega, hR⟩
        · intro z hz
          rw [hz]
          exact ok_some ⟨⟨m4, rfl⟩, m3⟩
end PQ
