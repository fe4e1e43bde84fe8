/-! acts on both sides: spare -/
theorem tbit_nat {n k : Nat} (hn : n < 256) : tbit (nI n) k = n.testBit k := by
  unfold tbit nI
  rw [show (Int32.ofNat n).toBitVec = BitVec.ofNat 32 n from rfl, BitVec.getLsbD_ofNat]
  by_cases h : k < 32
  · rw [decide_eq_true h, Bool.true_and]
  · rw [Nat.testBit_lt_two_pow (Nat.lt_of_lt_of_le hn (Nat.le_trans (by decide : 256 ≤ 2 ^ 32) (Nat.pow_le_pow_right (by decide) (by omega)))), Bool.and_false]
theorem sub_le {n m : Nat} (hn : n < 256) (hm : m < 256) (h : ∀ k, k < 8 → tbit (nI n) k = true → tbit (nI m) k = true) : n ≤ m := by
  have e : n &&& m = n := Nat.eq_of_testBit_eq fun k => by
    rw [Nat.testBit_and, ← tbit_nat hn, ← tbit_nat hm]
    cases t : tbit (nI n) k
    · rfl
    · have hk : k < 8 := by
        by_cases hk : k < 8
        · exact hk
        · rw [isS_iff.mp ⟨n, hn, rfl⟩ k (by omega)] at t; cases t
      rw [h k hk t]; rfl
  rw [← e]
  exact Nat.and_le_right
/-- the smallest set to spare -/
def spB (F : Nat → Int32) (c : Nat) (a : Int32) (n : Nat) : Bool := decide (nI n &&& (a ^^^ (-1)) = 0) && frS F (a &&& (nI n ^^^ (-1))) c
def spT (F : Nat → Int32) (c : Nat) (a : Int32) : Nat → Int32
  | 0 => a
  | n + 1 => if pc (spT F c a n) ≤ pc (nI n) then spT F c a n else if spB F c a n = true then nI n else spT F c a n
theorem spT_s {F : Nat → Int32} {c n : Nat} {a : Int32} : spT F c a (n + 1) = if pc (spT F c a n) ≤ pc (nI n) then spT F c a n else if spB F c a n = true then nI n else spT F c a n := rfl
theorem spT_ok {F : Nat → Int32} {c : Nat} {a : Int32} (ha : isS a) : ∀ n, n ≤ 256 → isS (spT F c a n) ∧ pc (spT F c a n) ≤ pc a
  | 0, _ => ⟨ha, Nat.le_refl _⟩
  | n + 1, hn => by
    obtain ⟨h1, h2⟩ := spT_ok ha n (by omega)
    rw [spT_s]
    by_cases e : pc (spT F c a n) ≤ pc (nI n)
    · rw [if_pos e]; exact ⟨h1, h2⟩
    · rw [if_neg e]
      split
      · exact ⟨⟨n, by omega, rfl⟩, by omega⟩
      · exact ⟨h1, h2⟩
theorem spT_stop {F : Nat → Int32} {c A : Nat} (hA : A < 256) : ∀ n, n ≤ 256 → A ≤ n → spT F c (nI A) n = spT F c (nI A) A
  | 0, _, h => by rw [show A = 0 by omega]
  | n + 1, hn, h => by
    by_cases e : A = n + 1
    · rw [e]
    · have ih := spT_stop (F := F) (c := c) hA n (by omega) (by omega)
      rw [spT_s]
      by_cases e1 : pc (spT F c (nI A) n) ≤ pc (nI n)
      · rw [if_pos e1]; exact ih
      · rw [if_neg e1, if_neg]
        · exact ih
        · intro hb
          unfold spB at hb
          rw [Bool.and_eq_true] at hb
          have hs := (and_not_0 (x := nI n) (y := nI A) ⟨n, by omega, rfl⟩).mp (of_decide_eq_true hb.1)
          have := sub_le (by omega) hA hs
          have en : n = A := by omega
          have hp := (spT_ok (F := F) (c := c) (a := nI A) ⟨A, hA, rfl⟩ n (by omega)).2
          rw [en] at e1 hp
          exact e1 hp
section PO
variable {y : ZLay} {μ : ZMem} {S S' : SV} {tp tp' : Vec} {tl tl' : Nat} {fa fa' : Int32} {kp kp' : Option SV} {ac ac' : List (Nat × Vec)}
def frdP (o : ZId) (i : Nat) : Prop := askP o i ∨ o = (0, 44, 0)
theorem frd_ms {o : ZId} {i : Nat} (h : frdP o i) : msP o i := by
  rcases h with h | rfl
  · exact ask_ms h
  · exact Or.inr (Or.inr ⟨rfl, by decide⟩)
theorem frd_v {μ1 μ2 : ZMem} (f : fr frdP μ1 μ2) : μ2 MV0 = μ1 MV0 := fr_at f (by
  rintro i (h | h)
  · exact not_ask (by decide) (by decide) i h
  · exact absurd h (by decide))
theorem m_fill (hv : μ MV0 = S.2.1) (ho : OS S) : ok (lp (σ := Int32 × ZMem) (fun q => un2 q (fun (x4 : Int32) (μ5 : ZMem) => if (μ5 (0, 33, 0) 3) ≤ x4 then some (.inr μ5) else gd (zin x4 256) (zlt (mset μ5 (0, 44, 0) x4.toNatClampNeg 0) (fun (μ9 : ZMem) => bd (lp (σ := Int32 × ZMem) (fun q => un2 q (fun (x10 : Int32) (μ11 : ZMem) => if (μ11 (0, 33, 0) 3) ≤ x10 then some (.inr μ11) else bd2 (f_X12_areFriends x4 x10 μ11) (fun (x15 : Int32) (μ16 : ZMem) => zlt (α := Int32) (if x15 = 0 then 0 else (1 <<< (x10 &&& 31))) (fun (x18 : Int32) => zlt (mset μ16 (0, 44, 0) x4.toNatClampNeg ((μ11 (0, 44, 0) x4.toNatClampNeg) ||| x18)) (fun (μ19 : ZMem) => some (.inl ((x10 + 1), μ19))))))) FU (0, μ9)) (fun (μ12 : ZMem) => some (.inl ((x4 + 1), μ12))))))) FU (0, μ)) (fun μ' => fr frdP μ μ' ∧ ∀ k, k < S.1 → μ' (0, 44, 0) k = frM S.2.2 S.1 S.2.1 k) := by
  have h8 : S.1 ≤ 8 := ho.1.1.1
  have v3 : ∀ {μ1 : ZMem}, fr frdP μ μ1 → μ1 (0, 33, 0) 3 = nI S.1 := fun f => by rw [show _ = S.2.1 from (frd_v f).trans hv]; exact ho.1.1.2.1
  refine ok_seq S.1 (fun k s => s.1 = nI k ∧ fr frdP μ s.2 ∧ ∀ i, i < k → s.2 (0, 44, 0) i = frM S.2.2 S.1 S.2.1 i) ?_ ?_ ⟨rfl, fr_refl, fun i hi => absurd hi (by omega)⟩ (FU_lt (by omega))
  · rintro k ⟨x, μ1⟩ hk ⟨w1, w2, w3⟩
    dsimp only at w1 w2 w3
    subst w1
    rw [un2_s, v3 w2, if_neg (nI_ge hk (by omega)), gd_eq (zin_nI (by omega) (by omega)), nI_cl (by omega), zlt_s]
    refine ok_b1 (ok_seq S.1 (fun j s => s.1 = nI j ∧ fr frdP μ s.2 ∧ (∀ i, i < k → s.2 (0, 44, 0) i = frM S.2.2 S.1 S.2.1 i) ∧ s.2 (0, 44, 0) k = bset (frB S.2.2 S.1 S.2.1 k) j) ?_ ?_ (Q := fun μ2 => fr frdP μ μ2 ∧ (∀ i, i < k → μ2 (0, 44, 0) i = frM S.2.2 S.1 S.2.1 i) ∧ μ2 (0, 44, 0) k = frM S.2.2 S.1 S.2.1 k) ⟨rfl, fr_trans w2 (fr_mset (Or.inr rfl)), fun i hi => (mset_k (show i ≠ k by omega)).trans (w3 i hi), mset_at⟩ (FU_lt (by omega))) ?_
    · rintro j ⟨x, μ2⟩ hj ⟨u1, u2, u3, u4⟩
      dsimp only at u1 u2 u3 u4
      subst u1
      rw [un2_s, v3 u2, if_neg (nI_ge hj (by omega))]
      refine ok_b2 (m_friends ((frd_v u2).trans hv) ho hk hj) ?_
      rintro x μ3 ⟨p1, p2⟩
      dsimp only at p1 p2
      subst p1
      rw [u4, zlt_s, zlt_s]
      have e1 : bset (frB S.2.2 S.1 S.2.1 k) j ||| (if b2i (frB S.2.2 S.1 S.2.1 k j) = 0 then (0 : Int32) else (1 : Int32) <<< (nI j &&& 31)) = bset (frB S.2.2 S.1 S.2.1 k) (j + 1) := by
        cases b : frB S.2.2 S.1 S.2.1 k j
        · rw [if_pos b2i_f, bset_f b, Int32.or_zero]
        · rw [if_neg b2i_t, bset_t b]; rfl
      rw [e1]
      refine ok_some ⟨_, rfl, nI_1 j, fr_trans u2 (fr_trans (fr_mono p2 (fun o i h => Or.inl h)) (fr_mset (Or.inr rfl))), fun i hi => ?_, mset_at⟩
      dsimp only
      rw [mset_k (show i ≠ k by omega), p2.1 _ _ (not_ask (by decide) (by decide) i)]
      exact u3 i hi
    · rintro ⟨x, μ2⟩ ⟨u1, u2, u3, u4⟩
      dsimp only at u1 u2 u3 u4
      subst u1
      rw [un2_s, v3 u2, if_pos (nI_le (Nat.le_refl _) (by omega))]
      exact ok_some ⟨_, rfl, u2, u3, u4⟩
    · rintro μ2 ⟨u2, u3, u4⟩
      refine ok_some ⟨_, rfl, nI_1 k, u2, fun i hi => ?_⟩
      dsimp only
      by_cases e : i = k
      · rw [e]; exact u4
      · exact u3 i (by omega)
  · rintro ⟨x, μ1⟩ ⟨w1, w2, w3⟩
    dsimp only at w1 w2 w3
    subst w1
    rw [un2_s, v3 w2, if_pos (nI_le (Nat.le_refl _) (by omega))]
    exact ok_some ⟨_, rfl, w2, w3⟩
theorem OP_spare : OPn y (f_X11_spare y) f_X12_spare := by
  rintro μ ⟨S, tp, tl, fa, kp, ac, hc, hm, ho⟩
  have h8 := OA_c ho
  obtain ⟨A, hA, eA⟩ : isS (actS S.2.1 S.1) := isS_bset h8
  have aS : isS (actS S.2.1 S.1) := isS_bset h8
  have aH : ∀ (z : Int32) (j : Nat), S.1 ≤ j → tbit (actS S.2.1 S.1 &&& z) j = false := fun z j hj => by rw [tbit_and, show tbit (actS S.2.1 S.1) j = false from bset_hi h8 hj, Bool.false_and]
  obtain ⟨F, hF⟩ : ∃ F, F = frM S.2.2 S.1 S.2.1 := ⟨_, rfl⟩
  have hpc : ∀ n, n ≤ 256 → isS (spT F S.1 (actS S.2.1 S.1) n) := fun n hn => (spT_ok aS n hn).1
  refine op_p (A := spT F S.1 (actS S.2.1 S.1) 256) hc hm ho ?_ ?_
  · unfold f_X11_spare
    refine ok_b1 (c_look0 hc.1 ho.1) ?_
    rintro μ1 ⟨w1, w2, w3, w4⟩
    refine ok_b1 (c_load1 (c := S.1) (v := S.2.1) (L := S.2.2) h8 w3.1 w4) ?_
    rintro μ2 ⟨u1, u2⟩
    have e0 : f_X1_fewestToSpare μ2 = some (spT F S.1 (actS S.2.1 S.1) 256) := by
      unfold f_X1_fewestToSpare
      rw [u1.1, zlt_s]
      rw [bd_eq (lp_seq (s0 := (actS S.2.1 S.1, (0 : Int32))) (r := spT F S.1 (actS S.2.1 S.1) 256) 256 (fun n => (spT F S.1 (actS S.2.1 S.1) n, nI n)) ?_ ?_ (FU_lt (by omega)) rfl)]
      · intro n hn
        have nS : isS (nI n) := ⟨n, hn, rfl⟩
        have p1 := pc_le (spT F S.1 (actS S.2.1 S.1) n)
        have p2 := pc_le (nI n)
        rw [un2_s, if_neg (show ¬ (256 : Int32) ≤ nI n from nI_ge (b := 256) hn (by omega)), bc_eq (hpc n (by omega)), bc_eq nS, zlt_s, bd_eq (c_allFr h8 (isS_and aS) (aH _) u1), nI_1, spT_s]
        by_cases e : pc (spT F S.1 (actS S.2.1 S.1) n) ≤ pc (nI n)
        · rw [if_pos (show nI (pc (spT F S.1 (actS S.2.1 S.1) n)) ≤ nI (pc (nI n)) from nI_le e (by omega)), if_pos rfl, if_pos e, bd_s]
        · rw [if_neg (show ¬ nI (pc (spT F S.1 (actS S.2.1 S.1) n)) ≤ nI (pc (nI n)) from nI_ge (by omega) (by omega)), if_neg (show ¬ (1 : Int32) = 0 by decide), if_neg e, ← hF]
          unfold spB
          by_cases e1 : nI n &&& (actS S.2.1 S.1 ^^^ (-1)) = 0
          · rw [if_pos e1, decide_eq_true e1, Bool.true_and]
            cases frS F (actS S.2.1 S.1 &&& (nI n ^^^ (-1))) S.1
            · rw [if_pos b2i_f, if_neg (by decide), bd_s]
            · rw [if_neg b2i_t, if_pos rfl, bd_s]
          · rw [if_neg e1, decide_eq_false e1, Bool.false_and, if_neg (by decide), bd_s]
      · rw [un2_s, if_pos (by decide)]
    rw [bd_eq e0]
    exact ok_some ⟨rfl, fr_trans (fr_mono w2 (fun o i h => vw_sc h)) (fr_mono u2 (fun o i h => grp_sc h))⟩
  · intro μ1 r1 hv
    unfold f_X12_spare
    have e1 : f_X12_inState 2 (mset μ1 (0, 32, 0) 0 0) = some (actS S.2.1 S.1) := by rw [m_inState_eq (by rw [hv]; exact OA_3 ho) h8, hv]; rfl
    rw [zlt_s, bd_eq e1]
    refine ok_b1 (m_fill hv ho.1) ?_
    rintro μ2 ⟨f2, g2⟩
    have hv2 := (frd_v f2).trans hv
    rw [show spT F S.1 (actS S.2.1 S.1) 256 = spT F S.1 (actS S.2.1 S.1) A by rw [eA]; exact spT_stop hA 256 (by omega) (by omega)]
    rw [bd_eq (lp_seq (s0 := (actS S.2.1 S.1, (0 : Int32))) (r := spT F S.1 (actS S.2.1 S.1) A) A (fun n => (spT F S.1 (actS S.2.1 S.1) n, nI n)) ?_ ?_ (FU_lt (by omega)) rfl)]
    · exact ok_some ⟨rfl, fr_mono f2 (fun o i h => frd_ms h)⟩
    · intro n hn
      have nS : isS (nI n) := ⟨n, by omega, rfl⟩
      have p1 := pc_le (spT F S.1 (actS S.2.1 S.1) n)
      have p2 := pc_le (nI n)
      rw [un2_s, if_neg (show ¬ actS S.2.1 S.1 ≤ nI n by rw [eA]; exact nI_ge hn (by omega)), bd_eq (bits_eq nS), bd_eq (bits_eq (hpc n (by omega))), bd_eq (m_allFr (c := S.1) (L := S.2.2) hv2 (OA_3 ho) h8 g2), nI_1, spT_s, ← hF]
      unfold spB
      by_cases e1 : nI n &&& (actS S.2.1 S.1 ^^^ (-1)) = 0
      · rw [if_pos e1, decide_eq_true e1, Bool.true_and]
        by_cases e : pc (spT F S.1 (actS S.2.1 S.1) n) ≤ pc (nI n)
        · rw [if_pos (show nI (pc (spT F S.1 (actS S.2.1 S.1) n)) ≤ nI (pc (nI n)) from nI_le e (by omega)), if_pos e, bd_s]
        · rw [if_neg (show ¬ nI (pc (spT F S.1 (actS S.2.1 S.1) n)) ≤ nI (pc (nI n)) from nI_ge (by omega) (by omega)), if_neg e]
          cases frS F (actS S.2.1 S.1 &&& (nI n ^^^ (-1))) S.1
          · rw [if_pos b2i_f, if_neg (by decide), bd_s]
          · rw [if_neg b2i_t, if_pos rfl, bd_s]
      · rw [if_neg e1, decide_eq_false e1, Bool.false_and, if_neg (show ¬ (false = true) by decide), bd_s]
        split <;> rfl
    · rw [un2_s, if_pos (show actS S.2.1 S.1 ≤ nI A by rw [eA]; exact Int32.le_refl _)]
end PO
