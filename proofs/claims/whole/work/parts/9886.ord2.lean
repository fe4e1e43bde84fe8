/-! the shortest way through a set, and which begin it -/
def ds (ky : Nat → Int) (k j : Nat) : Int := max (ky k - ky j) (ky j - ky k)
def exT (ky : Nat → Int) (n a b : Nat) : Prop := a < 8 ∧ b < 8 ∧ n.testBit a = true ∧ n.testBit b = true ∧ ∀ j, j < 8 → n.testBit j = true → ky a ≤ ky j ∧ ky j ≤ ky b
def PI (ky : Nat → Int) (n k : Nat) (x : Int) : Prop := ∀ a b, exT ky n a b → ky b - ky a + min (ky k - ky a) (ky b - ky k) ≤ x ∧ (ky k = ky a ∨ ky k = ky b → x ≤ ky b - ky a)
theorem exT_neg {ky : Nat → Int} {n a b : Nat} (h : exT (fun j => -ky j) n a b) : exT ky n b a := ⟨h.2.1, h.1, h.2.2.2.1, h.2.2.1, fun j hj ht => by have := h.2.2.2.2 j hj ht; dsimp only at this; omega⟩
theorem PI_neg {ky : Nat → Int} {n k : Nat} {x : Int} (h : PI ky n k x) : PI (fun j => -ky j) n k x := by
  intro a b hab
  obtain ⟨h1, h2⟩ := h b a (exT_neg hab)
  dsimp only
  exact ⟨by omega, fun q => by have := h2 (by omega); omega⟩
theorem exT_ex {ky : Nat → Int} {n : Nat} (hn : n < 256) (h0 : n ≠ 0) : ∃ a b, exT ky n a b := by
  have h1 := slS_ok (ky := ky) hn h0
  have h2 := slS_ok (ky := fun j => -ky j) hn h0
  refine ⟨_, _, h1.1, h2.1, h1.2.1, h2.2.1, fun j hj ht => ?_⟩
  have g1 := h1.2.2 j hj ht
  have g2 := h2.2.2 j hj ht
  dsimp only at g2
  omega
theorem PI_one {ky : Nat → Int} {n k : Nat} (hn : n < 256) (hk : k < 8) (ht : n.testBit k = true) (hr : rmv n k = 0) : PI ky n k 0 := by
  intro a b h
  obtain ⟨h1, h2, h3, h4, h5⟩ := h
  have all : ∀ j, j < 8 → n.testBit j = true → j = k := by
    intro j hj hjt
    by_cases e : j = k
    · exact e
    · have := rmv_tb hn hk hj
      rw [hr, Nat.zero_testBit, hjt, decide_eq_true (show j ≠ k from e)] at this
      cases this
  rw [all a h1 h3, all b h2 h4]
  omega
theorem PI_more {ky : Nat → Int} {n k : Nat} {x : Int} {p : Nat → Int} (hn : n < 256) (hk : k < 8) (ht : n.testBit k = true) (hr : rmv n k ≠ 0) (hb : ∀ j, j < 8 → n.testBit j = true → -999 ≤ ky j ∧ ky j ≤ 999)
    (h1 : ∀ j, j < 8 → (rmv n k).testBit j = true → x ≤ ds ky k j + p j) (h2 : x = 2000000000 ∨ ∃ j, j < 8 ∧ (rmv n k).testBit j = true ∧ x = ds ky k j + p j) (h3 : ∀ j, j < 8 → (rmv n k).testBit j = true → PI ky (rmv n k) j (p j)) : PI ky n k x := by
  have hr2 := rmv_le hn hk
  obtain ⟨a', b', e1, e2, e3, e4, e5⟩ := exT_ex (ky := ky) (n := rmv n k) (by omega) hr
  have inn : ∀ j, j < 8 → (rmv n k).testBit j = true → n.testBit j = true := fun j hj h => by
    rw [rmv_tb hn hk hj, Bool.and_eq_true] at h; exact h.1
  have inr : ∀ j, j < 8 → n.testBit j = true → j = k ∨ (rmv n k).testBit j = true := fun j hj h => by
    by_cases e : j = k
    · exact Or.inl e
    · right; rw [rmv_tb hn hk hj, h, decide_eq_true (show j ≠ k from e)]; rfl
  intro a b hab
  obtain ⟨g1, g2, g3, g4, g5⟩ := hab
  have ga := g5 a' e1 (inn _ e1 e3)
  have gb := g5 b' e2 (inn _ e2 e4)
  have gk := g5 k hk ht
  have xa : ky a = ky k ∨ ky a' ≤ ky a := by
    rcases inr a g1 g3 with rfl | h
    · exact Or.inl rfl
    · exact Or.inr (e5 a g1 h).1
  have xb : ky b = ky k ∨ ky b ≤ ky b' := by
    rcases inr b g2 g4 with rfl | h
    · exact Or.inl rfl
    · exact Or.inr (e5 b g2 h).2
  constructor
  · rcases h2 with rfl | ⟨j, hj, hjt, rfl⟩
    · have q1 := hb a g1 g3
      have q2 := hb b g2 g4
      have q3 := hb k hk ht
      omega
    · have q := (h3 j hj hjt a' b' ⟨e1, e2, e3, e4, e5⟩).1
      have q2 := e5 j hj hjt
      unfold ds
      omega
  · intro hx
    have pa := h1 a' e1 e3
    have pb := h1 b' e2 e4
    have qa := (h3 a' e1 e3 a' b' ⟨e1, e2, e3, e4, e5⟩).2 (Or.inl rfl)
    have qb := (h3 b' e2 e4 a' b' ⟨e1, e2, e3, e4, e5⟩).2 (Or.inr rfl)
    unfold ds at pa pb
    omega
def clS (v : Vec) (k : Nat) : Int := (nd v k 0).toInt
theorem les_toInt {x z : Int32} : (f_X12_lesser x z).toInt = min x.toInt z.toInt := by
  rw [lesser_eq]
  split <;> rename_i h <;> rw [Int32.lt_iff_toInt_lt] at h <;> omega
theorem sign_toInt {x : Int32} {a : Int} (h : rng x (-a) a) (ha : a ≤ 100000) : (f_X12_sign x).toInt = max x.toInt (-x.toInt) := by
  unfold f_X12_sign
  rw [zlt_s]
  obtain ⟨h1, h2⟩ := h
  obtain ⟨-, q⟩ := rng_neg (x := x) (a := -a) (b := a) ⟨h1, h2⟩ (by omega) (by omega)
  have e0 : (0 : Int32).toInt = 0 := by decide
  by_cases e : 0 ≤ x
  · rw [if_pos e]
    rw [Int32.le_iff_toInt_le] at e
    omega
  · rw [if_neg e]
    rw [Int32.le_iff_toInt_le] at e
    omega
theorem apart_ds {c : Nat} {v : Vec} {k o : Nat} (hB : BV c v) (hk : k < c) (hq : o < c) : (f_X12_sign (nd v k 0 - nd v o 0)).toInt = ds (clS v) k o := by
  have r1 := (hB.1 k hk).1
  have r2 := (hB.1 o hq).1
  have r := rng_sub r1 r2 (by omega) (by omega)
  rw [sign_toInt (a := 1998) (rng_mono r (by omega) (by omega)) (by omega), Int32.toInt_sub, bmod_id (by have := r1.1; have := r2.2; omega) (by have := r1.2; have := r2.1; omega)]
  unfold ds clS
  omega
theorem add_toInt {x z : Int32} {a b c d : Int} (hx : rng x a b) (hz : rng z c d) (h1 : -2147483648 ≤ a + c) (h2 : b + d ≤ 2147483647) : (x + z).toInt = x.toInt + z.toInt := by
  obtain ⟨x1, x2⟩ := hx
  obtain ⟨z1, z2⟩ := hz
  rw [Int32.toInt_add, bmod_id (by omega) (by omega)]
theorem sub_toInt {x z : Int32} {a b c d : Int} (hx : rng x a b) (hz : rng z c d) (h1 : -2147483648 ≤ a - d) (h2 : b - c ≤ 2147483647) : (x - z).toInt = x.toInt - z.toInt := by
  obtain ⟨x1, x2⟩ := hx
  obtain ⟨z1, z2⟩ := hz
  rw [Int32.toInt_sub, bmod_id (by omega) (by omega)]
def gdP (v : Vec) (n k : Nat) (x : Int32) : Prop := rng x 0 2000000000 ∧ PI (clS v) n k x.toInt
def PCi (v : Vec) (n : Nat) (μ : ZMem) : Prop := ∀ n', 0 < n' → n' < n → ∀ k, k < 8 → n'.testBit k = true → gdP v n' k (μ (0, 45, 0) (8 * n' + k))
section QB
variable {y : ZLay} {μ : ZMem}
theorem m_allPaths {c : Nat} {v : Vec} (hv : μ MV0 = v) (ho : okC c v) : ok (f_X12_allPaths μ) (fun μ' => fr (oP (0, 45, 0)) μ μ' ∧ PCi v (2 ^ c) μ') := by
  obtain ⟨⟨h8, h3, -⟩, hB⟩ := ho
  obtain ⟨ep, lp2⟩ := pow_nI ⟨c, by omega⟩
  dsimp only at ep lp2
  have hvv : ∀ {μ1 : ZMem}, fr (oP (0, 45, 0)) μ μ1 → μ1 MV0 = v := fun f => by rw [fr_at f (fun i q => absurd (show ((0, 33, 0) : ZId) = (0, 45, 0) from q) (by decide))]; exact hv
  have v3 : ∀ {μ1 : ZMem}, fr (oP (0, 45, 0)) μ μ1 → μ1 (0, 33, 0) 3 = nI c := fun f => by rw [show _ = v from hvv f]; exact h3
  have hp : 1 ≤ 2 ^ c := Nat.one_le_two_pow
  unfold f_X12_allPaths
  refine ok_b1i (ok_seq (2 ^ c - 1) (fun i s => s.1 = nI (i + 1) ∧ fr (oP (0, 45, 0)) μ s.2 ∧ PCi v (i + 1) s.2) ?_ ?_ ⟨rfl, fr_refl, fun n' h1 h2 => absurd h2 (by omega)⟩ (FU_lt (by omega)))
  · rintro i ⟨x, μ2⟩ hi ⟨u1, u2, u4⟩
    dsimp only at u1 u2 u4
    subst u1
    obtain ⟨n, hn⟩ : ∃ n, n = i + 1 := ⟨_, rfl⟩
    rw [← hn] at u4 ⊢
    have hnc : n < 2 ^ c := by omega
    have hn2 : n < 256 := by omega
    have hlow : ∀ j, j < 8 → n.testBit j = true → j < c := fun j hj ht => by
      rcases Nat.lt_or_ge j c with e | e
      · exact e
      · rw [lt_pow_tb hnc _ e] at ht; cases ht
    have hbd : ∀ j, j < 8 → n.testBit j = true → -999 ≤ clS v j ∧ clS v j ≤ 999 := fun j hj ht => (hB.1 j (hlow j hj ht)).1
    rw [un2_s, v3 u2, ep, if_neg (nI_ge hnc (by omega))]
    refine ok_b1 (ok_seq c (fun k s => s.1 = nI k ∧ fr (oP (0, 45, 0)) μ s.2 ∧ PCi v n s.2 ∧ ∀ k', k' < k → n.testBit k' = true → gdP v n k' (s.2 (0, 45, 0) (8 * n + k'))) ?_ ?_ (Q := fun μ1 => fr (oP (0, 45, 0)) μ μ1 ∧ PCi v (n + 1) μ1) ⟨rfl, u2, u4, fun k' h => absurd h (by omega)⟩ (FU_lt (by omega))) ?_
    · rintro k ⟨x, μ3⟩ hk ⟨p1, p2, p3, p4⟩
      dsimp only at p1 p2 p3 p4
      subst p1
      have hk8 : k < 8 := by omega
      have hr := rmv_le hn2 hk8
      rw [un2_s, v3 p2, if_neg (nI_ge hk (by omega)), show nI n &&& (((1 : Int32) <<< (nI k &&& 31)) ^^^ (-1)) = nI (rmv n k) from rmv_eq hn2 hk8, zlt_s, zlt_s, mul8, nI_1]
      refine ok_b1 (P := fun x => n.testBit k = true → gdP v n k x) ?_ ?_
      · cases ht : n.testBit k
        · refine ok_seq c (fun j s => s.2 = nI j) ?_ ?_ rfl (FU_lt (by omega))
          · rintro j ⟨x12, x13⟩ hj q1
            dsimp only at q1
            subst q1
            rw [un2_s, if_neg (nI_ge hj (by omega)), bd_eq (isOf_eq (by omega)), tb_nI (by omega), ht, if_pos b2i_f, bd_s, nI_1]
            exact ok_some ⟨_, rfl, rfl⟩
          · rintro ⟨x12, x13⟩ q1
            dsimp only at q1
            subst q1
            rw [un2_s, if_pos (nI_le (Nat.le_refl _) (by omega))]
            exact ok_some ⟨_, rfl, fun q => absurd q (by decide)⟩
        · have hrlt := rmv_lt hn2 hk8 ht
          have hrc : ∀ j, j < 8 → (rmv n k).testBit j = true → j < c := fun j hj h => by
            rw [rmv_tb hn2 hk8 hj, Bool.and_eq_true] at h; exact hlow j hj h.1
          have hcell : ∀ j, j < 8 → (rmv n k).testBit j = true → gdP v (rmv n k) j (μ3 (0, 45, 0) (8 * rmv n k + j)) := fun j hj h => p3 (rmv n k) (by have := ne0_tb h; omega) hrlt j hj h
          refine ok_seq c (fun j s => s.2 = nI j ∧ rng s.1 0 2000000000 ∧ (∀ j', j' < j → (rmv n k).testBit j' = true → s.1.toInt ≤ ds (clS v) k j' + (μ3 (0, 45, 0) (8 * rmv n k + j')).toInt) ∧ (s.1 = (if nI (rmv n k) = 0 then 0 else 2000000000) ∨ ∃ j', j' < j ∧ (rmv n k).testBit j' = true ∧ s.1.toInt = ds (clS v) k j' + (μ3 (0, 45, 0) (8 * rmv n k + j')).toInt)) ?_ ?_ ⟨rfl, rng_if (fun _ => rng_0 (by omega) (by omega)) (fun _ => ⟨by decide, by decide⟩), fun j' h => absurd h (by omega), Or.inl rfl⟩ (FU_lt (by omega))
          · rintro j ⟨x12, x13⟩ hj ⟨q1, q2, q3, q4⟩
            dsimp only at q1 q2 q3 q4
            subst q1
            have hj8 : j < 8 := by omega
            rw [un2_s, if_neg (nI_ge hj (by omega)), bd_eq (isOf_eq (by omega)), tb_nI (by omega), ht, if_neg b2i_t, bd_eq (isOf_eq (by omega)), tb_nI (by omega), nI_1]
            cases hjt : (rmv n k).testBit j
            · rw [if_pos b2i_f, bd_s]
              refine ok_some ⟨_, rfl, rfl, q2, fun j' h1 h2 => ?_, ?_⟩
              · by_cases e : j' = j
                · rw [e, hjt] at h2; cases h2
                · exact q3 j' (by omega) h2
              · rcases q4 with q4 | ⟨j', h1, h2, h3⟩
                · exact Or.inl q4
                · exact Or.inr ⟨j', by omega, h2, h3⟩
            · obtain ⟨g1, g2⟩ := hcell j hj8 hjt
              have r1 := apart_rng hB hk (hrc j hj8 hjt)
              have r2 := apart_ds hB hk (hrc j hj8 hjt)
              have r3 := add_toInt r1 g1 (by omega) (by omega)
              rw [if_neg b2i_t, bd_eq (m_apart (hvv p2) hk8 hj8), mul8, gd_eq (zin_nI (by omega) (by omega)), nI_cl (by omega), zlt_s, bd_s]
              have r4 := les_toInt (x := x12) (z := f_X12_sign (nd v k 0 - nd v j 0) + μ3 (0, 45, 0) (8 * rmv n k + j))
              rw [r3, r2] at r4
              have g3 := g1.1
              have g4 := q2.1
              have g5 := q2.2
              have g6 := r1.1
              rw [r2] at g6
              refine ok_some ⟨_, rfl, rfl, ?_, fun j' h1 h2 => ?_, ?_⟩
              · unfold rng
                dsimp only
                rw [r4]
                omega
              · dsimp only
                rw [r4]
                by_cases e : j' = j
                · rw [e]; omega
                · have := q3 j' (by omega) h2
                  omega
              · dsimp only
                by_cases ec : x12.toInt ≤ ds (clS v) k j + (μ3 (0, 45, 0) (8 * rmv n k + j)).toInt
                · have ex : f_X12_lesser x12 (f_X12_sign (nd v k 0 - nd v j 0) + μ3 (0, 45, 0) (8 * rmv n k + j)) = x12 := Int32.toInt_inj.mp (by rw [r4]; omega)
                  rw [ex]
                  rcases q4 with q4 | ⟨j', h1, h2, h3⟩
                  · exact Or.inl q4
                  · exact Or.inr ⟨j', by omega, h2, h3⟩
                · exact Or.inr ⟨j, by omega, hjt, by rw [r4]; omega⟩
          · rintro ⟨x12, x13⟩ ⟨q1, q2, q3, q4⟩
            dsimp only at q1 q2 q3 q4
            subst q1
            rw [un2_s, if_pos (nI_le (Nat.le_refl _) (by omega))]
            refine ok_some ⟨_, rfl, fun _ => ⟨q2, ?_⟩⟩
            by_cases er : rmv n k = 0
            · have e0 : x12 = 0 := by
                rcases q4 with q4 | ⟨j', h1, h2, h3⟩
                · rw [q4, er]; rfl
                · rw [er, Nat.zero_testBit] at h2; cases h2
              rw [e0]
              exact PI_one hn2 hk8 ht er
            · refine PI_more (p := fun j => (μ3 (0, 45, 0) (8 * rmv n k + j)).toInt) hn2 hk8 ht er hbd (fun j hj hjt => q3 j (hrc j hj hjt) hjt) ?_ (fun j hj hjt => (hcell j hj hjt).2)
              rcases q4 with q4 | ⟨j', h1, h2, h3⟩
              · left
                rw [q4, if_neg (show ¬ nI (rmv n k) = 0 from fun q => er ((nI_inj' (b := 0) (by omega) (by omega)).mp q))]
                decide
              · exact Or.inr ⟨j', by omega, h2, h3⟩
      · intro x14 hx
        rw [gd_eq (zin_nI (by omega) (by omega)), nI_cl (by omega), zlt_s]
        refine ok_some ⟨_, rfl, rfl, fr_trans p2 (fr_mset rfl), fun n' h1 h2 k' hk' ht' => ?_, fun k' hk' ht' => ?_⟩
        · dsimp only
          rw [mset_k (by omega)]
          exact p3 n' h1 h2 k' hk' ht'
        · dsimp only
          by_cases e : k' = k
          · subst e
            rw [mset_at]
            exact hx ht'
          · rw [mset_k (by omega)]
            exact p4 k' (by omega) ht'
    · rintro ⟨x, μ3⟩ ⟨p1, p2, p3, p4⟩
      dsimp only at p1 p2 p3 p4
      subst p1
      rw [un2_s, v3 p2, if_pos (nI_le (Nat.le_refl _) (by omega))]
      refine ok_some ⟨_, rfl, p2, fun n' h1 h2 k hk ht => ?_⟩
      by_cases e : n' = n
      · subst e
        exact p4 k (hlow k hk ht) ht
      · exact p3 n' h1 (by omega) k hk ht
    · rintro μ3 ⟨p2, p3⟩
      exact ok_some ⟨_, rfl, nI_1 n, p2, p3⟩
  · rintro ⟨x, μ2⟩ ⟨u1, u2, u4⟩
    dsimp only at u1 u2 u4
    subst u1
    rw [show 2 ^ c - 1 + 1 = 2 ^ c by omega] at u4 ⊢
    rw [un2_s, v3 u2, ep, if_pos (nI_le (Nat.le_refl _) (by omega))]
    exact ok_some ⟨_, rfl, u2, u4⟩
end QB
