/-! order on both sides -/
theorem fsU_at {Q : Nat → Bool} {k : Nat} (h : Q k = true) : ∀ d t, t ≤ k → k < t + d → (∀ j, t ≤ j → j < k → Q j = false) → fsU Q d t = some k
  | 0, t, h1, h2, _ => absurd h2 (by omega)
  | d + 1, t, h1, h2, h3 => by
    unfold fsU
    by_cases e : t = k
    · rw [e, if_pos h]
    · rw [h3 t (by omega) (by omega), if_neg (by decide)]
      exact fsU_at h d (t + 1) (by omega) (by omega) (fun j g1 g2 => h3 j (by omega) g2)
theorem le_pred {a : Int32} {c : Nat} (h : c ≤ 1000) : a ≤ nI c - 1 ↔ a < nI c := by
  cases c with
  | zero =>
    rw [Int32.le_iff_toInt_le, Int32.lt_iff_toInt_lt, show nI 0 - 1 = -1 by decide, show nI 0 = 0 from rfl]
    have e1 : (-1 : Int32).toInt = -1 := by decide
    have e2 : (0 : Int32).toInt = 0 := by decide
    omega
  | succ c =>
    rw [nI_pred, Int32.le_iff_toInt_le, Int32.lt_iff_toInt_lt, nI_toInt (by omega), nI_toInt (by omega)]
    omega
/-- clocks, or clocks the other way round -/
def kyD (v : Vec) (d : Bool) (k : Nat) : Int := if d then clS v k else -clS v k
theorem kyD_ds {v : Vec} {d : Bool} {a b : Nat} : ds (clS v) a b = ds (kyD v d) a b := by
  unfold ds kyD
  cases d
  · simp only [Bool.false_eq_true, if_false]; omega
  · simp only [if_true]
theorem kyD_PI {v : Vec} {d : Bool} {n k : Nat} {x : Int} (h : PI (clS v) n k x) : PI (kyD v d) n k x := by
  cases d
  · exact PI_neg h
  · exact h
theorem kyD_bd {v : Vec} {d : Bool} {k : Nat} (h : -999 ≤ clS v k ∧ clS v k ≤ 999) : -999 ≤ kyD v d k ∧ kyD v d k ≤ 999 := by
  unfold kyD
  cases d
  · simp only [Bool.false_eq_true, if_false]; omega
  · simp only [if_true]; omega
def pkQ (n : Nat) (D : Nat → Int32) (due : Int32) (M : Nat → Int32) (k : Nat) : Bool := n.testBit k && decide (D k + M (8 * n + k) = due)
theorem m_pick {μ : ZMem} {n c : Nat} {x16 due : Int32} {D : Nat → Int32} (h8 : c ≤ 8) (hn : n < 256) (hD : ∀ k, k < c → bd (α := Int32) (if x16 = (-1) then some 0 else bd (f_X12_apart x16 (nI k) μ) (fun (x32 : Int32) => some x32)) (fun x => some x) = some (D k)) :
    lp (σ := Int32 × Int32) (fun q => un2 q (fun (x21 : Int32) (x22 : Int32) => if x22 < 0 then some (.inr x21) else bd (f_X12_isOf (nI n) x22) (fun (x26 : Int32) => bd (α := Int32) (if x26 = 0 then some x21 else bd (α := Int32) (if x16 = (-1) then some 0 else bd (f_X12_apart x16 x22 μ) (fun (x32 : Int32) => some x32)) (fun (x30 : Int32) => gd (zin ((8 * (nI n)) + x22) 2048) (if (x30 + (μ (0, 45, 0) ((8 * (nI n)) + x22).toNatClampNeg)) = due then some x22 else some x21))) (fun (x28 : Int32) => some (.inl (x28, (x22 + (-1)))))))) FU ((-1), nI c - 1) = some (onI (fsU (pkQ n D due (μ (0, 45, 0))) c 0)) := by
  refine lp_seq (s0 := ((-1 : Int32), nI c - 1)) c (fun t => (onI (fsU (pkQ n D due (μ (0, 45, 0))) t (c - t)), nI (c - t) - 1)) ?_ ?_ (FU_lt (by omega)) rfl
  · intro t ht
    obtain ⟨m, hm⟩ : ∃ m, c - t = m + 1 := ⟨c - t - 1, by omega⟩
    have hm2 : c - (t + 1) = m := by omega
    rw [un2_s, hm, nI_pred, if_neg (nI_pos (by omega)), bd_eq (isOf_eq (by omega)), tb_nI (by omega), mul8, hm2]
    have e4 : fsU (pkQ n D due (μ (0, 45, 0))) (t + 1) m = if pkQ n D due (μ (0, 45, 0)) m = true then some m else fsU (pkQ n D due (μ (0, 45, 0))) t (m + 1) := rfl
    have e5 : pkQ n D due (μ (0, 45, 0)) m = (n.testBit m && decide (D m + μ (0, 45, 0) (8 * n + m) = due)) := rfl
    have e6 : nI m + (-1) = nI m - 1 := (Int32.sub_eq_add_neg ..).symm
    rw [e4, e5, e6]
    cases hb : n.testBit m
    · rw [if_pos b2i_f, bd_s, Bool.false_and, if_neg (by decide)]
    · obtain ⟨x, q1, q2⟩ := bd_s' (hD m (by omega))
      cases q2
      rw [if_neg b2i_t, bd_eq q1, gd_eq (zin_nI (by omega) (by omega)), nI_cl (by omega), Bool.true_and]
      by_cases ev : D m + μ (0, 45, 0) (8 * n + m) = due
      · rw [if_pos ev, decide_eq_true ev, if_pos rfl]; rfl
      · rw [if_neg ev, decide_eq_false ev, if_neg (by decide)]; rfl
  · rw [un2_s, show c - c = 0 by omega, if_pos (by decide)]
/-- the first that is chosen -/
theorem pick0 {v : Vec} {c A a b : Nat} {due : Int32} {D M : Nat → Int32} (h8 : c ≤ 8) (hAc : A < 2 ^ c) (hc : 2 ^ c ≤ 256) (h0 : A ≠ 0) (hM : ∀ k, k < 8 → A.testBit k = true → gdP v A k (M (8 * A + k))) (hD : ∀ k, D k = 0) (he : exT (clS v) A a b) (hdue : due.toInt = clS v b - clS v a) :
    fsU (pkQ A D due M) c 0 = some (slS (kyD v (decide (slS (clS v) A < slS (fun j => -clS v j) A))) A) := by
  have hA : A < 256 := by omega
  have hf := slS_ok (ky := clS v) hA h0
  have hg := slS_ok (ky := fun j => -clS v j) hA h0
  have ek : slS (kyD v (decide (slS (clS v) A < slS (fun j => -clS v j) A))) A = if slS (clS v) A < slS (fun j => -clS v j) A then slS (clS v) A else slS (fun j => -clS v j) A := by
    by_cases e : slS (clS v) A < slS (fun j => -clS v j) A
    · rw [decide_eq_true e, if_pos e]; rfl
    · rw [decide_eq_false e, if_neg e]; rfl
  rw [ek]
  obtain ⟨f, hf2⟩ : ∃ f, f = slS (clS v) A := ⟨_, rfl⟩
  obtain ⟨g, hg2⟩ : ∃ g, g = slS (fun j => -clS v j) A := ⟨_, rfl⟩
  rw [← hf2] at hf ⊢
  rw [← hg2] at hg ⊢
  obtain ⟨e1, e2, e3, e4, e5⟩ := he
  have fa : clS v f = clS v a := by
    have := hf.2.2 a e1 e3
    have := e5 f hf.1 hf.2.1
    omega
  have gb : clS v g = clS v b := by
    have := hg.2.2 b e2 e4
    have := e5 g hg.1 hg.2.1
    dsimp only at *
    omega
  have val : ∀ k, k < 8 → A.testBit k = true → (D k + M (8 * A + k)).toInt = (M (8 * A + k)).toInt := fun k hk ht => by rw [hD, Int32.zero_add]
  have hlow : ∀ j, j < 8 → A.testBit j = true → j < c := fun j hj ht => by
    rcases Nat.lt_or_ge j c with e | e
    · exact e
    · rw [lt_pow_tb hAc _ e] at ht; cases ht
  have yes : ∀ k, k < 8 → A.testBit k = true → clS v k = clS v a ∨ clS v k = clS v b → pkQ A D due M k = true := by
    intro k hk ht hx
    unfold pkQ
    rw [ht, Bool.true_and]
    refine decide_eq_true (Int32.toInt_inj.mp ?_)
    rw [val k hk ht, hdue]
    obtain ⟨p1, p2⟩ := (hM k hk ht).2 a b ⟨e1, e2, e3, e4, e5⟩
    have := p2 hx
    have := e5 k hk ht
    omega
  have no : ∀ k, k < 8 → ¬ (clS v k = clS v a ∨ clS v k = clS v b) → pkQ A D due M k = false := by
    intro k hk hx
    unfold pkQ
    cases ht : A.testBit k
    · rfl
    · rw [Bool.true_and]
      refine decide_eq_false (fun q => ?_)
      have q2 := congrArg Int32.toInt q
      rw [val k hk ht, hdue] at q2
      obtain ⟨p1, p2⟩ := (hM k hk ht).2 a b ⟨e1, e2, e3, e4, e5⟩
      have := e5 k hk ht
      omega
  have mn : ∀ j, j < f → j < g → ∀ (hj : j < 8), pkQ A D due M j = false := by
    intro j h1 h2 hj
    cases ht : A.testBit j
    · unfold pkQ; rw [ht]; rfl
    · refine no j hj ?_
      rintro (h | h)
      · have := hf.2.2 j hj ht; omega
      · have := hg.2.2 j hj ht; dsimp only at this; omega
  by_cases e : f < g
  · rw [if_pos e]
    exact fsU_at (yes f hf.1 hf.2.1 (Or.inl fa)) c 0 (by omega) (by have := hlow f hf.1 hf.2.1; omega) (fun j _ hj => mn j hj (by omega) (by have := hf.1; omega))
  · rw [if_neg e]
    exact fsU_at (yes g hg.1 hg.2.1 (Or.inr gb)) c 0 (by omega) (by have := hlow g hg.1 hg.2.1; omega) (fun j _ hj => mn j (by omega) hj (by have := hg.1; omega))
/-- the next ones -/
theorem pick1 {v : Vec} {ky : Nat → Int} {c n last : Nat} {due : Int32} {D M : Nat → Int32} (h8 : c ≤ 8) (hnc : n < 2 ^ c) (hc : 2 ^ c ≤ 256) (h0 : n ≠ 0) (hM : ∀ k, k < 8 → n.testBit k = true → rng (M (8 * n + k)) 0 2000000000 ∧ PI ky n k (M (8 * n + k)).toInt) (hD : ∀ k, k < c → rng (D k) 0 1998 ∧ (D k).toInt = ds ky last k) (hl : ∀ j, j < 8 → n.testBit j = true → ky last ≤ ky j) (hdue : ∀ a b, exT ky n a b → due.toInt = ky b - ky last) :
    fsU (pkQ n D due M) c 0 = some (slS ky n) := by
  have hn : n < 256 := by omega
  have hs := slS_ok (ky := ky) hn h0
  obtain ⟨a, b, he⟩ := exT_ex (ky := ky) hn h0
  have hdu := hdue a b he
  obtain ⟨e1, e2, e3, e4, e5⟩ := he
  have hlow : ∀ j, j < 8 → n.testBit j = true → j < c := fun j hj ht => by
    rcases Nat.lt_or_ge j c with e | e
    · exact e
    · rw [lt_pow_tb hnc _ e] at ht; cases ht
  have val : ∀ k, k < 8 → n.testBit k = true → (D k + M (8 * n + k)).toInt = ky k - ky last + (M (8 * n + k)).toInt := fun k hk ht => by
    obtain ⟨d1, d2⟩ := hD k (hlow k hk ht)
    have := hl k hk ht
    rw [add_toInt d1 (hM k hk ht).1 (by omega) (by omega), d2]
    unfold ds
    omega
  obtain ⟨s, hs2⟩ : ∃ s, s = slS ky n := ⟨_, rfl⟩
  rw [← hs2] at hs ⊢
  have sa : ky s = ky a := by
    have := hs.2.2 a e1 e3
    have := e5 s hs.1 hs.2.1
    omega
  refine fsU_at ?_ c 0 (by omega) (by have := hlow s hs.1 hs.2.1; omega) (fun j _ hj => ?_)
  · unfold pkQ
    rw [hs.2.1, Bool.true_and]
    refine decide_eq_true (Int32.toInt_inj.mp ?_)
    rw [val s hs.1 hs.2.1, hdu]
    obtain ⟨p1, p2⟩ := (hM s hs.1 hs.2.1).2 a b ⟨e1, e2, e3, e4, e5⟩
    have := p2 (Or.inl sa)
    have := e5 s hs.1 hs.2.1
    omega
  · unfold pkQ
    cases ht : n.testBit j
    · rfl
    · have hj8 : j < 8 := by have := hs.1; omega
      rw [Bool.true_and]
      refine decide_eq_false (fun q => ?_)
      have q2 := congrArg Int32.toInt q
      rw [val j hj8 ht, hdu] at q2
      obtain ⟨p1, p2⟩ := (hM j hj8 ht).2 a b ⟨e1, e2, e3, e4, e5⟩
      have := e5 j hj8 ht
      have := hs.2.2 j hj8 ht
      omega
/-- what is left has the same greatest -/
theorem left_ext {ky : Nat → Int} {n a b a' b' : Nat} (hn : n < 256) (h0 : n ≠ 0) (he : exT ky n a b) (he' : exT ky (rmv n (slS ky n)) a' b') : ky b' = ky b ∧ ∀ j, j < 8 → (rmv n (slS ky n)).testBit j = true → ky (slS ky n) ≤ ky j := by
  have hs := slS_ok (ky := ky) hn h0
  obtain ⟨s, hs2⟩ : ∃ s, s = slS ky n := ⟨_, rfl⟩
  rw [← hs2] at hs he' ⊢
  have inn : ∀ j, j < 8 → (rmv n s).testBit j = true → n.testBit j = true := fun j hj h => by
    rw [rmv_tb hn hs.1 hj, Bool.and_eq_true] at h; exact h.1
  obtain ⟨e1, e2, e3, e4, e5⟩ := he
  obtain ⟨f1, f2, f3, f4, f5⟩ := he'
  have q1 := e5 b' f2 (inn _ f2 f4)
  have q2 := hs.2.2 b' f2 (inn _ f2 f4)
  refine ⟨?_, fun j hj ht => by have := hs.2.2 j hj (inn j hj ht); omega⟩
  by_cases e : b = s
  · subst e; omega
  · have := f5 b e2 (by rw [rmv_tb hn hs.1 e2, e4, decide_eq_true (show b ≠ s from e)]; rfl)
    omega
theorem spI_ext {v : Vec} : ∀ k, ((spI v k).1 = 0 → ∀ j, j < k → ¬ nd v j 3 = 2) ∧ (¬ (spI v k).1 = 0 → ∃ a b, a < k ∧ b < k ∧ nd v a 3 = 2 ∧ nd v b 3 = 2 ∧ (spI v k).2.1 = nd v a 0 ∧ (spI v k).2.2 = nd v b 0 ∧ ∀ j, j < k → nd v j 3 = 2 → clS v a ≤ clS v j ∧ clS v j ≤ clS v b)
  | 0 => ⟨fun _ j hj => absurd hj (by omega), fun h => absurd rfl h⟩
  | k + 1 => by
    obtain ⟨g1, g2⟩ := spI_ext (v := v) k
    rw [spI_s]
    by_cases ha : nd v k 3 = 2
    · rw [if_pos ha]
      dsimp only
      refine ⟨fun h => absurd h (by omega), fun _ => ?_⟩
      by_cases z : (spI v k).1 = 0
      · rw [if_pos z, if_pos z]
        refine ⟨k, k, by omega, by omega, ha, ha, rfl, rfl, fun j hj hja => ?_⟩
        by_cases e : j = k
        · rw [e]; omega
        · exact absurd hja (g1 z j (by omega))
      · rw [if_neg z, if_neg z]
        obtain ⟨a, b, h1, h2, h3, h4, h5, h6, h7⟩ := g2 z
        rw [h5, h6, lesser_eq, greater_eq]
        have hk7 : ∀ j, j < k + 1 → nd v j 3 = 2 → j = k ∨ (clS v a ≤ clS v j ∧ clS v j ≤ clS v b) := fun j hj hja => by
          by_cases e : j = k
          · exact Or.inl e
          · exact Or.inr (h7 j (by omega) hja)
        have hab := h7 a h1 h3
        by_cases c1 : nd v a 0 < nd v k 0
        · rw [if_pos c1]
          rw [Int32.lt_iff_toInt_lt] at c1
          by_cases c2 : nd v k 0 < nd v b 0
          · rw [if_pos c2]
            rw [Int32.lt_iff_toInt_lt] at c2
            refine ⟨a, b, by omega, by omega, h3, h4, rfl, rfl, fun j hj hja => ?_⟩
            rcases hk7 j hj hja with rfl | h
            · unfold clS; omega
            · exact h
          · rw [if_neg c2]
            rw [Int32.lt_iff_toInt_lt] at c2
            refine ⟨a, k, by omega, by omega, h3, ha, rfl, rfl, fun j hj hja => ?_⟩
            rcases hk7 j hj hja with rfl | h
            · unfold clS; omega
            · unfold clS at h ⊢; omega
        · rw [if_neg c1]
          rw [Int32.lt_iff_toInt_lt] at c1
          by_cases c2 : nd v k 0 < nd v b 0
          · rw [if_pos c2]
            rw [Int32.lt_iff_toInt_lt] at c2
            refine ⟨k, b, by omega, by omega, ha, h4, rfl, rfl, fun j hj hja => ?_⟩
            rcases hk7 j hj hja with rfl | h
            · unfold clS; omega
            · unfold clS at h ⊢; omega
          · rw [if_neg c2]
            rw [Int32.lt_iff_toInt_lt] at c2
            refine ⟨k, k, by omega, by omega, ha, ha, rfl, rfl, fun j hj hja => ?_⟩
            rcases hk7 j hj hja with rfl | h
            · unfold clS; omega
            · unfold clS at h hab ⊢; omega
    · rw [if_neg ha]
      refine ⟨fun h j hj => ?_, fun h => ?_⟩
      · by_cases e : j = k
        · rw [e]; exact ha
        · exact g1 h j (by omega)
      · obtain ⟨a, b, h1, h2, h3, h4, h5, h6, h7⟩ := g2 h
        refine ⟨a, b, by omega, by omega, h3, h4, h5, h6, fun j hj hja => ?_⟩
        by_cases e : j = k
        · rw [e] at hja; exact absurd hja ha
        · exact h7 j (by omega) hja
theorem spread_ext {v : Vec} {c A : Nat} (h8 : c ≤ 8) (hB : BV c v) (hA : ∀ j, j < 8 → A.testBit j = (decide (j < c) && decide (nd v j 3 = 2))) (h0 : A ≠ 0) (hA2 : A < 256) : ∃ a b, exT (clS v) A a b ∧ (spreadS v c).toInt = clS v b - clS v a := by
  have hin : ∀ j, j < c → nd v j 3 = 2 → A.testBit j = true := fun j hj ha => by rw [hA j (by omega), decide_eq_true hj, decide_eq_true ha]; rfl
  have hou : ∀ j, j < 8 → A.testBit j = true → j < c ∧ nd v j 3 = 2 := fun j hj ht => by rw [hA j hj, Bool.and_eq_true, decide_eq_true_eq, decide_eq_true_eq] at ht; exact ht
  have hz : ¬ (spI v c).1 = 0 := by
    intro h
    obtain ⟨a, b, e1, -, e3, -⟩ := exT_ex (ky := clS v) hA2 h0
    obtain ⟨g1, g2⟩ := hou a e1 e3
    exact (spI_ext c).1 h a g1 g2
  obtain ⟨a, b, h1, h2, h3, h4, h5, h6, h7⟩ := (spI_ext c).2 hz
  refine ⟨a, b, ⟨by omega, by omega, hin a h1 h3, hin b h2 h4, fun j hj ht => h7 j (hou j hj ht).1 (hou j hj ht).2⟩, ?_⟩
  unfold spreadS
  rw [h5, h6, sub_toInt (hB.1 b h2).1 (hB.1 a h1).1 (by omega) (by omega)]
  rfl
