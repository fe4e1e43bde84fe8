/-! pairs on both sides -/
def wI (L : LawS) (c : Nat) (v : Vec) (k o : Nat) : Int32 := if decide (k < 8 ∧ o < 8) && frB L c v k o then f_X12_greater 0 (100 - f_X12_sign (nd v k 0 - nd v o 0)) else 0
def wS (L : LawS) (c : Nat) (v : Vec) (k o : Nat) : Nat := (wI L c v k o).toNatClampNeg
theorem frB_lt {L : LawS} {c : Nat} {v : Vec} {k o : Nat} (h8 : c ≤ 8) (hk : k < 8) (hq : o < 8) (h : frB L c v k o = true) : k < c ∧ o < c ∧ tbit (actS v c) k = true ∧ tbit (actS v c) o = true := by
  unfold frB at h
  simp only [Bool.and_eq_true] at h
  obtain ⟨-, h1, h2, -⟩ := h
  refine ⟨?_, ?_, h1, h2⟩
  · rcases Nat.lt_or_ge k c with e | e
    · exact e
    · rw [show tbit (actS v c) k = false from bset_hi h8 e] at h1; cases h1
  · rcases Nat.lt_or_ge o c with e | e
    · exact e
    · rw [show tbit (actS v c) o = false from bset_hi h8 e] at h2; cases h2
theorem sign_rng {x : Int32} {a : Int} (h : rng x (-a) a) (ha : a ≤ 100000) : rng (f_X12_sign x) 0 a := by
  unfold f_X12_sign
  rw [zlt_s]
  by_cases e : 0 ≤ x
  · rw [if_pos e]
    rw [Int32.le_iff_toInt_le] at e
    exact ⟨e, h.2⟩
  · rw [if_neg e]
    rw [Int32.le_iff_toInt_le] at e
    have e0 : (0 : Int32).toInt = 0 := by decide
    obtain ⟨h1, h2⟩ := h
    obtain ⟨-, q⟩ := rng_neg (x := x) (a := -a) (b := a) ⟨h1, h2⟩ (by omega) (by omega)
    unfold rng
    rw [q]
    omega
theorem apart_rng {c : Nat} {v : Vec} {k o : Nat} (hB : BV c v) (hk : k < c) (hq : o < c) : rng (f_X12_sign (nd v k 0 - nd v o 0)) 0 1998 := by
  have r := rng_sub (hB.1 k hk).1 (hB.1 o hq).1 (by omega) (by omega)
  exact sign_rng (a := 1998) (rng_mono r (by omega) (by omega)) (by omega)
theorem wI_rng {L : LawS} {c : Nat} {v : Vec} (h8 : c ≤ 8) (hB : BV c v) (k o : Nat) : rng (wI L c v k o) 0 100 := by
  unfold wI
  refine rng_if (fun h => ?_) (fun _ => rng_0 (by omega) (by omega))
  rw [Bool.and_eq_true, decide_eq_true_eq] at h
  obtain ⟨h1, h2, -⟩ := frB_lt h8 h.1.1 h.1.2 h.2
  have r1 := apart_rng hB h1 h2
  have r2 : rng (100 - f_X12_sign (nd v k 0 - nd v o 0)) (100 - 1998) (100 - 0) := rng_sub (x := 100) (a := 100) (b := 100) ⟨by decide, by decide⟩ r1 (by omega) (by omega)
  have r3 := greater_rng (x := 0) (y := 100 - f_X12_sign (nd v k 0 - nd v o 0)) (a := 0) (b := 0) ⟨by decide, by decide⟩ r2
  exact rng_mono r3 (by omega) (by omega)
theorem wS_eq {L : LawS} {c : Nat} {v : Vec} (h8 : c ≤ 8) (hB : BV c v) (k o : Nat) : wI L c v k o = nI (wS L c v k o) ∧ wS L c v k o ≤ 100 := by
  have r := wI_rng (L := L) h8 hB k o
  have e0 : (0 : Int32).toInt = 0 := by decide
  obtain ⟨n, hn, e⟩ := in_k (a := wI L c v k o) (n := 100) (by rw [Int32.le_iff_toInt_le, e0]; exact r.1) (by rw [Int32.le_iff_toInt_le, nI_toInt (by omega)]; exact r.2) (by omega)
  unfold wS
  rw [e, nI_cl (by omega)]
  exact ⟨rfl, hn⟩
theorem wS_100 {L : LawS} {c : Nat} {v : Vec} (h8 : c ≤ 8) (hB : BV c v) : ∀ k o, wS L c v k o ≤ 100 := fun k o => (wS_eq h8 hB k o).2
theorem wS_fr {L : LawS} {c : Nat} {v : Vec} {k o : Nat} (h : ¬ wS L c v k o = 0) : k < 8 ∧ o < 8 ∧ frB L c v k o = true := by
  unfold wS wI at h
  cases e : decide (k < 8 ∧ o < 8) && frB L c v k o
  · rw [e] at h
    exact absurd (show ((if false = true then f_X12_greater 0 (100 - f_X12_sign (nd v k 0 - nd v o 0)) else 0 : Int32)).toNatClampNeg = 0 from rfl) h
  · rw [Bool.and_eq_true, decide_eq_true_eq] at e
    exact ⟨e.1.1, e.1.2, e.2⟩
theorem wS_A {L : LawS} {c : Nat} {v : Vec} {A : Nat} (h8 : c ≤ 8) (eA : actS v c = nI A) : inA A (wS L c v) := by
  intro i j h
  obtain ⟨h1, h2, h3⟩ := wS_fr h
  obtain ⟨-, -, h4, h5⟩ := frB_lt h8 h1 h2 h3
  rw [eA] at h4 h5
  rw [tb_nI (by omega)] at h4 h5
  exact ⟨h4, h5⟩
theorem zmax_nI {a b : Nat} (ha : a < 2 ^ 31) (hb : b < 2 ^ 31) : zmax (nI a) (nI b) = nI (max a b) := by
  unfold zmax
  by_cases e : a < b
  · rw [if_pos (nI_lt e hb), Nat.max_eq_right (by omega)]
  · rw [if_neg (nI_nlt (by omega) ha), Nat.max_eq_left (by omega)]
theorem great_nI {a b : Nat} (ha : a < 2 ^ 31) (hb : b < 2 ^ 31) : f_X12_greater (nI a) (nI b) = nI (max a b) := by rw [← zmax_eq]; exact zmax_nI ha hb
theorem stp_low {w : Nat → Nat → Nat} {n : Nat} {X : Nat → Nat} {b : Nat} (hn : n < 256) (h0 : n ≠ 0) : ∀ m, m ≤ lob n + 1 → itS (stp w n X) m b = b
  | 0, _ => rfl
  | m + 1, h => by
    rw [itS_s, stp_low hn h0 m (by omega)]
    unfold stp
    have hl := lob_lt hn h0
    rw [if_neg]
    rw [rmv_tb hn hl (by omega)]
    by_cases e : m = lob n
    · rw [e]; simp
    · cases hb : n.testBit m
      · simp
      · have := lob_le hn h0 (show m < 8 by omega) hb
        omega
theorem stp_bd {w : Nat → Nat → Nat} (hw : ∀ i j, w i j ≤ 100) {n : Nat} (hn : n < 256) (h0 : n ≠ 0) : ∀ m, m ≤ 8 → itS (stp w n (bst w)) m (bst w (rmv n (lob n))) ≤ 30000 := by
  intro m hm
  have hl := lob_lt hn h0
  have hr := rmv_le hn hl
  rw [stp_le]
  refine ⟨?_, fun j hj hjt => ?_⟩
  · have := bst_sm hw (n := rmv n (lob n)) (by omega)
    omega
  · have hr2 := rmv_le (n := rmv n (lob n)) (j := j) (by omega) (by omega)
    have := bst_sm hw (n := rmv (rmv n (lob n)) j) (by omega)
    have := hw (lob n) j
    omega
theorem mul8 (k m : Nat) : (8 : Int32) * nI k + nI m = nI (8 * k + m) := by rw [show (8 : Int32) * nI k = nI (8 * k) from (Int32.ofNat_mul 8 k).symm, nI_add]
theorem mset_ne' {μ : ZMem} {o o' : ZId} {k i : Nat} {v : Int32} (h : o' ≠ o) : mset μ o k v o' i = μ o' i := by rw [mset_ne h]
def prP (o : ZId) (_ : Nat) : Prop := o = (0, 14, 0) ∨ o = (0, 15, 0)
theorem prP_sc {o : ZId} {i : Nat} (h : prP o i) : scP o i := by
  rcases h with rfl | rfl
  · exact Or.inl ⟨rfl, by decide, by decide, rfl⟩
  · exact Or.inl ⟨rfl, by decide, by decide, rfl⟩
section PP
variable {y : ZLay} {μ : ZMem} {S S' : SV} {tp tp' : Vec} {tl tl' : Nat} {fa fa' : Int32} {kp kp' : Option SV} {ac ac' : List (Nat × Vec)}
def cWI (w : Nat → Nat → Nat) (μ : ZMem) : Prop := ∀ i, i < 8 → ∀ j, j < 8 → μ (0, 15, 0) (8 * i + j) = nI (w i j)
def cBI (w : Nat → Nat → Nat) (n : Nat) (μ : ZMem) : Prop := ∀ m, m < n → μ (0, 14, 0) m = nI (bst w m)
theorem c_weigh {s1 c : Nat} {L : LawS} {v : Vec} (ho : okC c v) (hcs : CS μ s1 c v) (hg : grpI L c v μ) : ok (f_X1_weighPairs s1 μ) (fun μ' => cWI (wS L c v) μ' ∧ cBI (wS L c v) 256 μ' ∧ fr prP μ μ') := by
  have h8 : c ≤ 8 := ho.1.1
  have hw := wS_100 (L := L) h8 ho.2
  unfold f_X1_weighPairs
  refine ok_b1 (ok_seq 8 (fun k s => s.1 = nI k ∧ fr (oP (0, 15, 0)) μ s.2 ∧ ∀ t, t < 8 * k → s.2 (0, 15, 0) t = nI (wS L c v (t / 8) (t % 8))) ?_ ?_ (Q := fun μ1 => fr (oP (0, 15, 0)) μ μ1 ∧ cWI (wS L c v) μ1) ⟨rfl, fr_refl, fun t ht => absurd ht (by omega)⟩ (FU_lt (by omega))) ?_
  · rintro k ⟨x, μ1⟩ hk ⟨w1, w2, w3⟩
    dsimp only at w1 w2 w3
    subst w1
    rw [un2_s, if_neg (show ¬ (8 : Int32) ≤ nI k from nI_ge (b := 8) hk (by omega))]
    refine ok_b1 (ok_seq 8 (fun m s => s.1 = nI m ∧ fr (oP (0, 15, 0)) μ s.2 ∧ ∀ t, t < 8 * k + m → s.2 (0, 15, 0) t = nI (wS L c v (t / 8) (t % 8))) ?_ ?_ (Q := fun μ1 => fr (oP (0, 15, 0)) μ μ1 ∧ ∀ t, t < 8 * (k + 1) → μ1 (0, 15, 0) t = nI (wS L c v (t / 8) (t % 8))) ⟨rfl, w2, fun t ht => w3 t (by omega)⟩ (FU_lt (by omega))) ?_
    · rintro m ⟨x, μ2⟩ hm ⟨u1, u2, u3⟩
      dsimp only at u1 u2 u3
      subst u1
      have hF : μ2 (0, 13, 0) k = frM L c v k := by rw [u2.1 _ _ (show ¬ oP (0, 15, 0) (0, 13, 0) k from fun q => absurd (show ((0, 13, 0) : ZId) = (0, 15, 0) from q) (by decide))]; exact hg.2 k hk
      have hN : ∀ i, i < c → μ2 (3, s1, i) 0 = nd v i 0 := fun i hi => by rw [u2.1 _ _ (show ¬ oP (0, 15, 0) (3, s1, i) 0 from zne (by decide)), CS_nd hcs hi (by omega)]
      have eF : tbit (frM L c v k) m = frB L c v k m := by
        unfold frM
        rw [tbit_bset (by omega) (by omega)]
        cases e : frB L c v k m
        · rw [Bool.and_false]
        · rw [decide_eq_true (frB_lt h8 hk hm e).2.1]; rfl
      rw [un2_s, if_neg (show ¬ (8 : Int32) ≤ nI m from nI_ge (b := 8) hm (by omega)), gd_eq (zin_nI (by omega) (by omega)), gd_eq (zin_nI (by omega) (by omega)), nI_cl (by omega), nI_cl (by omega), zlt_s, hF, bd_eq (isIn_eq (by omega)), eF]
      have ev : (if b2i (frB L c v k m) = 0 then (0 : Int32) else zmax 0 (100 - zabs (μ2 (3, s1, k) 0 - μ2 (3, s1, m) 0))) = nI (wS L c v k m) := by
        rw [← (wS_eq h8 ho.2 k m).1]
        unfold wI
        rw [decide_eq_true (show k < 8 ∧ m < 8 from ⟨hk, hm⟩), Bool.true_and]
        cases e : frB L c v k m
        · rfl
        · obtain ⟨e1, e2, -⟩ := frB_lt h8 hk hm e
          rw [if_neg b2i_t, if_pos rfl, hN k e1, hN m e2, zabs_sign, zmax_eq]
      rw [zlt_s, ev, mul8, gd_eq (zin_nI (by omega) (by omega)), nI_cl (by omega), zlt_s]
      refine ok_some ⟨_, rfl, nI_1 m, fr_trans u2 (fr_mset rfl), fun t ht => ?_⟩
      dsimp only
      by_cases e : t = 8 * k + m
      · subst e
        rw [mset_at, show (8 * k + m) / 8 = k by omega, show (8 * k + m) % 8 = m by omega]
      · rw [mset_k e]
        exact u3 t (by omega)
    · rintro ⟨x, μ2⟩ ⟨u1, u2, u3⟩
      dsimp only at u1 u2 u3
      subst u1
      rw [un2_s, if_pos (by decide)]
      exact ok_some ⟨_, rfl, u2, fun t ht => u3 t (by omega)⟩
    · rintro μ2 ⟨u2, u3⟩
      exact ok_some ⟨_, rfl, nI_1 k, u2, u3⟩
  · rintro ⟨x, μ1⟩ ⟨w1, w2, w3⟩
    dsimp only at w1 w2 w3
    subst w1
    rw [un2_s, if_pos (by decide)]
    refine ok_some ⟨_, rfl, w2, fun i hi j hj => ?_⟩
    rw [w3 _ (by omega), show (8 * i + j) / 8 = i by omega, show (8 * i + j) % 8 = j by omega]
  · rintro μ1 ⟨w2, w3⟩
    rw [zlt_s]
    refine ok_b1i (ok_seq 255 (fun k s => s.1 = nI (k + 1) ∧ fr prP μ s.2 ∧ cWI (wS L c v) s.2 ∧ cBI (wS L c v) (k + 1) s.2) ?_ ?_ ⟨rfl, fr_trans (fr_mono w2 (fun o i h => Or.inr h)) (fr_mset (Or.inl rfl)), fun i hi j hj => (show (mset μ1 (0, 14, 0) 0 0) (0, 15, 0) (8 * i + j) = _ from (mset_ne' (by decide)).trans (w3 i hi j hj)), fun m hm => by rw [show m = 0 by omega]; exact (show (mset μ1 (0, 14, 0) 0 0) (0, 14, 0) 0 = _ from mset_at.trans (by rw [bst_0]; rfl))⟩ (FU_lt (by omega)))
    · rintro k ⟨x, μ2⟩ hk ⟨u1, u2, u3, u4⟩
      dsimp only at u1 u2 u3 u4
      subst u1
      obtain ⟨n, hn⟩ : ∃ n, n = k + 1 := ⟨_, rfl⟩
      rw [← hn] at u4 ⊢
      have hn2 : n < 256 := by omega
      have h0 : n ≠ 0 := by omega
      have hz : ¬ nI n = 0 := fun q => h0 ((nI_inj' (b := 0) (by omega) (by omega)).mp q)
      have hl := lob_lt hn2 h0
      have hr := rmv_lt hn2 hl (lob_tb hn2 h0)
      rw [un2_s, if_neg (show ¬ (256 : Int32) ≤ nI n from nI_ge (b := 256) hn2 (by omega)), bd_eq (show f_X11_lowest (nI n) = some (nI (lob n)) from c_low ⟨n, hn2, rfl⟩ hz), zlt_s, show nI n &&& (f_X11_bit (nI (lob n)) ^^^ (-1)) = nI (rmv n (lob n)) from rmv_eq hn2 hl, gd_eq (zin_nI (by omega) (by omega)), zlt_s, nI_cl (by omega), u4 _ hr, zlt_s, nI_1]
      rw [bd_eq (lp_seq (s0 := (nI (bst (wS L c v) (rmv n (lob n))), nI (lob n + 1))) (r := nI (bst (wS L c v) n)) (7 - lob n) (fun d => (nI (itS (stp (wS L c v) n (bst (wS L c v))) (lob n + 1 + d) (bst (wS L c v) (rmv n (lob n)))), nI (lob n + 1 + d))) ?_ ?_ (FU_lt (by omega)) ?_)]
      · rw [gd_eq (zin_nI (by omega) (by omega)), nI_cl (by omega), zlt_s, nI_1]
        refine ok_some ⟨_, rfl, by rw [hn], fr_trans u2 (fr_mset (Or.inl rfl)), fun i hi j hj => (show (mset μ2 (0, 14, 0) n (nI (bst (wS L c v) n))) (0, 15, 0) (8 * i + j) = _ from (mset_ne' (by decide)).trans (u3 i hi j hj)), fun m hm => ?_⟩
        dsimp only
        by_cases e : m = n
        · subst e; rw [mset_at]
        · rw [mset_k e]; exact u4 m (by omega)
      · intro d hd
        have ht : lob n + 1 + d < 8 := by omega
        have hrt := rmv_le (n := rmv n (lob n)) (j := lob n + 1 + d) (by omega) ht
        rw [un2_s, if_neg (show ¬ (8 : Int32) ≤ nI (lob n + 1 + d) from nI_ge (b := 8) ht (by omega)), bd_eq (isIn_eq (by omega)), tb_nI (by omega), nI_1, mul8, show nI (rmv n (lob n)) &&& (f_X11_bit (nI (lob n + 1 + d)) ^^^ (-1)) = nI (rmv (rmv n (lob n)) (lob n + 1 + d)) from rmv_eq (by omega) ht, show lob n + 1 + (d + 1) = lob n + 1 + d + 1 by omega, itS_s]
        have hbd := stp_bd hw hn2 h0 (lob n + 1 + d) (by omega)
        generalize itS (stp (wS L c v) n (bst (wS L c v))) (lob n + 1 + d) (bst (wS L c v) (rmv n (lob n))) = a at hbd ⊢
        unfold stp
        cases e : (rmv n (lob n)).testBit (lob n + 1 + d)
        · rw [if_pos b2i_f, if_neg (by decide), bd_s]
        · rw [if_neg b2i_t, if_pos rfl, gd_eq (zin_nI (by omega) (by omega)), gd_eq (zin_nI (by omega) (by omega)), nI_cl (by omega), nI_cl (by omega), u3 _ hl _ ht, u4 _ (by omega), nI_add, zmax_nI (by omega) (by have := hw (lob n) (lob n + 1 + d); have := bst_sm hw (n := rmv (rmv n (lob n)) (lob n + 1 + d)) (by omega); omega), zlt_s, bd_s]
      · rw [un2_s, show lob n + 1 + (7 - lob n) = 8 by omega, if_pos (by decide), bst_s hn2 h0]
      · rw [Nat.add_zero, stp_low hn2 h0 _ (Nat.le_refl _)]
    · rintro ⟨x, μ2⟩ ⟨u1, u2, u3, u4⟩
      dsimp only at u1 u2 u3 u4
      subst u1
      rw [un2_s, if_pos (by decide)]
      exact ok_some ⟨_, rfl, u3, u4, u2⟩
def encU : Option Nat → Unit ⊕ Int32
  | none => .inl ()
  | some j => .inr (nI j)
theorem or_bit_all : ∀ n : Fin 256, ∀ j : Fin 8, n.val.testBit j.val = true → nI (rmv n.val j.val) ||| ((1 : Int32) <<< (nI j.val &&& 31)) = nI n.val := by decide +kernel
theorem c_firstP {w : Nat → Nat → Nat} {n i : Nat} (hw : ∀ i j, w i j ≤ 100) (hn : n < 256) (hi : i < 8) (ht : n.testBit i = true) (h1 : cWI w μ) (h2 : cBI w 256 μ) : f_X1_firstPartner (nI (rmv n i)) (nI i) μ = some (onI (fpS w n i)) := by
  have hr := rmv_lt hn hi ht
  have s1 := bst_sm hw hn
  have s2 := bst_sm hw (n := rmv n i) (by omega)
  unfold f_X1_firstPartner
  rw [show nI (rmv n i) ||| f_X11_bit (nI i) = nI n from or_bit_all ⟨n, hn⟩ ⟨i, hi⟩ ht, gd_eq (zin_nI (by omega) (by omega)), nI_cl (by omega), h2 n hn, zlt_s, gd_eq (zin_nI (by omega) (by omega)), nI_cl (by omega), h2 _ (by omega)]
  unfold fpS
  by_cases e : bst w (rmv n i) = bst w n
  · rw [if_pos (congrArg nI e), if_pos e]; rfl
  · rw [if_neg (fun q => e ((nI_inj' (by omega) (by omega)).mp q)), if_neg e, zlt_s, nI_1]
    have key : ok (lp (σ := Int32) (fun (x6 : Int32) => if 8 ≤ x6 then some (.inr (.inl ())) else bd (f_X11_isIn (nI (rmv n i)) x6) (fun (x9 : Int32) => jk (some (.inl (x6 + 1))) (fun k11 => if x9 = 0 then k11 else gd (zin ((8 * nI i) + x6) 64) (gd (zin (nI (rmv n i) &&& ((f_X11_bit x6) ^^^ (-1))) 256) (if ((μ (0, 15, 0) ((8 * nI i) + x6).toNatClampNeg) + (μ (0, 14, 0) (nI (rmv n i) &&& ((f_X11_bit x6) ^^^ (-1))).toNatClampNeg)) = nI (bst w n) then some (.inr (.inr x6)) else k11))))) FU (nI (i + 1))) (fun r => r = encU (fsU (pP w n i) (7 - i) (i + 1))) := by
      refine ok_lp (fun m s => ∃ t, t + m = 8 ∧ s = nI t ∧ i < t ∧ fsU (pP w n i) m t = fsU (pP w n i) (7 - i) (i + 1)) ?_ (N := 7 - i) ⟨i + 1, by omega, rfl, by omega, rfl⟩ (FU_lt (by omega))
      rintro m s ⟨t, e1, rfl, e2, e3⟩
      by_cases e8 : t = 8
      · subst e8
        have : m = 0 := by omega
        subst this
        rw [if_pos (by decide)]
        refine ok_some ?_
        dsimp only
        rw [← e3]; rfl
      · obtain ⟨d, rfl⟩ : ∃ d, m = d + 1 := ⟨m - 1, by omega⟩
        have ht8 : t < 8 := by omega
        have hrt := rmv_le (n := rmv n i) (j := t) (by omega) ht8
        have hb := bst_sm hw (n := rmv (rmv n i) t) (by omega)
        have hwt := hw i t
        rw [if_neg (show ¬ (8 : Int32) ≤ nI t from nI_ge (b := 8) ht8 (by omega)), bd_eq (isIn_eq (by omega)), tb_nI (by omega), jk_s, mul8, show nI (rmv n i) &&& (f_X11_bit (nI t) ^^^ (-1)) = nI (rmv (rmv n i) t) from rmv_eq (by omega) ht8, nI_1]
        have e4 : fsU (pP w n i) (d + 1) t = if pP w n i t = true then some t else fsU (pP w n i) d (t + 1) := rfl
        rw [e4] at e3
        rw [show pP w n i t = ((rmv n i).testBit t && decide (w i t + bst w (rmv (rmv n i) t) = bst w n)) from rfl] at e3
        cases eb : (rmv n i).testBit t
        · rw [eb, Bool.false_and, if_neg (by decide)] at e3
          rw [if_pos b2i_f]
          exact ok_some ⟨d, by omega, t + 1, by omega, rfl, by omega, e3⟩
        · rw [eb, Bool.true_and] at e3
          rw [if_neg b2i_t, gd_eq (zin_nI (by omega) (by omega)), gd_eq (zin_nI (by omega) (by omega)), nI_cl (by omega), nI_cl (by omega), h1 i hi t ht8, h2 _ (by omega), nI_add]
          by_cases ev : w i t + bst w (rmv (rmv n i) t) = bst w n
          · rw [decide_eq_true ev, if_pos rfl] at e3
            rw [if_pos (congrArg nI ev)]
            refine ok_some ?_
            dsimp only
            rw [← e3]; rfl
          · rw [decide_eq_false ev, if_neg (by decide)] at e3
            rw [if_neg (fun q => ev ((nI_inj' (by omega) (by omega)).mp q))]
            exact ok_some ⟨d, by omega, t + 1, by omega, rfl, by omega, e3⟩
    obtain ⟨r, er, hr'⟩ := key
    rw [bd_eq er, hr']
    cases fsU (pP w n i) (7 - i) (i + 1) <;> rfl
theorem set_full {A : Nat} (hA : A < 256) : 255 &&& A = A := set_ext (and_lt (by omega)) hA (fun k hk => by
  rw [Nat.testBit_and]
  have : ∀ k : Fin 8, (255 : Nat).testBit k.val = true := by decide
  rw [this ⟨k, hk⟩, Bool.true_and])
theorem and_nI_all : ∀ n : Fin 256, nI n.val &&& nI n.val = nI n.val := by decide +kernel
theorem c_partner {w : Nat → Nat → Nat} {A k : Nat} (hw : ∀ i j, w i j ≤ 100) (hA : A < 256) (ha : inA A w) (hk : k < 8) (h1 : cWI w μ) (h2 : cBI w 256 μ) : f_X1_partnerOf (nI k) μ = some (ptS w (nI k) A) := by
  unfold f_X1_partnerOf
  rw [zlt_s, show (256 - 1 : Int32) = nI 255 by decide]
  have key : ok (lp (σ := Int32 × Int32) (fun q => un2 q (fun (x2 : Int32) (x3 : Int32) => if 8 ≤ x3 then some (.inr (.inl ())) else bd (f_X11_isIn x2 x3) (fun (x6 : Int32) => jk (fun (x8 : Int32) => some (.inl (x8, (x3 + 1)))) (fun k9 => if x6 = 0 then k9 x2 else zlt (x2 &&& ((f_X11_bit x3) ^^^ (-1))) (fun (x10 : Int32) => bd (f_X1_firstPartner x10 x3 μ) (fun (x12 : Int32) => jk (zlt (α := Int32) (if x3 = nI k then x12 else x3) (fun (x20 : Int32) => some (.inr (.inr x20)))) (fun k14 => if x3 = nI k then k14 else if x12 = nI k then k14 else zlt (α := Int32) (if x12 = (-1) then x10 else ((f_X11_bit x12) ^^^ (-1))) (fun (x17 : Int32) => zlt (x10 &&& x17) (fun (x18 : Int32) => k9 x18))))))))) FU (nI 255, 0)) (fun r => sm r (fun (_ : Unit) => some (-1)) (fun r0 => some r0) = some (ptS w (nI k) A)) := by
    refine ok_lp (fun m s => ∃ i l, i + m = 8 ∧ s = (nI l, nI i) ∧ l < 256 ∧ (∀ j, j < i → l.testBit j = false) ∧ ptS w (nI k) (l &&& A) = ptS w (nI k) A) ?_ (N := 8) ⟨0, 255, by omega, rfl, by omega, fun j hj => absurd hj (by omega), by rw [set_full hA]⟩ (FU_lt (by omega))
    rintro m s ⟨i, l, e1, rfl, hl, hlow, hR⟩
    rw [un2_s]
    by_cases e8 : i = 8
    · subst e8
      rw [if_pos (by decide)]
      refine ok_some ?_
      dsimp only
      rw [← hR]
      have : l = 0 := set_ext hl (by omega) (fun k hk => by rw [hlow k hk, Nat.zero_testBit])
      rw [this, Nat.zero_and]
      rfl
    · have hi : i < 8 := by omega
      rw [if_neg (show ¬ (8 : Int32) ≤ nI i from nI_ge (b := 8) hi (by omega)), bd_eq (isIn_eq (by omega)), tb_nI (by omega), jk_s, nI_1]
      cases ht : l.testBit i
      · rw [if_pos b2i_f]
        refine ok_some ⟨m - 1, by omega, i + 1, l, by omega, rfl, hl, fun j hj => ?_, hR⟩
        by_cases e : j = i
        · rw [e]; exact ht
        · exact hlow j (by omega)
      · have hr := rmv_lt hl hi ht
        have hfp := fpS_A ha hl hi
        rw [if_neg b2i_t, zlt_s, show nI l &&& (f_X11_bit (nI i) ^^^ (-1)) = nI (rmv l i) from rmv_eq hl hi, bd_eq (c_firstP hw hl hi ht h1 h2), jk_s, zlt_s]
        have hlow2 : ∀ j, j < i + 1 → (rmv l i).testBit j = false := fun j hj => by
          rw [rmv_tb hl hi (by omega)]
          by_cases e : j = i
          · rw [e]; simp
          · rw [hlow j (by omega)]; rfl
        cases hAi : A.testBit i
        · have hn := fpS_out ha hl hi hAi
          have hnA : (l &&& A).testBit i = false := by rw [Nat.testBit_and, hAi, Bool.and_false]
          have hc : ptS w (nI k) (rmv l i &&& A) = ptS w (nI k) A := by rw [rmv_and, rmv_no (and_lt hl) hi hnA]; exact hR
          rw [hn]
          by_cases ek : nI i = nI k
          · have : i = k := (nI_inj' (by omega) (by omega)).mp ek
            subst this
            rw [if_pos rfl, if_pos rfl]
            refine ok_some ?_
            dsimp only
            rw [← hR, ptS_out hi _ _ (Nat.le_refl _) (and_lt hl) hnA]
            rfl
          · rw [if_neg ek, if_neg (show ¬ onI none = nI k from fun q => nI_ne1 (by omega) q.symm), if_pos (show onI none = -1 from rfl), zlt_s, and_nI_all ⟨rmv l i, by omega⟩, zlt_s]
            exact ok_some ⟨m - 1, by omega, i + 1, rmv l i, by omega, rfl, by omega, hlow2, hc⟩
        · have htA : (l &&& A).testBit i = true := by rw [Nat.testBit_and, ht, hAi]; rfl
          have h0 := ne0_tb htA
          have hli : lob (l &&& A) = i := lob_is (and_lt hl) hi htA (fun j hj => by rw [Nat.testBit_and, hlow j hj]; rfl)
          rw [ptS_s (and_lt hl) h0, hli, hfp, nxS_A ha hl hi] at hR
          by_cases ek : nI i = nI k
          · rw [if_pos ek] at hR
            rw [if_pos ek, if_pos ek]
            refine ok_some ?_
            dsimp only
            rw [← hR]
            rfl
          · rw [if_neg ek] at hR
            rw [if_neg ek, if_neg ek]
            by_cases eo : onI (fpS w l i) = nI k
            · rw [if_pos eo] at hR
              rw [if_pos eo]
              refine ok_some ?_
              dsimp only
              rw [← hR]
              rfl
            · rw [if_neg eo] at hR
              rw [if_neg eo]
              unfold nxS at hR
              cases ef : fpS w l i with
              | none =>
                rw [ef] at hR
                rw [if_pos (show onI none = -1 from rfl), zlt_s, and_nI_all ⟨rmv l i, by omega⟩, zlt_s]
                exact ok_some ⟨m - 1, by omega, i + 1, rmv l i, by omega, rfl, by omega, hlow2, hR⟩
              | some j =>
                rw [ef] at hR
                have hj := (fpS_some ef).2.2 hi
                have hr2 := rmv_le (n := rmv l i) (j := j) (by omega) hj
                rw [if_neg (show ¬ onI (some j) = -1 from nI_ne1 (by omega)), zlt_s, show nI (rmv l i) &&& (f_X11_bit (onI (some j)) ^^^ (-1)) = nI (rmv (rmv l i) j) from rmv_eq (by omega) hj, zlt_s]
                refine ok_some ⟨m - 1, by omega, i + 1, rmv (rmv l i) j, by omega, rfl, by omega, fun j' hj' => ?_, hR⟩
                rw [rmv_tb (by omega) hj (by omega), hlow2 j' hj']
                rfl
  obtain ⟨r, er, hr'⟩ := key
  rw [bd_eq er, hr']
theorem c_mostP {w : Nat → Nat → Nat} {A : Nat} (hA : A < 256) (ha : inA A w) (h2 : cBI w 256 μ) : f_X1_mostOfPairs μ = some (nI (bst w A)) := by
  unfold f_X1_mostOfPairs
  rw [show (256 - 1 : Int32) = nI 255 by decide, gd_eq (by decide), nI_cl (by omega), h2 255 (by omega)]
  have : bst w 255 = bst w A := by rw [← bst_A (n := 255) (by omega) ha, set_full hA]
  rw [this]
end PP
