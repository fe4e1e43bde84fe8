/-! odds on both sides -/
def cO (a2 a3 : Int32) (x12 : Int64) : Option Int32 := bd (lp (σ := Int64 × Int32) (fun q => un2 q (fun (x13 : Int64) (x14 : Int32) => if a2 ≤ x14 then some (.inr x13) else zlt (x13 * 100) (fun (x17 : Int64) => some (.inl (x17, (x14 + 1)))))) FU (1, 0)) (fun (x15 : Int64) => bd (lp (σ := Int64 × Int32) (fun q => un2 q (fun (x18 : Int64) (x19 : Int32) => if a2 < x19 then some (.inr x18) else bd (lp (σ := Int64 × Int32) (fun q => un2 q (fun (x22 : Int64) (x23 : Int32) => if a2 ≤ x23 then some (.inr x22) else zlt (α := Int64) (if x19 ≤ x23 then (100 - x12) else x12) (fun (x27 : Int64) => zlt (x22 * x27) (fun (x28 : Int64) => some (.inl (x28, (x23 + 1))))))) FU (1, 0)) (fun (x24 : Int64) => bd (f_X11_choose a2 x19) (fun (x30 : Int32) => zlt (x18 + (x24 * ((x30).toInt64))) (fun (x31 : Int64) => some (.inl (x31, (x19 + 1)))))))) FU (0, a3)) (fun (x20 : Int64) => gd (gnzl (zmaxl 1 x15)) (some ((((x20 * 10000) / (zmaxl 1 x15))).toInt32))))
def mOd (a2 a3 x16 : Int32) : Option Int32 := bd (lp (σ := Int64 × Int32) (fun q => un2 q (fun (x17 : Int64) (x18 : Int32) => if a2 ≤ x18 then some (.inr x17) else zlt (x17 * 100) (fun (x21 : Int64) => some (.inl (x21, (x18 + 1)))))) FU (1, 0)) (fun (x19 : Int64) => bd (lp (σ := Int64 × Int32) (fun q => un2 q (fun (x22 : Int64) (x23 : Int32) => if (1 <<< (a2 &&& 31)) ≤ x23 then some (.inr x22) else bd (f_X12_bits x23) (fun (x27 : Int32) => zlt (α := Int64) (if a3 ≤ x27 then 1 else 0) (fun (x29 : Int64) => bd (lp (σ := Int64 × Int32) (fun q => un2 q (fun (x30 : Int64) (x31 : Int32) => if a2 ≤ x31 then some (.inr x30) else bd (f_X12_isOf x23 x31) (fun (x35 : Int32) => zlt (α := Int64) (if x35 = 0 then ((100 - x16)).toInt64 else (x16).toInt64) (fun (x37 : Int64) => zlt (x30 * x37) (fun (x38 : Int64) => some (.inl (x38, (x31 + 1)))))))) FU (x29, 0)) (fun (x32 : Int64) => zlt (x22 + x32) (fun (x39 : Int64) => some (.inl (x39, (x23 + 1))))))))) FU (0, 0)) (fun (x24 : Int64) => gd (gnzl x19) (some ((((10000 * x24) / x19)).toInt32))))
abbrev nL (a : Nat) : Int64 := Int64.ofNat a
theorem nL_mul (a b : Nat) : nL a * nL b = nL (a * b) := (Int64.ofNat_mul a b).symm
theorem nL_add (a b : Nat) : nL a + nL b = nL (a + b) := (Int64.ofNat_add a b).symm
theorem om_all : ∀ o : Fin 101, (nI o.val).toInt64 = nL o.val ∧ (100 : Int64) - nL o.val = nL (100 - o.val) ∧ (100 - nI o.val).toInt64 = nL (100 - o.val) := by decide +kernel
theorem hun_all : ∀ n : Fin 6, zmaxl 1 (nL (100 ^ n.val)) = nL (100 ^ n.val) ∧ gnzl (nL (100 ^ n.val)) = true := by decide +kernel
def chN : Nat → Nat → Nat
  | _, 0 => 1
  | 0, _ + 1 => 0
  | n + 1, s + 1 => chN n s + chN n (s + 1)
theorem ch_all : ∀ n : Fin 6, ∀ s : Fin 6, s.val ≤ n.val → f_X11_choose (nI n.val) (nI s.val) = some (nI (chN n.val s.val)) ∧ (nI (chN n.val s.val)).toInt64 = nL (chN n.val s.val) := by decide +kernel
def wayN (o s n : Nat) : Nat := itS (fun i a => a * (if i < s then o else 100 - o)) n 1
def totC (o n k d : Nat) : Nat := itS (fun d a => a + wayN o (k + d) n * chN n (k + d)) d 0
def bN (s : Nat) : Nat := itS (fun i a => a + if s.testBit i then 1 else 0) 5 0
theorem bN_all : ∀ s : Fin 32, pc (nI s.val) = bN s.val := by decide +kernel
def prM (o s n k : Nat) : Nat := itS (fun i a => a * (if s.testBit i then o else 100 - o)) n (if k ≤ bN s then 1 else 0)
def totM (o n k d : Nat) : Nat := itS (fun s a => a + prM o s n k) d 0
theorem itS_s1 {f : Nat → Nat → Nat} {k v : Nat} : itS f (k + 1) v = f k (itS f k v) := rfl
theorem odd_00 : ∀ o : Fin 101, totC o.val 0 0 1 = totM o.val 0 0 1 := by decide +kernel
theorem odd_01 : ∀ o : Fin 101, totC o.val 0 1 0 = totM o.val 0 1 1 := by decide +kernel
theorem odd_02 : ∀ o : Fin 101, totC o.val 0 2 0 = totM o.val 0 2 1 := by decide +kernel
theorem odd_03 : ∀ o : Fin 101, totC o.val 0 3 0 = totM o.val 0 3 1 := by decide +kernel
theorem odd_04 : ∀ o : Fin 101, totC o.val 0 4 0 = totM o.val 0 4 1 := by decide +kernel
theorem odd_05 : ∀ o : Fin 101, totC o.val 0 5 0 = totM o.val 0 5 1 := by decide +kernel
theorem odd_10 : ∀ o : Fin 101, totC o.val 1 0 2 = totM o.val 1 0 2 := by decide +kernel
theorem odd_11 : ∀ o : Fin 101, totC o.val 1 1 1 = totM o.val 1 1 2 := by decide +kernel
theorem odd_12 : ∀ o : Fin 101, totC o.val 1 2 0 = totM o.val 1 2 2 := by decide +kernel
theorem odd_13 : ∀ o : Fin 101, totC o.val 1 3 0 = totM o.val 1 3 2 := by decide +kernel
theorem odd_14 : ∀ o : Fin 101, totC o.val 1 4 0 = totM o.val 1 4 2 := by decide +kernel
theorem odd_15 : ∀ o : Fin 101, totC o.val 1 5 0 = totM o.val 1 5 2 := by decide +kernel
theorem odd_20 : ∀ o : Fin 101, totC o.val 2 0 3 = totM o.val 2 0 4 := by decide +kernel
theorem odd_21 : ∀ o : Fin 101, totC o.val 2 1 2 = totM o.val 2 1 4 := by decide +kernel
theorem odd_22 : ∀ o : Fin 101, totC o.val 2 2 1 = totM o.val 2 2 4 := by decide +kernel
theorem odd_23 : ∀ o : Fin 101, totC o.val 2 3 0 = totM o.val 2 3 4 := by decide +kernel
theorem odd_24 : ∀ o : Fin 101, totC o.val 2 4 0 = totM o.val 2 4 4 := by decide +kernel
theorem odd_25 : ∀ o : Fin 101, totC o.val 2 5 0 = totM o.val 2 5 4 := by decide +kernel
theorem odd_30 : ∀ o : Fin 101, totC o.val 3 0 4 = totM o.val 3 0 8 := by decide +kernel
theorem odd_31 : ∀ o : Fin 101, totC o.val 3 1 3 = totM o.val 3 1 8 := by decide +kernel
theorem odd_32 : ∀ o : Fin 101, totC o.val 3 2 2 = totM o.val 3 2 8 := by decide +kernel
theorem odd_33 : ∀ o : Fin 101, totC o.val 3 3 1 = totM o.val 3 3 8 := by decide +kernel
theorem odd_34 : ∀ o : Fin 101, totC o.val 3 4 0 = totM o.val 3 4 8 := by decide +kernel
theorem odd_35 : ∀ o : Fin 101, totC o.val 3 5 0 = totM o.val 3 5 8 := by decide +kernel
theorem odd_40 : ∀ o : Fin 101, totC o.val 4 0 5 = totM o.val 4 0 16 := by decide +kernel
theorem odd_41 : ∀ o : Fin 101, totC o.val 4 1 4 = totM o.val 4 1 16 := by decide +kernel
theorem odd_42 : ∀ o : Fin 101, totC o.val 4 2 3 = totM o.val 4 2 16 := by decide +kernel
theorem odd_43 : ∀ o : Fin 101, totC o.val 4 3 2 = totM o.val 4 3 16 := by decide +kernel
theorem odd_44 : ∀ o : Fin 101, totC o.val 4 4 1 = totM o.val 4 4 16 := by decide +kernel
theorem odd_45 : ∀ o : Fin 101, totC o.val 4 5 0 = totM o.val 4 5 16 := by decide +kernel
theorem odd_50 : ∀ o : Fin 101, totC o.val 5 0 6 = totM o.val 5 0 32 := by decide +kernel
theorem odd_51 : ∀ o : Fin 101, totC o.val 5 1 5 = totM o.val 5 1 32 := by decide +kernel
theorem odd_52 : ∀ o : Fin 101, totC o.val 5 2 4 = totM o.val 5 2 32 := by decide +kernel
theorem odd_53 : ∀ o : Fin 101, totC o.val 5 3 3 = totM o.val 5 3 32 := by decide +kernel
theorem odd_54 : ∀ o : Fin 101, totC o.val 5 4 2 = totM o.val 5 4 32 := by decide +kernel
theorem odd_55 : ∀ o : Fin 101, totC o.val 5 5 1 = totM o.val 5 5 32 := by decide +kernel
theorem odd_all {n k o : Nat} (hn : n ≤ 5) (hk : k ≤ 5) (ho : o ≤ 100) : totC o n k (n + 1 - k) = totM o n k (2 ^ n) := by
  have h : n = 0 ∨ n = 1 ∨ n = 2 ∨ n = 3 ∨ n = 4 ∨ n = 5 := by omega
  have g : k = 0 ∨ k = 1 ∨ k = 2 ∨ k = 3 ∨ k = 4 ∨ k = 5 := by omega
  rcases h with rfl | rfl | rfl | rfl | rfl | rfl <;> rcases g with rfl | rfl | rfl | rfl | rfl | rfl
  · exact odd_00 ⟨o, by omega⟩
  · exact odd_01 ⟨o, by omega⟩
  · exact odd_02 ⟨o, by omega⟩
  · exact odd_03 ⟨o, by omega⟩
  · exact odd_04 ⟨o, by omega⟩
  · exact odd_05 ⟨o, by omega⟩
  · exact odd_10 ⟨o, by omega⟩
  · exact odd_11 ⟨o, by omega⟩
  · exact odd_12 ⟨o, by omega⟩
  · exact odd_13 ⟨o, by omega⟩
  · exact odd_14 ⟨o, by omega⟩
  · exact odd_15 ⟨o, by omega⟩
  · exact odd_20 ⟨o, by omega⟩
  · exact odd_21 ⟨o, by omega⟩
  · exact odd_22 ⟨o, by omega⟩
  · exact odd_23 ⟨o, by omega⟩
  · exact odd_24 ⟨o, by omega⟩
  · exact odd_25 ⟨o, by omega⟩
  · exact odd_30 ⟨o, by omega⟩
  · exact odd_31 ⟨o, by omega⟩
  · exact odd_32 ⟨o, by omega⟩
  · exact odd_33 ⟨o, by omega⟩
  · exact odd_34 ⟨o, by omega⟩
  · exact odd_35 ⟨o, by omega⟩
  · exact odd_40 ⟨o, by omega⟩
  · exact odd_41 ⟨o, by omega⟩
  · exact odd_42 ⟨o, by omega⟩
  · exact odd_43 ⟨o, by omega⟩
  · exact odd_44 ⟨o, by omega⟩
  · exact odd_45 ⟨o, by omega⟩
  · exact odd_50 ⟨o, by omega⟩
  · exact odd_51 ⟨o, by omega⟩
  · exact odd_52 ⟨o, by omega⟩
  · exact odd_53 ⟨o, by omega⟩
  · exact odd_54 ⟨o, by omega⟩
  · exact odd_55 ⟨o, by omega⟩
theorem cO_eq {n k o : Nat} (hn : n ≤ 5) (hk : k ≤ 5) (ho : o ≤ 100) : cO (nI n) (nI k) (nI o).toInt64 = some (((nL (totC o n k (n + 1 - k)) * 10000) / nL (100 ^ n)).toInt32) := by
  obtain ⟨e1, e2, e3⟩ := om_all ⟨o, by omega⟩
  obtain ⟨e4, e5⟩ := hun_all ⟨n, by omega⟩
  dsimp only at e1 e2 e3 e4 e5
  unfold cO
  rw [e1, bd_eq (lp_seq (s0 := ((1 : Int64), (0 : Int32))) (r := nL (100 ^ n)) n (fun j => (nL (100 ^ j), nI j)) ?_ ?_ (FU_lt (by omega)) rfl), bd_eq (lp_seq (s0 := ((0 : Int64), nI k)) (r := nL (totC o n k (n + 1 - k))) (n + 1 - k) (fun d => (nL (totC o n k d), nI (k + d))) ?_ ?_ (FU_lt (by omega)) rfl), e4, gd_eq e5]
  · intro d hd
    obtain ⟨c1, c2⟩ := ch_all ⟨n, by omega⟩ ⟨k + d, by omega⟩ (show k + d ≤ n by omega)
    dsimp only at c1 c2
    rw [un2_s, if_neg (nI_nlt (by omega) (by omega)), bd_eq (lp_seq (s0 := ((1 : Int64), (0 : Int32))) (r := nL (wayN o (k + d) n)) n (fun j => (nL (wayN o (k + d) j), nI j)) ?_ ?_ (FU_lt (by omega)) rfl), bd_eq c1, zlt_s, c2, nL_mul, nL_add, nI_1]
    · rfl
    · intro j hj
      rw [un2_s, if_neg (nI_ge hj (by omega)), e2, nI_1, zlt_s, zlt_s]
      have ew : wayN o (k + d) (j + 1) = wayN o (k + d) j * (if j < k + d then o else 100 - o) := rfl
      rw [ew]
      by_cases h : j < k + d
      · rw [if_neg (nI_ge h (by omega)), if_pos h, nL_mul]
      · rw [if_pos (nI_le (by omega) (by omega)), if_neg h, nL_mul]
    · rw [un2_s, if_pos (nI_le (Nat.le_refl _) (by omega))]
  · rw [un2_s, if_pos (nI_lt (by omega) (by omega))]
  · intro j hj
    rw [un2_s, if_neg (nI_ge hj (by omega)), zlt_s, nI_1, show (100 : Int64) = nL 100 from rfl, nL_mul]
    rfl
  · rw [un2_s, if_pos (nI_le (Nat.le_refl _) (by omega))]
theorem m_pow : ∀ c : Fin 6, (1 : Int32) <<< (nI c.val &&& 31) = nI (2 ^ c.val) ∧ 2 ^ c.val ≤ 32 := by decide +kernel
theorem mO_eq {n k o : Nat} (hn : n ≤ 5) (hk : k ≤ 5) (ho : o ≤ 100) : mOd (nI n) (nI k) (nI o) = some (((10000 * nL (totM o n k (2 ^ n))) / nL (100 ^ n)).toInt32) := by
  obtain ⟨e1, e2, e3⟩ := om_all ⟨o, by omega⟩
  obtain ⟨e4, e5⟩ := hun_all ⟨n, by omega⟩
  obtain ⟨e6, e7⟩ := m_pow ⟨n, by omega⟩
  dsimp only at e1 e2 e3 e4 e5 e6 e7
  unfold mOd
  rw [e6, bd_eq (lp_seq (s0 := ((1 : Int64), (0 : Int32))) (r := nL (100 ^ n)) n (fun j => (nL (100 ^ j), nI j)) ?_ ?_ (FU_lt (by omega)) rfl), bd_eq (lp_seq (s0 := ((0 : Int64), (0 : Int32))) (r := nL (totM o n k (2 ^ n))) (2 ^ n) (fun d => (nL (totM o n k d), nI d)) ?_ ?_ (FU_lt (by omega)) rfl), gd_eq e5]
  · intro s hs
    have b1 := bN_all ⟨s, by omega⟩
    dsimp only at b1
    have b2 := pc_le (nI s)
    rw [un2_s, if_neg (nI_ge hs (by omega)), bd_eq (bits_eq ⟨s, by omega, rfl⟩), zlt_s, b1]
    have es : (if nI k ≤ nI (bN s) then (1 : Int64) else 0) = nL (if k ≤ bN s then 1 else 0) := by
      by_cases h : k ≤ bN s
      · rw [if_pos (nI_le h (by omega)), if_pos h]; rfl
      · rw [if_neg (nI_ge (by omega) (by omega)), if_neg h]; rfl
    rw [es, bd_eq (lp_seq (s0 := (nL (if k ≤ bN s then 1 else 0), (0 : Int32))) (r := nL (prM o s n k)) n (fun j => (nL (itS (fun i a => a * (if s.testBit i then o else 100 - o)) j (if k ≤ bN s then 1 else 0)), nI j)) ?_ ?_ (FU_lt (by omega)) rfl), zlt_s, nL_add, nI_1]
    · rfl
    · intro j hj
      have et : tbit (nI s) j = s.testBit j := by
        unfold tbit nI
        rw [show (Int32.ofNat s).toBitVec = BitVec.ofNat 32 s from rfl, BitVec.getLsbD_ofNat, decide_eq_true (show j < 32 by omega), Bool.true_and]
      rw [un2_s, if_neg (nI_ge hj (by omega)), bd_eq (isOf_eq (by omega)), et, e3, e1, nI_1, zlt_s, zlt_s, itS_s1]
      cases s.testBit j
      · rw [if_pos b2i_f, if_neg (show ¬ (false = true) by decide), nL_mul]
      · rw [if_neg b2i_t, if_pos (show true = true from rfl), nL_mul]
    · rw [un2_s, if_pos (nI_le (Nat.le_refl _) (by omega))]; rfl
  · rw [un2_s, if_pos (nI_le (Nat.le_refl _) (by omega))]
  · intro j hj
    rw [un2_s, if_neg (nI_ge hj (by omega)), zlt_s, nI_1, show (100 : Int64) = nL 100 from rfl, nL_mul]
    rfl
  · rw [un2_s, if_pos (nI_le (Nat.le_refl _) (by omega))]
theorem odds_eq {n k o : Nat} (hn : n ≤ 5) (hk : k ≤ 5) (ho : o ≤ 100) : ∃ r, cO (nI n) (nI k) (nI o).toInt64 = some r ∧ mOd (nI n) (nI k) (nI o) = some r :=
  ⟨_, cO_eq hn hk ho, by rw [mO_eq hn hk ho, odd_all hn hk ho, Int64.mul_comm]⟩
theorem gd_s {α : Type} {b : Bool} {x : Option α} {r : α} (h : gd b x = some r) : b = true ∧ x = some r := by
  cases b
  · cases h
  · exact ⟨rfl, h⟩
theorem bd_s' {α β : Type} {x : Option α} {f : α → Option β} {r : β} (h : bd x f = some r) : ∃ a, x = some a ∧ f a = some r := by
  cases x with
  | none => cases h
  | some a => exact ⟨a, rfl, h⟩
theorem omit_in {L : LawS} {c k : Nat} {v : Vec} (hB : BV c v) (hb : LB L) (hk : k < c) : ∃ o, o ≤ 100 ∧ omitS L c v k = nI o := by
  have h1 := omit_le (L := L) (c := c) (v := v) (k := k)
  have h0 : (0 : Int32) ≤ omitS L c v k := by
    unfold omitS
    split
    · decide
    · have r1 : rng (nd v k 8) 0 100 := (hB.1 k hk).2.2.2.2.1
      have r2 := rng_add r1 (hb 1 (envS c v k)) (by omega) (by omega)
      rw [lesser_eq]
      split
      · decide
      · rw [Int32.le_iff_toInt_le]; exact r2.1
  obtain ⟨n, hn, e⟩ := in_k h0 (show _ ≤ nI 100 from h1) (by omega)
  exact ⟨n, hn, e⟩
section PO
variable {y : ZLay} {μ : ZMem} {S S' : SV} {tp tp' : Vec} {tl tl' : Nat} {fa fa' : Int32} {kp kp' : Option SV} {ac ac' : List (Nat × Vec)}
theorem OP_odds {a1 a2 a3 : Int32} : OPx y cmB (f_X11_odds y a1 a2 a3) (f_X12_odds a1 a2 a3) := by
  rintro μ ⟨S, tp, tl, fa, kp, ac, hc, hm, ho⟩
  have h8 := OA_c ho
  cases hn : nodeB S.1 a1
  · refine op_ref (k := 3) hc hm ho (by decide) ?_ ?_
    · unfold f_X11_odds
      rw [bd_eq (c_isNode hc.1), hn, if_pos b2i_f]
    · intro μ1 r1
      unfold f_X12_odds
      rw [bd_eq (m_node0 r1 ho), hn, if_pos b2i_f, bd_s, zlt_s, thr_0, if_neg (by decide)]
      rfl
  · obtain ⟨k, hk, rfl⟩ := nodeB_t h8 hn
    by_cases hr : (0 ≤ a2 ∧ a2 ≤ 5) ∧ (0 ≤ a3 ∧ a3 ≤ 5)
    · obtain ⟨⟨h1, h2⟩, h3, h4⟩ := hr
      have d2 : decide (0 ≤ a2 ∧ a2 ≤ 5) = true := decide_eq_true ⟨h1, h2⟩
      have d3 : decide (0 ≤ a3 ∧ a3 ≤ 5) = true := decide_eq_true ⟨h3, h4⟩
      obtain ⟨n, hn', e2⟩ := in_k h1 (show a2 ≤ nI 5 from h2) (by omega)
      obtain ⟨w, hw, e3⟩ := in_k h3 (show a3 ≤ nI 5 from h4) (by omega)
      obtain ⟨o, hq, eo⟩ := omit_in (L := S.2.2) ho.1.1.2 ho.1.2.1 hk
      obtain ⟨r, er1, er2⟩ := odds_eq hn' hw hq
      rw [← e2, ← e3, ← eo] at er1 er2
      refine op_q (A := .inl r) hc hm ho ?_ ?_
      · unfold f_X11_odds
        rw [bd_eq (c_isNode hc.1), hn, if_neg b2i_t, jk_s, if_neg (Int32.not_lt.mpr h1), if_neg (Int32.not_lt.mpr h2), if_neg (Int32.not_lt.mpr h3), if_pos h4]
        refine ok_b1 (c_look0 hc.1 ho.1) ?_
        rintro μ1 ⟨w1, w2, w3, w4⟩
        rw [gd_eq (zin_nI (by omega) (by omega)), nI_cl (by omega), (w3.2.2 k hk).2.1, zlt_s]
        unfold cO at er1
        obtain ⟨x15, q1, er1⟩ := bd_s' er1
        obtain ⟨x20, q2, er1⟩ := bd_s' er1
        obtain ⟨q3, er1⟩ := gd_s er1
        rw [bd_eq q1, bd_eq q2, gd_eq q3]
        exact ok_some ⟨congrArg Sum.inl (Option.some.inj er1), fr_mono w2 (fun o i h => vw_sc h)⟩
      · intro μ1 r1
        unfold f_X12_odds
        have hv : (mset μ1 (0, 32, 0) 0 0) MV0 = S.2.1 := (mset_ne (by decide)).trans r1.1
        rw [bd_eq (m_node0 r1 ho), hn, if_neg b2i_t, bd_eq m_isIn, d2, jk_s, if_neg b2i_t, bd_eq m_isIn, d3, if_neg b2i_t, bd_s, zlt_s, thr_0, if_pos (by decide)]
        have hL := ho.1.2.2.1 S.1 (mset μ1 (0, 32, 0) 0 0) (fun i _ => congrFun hv i) (by rw [hv]; exact ho.1.1.1) k (by omega)
        rw [hv] at hL
        refine ok_b1 hL ?_
        rintro μ2 ⟨f2, g1, g2, g3⟩
        rw [zlt_s, g2]
        unfold mOd at er2
        obtain ⟨x15, q1, er2⟩ := bd_s' er2
        obtain ⟨x20, q2, er2⟩ := bd_s' er2
        obtain ⟨q3, er2⟩ := gd_s er2
        rw [bd_eq q1, bd_eq q2, gd_eq q3]
        refine ok_some ⟨⟨?_, Option.some.inj er2⟩, fr_trans thr_fr (fr_mono f2 (fun o i h => ask_ms h))⟩
        dsimp only
        rw [f2.1 _ _ ask_0]
        exact thr_0
    · refine op_ref (k := 1) hc hm ho (by decide) ?_ ?_
      · unfold f_X11_odds
        rw [bd_eq (c_isNode hc.1), hn, if_neg b2i_t, jk_s]
        by_cases h1 : a2 < 0
        · rw [if_pos h1]
        · rw [if_neg h1]
          by_cases h2 : 5 < a2
          · rw [if_pos h2]
          · rw [if_neg h2]
            by_cases h3 : a3 < 0
            · rw [if_pos h3]
            · rw [if_neg h3, if_neg (fun h4 => hr ⟨⟨Int32.not_lt.mp h1, Int32.not_lt.mp h2⟩, Int32.not_lt.mp h3, h4⟩)]
      · intro μ1 r1
        unfold f_X12_odds
        rw [bd_eq (m_node0 r1 ho), hn, if_neg b2i_t, bd_eq m_isIn, jk_s]
        by_cases h2 : 0 ≤ a2 ∧ a2 ≤ 5
        · rw [decide_eq_true h2, if_neg b2i_t, bd_eq m_isIn, decide_eq_false (fun h => hr ⟨h2, h⟩), if_pos b2i_f, bd_s, zlt_s, thr_0, if_neg (by decide)]
          rfl
        · rw [decide_eq_false h2, if_pos b2i_f, bd_s, zlt_s, thr_0, if_neg (by decide)]
          rfl
end PO
