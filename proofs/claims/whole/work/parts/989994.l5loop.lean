/-! the law's loop -/
theorem head_lt {L j : Nat} (hL : L ≤ 3072) (hj : j ≤ 4000) (h : ¬ j + 6 ≤ L) : nI L - 6 < nI j := by
  by_cases h6 : 6 ≤ L
  · rw [show (6 : Int32) = nI 6 from rfl, nI_sub h6]
    exact nI_lt (by omega) (by omega)
  · rw [Int32.lt_iff_toInt_lt, nI_toInt (show j < 2 ^ 31 by omega)]
    have : (nI L - 6).toInt < 0 := by
      rcases (by omega : L = 0 ∨ L = 1 ∨ L = 2 ∨ L = 3 ∨ L = 4 ∨ L = 5) with e | e | e | e | e | e <;> subst e <;> decide
    omega
theorem ar1 {k n c m : Nat} (h : k + c * (n + 1) ≤ m) : k + c ≤ m := by
  have : c ≤ c * (n + 1) := Nat.le_mul_of_pos_right c (Nat.succ_pos n)
  exact Nat.le_trans (Nat.add_le_add_left this k) h
theorem ar2 {k k' n c m : Nat} (hk : k' ≤ k + c) (h : k + c * (n + 1) ≤ m) : k' + c * n ≤ m := by
  rw [Nat.mul_succ] at h
  exact Nat.le_trans (Nat.add_le_add_right hk _) (Nat.le_trans (Nat.le_of_eq (by rw [Nat.add_assoc, Nat.add_comm c (c * n)])) h)
theorem ar3 {L j n : Nat} (h : L < j + 6 * (n + 1)) : L < j + 6 + 6 * n := by omega
theorem ar4 {z z' n m : Nat} (hz : z' ≤ z + 1) (h : z + (n + 1) ≤ m) : z' + n ≤ m := by omega
section LLoop
variable {p : Program} {l : Launch} {e : Env} {s : State} {m : MethodId} {b : Nat} {below : List Frame} {meth : Method} {c : Code} {Q : State → Prop}
variable {D : va_G} {A : Nat → Prop} {L : Nat} {xs : Nat → Int32}
def LKy (p : Program) (l : Launch) (e : Env) (s : State) (m : MethodId) (b : Nat) (below : List Frame) (meth : Method) (c : Code) (Q : State → Prop) (D : va_G) (A : Nat → Prop) (y : ZLay) (kc ks : Nat) (i : Int32) : Prop :=
  ∀ (y' : ZLay) (kc' ks' : Nat) (X' : LX p l e s m b below meth c Q D A y' kc' ks') (μ' : ZMem), kc' ≤ kc + 6 → ks' ≤ ks + 1638 → znl y' ≤ znl y + 1 → INV y' μ' → V X' μ' 2518 (lv5 y' b i) []
theorem law_back {y : ZLay} {kc ks : Nat} {μ : ZMem} {i : Int32} (X : LX p l e s m b below meth c Q D A y kc ks) (kk : V X μ 23 (lv5 y b (i + Int32.ofNat 6)) []) : V X μ 2518 (lv5 y b i) [] := by
  refine V_iinc X 4 (i + Int32.ofNat 6) ((4, .int (i + Int32.ofNat 6)) :: (lv5 y b i).take 4) dL_law__2518 rfl rfl (by decide) rfl ?_
  refine V_goto X (tgt := 23) dL_law__2521 (by decide) ?_
  exact V_sub X [1, 2, 3, 4, 0] rfl kk
theorem law_switch {y : ZLay} {kc ks : Nat} {μ : ZMem} {i v : Int32} (X : LX p l e s m b below meth c Q D A y kc ks) (hR : kc + 6 ≤ room_1.cells ∧ ks + 1638 ≤ room_1.slots) (hlf : l.stackTraces = false) (hX : va_X b L xs s s.heap) (hbl : b < s.heap.size) (hbA : ¬ A b) (hin : ∀ k : Nat, k < 6 → vp_in (i + Int32.ofNat k) L) (hI : INV y μ)
    (hlaw : LKy p l e s m b below meth c Q D A y kc ks i → V X μ 386 (lv5 y b i) []) (K : LKy p l e s m b below meth c Q D A y kc ks i) : V X μ 40 (lv5 y b i) [.int v] := by
  have K0 : LK p l e s m b below meth c Q D A y kc ks i := fun kc' ks' X' μ' h1 h2 h3 => K y kc' ks' X' μ' h1 h2 (Nat.le_succ _) h3
  by_cases ho : v.toInt < 0 ∨ 46 < v.toInt
  · exact V_tblOut X (tgt := 2518) dL_law__40 ho (by decide) (K y kc ks X μ (by omega) (by omega) (by omega) hI)
  · have h1 : ¬ v.toInt < 0 := fun h => ho (Or.inl h)
    have h2 : ¬ 46 < v.toInt := fun h => ho (Or.inr h)
    rcases (show v.toInt = 0 ∨ v.toInt = 1 ∨ v.toInt = 2 ∨ v.toInt = 3 ∨ v.toInt = 4 ∨ v.toInt = 5 ∨ v.toInt = 6 ∨ v.toInt = 7 ∨ v.toInt = 8 ∨ v.toInt = 9 ∨ v.toInt = 10 ∨ v.toInt = 11 ∨ v.toInt = 12 ∨ v.toInt = 13 ∨ v.toInt = 14 ∨ v.toInt = 15 ∨ v.toInt = 16 ∨ v.toInt = 17 ∨ v.toInt = 18 ∨ v.toInt = 19 ∨ v.toInt = 20 ∨ v.toInt = 21 ∨ v.toInt = 22 ∨ v.toInt = 23 ∨ v.toInt = 24 ∨ v.toInt = 25 ∨ v.toInt = 26 ∨ v.toInt = 27 ∨ v.toInt = 28 ∨ v.toInt = 29 ∨ v.toInt = 30 ∨ v.toInt = 31 ∨ v.toInt = 32 ∨ v.toInt = 33 ∨ v.toInt = 34 ∨ v.toInt = 35 ∨ v.toInt = 36 ∨ v.toInt = 37 ∨ v.toInt = 38 ∨ v.toInt = 39 ∨ v.toInt = 40 ∨ v.toInt = 41 ∨ v.toInt = 42 ∨ v.toInt = 43 ∨ v.toInt = 44 ∨ v.toInt = 45 ∨ v.toInt = 46 by omega) with h | h | h | h | h | h | h | h | h | h | h | h | h | h | h | h | h | h | h | h | h | h | h | h | h | h | h | h | h | h | h | h | h | h | h | h | h | h | h | h | h | h | h | h | h | h | h
    · exact V_tblIn X (tgt := 244) dL_law__40 h1 h2 (by rw [h]; rfl) (by decide) (LC_feed X hR hlf hX hbl hbA hin hI K0)
    · exact V_tblIn X (tgt := 317) dL_law__40 h1 h2 (by rw [h]; rfl) (by decide) (LC_end X hR hlf hX hbl hbA hin hI K0)
    · exact V_tblIn X (tgt := 342) dL_law__40 h1 h2 (by rw [h]; rfl) (by decide) (LC_cluster X hR hlf hX hbl hbA hin hI K0)
    · exact V_tblIn X (tgt := 386) dL_law__40 h1 h2 (by rw [h]; rfl) (by decide) (hlaw K)
    · exact V_tblIn X (tgt := 430) dL_law__40 h1 h2 (by rw [h]; rfl) (by decide) (LC_fault X hR hlf hX hbl hbA hin hI K0)
    · exact V_tblIn X (tgt := 443) dL_law__40 h1 h2 (by rw [h]; rfl) (by decide) (LC_node X hR hlf hX hbl hbA hin hI K0)
    · exact V_tblIn X (tgt := 511) dL_law__40 h1 h2 (by rw [h]; rfl) (by decide) (LC_shift X hR hlf hX hbl hbA hin hI K0)
    · exact V_tblIn X (tgt := 579) dL_law__40 h1 h2 (by rw [h]; rfl) (by decide) (LC_hears X hR hlf hX hbl hbA hin hI K0)
    · exact V_tblIn X (tgt := 654) dL_law__40 h1 h2 (by rw [h]; rfl) (by decide) (LC_rounds X hR hlf hX hbl hbA hin hI K0)
    · exact V_tblIn X (tgt := 710) dL_law__40 h1 h2 (by rw [h]; rfl) (by decide) (LC_add X hR hlf hX hbl hbA hin hI K0)
    · exact V_tblIn X (tgt := 766) dL_law__40 h1 h2 (by rw [h]; rfl) (by decide) (LC_power X hR hlf hX hbl hbA hin hI K0)
    · exact V_tblIn X (tgt := 850) dL_law__40 h1 h2 (by rw [h]; rfl) (by decide) (LC_spoil X hR hlf hX hbl hbA hin hI K0)
    · exact V_tblIn X (tgt := 930) dL_law__40 h1 h2 (by rw [h]; rfl) (by decide) (LC_set X hR hlf hX hbl hbA hin hI K0)
    · exact V_tblIn X (tgt := 998) dL_law__40 h1 h2 (by rw [h]; rfl) (by decide) (LC_tune X hR hlf hX hbl hbA hin hI K0)
    · exact V_tblIn X (tgt := 1082) dL_law__40 h1 h2 (by rw [h]; rfl) (by decide) (LC_mid X hR hlf hX hbl hbA hin hI K0)
    · exact V_tblIn X (tgt := 1126) dL_law__40 h1 h2 (by rw [h]; rfl) (by decide) (LC_spread X hR hlf hX hbl hbA hin hI K0)
    · exact V_tblIn X (tgt := 1139) dL_law__40 h1 h2 (by rw [h]; rfl) (by decide) (LC_agreed X hR hlf hX hbl hbA hin hI K0)
    · exact V_tblIn X (tgt := 1152) dL_law__40 h1 h2 (by rw [h]; rfl) (by decide) (LC_cliques X hR hlf hX hbl hbA hin hI K0)
    · exact V_tblIn X (tgt := 1165) dL_law__40 h1 h2 (by rw [h]; rfl) (by decide) (LC_settles X hR hlf hX hbl hbA hin hI K0)
    · exact V_tblIn X (tgt := 1221) dL_law__40 h1 h2 (by rw [h]; rfl) (by decide) (LC_widest X hR hlf hX hbl hbA hin hI K0)
    · exact V_tblIn X (tgt := 1277) dL_law__40 h1 h2 (by rw [h]; rfl) (by decide) (LC_leads X hR hlf hX hbl hbA hin hI K0)
    · exact V_tblIn X (tgt := 1318) dL_law__40 h1 h2 (by rw [h]; rfl) (by decide) (LC_narrow X hR hlf hX hbl hbA hin hI K0)
    · exact V_tblIn X (tgt := 1331) dL_law__40 h1 h2 (by rw [h]; rfl) (by decide) (LC_tight X hR hlf hX hbl hbA hin hI K0)
    · exact V_tblIn X (tgt := 1344) dL_law__40 h1 h2 (by rw [h]; rfl) (by decide) (LC_spare X hR hlf hX hbl hbA hin hI K0)
    · exact V_tblIn X (tgt := 1357) dL_law__40 h1 h2 (by rw [h]; rfl) (by decide) (LC_order X hR hlf hX hbl hbA hin hI K0)
    · exact V_tblIn X (tgt := 1382) dL_law__40 h1 h2 (by rw [h]; rfl) (by decide) (LC_read X hR hlf hX hbl hbA hin hI K0)
    · exact V_tblIn X (tgt := 1454) dL_law__40 h1 h2 (by rw [h]; rfl) (by decide) (LC_when X hR hlf hX hbl hbA hin hI K0)
    · exact V_tblIn X (tgt := 1498) dL_law__40 h1 h2 (by rw [h]; rfl) (by decide) (LC_blame X hR hlf hX hbl hbA hin hI K0)
    · exact V_tblIn X (tgt := 1542) dL_law__40 h1 h2 (by rw [h]; rfl) (by decide) (LC_guilty X hR hlf hX hbl hbA hin hI K0)
    · exact V_tblIn X (tgt := 1586) dL_law__40 h1 h2 (by rw [h]; rfl) (by decide) (LC_probe X hR hlf hX hbl hbA hin hI K0)
    · exact V_tblIn X (tgt := 1630) dL_law__40 h1 h2 (by rw [h]; rfl) (by decide) (LC_pairs X hR hlf hX hbl hbA hin hI K0)
    · exact V_tblIn X (tgt := 1686) dL_law__40 h1 h2 (by rw [h]; rfl) (by decide) (LC_share X hR hlf hX hbl hbA hin hI K0)
    · exact V_tblIn X (tgt := 1754) dL_law__40 h1 h2 (by rw [h]; rfl) (by decide) (LC_rests X hR hlf hX hbl hbA hin hI K0)
    · exact V_tblIn X (tgt := 1810) dL_law__40 h1 h2 (by rw [h]; rfl) (by decide) (LC_odds X hR hlf hX hbl hbA hin hI K0)
    · exact V_tblIn X (tgt := 1890) dL_law__40 h1 h2 (by rw [h]; rfl) (by decide) (LC_most X hR hlf hX hbl hbA hin hI K0)
    · exact V_tblIn X (tgt := 1946) dL_law__40 h1 h2 (by rw [h]; rfl) (by decide) (LC_byState X hR hlf hX hbl hbA hin hI K0)
    · exact V_tblIn X (tgt := 2002) dL_law__40 h1 h2 (by rw [h]; rfl) (by decide) (LC_twins X hR hlf hX hbl hbA hin hI K0)
    · exact V_tblIn X (tgt := 2015) dL_law__40 h1 h2 (by rw [h]; rfl) (by decide) (LC_ahead X hR hlf hX hbl hbA hin hI K0)
    · exact V_tblIn X (tgt := 2111) dL_law__40 h1 h2 (by rw [h]; rfl) (by decide) (LC_trial X hR hlf hX hbl hbA hin hI K0)
    · exact V_tblIn X (tgt := 2195) dL_law__40 h1 h2 (by rw [h]; rfl) (by decide) (LC_span X hR hlf hX hbl hbA hin hI K0)
    · exact V_tblIn X (tgt := 2279) dL_law__40 h1 h2 (by rw [h]; rfl) (by decide) (LC_led X hR hlf hX hbl hbA hin hI K0)
    · exact V_tblIn X (tgt := 2363) dL_law__40 h1 h2 (by rw [h]; rfl) (by decide) (LC_log X hR hlf hX hbl hbA hin hI K0)
    · exact V_tblIn X (tgt := 2431) dL_law__40 h1 h2 (by rw [h]; rfl) (by decide) (LC_seed X hR hlf hX hbl hbA hin hI K0)
    · exact V_tblIn X (tgt := 2456) dL_law__40 h1 h2 (by rw [h]; rfl) (by decide) (LC_undo X hR hlf hX hbl hbA hin hI K0)
    · exact V_tblIn X (tgt := 2469) dL_law__40 h1 h2 (by rw [h]; rfl) (by decide) (LC_image X hR hlf hX hbl hbA hin hI K0)
    · exact V_tblIn X (tgt := 2480) dL_law__40 h1 h2 (by rw [h]; rfl) (by decide) (LC_back X hR hlf hX hbl hbA hin hI K0)
    · exact V_tblIn X (tgt := 2493) dL_law__40 h1 h2 (by rw [h]; rfl) (by decide) (LC_count X hR hlf hX hbl hbA hin hI K0)
theorem law_loop (hlf : l.stackTraces = false) (hX : va_X b L xs s s.heap) (hbl : b < s.heap.size) (hbA : ¬ A b) (hL : L ≤ 3072)
    (hQ : ∀ (y : ZLay) (kc ks : Nat) (X : LX p l e s m b below meth c Q D A y kc ks) (μ : ZMem) (i : Int32), V X μ 2524 (lv5 y b i) [])
    (hlaw : ∀ (y : ZLay) (kc ks : Nat) (X : LX p l e s m b below meth c Q D A y kc ks) (μ : ZMem) (i : Int32), kc + 6 ≤ room_1.cells → ks + 1638 ≤ room_1.slots → znl y < 1000000 → INV y μ → LKy p l e s m b below meth c Q D A y kc ks i → V X μ 386 (lv5 y b i) []) :
    ∀ (n j : Nat) (y : ZLay) (kc ks : Nat) (X : LX p l e s m b below meth c Q D A y kc ks) (μ : ZMem), L < j + 6 * n → j ≤ L + 6 → kc + 6 * n ≤ room_1.cells → ks + 1638 * n ≤ room_1.slots → znl y + n ≤ 1000000 → INV y μ → V X μ 23 (lv5 y b (nI j)) [] := by
  intro n
  induction n with
  | zero =>
    intro j y kc ks X μ h1 h2 h3 h4 h5 hI
    refine V_iload X 4 dL_law__23 rfl ?_
    refine V_aload_n X 0 dL_law__25 rfl rfl ?_
    refine (fun kk => (fun H locs ls hP hw hS hl => va_slen X.1 X.2.1 hX hbl hbA hS dL_law__26 (kk H locs ls hP hw hS hl)) : V X μ (25 + 1 + 1) _ _ → V X μ (25 + 1) _ _) ?_
    refine V_bipush X 6 dL_law__27 (by decide) ?_
    refine V_isub X dL_law__29 ?_
    refine V_icmp_gt X (tgt := 2524) dL_law__30 (by decide) (fun _ => hQ y kc ks X μ _) (fun hn => (hn ?_).elim)
    exact head_lt hL (by omega) (by omega)
  | succ n ih =>
    intro j y kc ks X μ h1 h2 h3 h4 h5 hI
    refine V_iload X 4 dL_law__23 rfl ?_
    refine V_aload_n X 0 dL_law__25 rfl rfl ?_
    refine (fun kk => (fun H locs ls hP hw hS hl => va_slen X.1 X.2.1 hX hbl hbA hS dL_law__26 (kk H locs ls hP hw hS hl)) : V X μ (25 + 1 + 1) _ _ → V X μ (25 + 1) _ _) ?_
    refine V_bipush X 6 dL_law__27 (by decide) ?_
    refine V_isub X dL_law__29 ?_
    refine V_icmp_gt X (tgt := 2524) dL_law__30 (by decide) (fun _ => hQ y kc ks X μ _) (fun hn => ?_)
    have hj : j + 6 ≤ L := Classical.byContradiction fun hj => hn (head_lt hL (by omega) hj)
    have hin : ∀ k : Nat, k < 6 → vp_in (nI j + Int32.ofNat k) L := fun k hk => by
      rw [show nI j + Int32.ofNat k = nI (j + k) from (Int32.ofNat_add j k).symm]
      exact nI_in (by omega) (by omega)
    have hi0 : vp_in (nI j) L := nI_in (by omega) (by omega)
    refine V_aload_n X 0 dL_law__33 rfl rfl ?_
    refine V_iload X 4 dL_law__34 rfl ?_
    refine (fun kk => (fun H locs ls hP hw hS hl => va_sld X.1 X.2.1 hX hbl hbA hS hi0 dL_law__36 (kk H locs ls hP hw hS hl)) : V X μ (33 + 1 + 2 + 1) _ _ → V X μ (33 + 1 + 2) _ _) ?_
    refine V_bipush X 63 dL_law__37 (by decide) ?_
    refine V_iand X dL_law__39 ?_
    have q1 : kc + 6 ≤ room_1.cells := ar1 h3
    have q2 : ks + 1638 ≤ room_1.slots := ar1 h4
    have q3 : znl y < 1000000 := Nat.lt_of_lt_of_le (Nat.lt_add_of_pos_right (Nat.succ_pos n)) h5
    refine law_switch X ⟨q1, q2⟩ hlf hX hbl hbA hin hI (hlaw y kc ks X μ _ q1 q2 q3 hI) ?_
    intro y' kc' ks' X' μ' g1 g2 g3 g4
    refine law_back X' ?_
    rw [show nI j + Int32.ofNat 6 = nI (j + 6) from (Int32.ofNat_add j 6).symm]
    have q4 : znl y' + n ≤ 1000000 := ar4 g3 h5
    have q5 : kc' + 6 * n ≤ room_1.cells := ar2 g1 h3
    have q6 : ks' + 1638 * n ≤ room_1.slots := ar2 g2 h4
    have q7 : L < j + 6 + 6 * n := ar3 h1
    have q8 : j + 6 ≤ L + 6 := Nat.le_trans hj (Nat.le_add_right L 6)
    exact ih (j + 6) y' kc' ks' X' μ' q7 q8 q5 q6 q4 g4
end LLoop
