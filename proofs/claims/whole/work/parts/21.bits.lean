/-! sets as bits of an int -/
def tbit (x : Int32) (k : Nat) : Bool := x.toBitVec.getLsbD k
theorem m31 {k : Nat} (h : k < 32) : nI k &&& 31 = nI k := by
  have : ∀ j : Fin 32, nI j.val &&& 31 = nI j.val := by decide +kernel
  exact this ⟨k, h⟩
theorem tbit_and (x y : Int32) (k : Nat) : tbit (x &&& y) k = (tbit x k && tbit y k) := by simp [tbit]
theorem tbit_or (x y : Int32) (k : Nat) : tbit (x ||| y) k = (tbit x k || tbit y k) := by simp [tbit]
theorem tbit_not (x : Int32) {k : Nat} (h : k < 32) : tbit (x ^^^ (-1)) k = !tbit x k := by
  have e : (-1 : Int32).toBitVec = BitVec.allOnes 32 := by decide
  simp only [tbit, Int32.toBitVec_xor, BitVec.getLsbD_xor, e, BitVec.getLsbD_allOnes]
  simp [h]
theorem tbit_zero (k : Nat) : tbit 0 k = false := by simp [tbit]
theorem tbit_one {i : Nat} (hi : i < 32) {k : Nat} (h : k < 32) : tbit ((1 : Int32) <<< (nI i &&& 31)) k = decide (k = i) := by
  have : ∀ (a b : Fin 32), tbit ((1 : Int32) <<< (nI a.val &&& 31)) b.val = decide (b.val = a.val) := by decide +kernel
  exact this ⟨i, hi⟩ ⟨k, h⟩
/-- a set of at most eight -/
def isS (x : Int32) : Prop := ∃ n : Nat, n < 256 ∧ x = nI n
theorem isS_iff {x : Int32} : isS x ↔ ∀ k, 8 ≤ k → tbit x k = false := by
  constructor
  · rintro ⟨n, hn, rfl⟩ k hk
    unfold tbit nI
    rw [show (Int32.ofNat n).toBitVec = BitVec.ofNat 32 n from rfl, BitVec.getLsbD_ofNat]
    rw [Nat.testBit_lt_two_pow (Nat.lt_of_lt_of_le hn (Nat.le_trans (by decide : 256 ≤ 2 ^ 8) (Nat.pow_le_pow_right (by decide) hk)))]
    simp
  · intro h
    refine ⟨x.toBitVec.toNat, ?_, ?_⟩
    · refine (Nat.lt_pow_two_of_testBit (n := 8) _ (fun i hi => ?_))
      have := h i hi
      unfold tbit at this
      rw [BitVec.getLsbD] at this
      exact this
    · apply Int32.toBitVec_inj.mp
      show _ = BitVec.ofNat 32 _
      simp
theorem isS_and {x y : Int32} (h : isS x) : isS (x &&& y) := isS_iff.mpr fun k hk => by rw [tbit_and, isS_iff.mp h k hk]; rfl
theorem isS_and' {x y : Int32} (h : isS y) : isS (x &&& y) := isS_iff.mpr fun k hk => by rw [tbit_and, isS_iff.mp h k hk, Bool.and_false]
theorem isS_or {x y : Int32} (h : isS x) (h' : isS y) : isS (x ||| y) := isS_iff.mpr fun k hk => by rw [tbit_or, isS_iff.mp h k hk, isS_iff.mp h' k hk]; rfl
theorem isS_0 : isS 0 := ⟨0, by omega, rfl⟩
theorem isS_one {i : Nat} (hi : i < 8) : isS ((1 : Int32) <<< (nI i &&& 31)) := by
  have : ∀ j : Fin 8, (1 : Int32) <<< (nI j.val &&& 31) = nI (2 ^ j.val) := by decide +kernel
  refine ⟨2 ^ i, ?_, this ⟨i, hi⟩⟩
  exact Nat.lt_of_lt_of_le (Nat.pow_lt_pow_right (by decide) hi) (by decide)
theorem isS_ext {x y : Int32} (hx : isS x) (hy : isS y) (h : ∀ k, k < 8 → tbit x k = tbit y k) : x = y := by
  apply Int32.toBitVec_inj.mp
  apply BitVec.eq_of_getLsbD_eq
  intro i hi
  rcases Nat.lt_or_ge i 8 with h8 | h8
  · exact h i h8
  · have h1 := isS_iff.mp hx i h8
    have h2 := isS_iff.mp hy i h8
    unfold tbit at h1 h2
    rw [h1, h2]
theorem tbit_bset {p : Nat → Bool} : ∀ {n : Nat}, n ≤ 32 → ∀ {k : Nat}, k < 32 → tbit (bset p n) k = (decide (k < n) && p k)
  | 0, _, k, _ => by simp [bset, tbit_zero]
  | n + 1, hn, k, hk => by
    rw [bset, tbit_or, tbit_bset (by omega) hk]
    by_cases hp : p n = true
    · rw [if_pos hp, tbit_one (by omega) hk]
      by_cases e : k = n
      · subst e; simp [hp]
      · have : decide (k < n + 1) = decide (k < n) := by apply decide_eq_decide.mpr; omega
        simp [e, this]
    · rw [if_neg hp, tbit_zero, Bool.or_false]
      by_cases e : k = n
      · subst e; simp [hp]
      · have : decide (k < n + 1) = decide (k < n) := by apply decide_eq_decide.mpr; omega
        rw [this]
theorem isS_bset {p : Nat → Bool} : ∀ {n : Nat}, n ≤ 8 → isS (bset p n)
  | 0, _ => isS_0
  | n + 1, hn => by
    rw [bset]
    refine isS_or (isS_bset (by omega)) ?_
    by_cases hp : p n = true
    · rw [if_pos hp]; exact isS_one (by omega)
    · rw [if_neg hp]; exact isS_0
theorem bset_congr {p q : Nat → Bool} : ∀ {n : Nat}, (∀ k, k < n → p k = q k) → bset p n = bset q n
  | 0, _ => rfl
  | n + 1, h => by rw [bset, bset, bset_congr (fun k hk => h k (by omega)), h n (by omega)]
def b2i (b : Bool) : Int32 := if b then 1 else 0
theorem zbo_b2i (b : Bool) : zbo (b2i b) = true := by cases b <;> decide
theorem b2i_ne {b : Bool} : b2i b = 0 ↔ b = false := by cases b <;> decide
theorem sh1 {x : Int32} {k : Nat} (hk : k < 32) : (x >>> (nI k &&& 31)) &&& 1 = b2i (tbit x k) := by
  rw [m31 hk]
  apply Int32.toBitVec_inj.mp
  apply BitVec.eq_of_getLsbD_eq
  intro i hi
  have e1 : (x >>> nI k).toBitVec = x.toBitVec.sshiftRight k := by
    rw [Int32.toBitVec_shiftRight]
    have : ((nI k).toBitVec.smod 32) = BitVec.ofNat 32 k := by
      have h : ∀ j : Fin 32, ((nI j.val).toBitVec.smod 32) = BitVec.ofNat 32 j.val := by decide +kernel
      exact h ⟨k, hk⟩
    rw [this, BitVec.sshiftRight', BitVec.toNat_ofNat, Nat.mod_eq_of_lt (by omega)]
  rw [Int32.toBitVec_and, BitVec.getLsbD_and, e1]
  have e2 : (1 : Int32).toBitVec.getLsbD i = decide (i = 0) := by
    have h : ∀ j : Fin 32, (1 : Int32).toBitVec.getLsbD j.val = decide (j.val = 0) := by decide +kernel
    exact h ⟨i, hi⟩
  rw [e2]
  by_cases h0 : i = 0
  · subst h0
    rw [BitVec.getLsbD_sshiftRight]
    simp only [decide_true, Bool.and_true]
    have : ¬ (32 ≤ 0) := by omega
    simp only [show (decide (32 ≤ 0)) = false from rfl, Bool.not_false, Bool.true_and, Nat.add_zero]
    rw [if_pos hk]
    unfold tbit
    cases x.toBitVec.getLsbD k <;> rfl
  · simp only [h0, decide_false, Bool.and_false]
    unfold b2i
    split
    · rw [e2]; simp [h0]
    · simp
theorem isIn_eq {x : Int32} {k : Nat} (hk : k < 32) : f_X11_isIn x (nI k) = some (b2i (tbit x k)) := by
  unfold f_X11_isIn
  rw [sh1 hk]
  cases tbit x k <;> rfl
theorem isOf_eq {x : Int32} {k : Nat} (hk : k < 32) : f_X12_isOf x (nI k) = some (b2i (tbit x k)) := by
  unfold f_X12_isOf
  rw [sh1 hk]
  cases tbit x k <;> rfl
/-- how many -/
def pcn : Nat → (Nat → Bool) → Nat
  | 0, _ => 0
  | n + 1, p => pcn n p + (if p n then 1 else 0)
def pc (x : Int32) : Nat := pcn 8 (tbit x)
theorem bc_all : ∀ n : Fin 256, f_J6_bitCount_0f7a4 (nI n.val) = nI (pc (nI n.val)) := by decide +kernel
theorem bits_all : ∀ n : Fin 256, f_X12_bits (nI n.val) = some (nI (pc (nI n.val))) := by decide +kernel
theorem bc_eq {x : Int32} (h : isS x) : f_J6_bitCount_0f7a4 x = nI (pc x) := by
  obtain ⟨n, hn, rfl⟩ := h
  exact bc_all ⟨n, hn⟩
theorem bits_eq {x : Int32} (h : isS x) : f_X12_bits x = some (nI (pc x)) := by
  obtain ⟨n, hn, rfl⟩ := h
  exact bits_all ⟨n, hn⟩
theorem pcn_le : ∀ (n : Nat) (p : Nat → Bool), pcn n p ≤ n
  | 0, _ => Nat.le_refl _
  | n + 1, p => by rw [pcn]; have := pcn_le n p; split <;> omega
theorem pc_le (x : Int32) : pc x ≤ 8 := pcn_le 8 _
