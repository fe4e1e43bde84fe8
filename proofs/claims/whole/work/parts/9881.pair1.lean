/-! sets of at most eight as numbers; the most that pairs have together -/
def rmv (n j : Nat) : Nat := n &&& (255 - 2 ^ j)
def lob (n : Nat) : Nat := lowS (nI n)
theorem rmv_all : ∀ n : Fin 256, ∀ j : Fin 8, nI n.val &&& (((1 : Int32) <<< (nI j.val &&& 31)) ^^^ (-1)) = nI (rmv n.val j.val) ∧ rmv n.val j.val ≤ n.val ∧ (n.val.testBit j.val = true → rmv n.val j.val < n.val) ∧ (n.val.testBit j.val = false → rmv n.val j.val = n.val) := by decide +kernel
theorem rmv_tb_all : ∀ n : Fin 256, ∀ j k : Fin 8, (rmv n.val j.val).testBit k.val = (n.val.testBit k.val && decide (k.val ≠ j.val)) := by decide +kernel
theorem lob_all : ∀ n : Fin 256, n.val ≠ 0 → lob n.val < 8 ∧ n.val.testBit (lob n.val) = true ∧ ∀ j : Fin 8, n.val.testBit j.val = true → lob n.val ≤ j.val := by decide +kernel
theorem rmv_eq {n j : Nat} (hn : n < 256) (hj : j < 8) : nI n &&& (((1 : Int32) <<< (nI j &&& 31)) ^^^ (-1)) = nI (rmv n j) := (rmv_all ⟨n, hn⟩ ⟨j, hj⟩).1
theorem rmv_le {n j : Nat} (hn : n < 256) (hj : j < 8) : rmv n j ≤ n := (rmv_all ⟨n, hn⟩ ⟨j, hj⟩).2.1
theorem rmv_lt {n j : Nat} (hn : n < 256) (hj : j < 8) (h : n.testBit j = true) : rmv n j < n := (rmv_all ⟨n, hn⟩ ⟨j, hj⟩).2.2.1 h
theorem rmv_no {n j : Nat} (hn : n < 256) (hj : j < 8) (h : n.testBit j = false) : rmv n j = n := (rmv_all ⟨n, hn⟩ ⟨j, hj⟩).2.2.2 h
theorem rmv_tb {n j k : Nat} (hn : n < 256) (hj : j < 8) (hk : k < 8) : (rmv n j).testBit k = (n.testBit k && decide (k ≠ j)) := rmv_tb_all ⟨n, hn⟩ ⟨j, hj⟩ ⟨k, hk⟩
theorem and_rc (a b c : Nat) : a &&& b &&& c = a &&& c &&& b := by rw [Nat.and_assoc, Nat.and_comm b c, ← Nat.and_assoc]
theorem rmv_comm {n i j : Nat} : rmv (rmv n i) j = rmv (rmv n j) i := by unfold rmv; rw [and_rc]
theorem lob_lt {n : Nat} (hn : n < 256) (h0 : n ≠ 0) : lob n < 8 := (lob_all ⟨n, hn⟩ h0).1
theorem lob_tb {n : Nat} (hn : n < 256) (h0 : n ≠ 0) : n.testBit (lob n) = true := (lob_all ⟨n, hn⟩ h0).2.1
theorem lob_le {n j : Nat} (hn : n < 256) (h0 : n ≠ 0) (hj : j < 8) (h : n.testBit j = true) : lob n ≤ j := (lob_all ⟨n, hn⟩ h0).2.2 ⟨j, hj⟩ h
theorem ne0_tb {n j : Nat} (h : n.testBit j = true) : n ≠ 0 := by rintro rfl; rw [Nat.zero_testBit] at h; cases h
theorem lob_is {n i : Nat} (hn : n < 256) (hi : i < 8) (h : n.testBit i = true) (hl : ∀ j, j < i → n.testBit j = false) : lob n = i := by
  have h0 := ne0_tb h
  have h1 := lob_le hn h0 hi h
  rcases Nat.lt_or_ge (lob n) i with h2 | h2
  · have := hl _ h2
    rw [lob_tb hn h0] at this
    cases this
  · omega
theorem tb_nI {n k : Nat} (hk : k < 32) : tbit (nI n) k = n.testBit k := by
  unfold tbit nI
  rw [show (Int32.ofNat n).toBitVec = BitVec.ofNat 32 n from rfl, BitVec.getLsbD_ofNat, decide_eq_true hk, Bool.true_and]
theorem lob_rm {n j : Nat} (hn : n < 256) (h0 : n ≠ 0) (hj : j < 8) (hne : j ≠ lob n) : lob (rmv n j) = lob n ∧ rmv n j ≠ 0 := by
  have hl := lob_lt hn h0
  have hr := rmv_le hn hj
  have ht : (rmv n j).testBit (lob n) = true := by rw [rmv_tb hn hj hl, lob_tb hn h0, decide_eq_true (show lob n ≠ j from fun q => hne q.symm)]; rfl
  refine ⟨lob_is (by omega) hl ht (fun k hk => ?_), ne0_tb ht⟩
  rw [rmv_tb hn hj (by omega)]
  cases hb : n.testBit k
  · rfl
  · exact absurd (lob_le hn h0 (by omega) hb) (by omega)
def stp (w : Nat → Nat → Nat) (n : Nat) (X : Nat → Nat) (j a : Nat) : Nat := if (rmv n (lob n)).testBit j = true then max a (w (lob n) j + X (rmv (rmv n (lob n)) j)) else a
theorem stp_le {w : Nat → Nat → Nat} {n : Nat} {X : Nat → Nat} {b M : Nat} : ∀ m, (itS (stp w n X) m b ≤ M ↔ b ≤ M ∧ ∀ j, j < m → (rmv n (lob n)).testBit j = true → w (lob n) j + X (rmv (rmv n (lob n)) j) ≤ M)
  | 0 => ⟨fun h => ⟨h, fun j hj => absurd hj (by omega)⟩, fun h => h.1⟩
  | m + 1 => by
    have ih := stp_le (w := w) (n := n) (X := X) (b := b) (M := M) m
    rw [itS_s]
    unfold stp
    by_cases e : (rmv n (lob n)).testBit m = true
    · rw [if_pos e, Nat.max_le]
      constructor
      · rintro ⟨h1, h2⟩
        obtain ⟨g1, g2⟩ := ih.mp h1
        refine ⟨g1, fun j hj ht => ?_⟩
        by_cases ej : j = m
        · rw [ej]; exact h2
        · exact g2 j (by omega) ht
      · rintro ⟨h1, h2⟩
        exact ⟨ih.mpr ⟨h1, fun j hj ht => h2 j (by omega) ht⟩, h2 m (by omega) e⟩
    · rw [if_neg e]
      constructor
      · intro h1
        obtain ⟨g1, g2⟩ := ih.mp h1
        refine ⟨g1, fun j hj ht => ?_⟩
        by_cases ej : j = m
        · rw [ej] at ht; exact absurd ht e
        · exact g2 j (by omega) ht
      · rintro ⟨h1, h2⟩
        exact ih.mpr ⟨h1, fun j hj ht => h2 j (by omega) ht⟩
theorem stp_congr {w : Nat → Nat → Nat} {n : Nat} {X Y : Nat → Nat} {b : Nat} : ∀ m, (∀ j, j < m → (rmv n (lob n)).testBit j = true → X (rmv (rmv n (lob n)) j) = Y (rmv (rmv n (lob n)) j)) → itS (stp w n X) m b = itS (stp w n Y) m b
  | 0, _ => rfl
  | m + 1, h => by
    rw [itS_s, itS_s, stp_congr m (fun j hj => h j (by omega))]
    unfold stp
    by_cases e : (rmv n (lob n)).testBit m = true
    · rw [if_pos e, if_pos e, h m (by omega) e]
    · rw [if_neg e, if_neg e]
def Bf (w : Nat → Nat → Nat) : Nat → Nat → Nat
  | 0, _ => 0
  | f + 1, n => if n = 0 then 0 else itS (stp w n (Bf w f)) 8 (Bf w f (rmv n (lob n)))
def bst (w : Nat → Nat → Nat) (n : Nat) : Nat := Bf w n n
theorem Bf_stab {w : Nat → Nat → Nat} : ∀ (f g n : Nat), n < 256 → n ≤ f → n ≤ g → Bf w f n = Bf w g n
  | 0, 0, _, _, _, _ => rfl
  | 0, g + 1, n, _, h, _ => by
    have : n = 0 := by omega
    subst this
    show 0 = Bf w (g + 1) 0
    unfold Bf
    rw [if_pos rfl]
  | f + 1, 0, n, _, _, h => by
    have : n = 0 := by omega
    subst this
    show Bf w (f + 1) 0 = 0
    unfold Bf
    rw [if_pos rfl]
  | f + 1, g + 1, n, hn, h1, h2 => by
    unfold Bf
    by_cases h0 : n = 0
    · rw [if_pos h0, if_pos h0]
    · have hl := lob_lt hn h0
      have hr := rmv_lt hn hl (lob_tb hn h0)
      rw [if_neg h0, if_neg h0, Bf_stab f g (rmv n (lob n)) (by omega) (by omega) (by omega)]
      refine stp_congr 8 (fun j hj ht => ?_)
      have hr2 := rmv_le (n := rmv n (lob n)) (j := j) (by omega) hj
      exact Bf_stab f g _ (by omega) (by omega) (by omega)
theorem bst_0 {w : Nat → Nat → Nat} : bst w 0 = 0 := rfl
theorem bst_s {w : Nat → Nat → Nat} {n : Nat} (hn : n < 256) (h0 : n ≠ 0) : bst w n = itS (stp w n (bst w)) 8 (bst w (rmv n (lob n))) := by
  have hl := lob_lt hn h0
  have hr := rmv_lt hn hl (lob_tb hn h0)
  obtain ⟨f, rfl⟩ : ∃ f, n = f + 1 := ⟨n - 1, by omega⟩
  unfold bst
  rw [show Bf w (f + 1) (f + 1) = if f + 1 = 0 then 0 else itS (stp w (f + 1) (Bf w f)) 8 (Bf w f (rmv (f + 1) (lob (f + 1)))) from rfl, if_neg h0, Bf_stab f (rmv (f + 1) (lob (f + 1))) (rmv (f + 1) (lob (f + 1))) (by omega) (by omega) (by omega)]
  refine stp_congr 8 (fun j hj ht => ?_)
  have hr2 := rmv_le (n := rmv (f + 1) (lob (f + 1))) (j := j) (by omega) hj
  exact Bf_stab _ _ _ (by omega) (by omega) (by omega)
theorem bst_le {w : Nat → Nat → Nat} {n M : Nat} (hn : n < 256) (h0 : n ≠ 0) : (bst w n ≤ M ↔ bst w (rmv n (lob n)) ≤ M ∧ ∀ j, j < 8 → (rmv n (lob n)).testBit j = true → w (lob n) j + bst w (rmv (rmv n (lob n)) j) ≤ M) := by
  rw [bst_s hn h0]
  exact stp_le 8
theorem bst_mono {w : Nat → Nat → Nat} : ∀ (N n j : Nat), n ≤ N → n < 256 → j < 8 → bst w (rmv n j) ≤ bst w n
  | 0, n, j, h, _, _ => by
    have : n = 0 := by omega
    subst this
    unfold rmv
    rw [Nat.zero_and]
    exact Nat.le_refl _
  | N + 1, n, j, h, hn, hj => by
    cases ht : n.testBit j
    · rw [rmv_no hn hj ht]; exact Nat.le_refl _
    · have h0 := ne0_tb ht
      have hl := lob_lt hn h0
      have hr := rmv_lt hn hl (lob_tb hn h0)
      obtain ⟨g1, g2⟩ := (bst_le (w := w) hn h0).mp (Nat.le_refl _)
      by_cases e : j = lob n
      · rw [e]; exact g1
      · obtain ⟨e1, e2⟩ := lob_rm hn h0 hj e
        have hj2 := rmv_le hn hj
        rw [bst_le (by omega) e2, e1]
        refine ⟨?_, fun k hk hkt => ?_⟩
        · rw [rmv_comm]
          exact Nat.le_trans (bst_mono N (rmv n (lob n)) j (by omega) (by omega) hj) g1
        · have hk1 : (rmv n (lob n)).testBit k = true := by
            rw [rmv_tb (by omega) hl hk, rmv_tb hn hj hk] at hkt
            rw [rmv_tb hn hl hk]
            simp only [Bool.and_eq_true] at hkt ⊢
            exact ⟨hkt.1.1, hkt.2⟩
          have hk2 := rmv_lt (n := rmv n (lob n)) (by omega) hk hk1
          have := g2 k hk hk1
          have e3 : rmv (rmv (rmv n j) (lob n)) k = rmv (rmv (rmv n (lob n)) k) j := by rw [rmv_comm (n := n), rmv_comm (n := rmv n (lob n))]
          rw [e3]
          have := bst_mono (w := w) N (rmv (rmv n (lob n)) k) j (by omega) (by omega) hj
          omega
theorem bst_rm {w : Nat → Nat → Nat} {n j : Nat} (hn : n < 256) (hj : j < 8) : bst w (rmv n j) ≤ bst w n := bst_mono n n j (Nat.le_refl _) hn hj
theorem bst_iso {w : Nat → Nat → Nat} {m : Nat} (hm : m < 8) (h1 : ∀ k, w m k = 0) (h2 : ∀ k, w k m = 0) : ∀ (N n : Nat), n ≤ N → n < 256 → bst w n ≤ bst w (rmv n m)
  | 0, n, h, _ => by
    have : n = 0 := by omega
    subst this
    rw [bst_0]
    omega
  | N + 1, n, h, hn => by
    cases ht : n.testBit m
    · rw [rmv_no hn hm ht]; exact Nat.le_refl _
    · have h0 := ne0_tb ht
      have hl := lob_lt hn h0
      have hr := rmv_lt hn hl (lob_tb hn h0)
      have hm2 := rmv_le hn hm
      rw [bst_le hn h0]
      by_cases e : m = lob n
      · rw [← e]
        refine ⟨Nat.le_refl _, fun j hj _ => ?_⟩
        rw [h1 j, Nat.zero_add]
        exact bst_rm (by omega) hj
      · obtain ⟨e1, e2⟩ := lob_rm hn h0 hm e
        obtain ⟨g1, g2⟩ := (bst_le (w := w) (show rmv n m < 256 by omega) e2).mp (Nat.le_refl _)
        rw [e1] at g1 g2
        refine ⟨?_, fun j hj hjt => ?_⟩
        · refine Nat.le_trans (bst_iso hm h1 h2 N _ (by omega) (by omega)) ?_
          rw [rmv_comm]
          exact g1
        · by_cases ej : j = m
          · rw [ej, h2, Nat.zero_add, rmv_comm]
            exact g1
          · have hj2 := rmv_lt (n := rmv n (lob n)) (by omega) hj hjt
            have q := bst_iso (w := w) hm h1 h2 N (rmv (rmv n (lob n)) j) (by omega) (by omega)
            have hjt2 : (rmv (rmv n m) (lob n)).testBit j = true := by
              rw [rmv_comm, rmv_tb (by omega) hm hj, hjt, decide_eq_true ej]; rfl
            have q2 := g2 j hj hjt2
            have e3 : rmv (rmv (rmv n (lob n)) j) m = rmv (rmv (rmv n m) (lob n)) j := by rw [rmv_comm (n := n) (i := m), rmv_comm (n := rmv n (lob n))]
            rw [e3] at q
            omega
theorem bst_is {w : Nat → Nat → Nat} {m n : Nat} (hm : m < 8) (hn : n < 256) (h1 : ∀ k, w m k = 0) (h2 : ∀ k, w k m = 0) : bst w (rmv n m) = bst w n :=
  Nat.le_antisymm (bst_rm hn hm) (bst_iso hm h1 h2 n n (Nat.le_refl _) hn)
theorem bst_bd {w : Nat → Nat → Nat} (hw : ∀ i j, w i j ≤ 100) : ∀ (N n : Nat), n ≤ N → n < 256 → bst w n ≤ 100 * n
  | 0, n, h, _ => by
    have : n = 0 := by omega
    subst this
    exact Nat.le_refl _
  | N + 1, n, h, hn => by
    by_cases h0 : n = 0
    · subst h0; exact Nat.le_refl _
    · have hl := lob_lt hn h0
      have hr := rmv_lt hn hl (lob_tb hn h0)
      rw [bst_le hn h0]
      refine ⟨?_, fun j hj hjt => ?_⟩
      · have := bst_bd hw N (rmv n (lob n)) (by omega) (by omega)
        omega
      · have hj2 := rmv_lt (n := rmv n (lob n)) (by omega) hj hjt
        have := bst_bd hw N (rmv (rmv n (lob n)) j) (by omega) (by omega)
        have := hw (lob n) j
        omega
theorem bst_sm {w : Nat → Nat → Nat} (hw : ∀ i j, w i j ≤ 100) {n : Nat} (hn : n < 256) : bst w n ≤ 25600 := by
  have := bst_bd hw n n (Nat.le_refl _) hn
  omega
/-- only those of the set A have anything -/
def inA (A : Nat) (w : Nat → Nat → Nat) : Prop := ∀ i j, ¬ w i j = 0 → A.testBit i = true ∧ A.testBit j = true
def cutA (A n : Nat) : Nat → Nat
  | 0 => n
  | m + 1 => if A.testBit m = true then cutA A n m else rmv (cutA A n m) m
theorem cutA_ok {A n : Nat} (hn : n < 256) {w : Nat → Nat → Nat} (h : inA A w) : ∀ m, m ≤ 8 → cutA A n m < 256 ∧ (∀ k, k < 8 → (cutA A n m).testBit k = (n.testBit k && (A.testBit k || decide (m ≤ k)))) ∧ bst w (cutA A n m) = bst w n
  | 0, _ => by
    refine ⟨hn, fun k hk => ?_, rfl⟩
    show n.testBit k = _
    simp
  | m + 1, hm => by
    obtain ⟨g1, g2, g3⟩ := cutA_ok hn h m (by omega)
    unfold cutA
    cases ha : A.testBit m
    · rw [if_neg (by decide)]
      have hr := rmv_le g1 (show m < 8 by omega)
      refine ⟨by omega, fun k hk => ?_, ?_⟩
      · rw [rmv_tb g1 (by omega) hk, g2 k hk]
        by_cases e : k = m
        · subst e
          rw [ha, decide_eq_false (show ¬ k ≠ k from fun q => q rfl), decide_eq_false (show ¬ k + 1 ≤ k by omega)]
          simp
        · rw [decide_eq_true (show k ≠ m from e), Bool.and_true]
          congr 2
          apply decide_eq_decide.mpr
          omega
      · rw [← g3]
        refine bst_is (by omega) g1 (fun k => ?_) (fun k => ?_)
        · by_cases e : w m k = 0
          · exact e
          · have := (h m k e).1; rw [ha] at this; cases this
        · by_cases e : w k m = 0
          · exact e
          · have := (h k m e).2; rw [ha] at this; cases this
    · rw [if_pos rfl]
      refine ⟨g1, fun k hk => ?_, g3⟩
      rw [g2 k hk]
      by_cases e : k = m
      · subst e
        rw [ha]
        simp
      · congr 2
        apply decide_eq_decide.mpr
        omega
theorem and_lt {n A : Nat} (hn : n < 256) : n &&& A < 256 := Nat.lt_of_le_of_lt Nat.and_le_left hn
theorem set_ext {n m : Nat} (hn : n < 256) (hm : m < 256) (h : ∀ k, k < 8 → n.testBit k = m.testBit k) : n = m := by
  apply Nat.eq_of_testBit_eq
  intro i
  rcases Nat.lt_or_ge i 8 with hi | hi
  · exact h i hi
  · rw [Nat.testBit_lt_two_pow (Nat.lt_of_lt_of_le hn (Nat.le_trans (by decide : 256 ≤ 2 ^ 8) (Nat.pow_le_pow_right (by decide) hi))), Nat.testBit_lt_two_pow (Nat.lt_of_lt_of_le hm (Nat.le_trans (by decide : 256 ≤ 2 ^ 8) (Nat.pow_le_pow_right (by decide) hi)))]
theorem bst_A {A n : Nat} (hn : n < 256) {w : Nat → Nat → Nat} (h : inA A w) : bst w (n &&& A) = bst w n := by
  obtain ⟨g1, g2, g3⟩ := cutA_ok hn h 8 (by omega)
  rw [← g3]
  congr 1
  refine set_ext (and_lt hn) g1 (fun k hk => ?_)
  rw [Nat.testBit_and, g2 k hk, decide_eq_false (show ¬ 8 ≤ k by omega), Bool.or_false]
theorem rmv_and {A n j : Nat} : rmv n j &&& A = rmv (n &&& A) j := by unfold rmv; rw [and_rc]
