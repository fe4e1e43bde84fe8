/-! whom each of the set goes with -/
def fsU (P : Nat → Bool) : Nat → Nat → Option Nat
  | 0, _ => none
  | d + 1, t => if P t = true then some t else fsU P d (t + 1)
theorem fsU_congr {P Q : Nat → Bool} : ∀ d t, (∀ j, t ≤ j → j < t + d → P j = Q j) → fsU P d t = fsU Q d t
  | 0, _, _ => rfl
  | d + 1, t, h => by
    unfold fsU
    rw [h t (by omega) (by omega), fsU_congr d (t + 1) (fun j h1 h2 => h j (by omega) (by omega))]
theorem fsU_some {P : Nat → Bool} : ∀ d t j, fsU P d t = some j → P j = true ∧ t ≤ j ∧ j < t + d
  | 0, _, _, h => by cases h
  | d + 1, t, j, h => by
    unfold fsU at h
    by_cases e : P t = true
    · rw [if_pos e] at h
      cases h
      exact ⟨e, by omega, by omega⟩
    · rw [if_neg e] at h
      have := fsU_some d (t + 1) j h
      exact ⟨this.1, by omega, by omega⟩
theorem fsU_none {P : Nat → Bool} : ∀ d t, (∀ j, t ≤ j → j < t + d → P j = false) → fsU P d t = none
  | 0, _, _ => rfl
  | d + 1, t, h => by
    unfold fsU
    rw [h t (by omega) (by omega), if_neg (by decide)]
    exact fsU_none d (t + 1) (fun j h1 h2 => h j (by omega) (by omega))
theorem fsU_ext {P : Nat → Bool} : ∀ d e t, (∀ j, t + d ≤ j → j < t + d + e → P j = false) → fsU P (d + e) t = fsU P d t
  | 0, e, t, h => by rw [Nat.zero_add]; exact fsU_none e t (fun j h1 h2 => h j (by omega) (by omega))
  | d + 1, e, t, h => by
    rw [show d + 1 + e = (d + e) + 1 by omega]
    unfold fsU
    rw [fsU_ext d e (t + 1) (fun j h1 h2 => h j (by omega) (by omega))]
def pP (w : Nat → Nat → Nat) (n i j : Nat) : Bool := (rmv n i).testBit j && decide (w i j + bst w (rmv (rmv n i) j) = bst w n)
def fpS (w : Nat → Nat → Nat) (n i : Nat) : Option Nat := if bst w (rmv n i) = bst w n then none else fsU (pP w n i) (7 - i) (i + 1)
theorem fpS_some {w : Nat → Nat → Nat} {n i j : Nat} (h : fpS w n i = some j) : (rmv n i).testBit j = true ∧ i < j ∧ (i < 8 → j < 8) := by
  unfold fpS at h
  by_cases e : bst w (rmv n i) = bst w n
  · rw [if_pos e] at h; cases h
  · rw [if_neg e] at h
    obtain ⟨h1, h2, h3⟩ := fsU_some _ _ _ h
    unfold pP at h1
    rw [Bool.and_eq_true] at h1
    exact ⟨h1.1, by omega, fun _ => by omega⟩
def nxS (w : Nat → Nat → Nat) (n i : Nat) : Nat := match fpS w n i with
  | none => rmv n i
  | some j => rmv (rmv n i) j
theorem nxS_lt {w : Nat → Nat → Nat} {n i : Nat} (hn : n < 256) (hi : i < 8) (h : n.testBit i = true) : nxS w n i < n := by
  have h1 := rmv_lt hn hi h
  unfold nxS
  cases e : fpS w n i with
  | none => exact h1
  | some j =>
    have := (fpS_some e).2.2 hi
    have := rmv_le (n := rmv n i) (j := j) (by omega) this
    show rmv (rmv n i) j < n
    omega
def ptf (w : Nat → Nat → Nat) (one : Int32) : Nat → Nat → Int32
  | 0, _ => -1
  | f + 1, n => if n = 0 then -1 else if nI (lob n) = one then onI (fpS w n (lob n)) else if onI (fpS w n (lob n)) = one then nI (lob n) else ptf w one f (nxS w n (lob n))
theorem ptf_s {w : Nat → Nat → Nat} {one : Int32} {f n : Nat} : ptf w one (f + 1) n = if n = 0 then -1 else if nI (lob n) = one then onI (fpS w n (lob n)) else if onI (fpS w n (lob n)) = one then nI (lob n) else ptf w one f (nxS w n (lob n)) := rfl
theorem ptf_stab {w : Nat → Nat → Nat} {one : Int32} : ∀ (f g n : Nat), n < 256 → n ≤ f → n ≤ g → ptf w one f n = ptf w one g n
  | 0, 0, _, _, _, _ => rfl
  | 0, g + 1, n, _, h, _ => by
    have : n = 0 := by omega
    subst this
    rw [ptf_s, if_pos rfl]; rfl
  | f + 1, 0, n, _, _, h => by
    have : n = 0 := by omega
    subst this
    rw [ptf_s, if_pos rfl]; rfl
  | f + 1, g + 1, n, hn, h1, h2 => by
    rw [ptf_s, ptf_s]
    by_cases h0 : n = 0
    · rw [if_pos h0, if_pos h0]
    · have hl := lob_lt hn h0
      have hx := nxS_lt (w := w) hn hl (lob_tb hn h0)
      rw [if_neg h0, if_neg h0, ptf_stab f g (nxS w n (lob n)) (by omega) (by omega) (by omega)]
def ptS (w : Nat → Nat → Nat) (one : Int32) (n : Nat) : Int32 := ptf w one n n
theorem ptS_0 {w : Nat → Nat → Nat} {one : Int32} : ptS w one 0 = -1 := rfl
theorem ptS_s {w : Nat → Nat → Nat} {one : Int32} {n : Nat} (hn : n < 256) (h0 : n ≠ 0) : ptS w one n = if nI (lob n) = one then onI (fpS w n (lob n)) else if onI (fpS w n (lob n)) = one then nI (lob n) else ptS w one (nxS w n (lob n)) := by
  have hl := lob_lt hn h0
  have hx := nxS_lt (w := w) hn hl (lob_tb hn h0)
  obtain ⟨f, rfl⟩ : ∃ f, n = f + 1 := ⟨n - 1, by omega⟩
  unfold ptS
  rw [ptf_s, if_neg h0, ptf_stab f (nxS w (f + 1) (lob (f + 1))) _ (by omega) (by omega) (by omega)]
theorem ptS_out {w : Nat → Nat → Nat} {k : Nat} (hk : k < 8) : ∀ (N n : Nat), n ≤ N → n < 256 → n.testBit k = false → ptS w (nI k) n = -1
  | 0, n, h, _, _ => by
    have : n = 0 := by omega
    subst this
    rfl
  | N + 1, n, h, hn, ht => by
    by_cases h0 : n = 0
    · rw [h0]; rfl
    · have hl := lob_lt hn h0
      have hx := nxS_lt (w := w) hn hl (lob_tb hn h0)
      have n1 : ¬ nI (lob n) = nI k := by
        intro q
        have : lob n = k := (nI_inj' (by omega) (by omega)).mp q
        have h2 := lob_tb hn h0
        rw [this, ht] at h2
        cases h2
      have hr : (rmv n (lob n)).testBit k = false := by rw [rmv_tb hn hl hk, ht]; rfl
      rw [ptS_s hn h0, if_neg n1]
      cases e : fpS w n (lob n) with
      | none =>
        rw [if_neg (show ¬ onI none = nI k from fun q => nI_ne1 (by omega) q.symm)]
        refine ptS_out hk N _ (by omega) (by omega) ?_
        unfold nxS
        rw [e]
        exact hr
      | some j =>
        have hj := fpS_some e
        have hj8 := hj.2.2 hl
        have hne : j ≠ k := by
          rintro rfl
          rw [hr] at hj
          cases hj.1
        rw [if_neg (show ¬ onI (some j) = nI k from fun q => hne ((nI_inj' (by omega) (by omega)).mp q))]
        refine ptS_out hk N _ (by omega) (by omega) ?_
        unfold nxS
        rw [e]
        have := rmv_lt hn hl (lob_tb hn h0)
        show (rmv (rmv n (lob n)) j).testBit k = false
        rw [rmv_tb (by omega) hj8 hk, hr]; rfl
/-- outside A nothing changes it -/
theorem fpS_A {w : Nat → Nat → Nat} {A n i : Nat} (h : inA A w) (hn : n < 256) (hi : i < 8) : fpS w (n &&& A) i = fpS w n i := by
  unfold fpS
  have hr := rmv_le hn hi
  rw [← rmv_and, bst_A (by omega) h, bst_A hn h]
  by_cases e : bst w (rmv n i) = bst w n
  · rw [if_pos e, if_pos e]
  · rw [if_neg e, if_neg e]
    refine fsU_congr _ _ (fun j h1 h2 => ?_)
    unfold pP
    have hr2 := rmv_le (n := rmv n i) (j := j) (by omega) (by omega)
    rw [← rmv_and, ← rmv_and, bst_A hn h, bst_A (by omega) h, Nat.testBit_and]
    cases ha : A.testBit j
    · rw [Bool.and_false, Bool.false_and]
      have hw : w i j = 0 := by
        by_cases e0 : w i j = 0
        · exact e0
        · have := (h i j e0).2; rw [ha] at this; cases this
      rw [hw, Nat.zero_add]
      have b1 := bst_rm (w := w) (n := n) (j := i) hn hi
      have b2 := bst_rm (w := w) (n := rmv n i) (j := j) (by omega) (by omega)
      rw [decide_eq_false (show ¬ bst w (rmv (rmv n i) j) = bst w n by omega), Bool.and_false]
    · rw [Bool.and_true]
theorem fpS_out {w : Nat → Nat → Nat} {A n i : Nat} (h : inA A w) (hn : n < 256) (hi : i < 8) (ha : A.testBit i = false) : fpS w n i = none := by
  unfold fpS
  rw [if_pos]
  refine bst_is hi hn (fun k => ?_) (fun k => ?_)
  · by_cases e : w i k = 0
    · exact e
    · have := (h i k e).1; rw [ha] at this; cases this
  · by_cases e : w k i = 0
    · exact e
    · have := (h k i e).2; rw [ha] at this; cases this
theorem nxS_A {w : Nat → Nat → Nat} {A n i : Nat} (h : inA A w) (hn : n < 256) (hi : i < 8) : nxS w (n &&& A) i = nxS w n i &&& A := by
  unfold nxS
  rw [fpS_A h hn hi]
  cases fpS w n i with
  | none => exact rmv_and.symm
  | some j => show rmv (rmv (n &&& A) i) j = rmv (rmv n i) j &&& A; rw [rmv_and, rmv_and]
/-- a pair that is chosen is worth something -/
theorem pP_pos {w : Nat → Nat → Nat} {n i j : Nat} (hn : n < 256) (hi : i < 8) (hj : j < 8) (e : ¬ bst w (rmv n i) = bst w n) (h : w i j = 0) : pP w n i j = false := by
  unfold pP
  have hr := rmv_le hn hi
  have b1 := bst_rm (w := w) (n := n) (j := i) hn hi
  have b2 := bst_rm (w := w) (n := rmv n i) (j := j) (by omega) hj
  rw [h, Nat.zero_add, decide_eq_false (show ¬ bst w (rmv (rmv n i) j) = bst w n by omega), Bool.and_false]
