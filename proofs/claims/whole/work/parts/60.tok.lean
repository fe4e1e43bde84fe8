/-! texts: what stands where -/
def isLt (x : Int32) : Bool := decide (97 ≤ x ∧ x ≤ 122)
def isDg (x : Int32) : Bool := decide (48 ≤ x ∧ x ≤ 57)
def adv (P : Nat → Bool) : Nat → Nat → Nat
  | 0, p => p
  | n + 1, p => if P p = true then adv P n (p + 1) else p
theorem adv_spec {P : Nat → Bool} {e : Nat} (hP : ∀ p, P p = true → p < e) : ∀ n p, p ≤ e → e < p + n → p ≤ adv P n p ∧ adv P n p ≤ e ∧ P (adv P n p) = false ∧ ∀ j, p ≤ j → j < adv P n p → P j = true
  | 0, p, h1, h2 => absurd h2 (by omega)
  | n + 1, p, h1, h2 => by
    unfold adv
    by_cases h : P p = true
    · rw [if_pos h]
      obtain ⟨a, b, c, d⟩ := adv_spec hP n (p + 1) (hP p h) (by omega)
      refine ⟨by omega, b, c, fun j h3 h4 => ?_⟩
      by_cases e1 : j = p
      · rw [e1]; exact h
      · exact d j (by omega) h4
    · rw [if_neg h]
      exact ⟨Nat.le_refl _, h1, by simpa using h, fun j h3 h4 => absurd h4 (by omega)⟩
theorem adv_uniq {P : Nat → Bool} {e : Nat} (hP : ∀ p, P p = true → p < e) {n p q : Nat} (h1 : p ≤ e) (h2 : e < p + n) (h3 : p ≤ q) (h4 : P q = false) (h5 : ∀ j, p ≤ j → j < q → P j = true) : adv P n p = q := by
  obtain ⟨a, b, c, d⟩ := adv_spec hP n p h1 h2
  rcases Nat.lt_trichotomy (adv P n p) q with h | h | h
  · rw [h5 _ a h] at c
    exact absurd c (by decide)
  · exact h
  · rw [d q h3 h] at h4
    exact absurd h4 (by decide)
/-- a letter behind a letter, a figure behind a figure -/
def gO (T : Vec) (p : Nat) : Bool := decide (0 < p) && ((isLt (T p) && isLt (T (p - 1))) || (isDg (T p) && isDg (T (p - 1))))
def bgn (T : Vec) (e p : Nat) : Bool := decide (p < e) && (!decide (T p = 32) && !gO T p)
def nxB (T : Vec) (e p : Nat) : Bool := decide (p < e) && !bgn T e p
def nxt (T : Vec) (e p : Nat) : Nat := adv (nxB T e) 401 p
theorem nxB_lt {T : Vec} {e : Nat} : ∀ p, nxB T e p = true → p < e := fun p h => by
  unfold nxB at h
  simpa using (Bool.and_eq_true_iff.mp h).1
theorem nxt_spec {T : Vec} {e p : Nat} (he : e ≤ 400) (hp : p ≤ e) : p ≤ nxt T e p ∧ nxt T e p ≤ e ∧ (nxt T e p = e ∨ bgn T e (nxt T e p) = true) ∧ ∀ j, p ≤ j → j < nxt T e p → bgn T e j = false := by
  obtain ⟨a, b, c, d⟩ := adv_spec (nxB_lt (T := T) (e := e)) 401 p hp (by omega)
  refine ⟨a, b, ?_, fun j h1 h2 => ?_⟩
  · have c' : nxB T e (nxt T e p) = false := c
    have b1 : nxt T e p ≤ e := b
    generalize nxt T e p = x at c' b1 ⊢
    unfold nxB at c'
    by_cases h : x < e
    · right
      rw [decide_eq_true h, Bool.true_and] at c'
      simpa using c'
    · left
      omega
  · have := d j h1 h2
    unfold nxB at this
    simpa using (Bool.and_eq_true_iff.mp this).2
theorem nxt_uniq {T : Vec} {e p q : Nat} (he : e ≤ 400) (hp : p ≤ e) (h1 : p ≤ q) (h2 : q ≤ e) (h3 : q = e ∨ bgn T e q = true) (h4 : ∀ j, p ≤ j → j < q → bgn T e j = false) : nxt T e p = q := by
  refine adv_uniq (nxB_lt (T := T) (e := e)) hp (by omega) h1 ?_ ?_
  · unfold nxB
    rcases h3 with h3 | h3
    · simp [h3]
    · simp [h3]
  · intro j h5 h6
    unfold nxB
    rw [h4 j h5 h6]
    simp
    omega
theorem nxt_skip {T : Vec} {e p x : Nat} (he : e ≤ 400) (hp : p ≤ x) (hx : x ≤ e) (h : ∀ j, p ≤ j → j < x → bgn T e j = false) : nxt T e p = nxt T e x := by
  obtain ⟨a, b, c, d⟩ := nxt_spec (T := T) he hx
  refine nxt_uniq he (by omega) (by omega) b c (fun j h1 h2 => ?_)
  by_cases h3 : j < x
  · exact h j h1 h3
  · exact d j (by omega) h2
theorem nxt_at {T : Vec} {e q : Nat} (he : e ≤ 400) (hq : q ≤ e) (h : q = e ∨ bgn T e q = true) : nxt T e q = q := nxt_uniq he hq (Nat.le_refl _) hq h (fun j h1 h2 => absurd h2 (by omega))
/-- from place p on, nothing but blanks to place q, where something begins or all ends -/
def RS (T : Vec) (e p q : Nat) : Prop := p ≤ e ∧ q = nxt T e p ∧ ∀ j, p ≤ j → j < q → T j = 32
theorem RS_of {T : Vec} {e p : Nat} (he : e ≤ 400) (hp : p ≤ e) (h : p = e ∨ gO T p = false) : RS T e p (nxt T e p) := by
  obtain ⟨a, b, c, d⟩ := nxt_spec (T := T) he hp
  refine ⟨hp, rfl, ?_⟩
  intro j h1
  obtain ⟨i, rfl⟩ : ∃ i, j = p + i := ⟨j - p, by omega⟩
  clear h1
  have key : ∀ i, p + i < nxt T e p → gO T (p + i) = false ∧ T (p + i) = 32 := by
    intro i
    induction i with
    | zero =>
      intro h2
      have hg : gO T p = false := by
        rcases h with h | h
        · omega
        · exact h
      refine ⟨hg, ?_⟩
      have := d p (Nat.le_refl _) h2
      unfold bgn at this
      rw [hg] at this
      have hlt : p < e := by omega
      simpa [hlt] using this
    | succ i ih =>
      intro h2
      obtain ⟨g, t⟩ := ih (by omega)
      have hg : gO T (p + (i + 1)) = false := by
        unfold gO
        rw [show p + (i + 1) - 1 = p + i by omega, t]
        rw [show isLt 32 = false by decide, show isDg 32 = false by decide]
        simp
      refine ⟨hg, ?_⟩
      have := d (p + (i + 1)) (by omega) h2
      unfold bgn at this
      rw [hg] at this
      have hlt : p + (i + 1) < e := by omega
      simpa [hlt] using this
  intro h2
  exact (key i h2).2
theorem RS_le {T : Vec} {e p q : Nat} (he : e ≤ 400) (h : RS T e p q) : p ≤ q ∧ q ≤ e ∧ (q = e ∨ bgn T e q = true) := by
  obtain ⟨h1, rfl, -⟩ := h
  obtain ⟨a, b, c, -⟩ := nxt_spec (T := T) he h1
  exact ⟨a, b, c⟩
theorem RS_self {T : Vec} {e q : Nat} (he : e ≤ 400) (hq : q ≤ e) (h : q = e ∨ bgn T e q = true) : RS T e q q := ⟨hq, (nxt_at he hq h).symm, fun j h1 h2 => absurd h2 (by omega)⟩
theorem RS_rest {T : Vec} {e p q : Nat} (he : e ≤ 400) (h : RS T e p q) : RS T e q q := by
  obtain ⟨a, b, c⟩ := RS_le he h
  exact RS_self he b c
def ltB (T : Vec) (e : Nat) (p : Nat) : Bool := decide (p < e) && isLt (T p)
def dgB (T : Vec) (e : Nat) (p : Nat) : Bool := decide (p < e) && isDg (T p)
theorem ltB_lt {T : Vec} {e : Nat} : ∀ p, ltB T e p = true → p < e := fun p h => by
  unfold ltB at h
  simpa using (Bool.and_eq_true_iff.mp h).1
theorem dgB_lt {T : Vec} {e : Nat} : ∀ p, dgB T e p = true → p < e := fun p h => by
  unfold dgB at h
  simpa using (Bool.and_eq_true_iff.mp h).1
/-- where what begins at q ends -/
def tend (T : Vec) (e q : Nat) : Nat := if isLt (T q) = true then adv (ltB T e) 401 q else if isDg (T q) = true then adv (dgB T e) 401 q else q + 1
def nx (T : Vec) (e q : Nat) : Nat := nxt T e (q + 1)
theorem lt_dg {x : Int32} (h : isLt x = true) : isDg x = false := by
  unfold isLt at h
  unfold isDg
  have h1 := (of_decide_eq_true h).1
  apply decide_eq_false
  rintro ⟨-, h2⟩
  rw [Int32.le_iff_toInt_le] at h1 h2
  have e1 : (97 : Int32).toInt = 97 := by decide
  have e2 : (57 : Int32).toInt = 57 := by decide
  omega
theorem run_end {P : Nat → Bool} {f g : Int32 → Bool} {T : Vec} {e q : Nat} (he : e ≤ 400) (hPd : ∀ p, P p = (decide (p < e) && f (T p))) (hfg : ∀ x, f x = true → g x = false) (hgO : ∀ p, gO T p = (decide (0 < p) && ((f (T p) && f (T (p - 1))) || (g (T p) && g (T (p - 1)))))) (hq : q < e) (hf : f (T q) = true) :
    q < adv P 401 q ∧ RS T e (adv P 401 q) (nx T e q) := by
  have hP : ∀ p, P p = true → p < e := fun p h => by
    rw [hPd] at h
    simpa using (Bool.and_eq_true_iff.mp h).1
  obtain ⟨a, b, c, d⟩ := adv_spec hP 401 q (by omega) (by omega)
  have h0 : q < adv P 401 q := by
    rcases Nat.lt_or_ge q (adv P 401 q) with h | h
    · exact h
    · have e1 : adv P 401 q = q := by omega
      rw [e1, hPd, hf] at c
      simp at c
      omega
  obtain ⟨x, hx⟩ : ∃ x, x = adv P 401 q := ⟨_, rfl⟩
  rw [← hx] at a b c d h0 ⊢
  have ft : ∀ j, q ≤ j → j < x → f (T j) = true := by
    intro j h1 h2
    have := d j h1 h2
    rw [hPd] at this
    exact (Bool.and_eq_true_iff.mp this).2
  have ex : nx T e q = nxt T e x := by
    unfold nx
    refine nxt_skip he (by omega) b (fun j h1 h2 => ?_)
    have hg : gO T j = true := by
      rw [hgO, ft j (by omega) h2, ft (j - 1) (by omega) (by omega)]
      simp
      omega
    unfold bgn
    rw [hg]
    simp
  refine ⟨h0, ?_⟩
  rw [ex]
  refine RS_of he b ?_
  rcases Nat.lt_or_ge x e with h | h
  · right
    rw [hPd] at c
    have fx : f (T x) = false := by simpa [h] using c
    have fx' := ft (x - 1) (by omega) (by omega)
    rw [hgO, fx, hfg _ fx']
    simp
  · left; omega
theorem dg_lt {x : Int32} (h : isDg x = true) : isLt x = false := by
  cases h2 : isLt x
  · rfl
  · rw [lt_dg h2] at h
    exact absurd h (by decide)
theorem tend_RS {T : Vec} {e q : Nat} (he : e ≤ 400) (hq : q < e) : q < tend T e q ∧ RS T e (tend T e q) (nx T e q) := by
  unfold tend
  by_cases h1 : isLt (T q) = true
  · rw [if_pos h1]
    exact run_end (f := isLt) (g := isDg) he (fun p => rfl) (fun x h => lt_dg h) (fun p => rfl) hq h1
  · rw [if_neg h1]
    by_cases h2 : isDg (T q) = true
    · rw [if_pos h2]
      exact run_end (f := isDg) (g := isLt) he (fun p => rfl) (fun x h => dg_lt h) (fun p => by unfold gO; rw [Bool.or_comm]) hq h2
    · rw [if_neg h2]
      refine ⟨by omega, ?_⟩
      unfold nx
      refine RS_of he (by omega) (Or.inr ?_)
      unfold gO
      rw [show q + 1 - 1 = q from rfl, show isLt (T q) = false by simpa using h1, show isDg (T q) = false by simpa using h2]
      simp
theorem nx_lt {T : Vec} {e q : Nat} (he : e ≤ 400) (hq : q < e) : q < nx T e q ∧ nx T e q ≤ e := by
  obtain ⟨a, b, -, -⟩ := nxt_spec (T := T) (p := q + 1) he (by omega)
  unfold nx
  omega
theorem nx_bg {T : Vec} {e q : Nat} (he : e ≤ 400) (hq : q < e) : nx T e q = e ∨ bgn T e (nx T e q) = true := (nxt_spec (T := T) (p := q + 1) he (by omega)).2.2.1
/-! words, numbers, signs: their codes -/
def WL : List (List Int32) := [[110, 111, 100, 101], [102, 97, 115, 116], [115, 108, 111, 119], [109, 101, 109, 98, 101, 114, 115], [103, 111, 111, 100], [98, 97, 100], [119, 97, 105, 116], [101, 118, 101, 110], [97, 108, 111, 110, 101], [102, 108, 97, 107, 121], [108, 97, 116, 101], [111, 109, 105, 116], [104, 111, 108, 100], [105, 102], [111, 114], [97, 110, 100], [110, 111, 116], [97, 104, 101, 97, 100], [98, 101, 104, 105, 110, 100], [115, 105, 108, 101, 110, 116], [116, 111, 114, 110], [111, 102, 102], [97, 99, 116, 105, 118, 101], [119, 105, 110, 100, 111, 119], [112, 114, 101, 99, 105, 115, 105, 111, 110], [114, 111, 117, 110, 100]]
def flatW : List (List Int32) → List Int32
  | [] => []
  | w :: ws => w ++ 32 :: flatW ws
theorem WL_flat : zByt.getD 0 [] = flatW WL := by decide +kernel
theorem WL_lt : ∀ j : Fin 26, ∀ i : Fin 9, i.val < (WL.getD j.val []).length → isLt ((WL.getD j.val []).getD i.val 0) = true := by decide +kernel
theorem WL_len : ∀ j : Fin 26, 1 ≤ (WL.getD j.val []).length ∧ (WL.getD j.val []).length ≤ 9 := by decide +kernel
theorem WL_nd : ∀ i j : Fin 26, WL.getD i.val [] = WL.getD j.val [] → i = j := by decide +kernel
/-- the word w stands at q -/
def wmC (T : Vec) (e : Nat) : Nat → List Int32 → Bool
  | _, [] => true
  | q, c :: w => decide (q < e) && (decide (T q = c) && wmC T e (q + 1) w)
def wm (T : Vec) (e q : Nat) (w : List Int32) : Bool := wmC T e q w && !ltB T e (q + w.length)
def wcode (T : Vec) (e q : Nat) : List (List Int32) → Nat → Nat
  | [], _ => 3000
  | w :: ws, n => if wm T e q w = true then n else wcode T e q ws (n + 1)
theorem wmC_iff {T : Vec} {e : Nat} : ∀ (w : List Int32) (q : Nat), wmC T e q w = true ↔ ∀ i, i < w.length → q + i < e ∧ T (q + i) = w.getD i 0
  | [], q => by simp [wmC]
  | c :: w, q => by
    unfold wmC
    rw [Bool.and_eq_true_iff, Bool.and_eq_true_iff, decide_eq_true_eq, decide_eq_true_eq, wmC_iff w (q + 1)]
    constructor
    · rintro ⟨h1, h2, h3⟩ i hi
      cases i with
      | zero => exact ⟨h1, by simpa using h2⟩
      | succ i =>
        have := h3 i (by simpa using hi)
        rw [show q + (i + 1) = q + 1 + i by omega]
        simpa using this
    · intro h
      refine ⟨(h 0 (by simp)).1, by simpa using (h 0 (by simp)).2, fun i hi => ?_⟩
      have := h (i + 1) (by simpa using hi)
      rw [show q + 1 + i = q + (i + 1) by omega]
      simpa using this
theorem wm_iff {T : Vec} {e q : Nat} {w : List Int32} : wm T e q w = true ↔ (∀ i, i < w.length → q + i < e ∧ T (q + i) = w.getD i 0) ∧ ltB T e (q + w.length) = false := by
  unfold wm
  rw [Bool.and_eq_true_iff, wmC_iff]
  simp
theorem WL_c {j i : Nat} (hj : j < 26) (hi : i < (WL.getD j []).length) : isLt ((WL.getD j []).getD i 0) = true := by
  have h := (WL_len ⟨j, hj⟩).2
  dsimp only at h
  exact WL_lt ⟨j, hj⟩ ⟨i, by omega⟩ hi
theorem getD_lt {l : List Int32} {k : Nat} (h : k < l.length) : l.getD k 0 = l[k] := by rw [List.getD_eq_getElem?_getD, List.getElem?_eq_getElem h]; rfl
theorem wm_uniq {T : Vec} {e q i j : Nat} (hi : i < 26) (hj : j < 26) (h1 : wm T e q (WL.getD i []) = true) (h2 : wm T e q (WL.getD j []) = true) : i = j := by
  rw [wm_iff] at h1 h2
  have le : ∀ a b, a < 26 → b < 26 → ((∀ i, i < (WL.getD a []).length → q + i < e ∧ T (q + i) = (WL.getD a []).getD i 0) ∧ ltB T e (q + (WL.getD a []).length) = false) → ((∀ i, i < (WL.getD b []).length → q + i < e ∧ T (q + i) = (WL.getD b []).getD i 0)) → (WL.getD b []).length ≤ (WL.getD a []).length := by
    intro a b ha hb x1 x2
    rcases Nat.lt_or_ge (WL.getD a []).length (WL.getD b []).length with h | h
    · obtain ⟨y1, y2⟩ := x2 _ h
      have z : ltB T e (q + (WL.getD a []).length) = true := by
        unfold ltB
        rw [y2, WL_c hb h, decide_eq_true y1]
        rfl
      rw [z] at x1
      exact absurd x1.2 (by decide)
    · exact h
  have hl : (WL.getD i []).length = (WL.getD j []).length := Nat.le_antisymm (le j i hj hi h2 h1.1) (le i j hi hj h1 h2.1)
  have : WL.getD i [] = WL.getD j [] := by
    apply List.ext_getElem hl
    intro k h3 h4
    have e1 := (h1.1 k h3).2
    have e2 := (h2.1 k h4).2
    rw [e1] at e2
    rw [getD_lt h3, getD_lt h4] at e2
    exact e2
  have := WL_nd ⟨i, hi⟩ ⟨j, hj⟩ this
  exact congrArg Fin.val this
theorem wcode_rng {T : Vec} {e q : Nat} : ∀ (ws : List (List Int32)) (n : Nat), wcode T e q ws n = 3000 ∨ ∃ j, j < ws.length ∧ wcode T e q ws n = n + j ∧ wm T e q (ws.getD j []) = true
  | [], n => Or.inl rfl
  | w :: ws, n => by
    unfold wcode
    by_cases h : wm T e q w = true
    · rw [if_pos h]
      exact Or.inr ⟨0, by simp, rfl, by simpa using h⟩
    · rw [if_neg h]
      rcases wcode_rng ws (n + 1) with h1 | ⟨j, h1, h2, h3⟩
      · exact Or.inl h1
      · exact Or.inr ⟨j + 1, by simpa using h1, by omega, by simpa using h3⟩
theorem wcode_none {T : Vec} {e q : Nat} : ∀ (ws : List (List Int32)) (n : Nat), 3000 < n ∨ n + ws.length ≤ 3000 → wcode T e q ws n = 3000 → ∀ j, j < ws.length → wm T e q (ws.getD j []) = false
  | [], n, _, _, j, h => absurd h (by simp)
  | w :: ws, n, hn, h, j, hj => by
    unfold wcode at h
    by_cases c : wm T e q w = true
    · rw [if_pos c] at h
      simp at hn
      omega
    · rw [if_neg c] at h
      cases j with
      | zero => simpa using c
      | succ j =>
        have := wcode_none ws (n + 1) (by simp at hn ⊢; omega) h j (by simpa using hj)
        simpa using this
theorem wcode_iff {T : Vec} {e q j : Nat} (hj : j < 26) : wcode T e q WL 1000 = 1000 + j ↔ wm T e q (WL.getD j []) = true := by
  constructor
  · intro h
    rcases wcode_rng (T := T) (e := e) (q := q) WL 1000 with h1 | ⟨i, h1, h2, h3⟩
    · omega
    · have : i = j := by omega
      rw [← this]; exact h3
  · intro h
    rcases wcode_rng (T := T) (e := e) (q := q) WL 1000 with h1 | ⟨i, h1, h2, h3⟩
    · have := wcode_none WL 1000 (Or.inr (by decide)) h1 j hj
      rw [this] at h
      exact absurd h (by decide)
    · have := wm_uniq h1 hj h3 h
      omega
/-- numbers -/
def VV (T : Vec) (q : Nat) : Nat → Int32
  | 0 => 0
  | k + 1 => 10 * VV T q k + T (q + k) - 48
theorem dg_nI {x : Int32} (h : isDg x = true) : ∃ d : Nat, d < 10 ∧ x = nI (48 + d) := by
  have h := of_decide_eq_true h
  have h1 := h.1
  have h2 := h.2
  rw [Int32.le_iff_toInt_le] at h1 h2
  have e1 : (48 : Int32).toInt = 48 := by decide
  have e2 : (57 : Int32).toInt = 57 := by decide
  refine ⟨(x.toInt - 48).toNat, by omega, ?_⟩
  apply Int32.toInt_inj.mp
  rw [nI_toInt (by omega)]
  omega
theorem VV_nat {T : Vec} {q : Nat} : ∀ k, k ≤ 3 → (∀ i, i < k → isDg (T (q + i)) = true) → ∃ m : Nat, m < 10 ^ k ∧ VV T q k = nI m
  | 0, _, _ => ⟨0, by decide, rfl⟩
  | k + 1, hk, h => by
    obtain ⟨m, h1, h2⟩ := VV_nat k (by omega) (fun i hi => h i (by omega))
    obtain ⟨d, h3, h4⟩ := dg_nI (h k (by omega))
    refine ⟨10 * m + d, by rw [Nat.pow_succ]; omega, ?_⟩
    unfold VV
    rw [h2, h4, show (10 : Int32) = nI 10 from rfl, show nI 10 * nI m = nI (10 * m) from (Int32.ofNat_mul 10 m).symm, nI_add, show (48 : Int32) = nI 48 from rfl, show 10 * m + (48 + d) = (10 * m + d) + 48 by omega, ← nI_add (10 * m + d) 48, Int32.add_sub_cancel]
def ncode (T : Vec) (e q : Nat) : Int32 := if dgB T e (q + 1) = false then VV T q 1 else if dgB T e (q + 2) = false then VV T q 2 else if dgB T e (q + 3) = false then VV T q 3 else 3000
def cd (T : Vec) (e q : Nat) : Int32 := if q < e then (if isLt (T q) = true then nI (wcode T e q WL 1000) else if isDg (T q) = true then ncode T e q else 2000 + T q) else 3001
def HB (T : Vec) (e : Nat) : Prop := ∀ p, p < e → ∃ n : Nat, n < 256 ∧ T p = nI n
theorem dgB_T {T : Vec} {e p : Nat} (h : dgB T e p = true) : p < e ∧ isDg (T p) = true := by
  unfold dgB at h
  simpa using Bool.and_eq_true_iff.mp h
theorem ncode_rng {T : Vec} {e q : Nat} (hd : isDg (T q) = true) : ncode T e q = 3000 ∨ ∃ m : Nat, m < 1000 ∧ ncode T e q = nI m := by
  unfold ncode
  by_cases h1 : dgB T e (q + 1) = false
  · rw [if_pos h1]
    obtain ⟨m, a, b⟩ := VV_nat (T := T) (q := q) 1 (by omega) (fun i hi => by rw [show i = 0 by omega]; exact hd)
    exact Or.inr ⟨m, by omega, b⟩
  · rw [if_neg h1]
    have d1 := (dgB_T (by simpa using h1 : dgB T e (q + 1) = true)).2
    by_cases h2 : dgB T e (q + 2) = false
    · rw [if_pos h2]
      obtain ⟨m, a, b⟩ := VV_nat (T := T) (q := q) 2 (by omega) (fun i hi => by
        have : i = 0 ∨ i = 1 := by omega
        rcases this with rfl | rfl
        · exact hd
        · exact d1)
      exact Or.inr ⟨m, by omega, b⟩
    · rw [if_neg h2]
      have d2 := (dgB_T (by simpa using h2 : dgB T e (q + 2) = true)).2
      by_cases h3 : dgB T e (q + 3) = false
      · rw [if_pos h3]
        obtain ⟨m, a, b⟩ := VV_nat (T := T) (q := q) 3 (by omega) (fun i hi => by
          have : i = 0 ∨ i = 1 ∨ i = 2 := by omega
          rcases this with rfl | rfl | rfl
          · exact hd
          · exact d1
          · exact d2)
        exact Or.inr ⟨m, by omega, b⟩
      · rw [if_neg h3]
        exact Or.inl rfl
theorem cd_w {T : Vec} {e q : Nat} (hq : q < e) (h : isLt (T q) = true) : cd T e q = nI (wcode T e q WL 1000) := by unfold cd; rw [if_pos hq, if_pos h]
theorem cd_n {T : Vec} {e q : Nat} (hq : q < e) (h : isDg (T q) = true) : cd T e q = ncode T e q := by unfold cd; rw [if_pos hq, if_neg (by rw [dg_lt h]; decide), if_pos h]
theorem cd_s {T : Vec} {e q : Nat} (hq : q < e) (h : isLt (T q) = false) (h2 : isDg (T q) = false) : cd T e q = 2000 + T q := by unfold cd; rw [if_pos hq, if_neg (by rw [h]; decide), if_neg (by rw [h2]; decide)]
theorem cd_e {T : Vec} {e q : Nat} (hq : e ≤ q) : cd T e q = 3001 := by unfold cd; rw [if_neg (by omega)]
theorem wcode_lt {T : Vec} {e q : Nat} : wcode T e q WL 1000 = 3000 ∨ 1000 ≤ wcode T e q WL 1000 ∧ wcode T e q WL 1000 < 1026 := by
  rcases wcode_rng (T := T) (e := e) (q := q) WL 1000 with h | ⟨j, h1, h2, -⟩
  · exact Or.inl h
  · have : WL.length = 26 := rfl
    omega
theorem wm_lt {T : Vec} {e q j : Nat} (hj : j < 26) (h : wm T e q (WL.getD j []) = true) : q < e ∧ isLt (T q) = true := by
  rw [wm_iff] at h
  have hl := (WL_len ⟨j, hj⟩).1
  dsimp only at hl
  obtain ⟨a, b⟩ := h.1 0 (by omega)
  rw [Nat.add_zero] at a b
  exact ⟨a, by rw [b]; exact WL_c hj (by omega)⟩
/-- codes are numbers below 3002 -/
theorem cd_nat {T : Vec} {e q : Nat} (hB : HB T e) : ∃ n : Nat, n < 3002 ∧ cd T e q = nI n ∧ (n < 1000 → q < e ∧ isDg (T q) = true) ∧ (1000 ≤ n → n < 1026 → q < e ∧ isLt (T q) = true) ∧ (2000 ≤ n → n < 2256 → q < e ∧ isLt (T q) = false ∧ isDg (T q) = false ∧ T q = nI (n - 2000)) ∧ (n = 3001 → e ≤ q) := by
  rcases Nat.lt_or_ge q e with hq | hq
  · by_cases h1 : isLt (T q) = true
    · refine ⟨wcode T e q WL 1000, ?_, cd_w hq h1, ?_, fun _ _ => ⟨hq, h1⟩, ?_, ?_⟩ <;> have := wcode_lt (T := T) (e := e) (q := q) <;> omega
    · have h1' : isLt (T q) = false := by simpa using h1
      by_cases h2 : isDg (T q) = true
      · rcases ncode_rng (e := e) h2 with h | ⟨m, hm, h⟩
        · exact ⟨3000, by omega, by rw [cd_n hq h2, h]; rfl, by omega, by omega, by omega, by omega⟩
        · exact ⟨m, by omega, by rw [cd_n hq h2, h], fun _ => ⟨hq, h2⟩, by omega, by omega, by omega⟩
      · have h2' : isDg (T q) = false := by simpa using h2
        obtain ⟨n, hn, ht⟩ := hB q hq
        refine ⟨2000 + n, by omega, by rw [cd_s hq h1' h2', ht]; exact nI_add 2000 n, by omega, by omega, fun _ _ => ⟨hq, h1', h2', ?_⟩, by omega⟩
        rw [ht, show 2000 + n - 2000 = n by omega]
  · exact ⟨3001, by omega, by rw [cd_e hq]; rfl, by omega, by omega, by omega, fun _ => hq⟩
theorem cd_word {T : Vec} {e q j : Nat} (hB : HB T e) (hj : j < 26) : cd T e q = nI (1000 + j) ↔ wm T e q (WL.getD j []) = true := by
  constructor
  · intro h
    obtain ⟨n, h1, h2, -, h4, -, -⟩ := cd_nat (q := q) hB
    rw [h2, nI_eq (by omega) (by omega)] at h
    obtain ⟨a, b⟩ := h4 (by omega) (by omega)
    rw [cd_w a b, nI_eq (by have := wcode_lt (T := T) (e := e) (q := q); omega) (by omega)] at h2
    rw [← wcode_iff hj]
    omega
  · intro h
    obtain ⟨a, b⟩ := wm_lt hj h
    rw [cd_w a b, (wcode_iff hj).mpr h]
theorem cd_sign {T : Vec} {e q c : Nat} (hB : HB T e) (hc : c < 256) (h1 : isLt (nI c) = false) (h2 : isDg (nI c) = false) : cd T e q = nI (2000 + c) ↔ q < e ∧ T q = nI c := by
  constructor
  · intro h
    obtain ⟨n, g1, g2, -, -, g5, -⟩ := cd_nat (q := q) hB
    rw [g2, nI_eq (by omega) (by omega)] at h
    obtain ⟨a, -, -, b⟩ := g5 (by omega) (by omega)
    exact ⟨a, by rw [b, show n - 2000 = c by omega]⟩
  · rintro ⟨a, b⟩
    rw [cd_s a (by rw [b]; exact h1) (by rw [b]; exact h2), b]
    exact nI_add 2000 c
theorem cd_end {T : Vec} {e q : Nat} (hB : HB T e) : cd T e q = 3001 ↔ e ≤ q := by
  constructor
  · intro h
    obtain ⟨n, g1, g2, -, -, -, g6⟩ := cd_nat (q := q) hB
    rw [g2, show (3001 : Int32) = nI 3001 from rfl, nI_eq (by omega) (by omega)] at h
    exact g6 h
  · exact cd_e
theorem cd_lt {T : Vec} {e q : Nat} (h : ¬ cd T e q = 3001) : q < e := by
  rcases Nat.lt_or_ge q e with h1 | h1
  · exact h1
  · exact absurd (cd_e h1) h
