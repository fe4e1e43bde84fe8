/-! what a cluster's text says -/
section QS
variable (T : Vec) (e : Nat)
def nV (lo hi : Int32) (q : Nat) : Nat ⊕ (Nat × Int32) := if lo ≤ cd T e q ∧ cd T e q ≤ hi then .inr (nx T e q, cd T e q) else .inl q
def negV (x : Nat ⊕ (Nat × Int32)) : Nat ⊕ (Nat × Int32) := match x with
  | .inl f => .inl f
  | .inr q => .inr (q.1, -q.2)
def oV (a b : Nat) (hi : Int32) (q : Nat) : Nat ⊕ (Nat × Int32) := if cd T e q = nI (1000 + a) then nV T e 0 hi (nx T e q) else if cd T e q = nI (1000 + b) then negV (nV T e 0 hi (nx T e q)) else .inr (q, 0)
def fV (q : Nat) : Nat ⊕ (Nat × Int32) := if cd T e q = nI (1000 + 9) then nV T e 0 100 (nx T e q) else .inr (q, 0)
def kV (q : Nat) : Nat × Int32 := if cd T e q = nI (1000 + 10) then (nx T e q, 1) else if cd T e q = nI (1000 + 19) then (nx T e q, 2) else if cd T e q = nI (1000 + 20) then (nx T e q, 3) else (q, 0)
def hV (k : Int32) (q : Nat) : Nat ⊕ (Nat × Int32) := if k = 1 ∨ k = 3 then nV T e 0 99 q else .inr (q, 0)
def tV (q : Nat) : Nat × Int32 := if cd T e q = nI (1000 + 21) then (nx T e q, 0) else if cd T e q = nI (1000 + 22) then (nx T e q, 2) else (q, 1)
def vB {α : Type} (x : Nat ⊕ (Nat × Int32)) (f : Nat → Int32 → Nat ⊕ α) : Nat ⊕ α := match x with
  | .inl a => .inl a
  | .inr q => f q.1 q.2
/-- the numbers of a node: clock, drift, flaky, kind, how, state -/
def ndF (k : Nat) (clock drift flaky kind how state : Int32) : Vec := fun w => if w = 0 then clock else if w = 1 then drift else if w = 3 then state else if w = 4 then 2 + nI k else if w = 5 then (if state = 2 then bit1 k else 0) else if w = 8 then flaky else if w = 9 then kind else if w = 10 then how else 0
def sNode (k q : Nat) : Nat ⊕ (Nat × Vec) := vB (oV T e 17 18 999 q) (fun q1 clock => vB (oV T e 1 2 9 q1) (fun q2 drift => vB (fV T e q2) (fun q3 flaky => vB (hV T e (kV T e q3).2 (kV T e q3).1) (fun q4 how => .inr ((tV T e q4).1, ndF k clock drift flaky (kV T e q3).2 how (tV T e q4).2)))))
def nodeV (v : Vec) (k : Nat) (f : Vec) : Vec := fun i => if i = 3 then nI (k + 1) else if 9 + 11 * k ≤ i ∧ i < 9 + 11 * k + 11 then f (i - (9 + 11 * k)) else v i
/-- a line: where it ends, how many nodes, the vector -/
def sLine (c : Nat) (v : Vec) (q : Nat) : Nat ⊕ (Nat × Nat × Vec) :=
  if cd T e q = nI (1000 + 0) then (if c = 8 then .inl q else match sNode T e c (nx T e q) with
    | .inl f => .inl f
    | .inr r => .inr (r.1, c + 1, nodeV v c r.2))
  else if cd T e q = nI (1000 + 23) then vB (nV T e 1 999 (nx T e q)) (fun q' x => .inr (q', c, vset v 4 x))
  else if cd T e q = nI (1000 + 24) then vB (nV T e 1 999 (nx T e q)) (fun q' x => .inr (q', c, vset v 5 x))
  else if cd T e q = nI (1000 + 25) then vB (nV T e 0 999 (nx T e q)) (fun q' x => .inr (q', c, vset v 6 x))
  else .inl q
def sLines : Nat → Nat → Nat → Vec → Nat ⊕ (Nat × Vec)
  | 0, q, _, _ => .inl q
  | m + 1, q, c, v => match sLine T e c v q with
    | .inl f => .inl f
    | .inr r => if cd T e r.1 = 2059 then sLines m (nx T e r.1) r.2.1 r.2.2 else if cd T e r.1 = 3001 then .inr (r.2.1, r.2.2) else .inl r.1
def sCl (c : Nat) (v : Vec) : Nat ⊕ (Nat × Vec) := if cd T e (nxt T e 0) = 3001 then .inr (c, v) else sLines T e 14 (nxt T e 0) c v
end QS
theorem nodeV_nd {v f : Vec} {k j w : Nat} (hw : w < 11) : nd (nodeV v k f) j w = if j = k then f w else nd v j w := by
  unfold nd nodeV
  rw [if_neg (by omega)]
  by_cases h : j = k
  · subst h
    rw [if_pos (by omega), if_pos rfl, Nat.add_sub_cancel_left]
  · rw [if_neg (by omega), if_neg h]
theorem nodeV_low {v f : Vec} {k i : Nat} (h : i < 9) (h3 : i ≠ 3) : nodeV v k f i = v i := by
  unfold nodeV
  rw [if_neg h3, if_neg (by omega)]
theorem nodeV_high {v f : Vec} {k i : Nat} (hk : k < 8) (h : 97 ≤ i) : nodeV v k f i = v i := by
  unfold nodeV
  rw [if_neg (by omega), if_neg (by omega)]
theorem nodeV_3 {v f : Vec} {k : Nat} : nodeV v k f 3 = nI (k + 1) := if_pos rfl
theorem ns_nodeV {v f : Vec} {k w : Nat} {x : Int32} (hw : w < 11) : ns (nodeV v k f) k w x = nodeV v k (vset f w x) := by
  funext i
  unfold ns vset nodeV
  by_cases h : i = 9 + 11 * k + w
  · subst h
    rw [if_pos rfl, if_neg (by omega), if_pos (by omega)]
    dsimp only
    rw [if_pos (by omega)]
  · rw [if_neg h]
    by_cases h3 : i = 3
    · rw [if_pos h3, if_pos h3]
    · rw [if_neg h3, if_neg h3]
      by_cases hr : 9 + 11 * k ≤ i ∧ i < 9 + 11 * k + 11
      · rw [if_pos hr, if_pos hr]
        dsimp only
        rw [if_neg (by omega)]
      · rw [if_neg hr, if_neg hr]
theorem ndF_0 {k : Nat} {a b c d e f x : Int32} : vset (ndF k a b c d e f) 0 x = ndF k x b c d e f := by
  funext i; unfold vset ndF
  by_cases h : i = 0
  · simp [h]
  · simp [h]
theorem ndF_1 {k : Nat} {a b c d e f x : Int32} : vset (ndF k a b c d e f) 1 x = ndF k a x c d e f := by
  funext i; unfold vset ndF
  by_cases h : i = 1
  · simp [h]
  · simp [h]
theorem ndF_8 {k : Nat} {a b c d e f x : Int32} : vset (ndF k a b c d e f) 8 x = ndF k a b x d e f := by
  funext i; unfold vset ndF
  by_cases h : i = 8
  · simp [h]
  · simp [h]
theorem ndF_9 {k : Nat} {a b c d e f x : Int32} : vset (ndF k a b c d e f) 9 x = ndF k a b c x e f := by
  funext i; unfold vset ndF
  by_cases h : i = 9
  · simp [h]
  · simp [h]
theorem ndF_10 {k : Nat} {a b c d e f x : Int32} : vset (ndF k a b c d e f) 10 x = ndF k a b c d x f := by
  funext i; unfold vset ndF
  by_cases h : i = 10
  · simp [h]
  · simp [h]
theorem ndF_30 {k : Nat} {a b c d e : Int32} : vset (ndF k a b c d e 1) 3 0 = ndF k a b c d e 0 := by
  funext i; unfold vset ndF
  by_cases h : i = 3
  · simp [h]
  · by_cases h5 : i = 5
    · simp [h5]
    · simp [h, h5]
theorem ndF_32 {k : Nat} {a b c d e : Int32} : vset (vset (ndF k a b c d e 1) 3 2) 5 (bit1 k) = ndF k a b c d e 2 := by
  funext i; unfold vset ndF
  by_cases h : i = 3
  · simp [h]
  · by_cases h5 : i = 5
    · simp [h5]
    · simp [h, h5]
section QG
variable {T : Vec} {e : Nat}
theorem code_lt {q j : Nat} (h : cd T e q = nI (1000 + j)) (hj : j < 26) : q < e := cd_lt (ne_code h (by omega) (b := 3001) (by omega) (by omega))
/-- a number's reader goes on -/
theorem nV_g {lo hi : Int32} {q : Nat} (he : e ≤ 400) (hg : gq T e q) (hlo : 0 ≤ lo) (hhi : hi ≤ 999) : (∀ f, nV T e lo hi q = .inl f → f ≤ e) ∧ ∀ q' x, nV T e lo hi q = .inr (q', x) → gq T e q' ∧ q < q' ∧ lo ≤ x ∧ x ≤ hi := by
  unfold nV
  by_cases h : lo ≤ cd T e q ∧ cd T e q ≤ hi
  · rw [if_pos h]
    have hq : q < e := cd_lt (n3001 (Int32.le_trans h.2 hhi) (by decide))
    have hn := nx_lt (T := T) he hq
    exact ⟨fun f hf => (by cases hf), fun q' x hx => by cases hx; exact ⟨gq_nx he hq, hn.1, h.1, h.2⟩⟩
  · rw [if_neg h]
    exact ⟨fun f hf => (by cases hf; exact hg.1), fun q' x hx => by cases hx⟩
theorem rng_of {x lo hi : Int32} {a b : Int} (h1 : lo ≤ x) (h2 : x ≤ hi) (e1 : lo.toInt = a) (e2 : hi.toInt = b) : rng x a b := by
  rw [Int32.le_iff_toInt_le] at h1 h2
  exact ⟨by omega, by omega⟩
theorem oV_g {a b : Nat} {hi : Int32} {B : Int} {q : Nat} (he : e ≤ 400) (hg : gq T e q) (ha : a < 26) (hb : b < 26) (hhi : hi ≤ 999) (hB : hi.toInt = B) (hB0 : 0 ≤ B) : (∀ f, oV T e a b hi q = .inl f → f ≤ e) ∧ ∀ q' x, oV T e a b hi q = .inr (q', x) → gq T e q' ∧ q ≤ q' ∧ rng x (-B) B := by
  have h0 : (0 : Int32).toInt = 0 := by decide
  have hB9 : B ≤ 999 := by
    rw [Int32.le_iff_toInt_le] at hhi
    have : (999 : Int32).toInt = 999 := by decide
    omega
  unfold oV
  by_cases h1 : cd T e q = nI (1000 + a)
  · have hq := code_lt h1 ha
    have hn := nx_lt (T := T) he hq
    rw [if_pos h1]
    obtain ⟨p1, p2⟩ := nV_g (lo := 0) he (gq_nx he hq) (by decide) hhi
    refine ⟨p1, fun q' x hx => ?_⟩
    obtain ⟨a1, a2, a3, a4⟩ := p2 q' x hx
    exact ⟨a1, by omega, rng_mono (rng_of a3 a4 h0 hB) (by omega) (by omega)⟩
  · rw [if_neg h1]
    by_cases h2 : cd T e q = nI (1000 + b)
    · have hq := code_lt h2 hb
      have hn := nx_lt (T := T) he hq
      rw [if_pos h2]
      obtain ⟨p1, p2⟩ := nV_g (lo := 0) he (gq_nx he hq) (by decide) hhi
      cases hv : nV T e 0 hi (nx T e q) with
      | inl f => exact ⟨fun f' hf => (by cases hf; exact p1 f hv), fun q' x hx => by cases hx⟩
      | inr r =>
        obtain ⟨q1, y⟩ := r
        obtain ⟨a1, a2, a3, a4⟩ := p2 q1 y hv
        refine ⟨fun f' hf => (by cases hf), fun q' x hx => ?_⟩
        cases hx
        have := (rng_neg (rng_of a3 a4 h0 hB) (by omega) (by omega)).1
        exact ⟨a1, by omega, rng_mono this (by omega) (by omega)⟩
    · rw [if_neg h2]
      exact ⟨fun f hf => (by cases hf), fun q' x hx => by cases hx; exact ⟨hg, Nat.le_refl _, rng_0 (by omega) (by omega)⟩⟩
theorem fV_g {q : Nat} (he : e ≤ 400) (hg : gq T e q) : (∀ f, fV T e q = .inl f → f ≤ e) ∧ ∀ q' x, fV T e q = .inr (q', x) → gq T e q' ∧ q ≤ q' ∧ rng x 0 100 := by
  unfold fV
  by_cases h1 : cd T e q = nI (1000 + 9)
  · have hq := code_lt h1 (by omega)
    have hn := nx_lt (T := T) he hq
    rw [if_pos h1]
    obtain ⟨p1, p2⟩ := nV_g (lo := 0) (hi := 100) he (gq_nx he hq) (by decide) (by decide)
    refine ⟨p1, fun q' x hx => ?_⟩
    obtain ⟨a1, a2, a3, a4⟩ := p2 q' x hx
    exact ⟨a1, by omega, rng_of a3 a4 (by decide) (by decide)⟩
  · rw [if_neg h1]
    exact ⟨fun f hf => (by cases hf), fun q' x hx => by cases hx; exact ⟨hg, Nat.le_refl _, rng_0 (by omega) (by omega)⟩⟩
theorem kV_g {q : Nat} (he : e ≤ 400) (hg : gq T e q) : gq T e (kV T e q).1 ∧ q ≤ (kV T e q).1 ∧ ((kV T e q).2 = 0 ∨ (kV T e q).2 = 1 ∨ (kV T e q).2 = 2 ∨ (kV T e q).2 = 3) := by
  unfold kV
  by_cases h1 : cd T e q = nI (1000 + 10)
  · have hq := code_lt h1 (by omega)
    have hn := nx_lt (T := T) he hq
    rw [if_pos h1]
    exact ⟨gq_nx he hq, by dsimp only; omega, Or.inr (Or.inl rfl)⟩
  · rw [if_neg h1]
    by_cases h2 : cd T e q = nI (1000 + 19)
    · have hq := code_lt h2 (by omega)
      have hn := nx_lt (T := T) he hq
      rw [if_pos h2]
      exact ⟨gq_nx he hq, by dsimp only; omega, Or.inr (Or.inr (Or.inl rfl))⟩
    · rw [if_neg h2]
      by_cases h3 : cd T e q = nI (1000 + 20)
      · have hq := code_lt h3 (by omega)
        have hn := nx_lt (T := T) he hq
        rw [if_pos h3]
        exact ⟨gq_nx he hq, by dsimp only; omega, Or.inr (Or.inr (Or.inr rfl))⟩
      · rw [if_neg h3]
        exact ⟨hg, Nat.le_refl _, Or.inl rfl⟩
theorem hV_g {q : Nat} {k : Int32} (he : e ≤ 400) (hg : gq T e q) : (∀ f, hV T e k q = .inl f → f ≤ e) ∧ ∀ q' x, hV T e k q = .inr (q', x) → gq T e q' ∧ q ≤ q' ∧ rng x 0 99 := by
  unfold hV
  by_cases h1 : k = 1 ∨ k = 3
  · rw [if_pos h1]
    obtain ⟨p1, p2⟩ := nV_g (lo := 0) (hi := 99) he hg (by decide) (by decide)
    refine ⟨p1, fun q' x hx => ?_⟩
    obtain ⟨a1, a2, a3, a4⟩ := p2 q' x hx
    exact ⟨a1, by omega, rng_of a3 a4 (by decide) (by decide)⟩
  · rw [if_neg h1]
    exact ⟨fun f hf => (by cases hf), fun q' x hx => by cases hx; exact ⟨hg, Nat.le_refl _, rng_0 (by omega) (by omega)⟩⟩
theorem tV_g {q : Nat} (he : e ≤ 400) (hg : gq T e q) : gq T e (tV T e q).1 ∧ q ≤ (tV T e q).1 ∧ ((tV T e q).2 = 0 ∨ (tV T e q).2 = 1 ∨ (tV T e q).2 = 2) := by
  unfold tV
  by_cases h1 : cd T e q = nI (1000 + 21)
  · have hq := code_lt h1 (by omega)
    have hn := nx_lt (T := T) he hq
    rw [if_pos h1]
    exact ⟨gq_nx he hq, by dsimp only; omega, Or.inl rfl⟩
  · rw [if_neg h1]
    by_cases h2 : cd T e q = nI (1000 + 22)
    · have hq := code_lt h2 (by omega)
      have hn := nx_lt (T := T) he hq
      rw [if_pos h2]
      exact ⟨gq_nx he hq, by dsimp only; omega, Or.inr (Or.inr rfl)⟩
    · rw [if_neg h2]
      exact ⟨hg, Nat.le_refl _, Or.inr (Or.inl rfl)⟩
theorem vB_inl {α : Type} {x : Nat ⊕ (Nat × Int32)} {f : Nat → Int32 → Nat ⊕ α} {a : Nat} (h : vB x f = .inl a) : x = .inl a ∨ ∃ q y, x = .inr (q, y) ∧ f q y = .inl a := by
  cases x with
  | inl b => exact Or.inl (by cases h; rfl)
  | inr q => exact Or.inr ⟨q.1, q.2, rfl, h⟩
theorem vB_inr {α : Type} {x : Nat ⊕ (Nat × Int32)} {f : Nat → Int32 → Nat ⊕ α} {r : α} (h : vB x f = .inr r) : ∃ q y, x = .inr (q, y) ∧ f q y = .inr r := by
  cases x with
  | inl b => cases h
  | inr q => exact ⟨q.1, q.2, rfl, h⟩
/-- what a node's numbers keep to -/
def NF (f : Vec) : Prop := rng (f 0) (-999) 999 ∧ rng (f 1) (-9) 9 ∧ rng (f 2) (-9) 9 ∧ rng (f 3) 0 3 ∧ rng (f 8) 0 100 ∧ rng (f 9) 0 3 ∧ rng (f 10) 0 99 ∧ isS (f 5)
theorem node_g {k q : Nat} (he : e ≤ 400) (hk : k < 8) (hg : gq T e q) : (∀ f, sNode T e k q = .inl f → f ≤ e) ∧ ∀ q' f, sNode T e k q = .inr (q', f) → gq T e q' ∧ q ≤ q' ∧ NF f := by
  unfold sNode
  obtain ⟨a1, a2⟩ := oV_g (a := 17) (b := 18) (hi := 999) (B := 999) he hg (by omega) (by omega) (by decide) (by decide) (by omega)
  refine ⟨fun f h => ?_, fun q' f h => ?_⟩
  · rcases vB_inl h with h | ⟨q1, x1, h1, h⟩
    · exact a1 f h
    obtain ⟨g1, l1, r1⟩ := a2 q1 x1 h1
    obtain ⟨b1, b2⟩ := oV_g (a := 1) (b := 2) (hi := 9) (B := 9) he g1 (by omega) (by omega) (by decide) (by decide) (by omega)
    rcases vB_inl h with h | ⟨q2, x2, h2, h⟩
    · exact b1 f h
    obtain ⟨g2, l2, r2⟩ := b2 q2 x2 h2
    rcases vB_inl h with h | ⟨q3, x3, h3, h⟩
    · exact (fV_g he g2).1 f h
    obtain ⟨g3, l3, r3⟩ := (fV_g he g2).2 q3 x3 h3
    obtain ⟨k1, k2, k3⟩ := kV_g he g3
    rcases vB_inl h with h | ⟨q4, x4, h4, h⟩
    · exact (hV_g he k1).1 f h
    cases h
  · obtain ⟨q1, x1, h1, h⟩ := vB_inr h
    obtain ⟨g1, l1, r1⟩ := a2 q1 x1 h1
    obtain ⟨b1, b2⟩ := oV_g (a := 1) (b := 2) (hi := 9) (B := 9) he g1 (by omega) (by omega) (by decide) (by decide) (by omega)
    obtain ⟨q2, x2, h2, h⟩ := vB_inr h
    obtain ⟨g2, l2, r2⟩ := b2 q2 x2 h2
    obtain ⟨q3, x3, h3, h⟩ := vB_inr h
    obtain ⟨g3, l3, r3⟩ := (fV_g he g2).2 q3 x3 h3
    obtain ⟨k1, k2, k3⟩ := kV_g he g3
    obtain ⟨q4, x4, h4, h⟩ := vB_inr h
    obtain ⟨g4, l4, r4⟩ := (hV_g he k1).2 q4 x4 h4
    obtain ⟨t1, t2, t3⟩ := tV_g he g4
    generalize (kV T e q3).2 = kd at k3 h
    generalize (tV T e q4).2 = st at t3 h
    cases h
    refine ⟨t1, by omega, r1, r2, ?_, ?_, r3, ?_, r4, ?_⟩
    · exact rng_0 (by omega) (by omega)
    · show rng st 0 3
      rcases t3 with rfl | rfl | rfl <;> exact ⟨by decide, by decide⟩
    · show rng kd 0 3
      rcases k3 with rfl | rfl | rfl | rfl <;> exact ⟨by decide, by decide⟩
    · show isS (if st = 2 then bit1 k else 0)
      by_cases z : st = 2
      · rw [if_pos z]; exact isS_one hk
      · rw [if_neg z]; exact isS_0
/-- what a line keeps -/
def okC (c : Nat) (v : Vec) : Prop := WFv c v ∧ BV c v
theorem okC_node {c : Nat} {v f : Vec} (h : okC c v) (hc : c < 8) (hf : NF f) : okC (c + 1) (nodeV v c f) := by
  obtain ⟨⟨w1, w2, w3⟩, b1, b4, b5, b6⟩ := h
  obtain ⟨f0, f1, f2, f3, f8, f9, f10, f5⟩ := hf
  refine ⟨⟨by omega, nodeV_3, fun k hk => ?_⟩, fun k hk => ?_, ?_, ?_, ?_⟩
  · rw [nodeV_nd (by omega)]
    split
    · exact f5
    · exact w3 k hk
  · unfold BN
    rw [nodeV_nd (by omega), nodeV_nd (by omega), nodeV_nd (by omega), nodeV_nd (by omega), nodeV_nd (by omega), nodeV_nd (by omega), nodeV_nd (by omega)]
    by_cases e1 : k = c
    · simp only [e1, if_true]
      exact ⟨f0, f1, f2, f3, f8, f9, f10⟩
    · simp only [e1, if_false]
      exact b1 k (by omega)
  · rw [nodeV_low (by omega) (by omega)]; exact b4
  · rw [nodeV_low (by omega) (by omega)]; exact b5
  · rw [nodeV_low (by omega) (by omega)]; exact b6
theorem okC_set {c i : Nat} {v : Vec} {x : Int32} (h : okC c v) (hi : (i = 4 ∨ i = 5) ∧ rng x 1 999 ∨ i = 6 ∧ rng x 0 9999) : okC c (vset v i x) := by
  obtain ⟨⟨w1, w2, w3⟩, b1, b4, b5, b6⟩ := h
  have hn : ∀ k w, nd (vset v i x) k w = nd v k w := fun k w => by unfold nd; rw [vset_ne (by omega)]
  refine ⟨⟨w1, by rw [vset_ne (by omega)]; exact w2, fun k hk => by rw [hn]; exact w3 k hk⟩, fun k hk => ?_, ?_, ?_, ?_⟩
  · unfold BN
    rw [hn, hn, hn, hn, hn, hn, hn]
    exact b1 k hk
  · by_cases e1 : i = 4
    · rw [e1, vset_at]
      rcases hi with hi | hi
      · exact hi.2
      · omega
    · rw [vset_ne (by omega)]; exact b4
  · by_cases e1 : i = 5
    · rw [e1, vset_at]
      rcases hi with hi | hi
      · exact hi.2
      · omega
    · rw [vset_ne (by omega)]; exact b5
  · by_cases e1 : i = 6
    · rw [e1, vset_at]
      rcases hi with hi | hi
      · omega
      · exact hi.2
    · rw [vset_ne (by omega)]; exact b6
/-- what a text leaves as it was -/
def sameC (u v : Vec) : Prop := ∀ i, (i = 0 ∨ i = 1 ∨ i = 2 ∨ i = 7 ∨ i = 8 ∨ 97 ≤ i) → u i = v i
theorem cline_g {c q : Nat} {v : Vec} (he : e ≤ 400) (hg : gq T e q) (h : okC c v) : (∀ f, sLine T e c v q = .inl f → f ≤ e) ∧ ∀ q' c' v', sLine T e c v q = .inr (q', c', v') → gq T e q' ∧ q < q' ∧ okC c' v' ∧ sameC v' v := by
  have h8 := h.1.1
  unfold sLine
  have num : ∀ (i : Nat) (lo : Int32), (i = 4 ∨ i = 5) ∧ lo = 1 ∨ i = 6 ∧ lo = 0 → q < e → (∀ f, vB (nV T e lo 999 (nx T e q)) (fun q' x => (.inr (q', c, vset v i x) : Nat ⊕ (Nat × Nat × Vec))) = .inl f → f ≤ e) ∧ ∀ q' c' v', vB (nV T e lo 999 (nx T e q)) (fun q' x => (.inr (q', c, vset v i x) : Nat ⊕ (Nat × Nat × Vec))) = .inr (q', c', v') → gq T e q' ∧ q < q' ∧ okC c' v' ∧ sameC v' v := by
    intro i lo hi hq
    have hn := nx_lt (T := T) he hq
    have hlo : 0 ≤ lo := by rcases hi with ⟨-, rfl⟩ | ⟨-, rfl⟩ <;> decide
    obtain ⟨p1, p2⟩ := nV_g (lo := lo) (hi := 999) he (gq_nx he hq) hlo (by decide)
    refine ⟨fun f hf => ?_, fun q' c' v' hx => ?_⟩
    · rcases vB_inl hf with hf | ⟨q1, x1, h1, hf⟩
      · exact p1 f hf
      · cases hf
    · obtain ⟨q1, x1, h1, hf⟩ := vB_inr hx
      obtain ⟨a1, a2, a3, a4⟩ := p2 q1 x1 h1
      cases hf
      refine ⟨a1, by omega, okC_set h ?_, fun j hj => vset_ne (by omega)⟩
      rcases hi with ⟨hi, rfl⟩ | ⟨hi, rfl⟩
      · exact Or.inl ⟨hi, rng_of a3 a4 (by decide) (by decide)⟩
      · exact Or.inr ⟨hi, rng_mono (rng_of a3 a4 (a := 0) (b := 999) (by decide) (by decide)) (by omega) (by omega)⟩
  by_cases h1 : cd T e q = nI (1000 + 0)
  · have hq := code_lt h1 (by omega)
    have hn := nx_lt (T := T) he hq
    rw [if_pos h1]
    by_cases hc : c = 8
    · rw [if_pos hc]
      exact ⟨fun f hf => (by cases hf; exact hg.1), fun q' c' v' hx => by cases hx⟩
    · rw [if_neg hc]
      obtain ⟨p1, p2⟩ := node_g (k := c) he (by omega) (gq_nx he hq)
      cases hs : sNode T e c (nx T e q) with
      | inl f => exact ⟨fun f' hf => (by cases hf; exact p1 f hs), fun q' c' v' hx => by cases hx⟩
      | inr r =>
        obtain ⟨a1, a2, a3⟩ := p2 r.1 r.2 hs
        refine ⟨fun f' hf => (by cases hf), fun q' c' v' hx => ?_⟩
        cases hx
        refine ⟨a1, by omega, okC_node h (by omega) a3, fun j hj => ?_⟩
        by_cases h97 : 97 ≤ j
        · exact nodeV_high (by omega) h97
        · exact nodeV_low (by omega) (by omega)
  · rw [if_neg h1]
    by_cases h2 : cd T e q = nI (1000 + 23)
    · rw [if_pos h2]
      exact num 4 1 (Or.inl ⟨Or.inl rfl, rfl⟩) (code_lt h2 (by omega))
    · rw [if_neg h2]
      by_cases h3 : cd T e q = nI (1000 + 24)
      · rw [if_pos h3]
        exact num 5 1 (Or.inl ⟨Or.inr rfl, rfl⟩) (code_lt h3 (by omega))
      · rw [if_neg h3]
        by_cases h4 : cd T e q = nI (1000 + 25)
        · rw [if_pos h4]
          exact num 6 0 (Or.inr ⟨rfl, rfl⟩) (code_lt h4 (by omega))
        · rw [if_neg h4]
          exact ⟨fun f hf => (by cases hf; exact hg.1), fun q' c' v' hx => by cases hx⟩
theorem sameC_trans {u v w : Vec} (h1 : sameC u v) (h2 : sameC v w) : sameC u w := fun i hi => (h1 i hi).trans (h2 i hi)
theorem clines_g (he : e ≤ 400) : ∀ (m q c : Nat) (v : Vec), gq T e q → okC c v → (∀ f, sLines T e m q c v = .inl f → f ≤ e) ∧ ∀ c' v', sLines T e m q c v = .inr (c', v') → okC c' v' ∧ sameC v' v
  | 0, q, c, v, hg, hv => ⟨fun f hf => (by cases hf; exact hg.1), fun c' v' hx => by cases hx⟩
  | m + 1, q, c, v, hg, hv => by
    unfold sLines
    obtain ⟨p1, p2⟩ := cline_g (T := T) he hg hv
    cases hs : sLine T e c v q with
    | inl f => exact ⟨fun f' hf => (by cases hf; exact p1 f hs), fun c' v' hx => by cases hx⟩
    | inr r =>
      obtain ⟨q', c', v'⟩ := r
      obtain ⟨a1, a2, a3, a4⟩ := p2 q' c' v' hs
      dsimp only
      by_cases h59 : cd T e q' = 2059
      · rw [if_pos h59]
        have ih := clines_g he m (nx T e q') c' v' (gq_nx he (cd_lt (by rw [h59]; decide))) a3
        exact ⟨ih.1, fun c2 v2 hx => ⟨(ih.2 c2 v2 hx).1, sameC_trans (ih.2 c2 v2 hx).2 a4⟩⟩
      · rw [if_neg h59]
        by_cases h01 : cd T e q' = 3001
        · rw [if_pos h01]
          exact ⟨fun f' hf => (by cases hf), fun c2 v2 hx => by cases hx; exact ⟨a3, a4⟩⟩
        · rw [if_neg h01]
          exact ⟨fun f' hf => (by cases hf; exact a1.1), fun c2 v2 hx => by cases hx⟩
theorem sCl_g {c : Nat} {v : Vec} (he : e ≤ 400) (hv : okC c v) : (∀ f, sCl T e c v = .inl f → f ≤ e) ∧ ∀ c' v', sCl T e c v = .inr (c', v') → okC c' v' ∧ sameC v' v := by
  have hg0 : gq T e (nxt T e 0) := by
    obtain ⟨-, b, d, -⟩ := nxt_spec (T := T) (p := 0) he (by omega)
    exact ⟨b, d⟩
  unfold sCl
  by_cases h0 : cd T e (nxt T e 0) = 3001
  · rw [if_pos h0]
    exact ⟨fun f' hf => (by cases hf), fun c2 v2 hx => by cases hx; exact ⟨hv, fun _ _ => rfl⟩⟩
  · rw [if_neg h0]
    exact clines_g he 14 _ c v hg0 hv
end QG
