/-! rules once more, with names for what comes out -/
theorem ok_b1 {α β : Type} {x : Option α} {f : α → Option β} {P : α → Prop} {Q : β → Prop} (h : ok x P) (k : ∀ a, P a → ok (f a) Q) : ok (bd x f) Q := ok_bd (ok_mono h k)
theorem ok_b2 {α β ρ : Type} {x : Option (α × β)} {f : α → β → Option ρ} {P : α × β → Prop} {Q : ρ → Prop} (h : ok x P) (k : ∀ a b, P (a, b) → ok (f a b) Q) : ok (bd2 x f) Q := ok_bd2 (ok_mono h (fun q hq => k q.1 q.2 hq))
theorem jk_s {κ ρ : Type} {K : κ} {f : κ → ρ} : jk K f = f K := rfl
theorem un2_s {α β ρ : Type} {a : α} {b : β} {f : α → β → ρ} : un2 (a, b) f = f a b := rfl
theorem un3_s {α β γ ρ : Type} {a : α} {b : β} {c : γ} {f : α → β → γ → ρ} : un3 (a, b, c) f = f a b c := rfl
theorem un4_s {α β γ δ ρ : Type} {a : α} {b : β} {c : γ} {d : δ} {f : α → β → γ → δ → ρ} : un4 (a, b, c, d) f = f a b c d := rfl
/-! bounds -/
def rng (x : Int32) (a b : Int) : Prop := a ≤ x.toInt ∧ x.toInt ≤ b
theorem bmod_id {a : Int} (h1 : -2147483648 ≤ a) (h2 : a ≤ 2147483647) : a.bmod (2 ^ 32) = a := by
  unfold Int.bmod
  have e : ((2 ^ 32 : Nat) : Int) = 4294967296 := by decide
  rw [e]
  show (if a % 4294967296 < (4294967296 + 1) / 2 then a % 4294967296 else a % 4294967296 - 4294967296) = a
  split <;> omega
theorem rng_add {x y : Int32} {a b c d : Int} (hx : rng x a b) (hy : rng y c d) (h1 : -2147483648 ≤ a + c) (h2 : b + d ≤ 2147483647) : rng (x + y) (a + c) (b + d) := by
  obtain ⟨x1, x2⟩ := hx
  obtain ⟨y1, y2⟩ := hy
  unfold rng
  rw [Int32.toInt_add, bmod_id (by omega) (by omega)]
  omega
theorem rng_sub {x y : Int32} {a b c d : Int} (hx : rng x a b) (hy : rng y c d) (h1 : -2147483648 ≤ a - d) (h2 : b - c ≤ 2147483647) : rng (x - y) (a - d) (b - c) := by
  obtain ⟨x1, x2⟩ := hx
  obtain ⟨y1, y2⟩ := hy
  unfold rng
  rw [Int32.toInt_sub, bmod_id (by omega) (by omega)]
  omega
theorem rng_neg {x : Int32} {a b : Int} (hx : rng x a b) (h1 : -2147483647 ≤ a) (h2 : b ≤ 2147483647) : rng (-x) (-b) (-a) ∧ (-x).toInt = -x.toInt := by
  obtain ⟨x1, x2⟩ := hx
  unfold rng
  rw [Int32.toInt_neg, bmod_id (by omega) (by omega)]
  omega
theorem rng_mono {x : Int32} {a b c d : Int} (h : rng x a b) (h1 : c ≤ a) (h2 : b ≤ d) : rng x c d := ⟨Int.le_trans h1 h.1, Int.le_trans h.2 h2⟩
theorem rng_0 {a b : Int} (h1 : a ≤ 0) (h2 : 0 ≤ b) : rng 0 a b := ⟨h1, h2⟩
theorem rng_if {c : Prop} [Decidable c] {x y : Int32} {a b : Int} (h1 : c → rng x a b) (h2 : ¬ c → rng y a b) : rng (if c then x else y) a b := by
  by_cases h : c
  · rw [if_pos h]; exact h1 h
  · rw [if_neg h]; exact h2 h
theorem zabs_rng {x : Int32} {a b : Int} (h : rng x a b) (h1 : -2147483647 ≤ a) (h2 : b ≤ 2147483647) : (zabs x).toInt = if 0 ≤ x.toInt then x.toInt else -x.toInt := by
  have e : (0 ≤ x) ↔ 0 ≤ x.toInt := by rw [Int32.le_iff_toInt_le]; rfl
  unfold zabs
  by_cases h0 : 0 ≤ x.toInt
  · rw [if_pos (e.mpr h0), if_pos h0]
  · rw [if_neg (fun q => h0 (e.mp q)), if_neg h0, Int32.zero_sub]
    exact (rng_neg h h1 h2).2
theorem zabs_lt {x p : Int32} {a b : Int} (h : rng x a b) (h1 : -2147483647 ≤ a) (h2 : b ≤ 2147483647) (hp : rng p 0 2147483647) : p < zabs x ↔ ¬ (-p ≤ x ∧ x ≤ p) := by
  obtain ⟨-, hn⟩ := rng_neg hp (by omega) (by omega)
  have := h.1
  have := h.2
  have := hp.1
  rw [Int32.lt_iff_toInt_lt, Int32.le_iff_toInt_le, Int32.le_iff_toInt_le, hn, zabs_rng h h1 h2]
  split <;> omega
theorem zabs_sign (x : Int32) : zabs x = f_X12_sign x := by
  unfold zabs f_X12_sign
  by_cases h : 0 ≤ x
  · rw [if_pos h]
    have h2 : ¬ x < 0 := Int32.not_lt.mpr h
    rw [if_pos h]
    rfl
  · rw [if_neg h, Int32.zero_sub]
    have h2 : x < 0 := Int32.not_le.mp h
    rw [if_neg h]
    rfl
theorem greater_rng {x y : Int32} {a b c d : Int} (hx : rng x a b) (hy : rng y c d) : rng (f_X12_greater x y) (max a c) (max b d) := by
  obtain ⟨x1, x2⟩ := hx
  obtain ⟨y1, y2⟩ := hy
  rw [greater_eq]
  unfold rng
  by_cases h : y < x
  · rw [if_pos h]; rw [Int32.lt_iff_toInt_lt] at h; omega
  · rw [if_neg h]; rw [Int32.lt_iff_toInt_lt] at h; omega
theorem lesser_rng {x y : Int32} {a b c d : Int} (hx : rng x a b) (hy : rng y c d) : rng (f_X12_lesser x y) (min a c) (min b d) := by
  obtain ⟨x1, x2⟩ := hx
  obtain ⟨y1, y2⟩ := hy
  rw [lesser_eq]
  unfold rng
  by_cases h : x < y
  · rw [if_pos h]; rw [Int32.lt_iff_toInt_lt] at h; omega
  · rw [if_neg h]; rw [Int32.lt_iff_toInt_lt] at h; omega
theorem rng_all (x : Int32) : rng x (-2147483648) 2147483647 := ⟨by have := Int32.le_toInt x; omega, by have := Int32.toInt_lt x; omega⟩
theorem held_rng {x : Int32} : rng (f_X12_held x 999) (-999) 999 ∧ rng (f_X12_held x 9) (-9) 9 := by
  constructor
  · have h := greater_rng (x := -999) (y := f_X12_lesser 999 x) (a := -999) (b := -999) ⟨by decide, by decide⟩ (lesser_rng (x := 999) (y := x) (a := 999) (b := 999) ⟨by decide, by decide⟩ (rng_all x))
    exact rng_mono h (by omega) (by omega)
  · have h := greater_rng (x := -9) (y := f_X12_lesser 9 x) (a := -9) (b := -9) ⟨by decide, by decide⟩ (lesser_rng (x := 9) (y := x) (a := 9) (b := 9) ⟨by decide, by decide⟩ (rng_all x))
    exact rng_mono h (by omega) (by omega)
/-- what holds of the numbers of a vector -/
def BN (v : Vec) (k : Nat) : Prop := rng (nd v k 0) (-999) 999 ∧ rng (nd v k 1) (-9) 9 ∧ rng (nd v k 2) (-9) 9 ∧ rng (nd v k 3) 0 3 ∧ rng (nd v k 8) 0 100 ∧ rng (nd v k 9) 0 3 ∧ rng (nd v k 10) 0 99
def BV (c : Nat) (v : Vec) : Prop := (∀ k, k < c → BN v k) ∧ rng (v 4) 1 999 ∧ rng (v 5) 1 999 ∧ rng (v 6) 0 9999
def LB (L : LawS) : Prop := ∀ t e, rng (lsum L t e) 0 1188
theorem late_rng {L : LawS} {c k : Nat} {v : Vec} (hB : BV c v) (hL : LB L) (hk : k < c) : rng (lateS L c v k) 0 1287 := by
  obtain ⟨-, -, -, -, -, -, h⟩ := hB.1 k hk
  unfold lateS
  exact rng_mono (rng_add (a := 0) (b := 99) (rng_if (fun _ => h) (fun _ => rng_0 (by omega) (by omega))) (hL 0 _) (by omega) (by omega)) (by omega) (by omega)
theorem send_rng {L : LawS} {c k : Nat} {v : Vec} (hB : BV c v) (hL : LB L) (hk : k < c) : rng (sendS L c v k) (-999) 2286 :=
  rng_mono (rng_add (hB.1 k hk).1 (late_rng hB hL hk) (by omega) (by omega)) (by omega) (by omega)
theorem shift_rng {L : LawS} {c k o : Nat} {v : Vec} (hB : BV c v) (hL : LB L) (hk : k < c) : rng (shiftS L c v k o) (-999) 2385 := by
  obtain ⟨-, -, -, -, -, -, h⟩ := hB.1 k hk
  unfold shiftS
  exact rng_mono (rng_add (c := 0) (d := 99) (send_rng hB hL hk) (rng_if (fun _ => h) (fun _ => rng_0 (by omega) (by omega))) (by omega) (by omega)) (by omega) (by omega)
theorem off_rng {L : LawS} {c k o : Nat} {v : Vec} (hB : BV c v) (hL : LB L) (hk : k < c) (ho : o < c) : rng (offS L c v o k) (-1998) 3384 := by
  unfold offS
  exact rng_mono (rng_sub (shift_rng hB hL ho) (hB.1 k hk).1 (by omega) (by omega)) (by omega) (by omega)
theorem omit_le {L : LawS} {c k : Nat} {v : Vec} : omitS L c v k ≤ 100 := by
  unfold omitS
  by_cases h : nd v k 9 = 2
  · rw [if_pos h]; decide
  · rw [if_neg h]
    have := (lesser_rng (x := 100) (y := nd v k 8 + lsum L 1 (envS c v k)) (a := 100) (b := 100) ⟨by decide, by decide⟩ (rng_all _)).2
    rw [Int32.le_iff_toInt_le]
    have e : (100 : Int32).toInt = 100 := by decide
    omega
/-- the class's law n says L -/
def stP (n : Nat) (o : ZId) (_ : Nat) : Prop := o = (6, n, 4)
def LawC (y : ZLay) (μ0 : ZMem) (n : Nat) (L : LawS) : Prop := ∀ (μ : ZMem) (s c : Nat) (v : Vec), (∀ j, j < 4 → μ (6, n, j) = μ0 (6, n, j)) → μ (5, n, 0) = μ0 (5, n, 0) → CS μ s c v → (∀ k, k < 8 → isS (nd v k 5)) → ∀ k, k < c → ∀ t, t < 3 →
  ok (f_X3_sum y n s (nI k) (nI (1010 + t)) μ) (fun q => q.1 = lsum L t (envS c v k) ∧ fr (stP n) μ q.2)
theorem LawC_mv {y : ZLay} {μ0 μ1 : ZMem} {n : Nat} {L : LawS} (h : LawC y μ0 n L) (h1 : ∀ j, j < 4 → μ1 (6, n, j) = μ0 (6, n, j)) (h2 : μ1 (5, n, 0) = μ0 (5, n, 0)) : LawC y μ1 n L :=
  fun μ s c v e1 e2 => h μ s c v (fun j hj => (e1 j hj).trans (h1 j hj)) (e2.trans h2)
theorem LawC_fr {P : ZId → Nat → Prop} {y : ZLay} {μ0 μ1 : ZMem} {n : Nat} {L : LawS} (h : LawC y μ0 n L) (f : fr P μ0 μ1) (hP : ∀ i, (∀ j, j < 4 → ¬ P (6, n, j) i) ∧ ¬ P (5, n, 0) i) : LawC y μ1 n L :=
  LawC_mv h (fun j hj => fr_at f (fun i => (hP i).1 j hj)) (fr_at f (fun i => (hP i).2))
theorem CS_st {μ μ' : ZMem} {s c n : Nat} {v : Vec} (h : CS μ s c v) (f : fr (stP n) μ μ') : CS μ' s c v := CS_fr h f (fun i => ⟨zne (by decide), zne (by decide), fun k => zne (by decide)⟩)
theorem env_congr {c k : Nat} {u v : Vec} (h6 : u 6 = v 6) (hs : ∀ j, j < c → nd u j 3 = nd v j 3) (hx : ∀ x, (x = 1 ∨ x = 2 ∨ x = 4 ∨ x = 5 ∨ x = 6 ∨ x = 7 ∨ x = 8) → nd u k x = nd v k x) : envS c u k = envS c v k := by
  have e : actS u c = actS v c := bset_congr (fun j hj => by rw [hs j hj])
  funext t
  unfold envS
  rw [hx 1 (by omega), hx 2 (by omega), hx 5 (by omega), hx 6 (by omega), hx 7 (by omega), hx 4 (by omega), h6, e, hx 8 (by omega)]
