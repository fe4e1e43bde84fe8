/-! the pure part: rules for programs -/
def ok {α : Type} (x : Option α) (Q : α → Prop) : Prop := ∃ a, x = some a ∧ Q a
theorem ok_some {α : Type} {a : α} {Q : α → Prop} (h : Q a) : ok (some a) Q := ⟨a, rfl, h⟩
theorem ok_eq {α : Type} {x : Option α} {a : α} {Q : α → Prop} (e : x = some a) (h : Q a) : ok x Q := ⟨a, e, h⟩
theorem ok_mono {α : Type} {x : Option α} {Q Q' : α → Prop} (h : ok x Q) (hq : ∀ a, Q a → Q' a) : ok x Q' := by
  obtain ⟨a, e, h⟩ := h
  exact ⟨a, e, hq a h⟩
theorem ok_bd {α β : Type} {x : Option α} {f : α → Option β} {Q : β → Prop} (h : ok x (fun a => ok (f a) Q)) : ok (bd x f) Q := by
  obtain ⟨a, e, h⟩ := h
  rw [e]
  exact h
theorem ok_bd2 {α β ρ : Type} {x : Option (α × β)} {f : α → β → Option ρ} {Q : ρ → Prop} (h : ok x (fun q => ok (f q.1 q.2) Q)) : ok (bd2 x f) Q := by
  obtain ⟨a, e, h⟩ := h
  rw [e]
  exact h
theorem ok_bd3 {α β γ ρ : Type} {x : Option (α × β × γ)} {f : α → β → γ → Option ρ} {Q : ρ → Prop} (h : ok x (fun q => ok (f q.1 q.2.1 q.2.2) Q)) : ok (bd3 x f) Q := by
  obtain ⟨a, e, h⟩ := h
  rw [e]
  exact h
theorem ok_gd {α : Type} {b : Bool} {x : Option α} {Q : α → Prop} (hb : b = true) (h : ok x Q) : ok (gd b x) Q := by
  rw [hb]
  exact h
theorem ok_if {α : Type} {c : Prop} [Decidable c] {A B : Option α} {Q : α → Prop} (h1 : c → ok A Q) (h2 : ¬ c → ok B Q) : ok (if c then A else B) Q := by
  by_cases h : c
  · rw [if_pos h]; exact h1 h
  · rw [if_neg h]; exact h2 h
theorem bd_eq {α β : Type} {x : Option α} {a : α} {f : α → Option β} (e : x = some a) : bd x f = f a := by rw [e]; rfl
theorem bd2_eq {α β ρ : Type} {x : Option (α × β)} {a : α} {b : β} {f : α → β → Option ρ} (e : x = some (a, b)) : bd2 x f = f a b := by rw [e]; rfl
theorem bd3_eq {α β γ ρ : Type} {x : Option (α × β × γ)} {a : α} {b : β} {c : γ} {f : α → β → γ → Option ρ} (e : x = some (a, b, c)) : bd3 x f = f a b c := by rw [e]; rfl
theorem gd_eq {α : Type} {b : Bool} {x : Option α} (h : b = true) : gd b x = x := by rw [h]; rfl
theorem zlt_eq {α β : Type} {x : α} {f : α → β} : zlt x f = f x := rfl
/-- loops: a measure that falls -/
theorem ok_lp {σ ρ : Type} {F : σ → Option (σ ⊕ ρ)} {Q : ρ → Prop} (I : Nat → σ → Prop) (step : ∀ n s, I n s → ok (F s) (fun z => match z with
    | .inl s' => ∃ m, m < n ∧ I m s'
    | .inr r => Q r)) {N : Nat} {s : σ} (h0 : I N s) (hN : N < FU) : ok (lp F FU s) Q := by
  have key : ∀ (f n : Nat) (s : σ), n < f → I n s → ok (lp F f s) Q := by
    intro f
    induction f with
    | zero => intro n s h; omega
    | succ f ih =>
      intro n s hn hI
      obtain ⟨z, e, hz⟩ := step n s hI
      cases z with
      | inl s' =>
        obtain ⟨m, hm, hI'⟩ := hz
        have h1 := ih m s' (by omega) hI'
        unfold lp
        rw [e]
        exact h1
      | inr r =>
        unfold lp
        rw [e]
        exact ⟨r, rfl, hz⟩
  exact key FU N s hN h0
/-- loops that count: the states one after another, told by what holds of them -/
theorem ok_seq {σ ρ : Type} {F : σ → Option (σ ⊕ ρ)} {Q : ρ → Prop} (n : Nat) (I : Nat → σ → Prop) (step : ∀ k s, k < n → I k s → ok (F s) (fun z => ∃ s', z = .inl s' ∧ I (k + 1) s')) (fin : ∀ s, I n s → ok (F s) (fun z => ∃ r, z = .inr r ∧ Q r)) {s : σ} (h0 : I 0 s) (hn : n < FU) : ok (lp F FU s) Q := by
  refine ok_lp (fun m s => ∃ k, k + m = n ∧ I k s) ?_ (N := n) ⟨0, by omega, h0⟩ hn
  rintro m s ⟨k, hk, hI⟩
  rcases Nat.lt_or_ge k n with h | h
  · refine ok_mono (step k s h hI) ?_
    rintro z ⟨s', rfl, hI'⟩
    exact ⟨m - 1, by omega, k + 1, by omega, hI'⟩
  · have e : k = n := by omega
    subst e
    refine ok_mono (fin s hI) ?_
    rintro z ⟨r, rfl, hr⟩
    exact hr
/-- loops that count and read alone -/
theorem lp_seq {σ ρ : Type} {F : σ → Option (σ ⊕ ρ)} {r : ρ} (n : Nat) (s : Nat → σ) (step : ∀ k, k < n → F (s k) = some (.inl (s (k + 1)))) (fin : F (s n) = some (.inr r)) (hn : n < FU) {s0 : σ} (h0 : s 0 = s0) : lp F FU s0 = some r := by
  subst h0
  obtain ⟨a, e, h⟩ := ok_seq (F := F) (Q := fun q => q = r) n (fun k t => t = s k) (fun k t hk ht => by rw [ht, step k hk]; exact ⟨_, rfl, _, rfl, rfl⟩) (fun t ht => by rw [ht, fin]; exact ⟨_, rfl, _, rfl, rfl⟩) (s := s 0) rfl hn
  rw [e, h]
theorem FU_lt {n : Nat} (h : n < 1000000) : n < FU := h
/-! numbers -/
theorem nI_inj' {a b : Nat} (ha : a < 2 ^ 31) (hb : b < 2 ^ 31) : nI a = nI b ↔ a = b := by
  constructor
  · intro h
    have := congrArg Int32.toInt h
    unfold nI at this
    rw [Int32.toInt_ofNat_of_lt (by omega), Int32.toInt_ofNat_of_lt (by omega)] at this
    omega
  · intro h; rw [h]
theorem nI_le' {a b : Nat} (ha : a < 2 ^ 31) (hb : b < 2 ^ 31) : nI a ≤ nI b ↔ a ≤ b := by
  rw [Int32.le_iff_toInt_le, nI_toInt ha, nI_toInt hb]
  omega
theorem nI_lt' {a b : Nat} (ha : a < 2 ^ 31) (hb : b < 2 ^ 31) : nI a < nI b ↔ a < b := by
  rw [Int32.lt_iff_toInt_lt, nI_toInt ha, nI_toInt hb]
  omega
theorem nI_cl {a : Nat} (ha : a < 2 ^ 31) : (nI a).toNatClampNeg = a := by
  unfold Int32.toNatClampNeg
  rw [nI_toInt ha]
  omega
theorem zin_nI {a n : Nat} (ha : a < n) (hn : n ≤ 2 ^ 31) : zin (nI a) n = true := by
  simp only [zin, Bool.and_eq_true, decide_eq_true_eq]
  refine ⟨?_, by rw [nI_cl (by omega)]; exact ha⟩
  rw [Int32.le_iff_toInt_le, nI_toInt (by omega)]
  show (0 : Int) ≤ _
  omega
/-! sets as bits -/
def bset (p : Nat → Bool) : Nat → Int32
  | 0 => 0
  | n + 1 => bset p n ||| (if p n then (1 : Int32) <<< (nI n &&& 31) else 0)
theorem f_X7_inState_eq {μ : ZMem} {s c : Nat} {t : Int32} (hc : μ (1, s, 0) 4 = nI c) (h8 : c ≤ 8) : f_X7_inState s t μ = some (bset (fun k => decide (μ (3, s, k) 3 = t)) c) := by
  unfold f_X7_inState
  refine (bd_eq (lp_seq c (fun k => (bset (fun k => decide (μ (3, s, k) 3 = t)) k, nI k)) ?_ ?_ (FU_lt (by omega)) rfl)).trans rfl
  · intro k hk
    simp only [un2, hc]
    rw [if_neg (by rw [nI_le' (by omega) (by omega)]; omega), gd_eq (zin_nI (by omega) (by omega)), nI_cl (by omega)]
    simp only [zlt, bset, f_X11_bit, decide_eq_true_eq, nI_1]
    by_cases h : μ (3, s, k) 3 = t
    · rw [if_pos h, if_pos h]
    · rw [if_neg h, if_neg h]; simp
  · simp only [un2, hc]
    rw [if_pos (by rw [nI_le' (by omega) (by omega)]; omega)]
