/-! the model's methods leave the law's cell out[0] alone -/
def KM (v : Int32) (μ : ZMem) : Prop := μ (0, 31, 0) 0 = v
def wk {α : Type} (x : Option α) (P : α → Prop) : Prop := ∀ a, x = some a → P a
def wkS {σ ρ : Type} (I : σ → Prop) (P : ρ → Prop) (z : σ ⊕ ρ) : Prop := (∀ s, z = .inl s → I s) ∧ ∀ r, z = .inr r → P r
section WK
variable {v : Int32} {α β γ δ ε ζ η ρ : Type} {μ : ZMem}
theorem km_set {o : ZId} {k : Nat} {x : Int32} (h : KM v μ) (ho : o.2.1 ≠ 31) : KM v (mset μ o k x) := by
  show mset μ o k x (0, 31, 0) 0 = v
  rw [mset_ne (by intro e; rw [← e] at ho; exact ho rfl)]
  exact h
theorem km_if {c : Prop} [Decidable c] {a b : ZMem} (h1 : KM v a) (h2 : KM v b) : KM v (if c then a else b) := by
  by_cases hc : c
  · rw [if_pos hc]; exact h1
  · rw [if_neg hc]; exact h2
theorem km_zltm {x : ZMem} {f : ZMem → ZMem} (h1 : KM v x) (h2 : ∀ a, KM v a → KM v (f a)) : KM v (zlt x f) := h2 x h1
theorem km_zlt {x : α} {f : α → ZMem} (h2 : ∀ a, KM v (f a)) : KM v (zlt x f) := h2 x
theorem wk_T {x : Option α} : wk x (fun _ => True) := fun _ _ => trivial
theorem wk_m (h : KM v μ) : wk (some μ) (KM v) := fun a e => by cases e; exact h
theorem wk_im {a : α} (h : KM v μ) : wk (some (a, μ)) (fun q => KM v q.2) := fun a e => by cases e; exact h
theorem wk_iim {a : α} {b : β} (h : KM v μ) : wk (some (a, b, μ)) (fun q => KM v q.2.2) := fun a e => by cases e; exact h
theorem wk_inl {s : α} {I : α → Prop} {P : ρ → Prop} (h : I s) : wk (some (Sum.inl s)) (wkS I P) := fun a e => by cases e; exact ⟨(fun s e => by cases e; exact h), (fun r e => by cases e)⟩
theorem wk_inr {r : ρ} {I : α → Prop} {P : ρ → Prop} (h : P r) : wk (some (Sum.inr r)) (wkS I P) := fun a e => by cases e; exact ⟨(fun s e => by cases e), (fun r e => by cases e; exact h)⟩
variable {Q : ρ → Prop}
theorem wk_bdm {x : Option ZMem} {f : ZMem → Option ρ} (h1 : wk x (KM v)) (h2 : ∀ a, KM v a → wk (f a) Q) : wk (bd x f) Q := fun q e => by
  obtain ⟨a, h, e⟩ := bd_some e
  exact h2 a (h1 a h) q e
theorem wk_bd {x : Option α} {f : α → Option ρ} (h2 : ∀ a, wk (f a) Q) : wk (bd x f) Q := fun q e => by
  obtain ⟨a, h, e⟩ := bd_some e
  exact h2 a q e
theorem wk_bd2m {x : Option (α × ZMem)} {f : α → ZMem → Option ρ} (h1 : wk x (fun q => KM v q.2)) (h2 : ∀ a b, KM v b → wk (f a b) Q) : wk (bd2 x f) Q := fun q e => by
  obtain ⟨a, b, h, e⟩ := bd2_some e
  exact h2 a b (h1 _ h) q e
theorem wk_bd2 {x : Option (α × β)} {f : α → β → Option ρ} (h2 : ∀ a b, wk (f a b) Q) : wk (bd2 x f) Q := fun q e => by
  obtain ⟨a, b, h, e⟩ := bd2_some e
  exact h2 a b q e
theorem wk_bd3m {x : Option (α × β × ZMem)} {f : α → β → ZMem → Option ρ} (h1 : wk x (fun q => KM v q.2.2)) (h2 : ∀ a b c, KM v c → wk (f a b c) Q) : wk (bd3 x f) Q := fun q e => by
  obtain ⟨a, b, c, h, e⟩ := bd3_some e
  exact h2 a b c (h1 _ h) q e
theorem wk_bd3 {x : Option (α × β × γ)} {f : α → β → γ → Option ρ} (h2 : ∀ a b c, wk (f a b c) Q) : wk (bd3 x f) Q := fun q e => by
  obtain ⟨a, b, c, h, e⟩ := bd3_some e
  exact h2 a b c q e
theorem wk_bd4m {x : Option (α × β × γ × ZMem)} {f : α → β → γ → ZMem → Option ρ} (h1 : wk x (fun q => KM v q.2.2.2)) (h2 : ∀ a b c d, KM v d → wk (f a b c d) Q) : wk (bd4 x f) Q := fun q e => by
  obtain ⟨a, b, c, d, h, e⟩ := bd4_some e
  exact h2 a b c d (h1 _ h) q e
theorem wk_gd {b : Bool} {x : Option ρ} (h : wk x Q) : wk (gd b x) Q := fun q e => h q (gd_some e).2
theorem wk_if {c : Prop} [Decidable c] {x z : Option ρ} (h1 : wk x Q) (h2 : wk z Q) : wk (if c then x else z) Q := by
  by_cases hc : c
  · rw [if_pos hc]; exact h1
  · rw [if_neg hc]; exact h2
theorem wk_jk {K : Option ρ} {f : Option ρ → Option ρ} (h1 : wk K Q) (h2 : ∀ k, wk k Q → wk (f k) Q) : wk (jk K f) Q := h2 K h1
theorem wk_zltm {x : ZMem} {f : ZMem → Option ρ} (h1 : KM v x) (h2 : ∀ a, KM v a → wk (f a) Q) : wk (zlt x f) Q := h2 x h1
theorem wk_zlt {x : α} {f : α → Option ρ} (h2 : ∀ a, wk (f a) Q) : wk (zlt x f) Q := h2 x
theorem wk_lp0 {σ : Type} {F : σ → Option (σ ⊕ ρ)} {I : σ → Prop} (h : ∀ s, I s → wk (F s) (wkS I Q)) : ∀ (n : Nat) (s : σ), I s → wk (lp F n s) Q := by
  intro n
  induction n with
  | zero => intro s hs r e; cases e
  | succ n ih =>
    intro s hs r e
    unfold lp at e
    cases hF : F s with
    | none => rw [hF] at e; cases e
    | some z =>
      rw [hF] at e
      have hz := h s hs z hF
      cases z with
      | inl s' => exact ih s' (hz.1 s' rfl) r e
      | inr r' => cases e; exact hz.2 _ rfl
theorem wk_lp1 {f : ZMem → Option (ZMem ⊕ ρ)} {n : Nat} {s0 : ZMem} (h0 : KM v s0) (h : ∀ b, KM v b → wk (f b) (wkS (KM v) Q)) : wk (lp f n s0) Q := wk_lp0 (I := KM v) h n s0 h0
theorem wk_lp2 {f : α → ZMem → Option ((α × ZMem) ⊕ ρ)} {n : Nat} {s0 : α × ZMem} (h0 : KM v s0.2) (h : ∀ a b, KM v b → wk (f a b) (wkS (fun s => KM v s.2) Q)) : wk (lp (fun q => un2 q f) n s0) Q := wk_lp0 (I := fun s => KM v s.2) (fun s hs => h s.1 s.2 hs) n s0 h0
theorem wk_lp3 {f : α → β → ZMem → Option ((α × β × ZMem) ⊕ ρ)} {n : Nat} {s0 : α × β × ZMem} (h0 : KM v s0.2.2) (h : ∀ a b c, KM v c → wk (f a b c) (wkS (fun s => KM v s.2.2) Q)) : wk (lp (fun q => un3 q f) n s0) Q := wk_lp0 (I := fun s => KM v s.2.2) (fun s hs => h s.1 s.2.1 s.2.2 hs) n s0 h0
theorem wk_lp4 {f : α → β → γ → ZMem → Option ((α × β × γ × ZMem) ⊕ ρ)} {n : Nat} {s0 : α × β × γ × ZMem} (h0 : KM v s0.2.2.2) (h : ∀ a b c d, KM v d → wk (f a b c d) (wkS (fun s => KM v s.2.2.2) Q)) : wk (lp (fun q => un4 q f) n s0) Q := wk_lp0 (I := fun s => KM v s.2.2.2) (fun s hs => h s.1 s.2.1 s.2.2.1 s.2.2.2 hs) n s0 h0
theorem wk_lp5 {f : α → β → γ → δ → ZMem → Option ((α × β × γ × δ × ZMem) ⊕ ρ)} {n : Nat} {s0 : α × β × γ × δ × ZMem} (h0 : KM v s0.2.2.2.2) (h : ∀ a b c d e, KM v e → wk (f a b c d e) (wkS (fun s => KM v s.2.2.2.2) Q)) : wk (lp (fun q => un5 q f) n s0) Q := wk_lp0 (I := fun s => KM v s.2.2.2.2) (fun s hs => h s.1 s.2.1 s.2.2.1 s.2.2.2.1 s.2.2.2.2 hs) n s0 h0
theorem wk_jkm {K : ZMem → Option ρ} {f : (ZMem → Option ρ) → Option ρ} (h1 : ∀ b, KM v b → wk (K b) Q) (h2 : ∀ k : ZMem → Option ρ, (∀ b, KM v b → wk (k b) Q) → wk (f k) Q) : wk (jk K f) Q := h2 K h1
theorem wk_bds {x : Option (Unit ⊕ (β × ZMem))} {f : Unit ⊕ (β × ZMem) → Option ρ} (h1 : wk x (wkS (fun _ => True) (fun q => KM v q.2))) (h2 : ∀ z, wkS (fun _ => True) (fun q => KM v q.2) z → wk (f z) Q) : wk (bd x f) Q := fun q e => by
  obtain ⟨a, h, e⟩ := bd_some e
  exact h2 a (h1 a h) q e
theorem wk_smu {z : Unit ⊕ (β × ZMem)} {f : Unit → Option (β × ZMem)} (hz : wkS (fun _ => True) (fun q => KM v q.2) z) (h1 : wk (f ()) (fun q => KM v q.2)) : wk (sm z f (fun r0 => some r0)) (fun q => KM v q.2) := by
  cases z with
  | inl a => exact h1
  | inr b => intro q e; cases e; exact hz.2 _ rfl
theorem wk_lpT {f : α → Option (α ⊕ ρ)} {n : Nat} {s0 : α} (h : ∀ a, wk (f a) (wkS (fun _ => True) Q)) : wk (lp f n s0) Q := wk_lp0 (I := fun _ => True) (fun s _ => h s) n s0 trivial
theorem wk_lpT2 {f : α → β → Option ((α × β) ⊕ ρ)} {n : Nat} {s0 : α × β} (h : ∀ a b, wk (f a b) (wkS (fun _ => True) Q)) : wk (lp (fun q => un2 q f) n s0) Q := wk_lp0 (I := fun _ => True) (fun s _ => h s.1 s.2) n s0 trivial
theorem wk_zl2 {x : α × β} {f : α → β → Option ρ} (h : ∀ a b, wk (f a b) Q) : wk (zl2 x f) Q := h x.1 x.2
theorem wkS_inl {s : α} {I : α → Prop} {P : ρ → Prop} (h : I s) : wkS I P (Sum.inl s) := ⟨(fun s e => by cases e; exact h), (fun r e => by cases e)⟩
theorem wkS_inr {r : ρ} {I : α → Prop} {P : ρ → Prop} (h : P r) : wkS I P (Sum.inr r) := ⟨(fun s e => by cases e), (fun r e => by cases e; exact h)⟩
end WK
