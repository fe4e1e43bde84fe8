/-! V, more: named arithmetic, ends by equations, and what is needed to follow a program -/
def zrem (x z : Int32) : Int32 := x - x / z * z
def zmax (x z : Int32) : Int32 := if x < z then z else x
def zmin (x z : Int32) : Int32 := if z < x then z else x
def zabs (x : Int32) : Int32 := if 0 ≤ x then x else 0 - x
def zmaxl (x z : Int64) : Int64 := if z < x then x else z
def gnz (z : Int32) : Bool := !(decide (z = 0))
theorem gnz_ne {z : Int32} (h : gnz z = true) : ¬ z = 0 := by simpa [gnz] using h
def gnzl (z : Int64) : Bool := !(decide (z = 0))
theorem gnzl_ne {z : Int64} (h : gnzl z = true) : ¬ z = 0 := by simpa [gnzl] using h
section VM
variable {p : Program} {l : Launch} {e : Env} {R : Room} {s : State} {m : MethodId} {args : Array Value} {below : List Frame} {meth : Method} {c : Code} {Q : State → Prop}
variable {own : String} {cc : ByteArray} {nL : Nat} {ret : Option FieldType} {Ts : List Cond} {D : va_G} {A : Nat → Prop} {y : ZLay} {kc ks : Nat}
variable {μ μ' : ZMem} {pc : Nat} {lv : List (Nat × Value)} {st : List Value} {r v : Int32}
theorem V_iretW (X : Cx p l e R s m args below meth c (MQ below (QI D y A r μ') args s kc ks A) own cc nL (some .int) Ts D A y kc ks) (h : some (v, μ) = some (r, μ')) (d : decode cc pc = .ok (.ireturn, 1)) : V X μ pc lv [.int v] := by
  cases h
  exact V_iret X d
theorem V_zretW (X : Cx p l e R s m args below meth c (MQ below (QI D y A r μ') args s kc ks A) own cc nL (some .boolean) Ts D A y kc ks) (h : some (v, μ) = some (r, μ')) (hb : zbo v = true) (d : decode cc pc = .ok (.ireturn, 1)) : V X μ pc lv [.int v] := by
  cases h
  exact V_zret X d hb
theorem V_iretR (X : Cx p l e R s m args below meth c (MQ below (QI D y A r μ) args s kc ks A) own cc nL (some .int) Ts D A y kc ks) (h : some v = some r) (d : decode cc pc = .ok (.ireturn, 1)) : V X μ pc lv [.int v] := by
  cases h
  exact V_iret X d
theorem V_zretR (X : Cx p l e R s m args below meth c (MQ below (QI D y A r μ) args s kc ks A) own cc nL (some .boolean) Ts D A y kc ks) (h : some v = some r) (hb : zbo v = true) (d : decode cc pc = .ok (.ireturn, 1)) : V X μ pc lv [.int v] := by
  cases h
  exact V_zret X d hb
theorem V_iretT (X : Cx p l e R s m args below meth c (MQ below (QI D y A r μ) args s kc ks A) own cc nL (some .int) Ts D A y kc ks) (h : v = r) (d : decode cc pc = .ok (.ireturn, 1)) : V X μ pc lv [.int v] := by
  cases h
  exact V_iret X d
theorem V_zretT (X : Cx p l e R s m args below meth c (MQ below (QI D y A r μ) args s kc ks A) own cc nL (some .boolean) Ts D A y kc ks) (h : v = r) (hb : zbo v = true) (d : decode cc pc = .ok (.ireturn, 1)) : V X μ pc lv [.int v] := by
  cases h
  exact V_zret X d hb
theorem V_vretW (X : Cx p l e R s m args below meth c (MQ below (QV D y A μ') args s kc ks A) own cc nL none Ts D A y kc ks) (h : some μ = some μ') (d : decode cc pc = .ok (.return_, 1)) : V X μ pc lv [] := by
  cases h
  exact V_vret X d
variable (X : Cx p l e R s m args below meth c Q own cc nL ret Ts D A y kc ks)
theorem V_rem {x z : Int32} (d : decode cc pc = .ok (.irem, 1)) (hne : ¬ z = 0) (k : V X μ (pc + 1) lv (.int (zrem x z) :: st)) : V X μ pc lv (.int z :: .int x :: st) := V_irem X d hne k
theorem V_inc {i : Nat} {n : Int} {x : Int32} (q : Nat) (kc' : Int32) (lv' : List (Nat × Value)) (d : decode cc pc = .ok (.iinc i n, 3)) (hq : lv[q]? = some (i, .int x)) (hv : Int32.ofInt n = kc') (hn : i < nL) (hl : (i, Value.int (x + kc')) :: lv.filter (fun q => !(q.1 == i) && !(q.1 + 1 == i && q.2.category == 2)) = lv') (k : V X μ (pc + 3) lv' st) : V X μ pc lv st := V_iinc X q (x + kc') lv' d hq (by rw [hv]) hn hl k

theorem V_zmax {x z : Int32} {ix : Nat} (hm1 : Cond.methodLink own ix Lib.Math.max.name ∈ Ts) (hm2 : Cond.static Lib.Math.max.name ∈ Ts) (hm3 : Cond.initialized "java/lang/Math" ∈ Ts) (hm4 : Cond.code Lib.Math.max.name Lib.Math.max.code 2 (some .int) ∈ Ts) (hfr : 1 ≤ R.frames) (hlo : (st.map fun v => v.category).sum + 13 ≤ R.locals) (d : decode cc pc = .ok (.invokestatic ix, 3)) (k : V X μ (pc + 3) lv (.int (zmax x z) :: st)) : V X μ pc lv (.int z :: .int x :: st) := V_max X hm1 hm2 hm3 hm4 hfr hlo d k
theorem V_zmin {x z : Int32} {ix : Nat} (hm1 : Cond.methodLink own ix Lib.Math.min.name ∈ Ts) (hm2 : Cond.static Lib.Math.min.name ∈ Ts) (hm3 : Cond.initialized "java/lang/Math" ∈ Ts) (hm4 : Cond.code Lib.Math.min.name Lib.Math.min.code 2 (some .int) ∈ Ts) (hfr : 1 ≤ R.frames) (hlo : (st.map fun v => v.category).sum + 13 ≤ R.locals) (d : decode cc pc = .ok (.invokestatic ix, 3)) (k : V X μ (pc + 3) lv (.int (zmin x z) :: st)) : V X μ pc lv (.int z :: .int x :: st) := V_min X hm1 hm2 hm3 hm4 hfr hlo d k
theorem V_zabs {x : Int32} {ix : Nat} (hm1 : Cond.methodLink own ix Lib.Math.abs.name ∈ Ts) (hm2 : Cond.static Lib.Math.abs.name ∈ Ts) (hm3 : Cond.initialized "java/lang/Math" ∈ Ts) (hm4 : Cond.code Lib.Math.abs.name Lib.Math.abs.code 1 (some .int) ∈ Ts) (hfr : 1 ≤ R.frames) (hlo : (st.map fun v => v.category).sum + 13 ≤ R.locals) (d : decode cc pc = .ok (.invokestatic ix, 3)) (k : V X μ (pc + 3) lv (.int (zabs x) :: st)) : V X μ pc lv (.int x :: st) := V_abs X hm1 hm2 hm3 hm4 hfr hlo d k
theorem V_zmaxl {x z : Int64} {ix : Nat} (hm1 : Cond.methodLink own ix Lib.MathLoose.max_long.x ∈ Ts) (hm2 : Cond.static Lib.MathLoose.max_long.x ∈ Ts) (hm3 : Cond.initialized "java/lang/Math" ∈ Ts) (hm4 : Cond.code Lib.MathLoose.max_long.x Lib.MathLoose.max_long.code 4 (some .long) ∈ Ts) (hfr : 1 ≤ R.frames) (hlo : (st.map fun v => v.category).sum + 15 ≤ R.locals) (d : decode cc pc = .ok (.invokestatic ix, 3)) (k : V X μ (pc + 3) lv (.long (zmaxl x z) :: st)) : V X μ pc lv (.long z :: .long x :: st) := V_maxl X hm1 hm2 hm3 hm4 hfr hlo d k
end VM
def rmq (F : Nat) : Room := { frames := F, cells := 0, slots := 0, locals := 40 * F + 200 }
theorem zlt_el {α β : Type} {x : α} {f : α → β} {r : β} {P : α → Prop} (h : zlt x f = r) (k : ∀ z, f z = r → P z) : P x := k x h
def zQ {σ ρ : Type} (P : σ → Prop) (r : ρ) (z : σ ⊕ ρ) : Prop := match z with
  | .inl s => P s
  | .inr q => q = r
theorem lp_ind {σ ρ : Type} {F : σ → Option (σ ⊕ ρ)} {r : ρ} {P : σ → Prop} (step : ∀ s z, F s = some z → zQ P r z → P s) : ∀ {N : Nat} {s : σ}, lp F N s = some r → P s
  | 0, _, h => by cases h
  | n + 1, s, h => by
    obtain ⟨z, hF, hz⟩ := lp_some h
    refine step s z hF ?_
    cases z with
    | inl s' => exact lp_ind step (N := n) hz
    | inr q => exact hz
def sm {α β γ : Type} (z : α ⊕ β) (f : α → γ) (g : β → γ) : γ := match z with
  | .inl a => f a
  | .inr b => g b

theorem sm_l {α β γ : Type} {a : α} {f : α → γ} {g : β → γ} {r : γ} (h : sm (.inl a) f g = r) : f a = r := h
def bd2 {α β ρ : Type} (x : Option (α × β)) (f : α → β → Option ρ) : Option ρ := match x with
  | none => none
  | some q => f q.1 q.2
theorem bd2_some {α β ρ : Type} {x : Option (α × β)} {f : α → β → Option ρ} {r : ρ} (h : bd2 x f = some r) : ∃ x0 x1, x = some (x0, x1) ∧ f x0 x1 = some r := by
  cases x with
  | none => cases h
  | some q => exact ⟨q.1, q.2, rfl, h⟩
def zl2 {α β ρ : Type} (q : α × β) (f : α → β → ρ) : ρ := f q.1 q.2
theorem zl2_some {α β ρ : Type} {q : α × β} {f : α → β → ρ} {r : ρ} (h : zl2 q f = r) : ∃ x0 x1, q = (x0, x1) ∧ f x0 x1 = r := ⟨q.1, q.2, rfl, h⟩
def un2 {α β ρ : Type} (q : α × β) (f : α → β → ρ) : ρ := f q.1 q.2
theorem un2_eq {α β ρ : Type} {x0 : α} {x1 : β} {f : α → β → ρ} {r : ρ} (h : un2 (x0, x1) f = r) : f x0 x1 = r := h
def bd3 {α β γ ρ : Type} (x : Option (α × β × γ)) (f : α → β → γ → Option ρ) : Option ρ := match x with
  | none => none
  | some q => f q.1 q.2.1 q.2.2
theorem bd3_some {α β γ ρ : Type} {x : Option (α × β × γ)} {f : α → β → γ → Option ρ} {r : ρ} (h : bd3 x f = some r) : ∃ x0 x1 x2, x = some (x0, x1, x2) ∧ f x0 x1 x2 = some r := by
  cases x with
  | none => cases h
  | some q => exact ⟨q.1, q.2.1, q.2.2, rfl, h⟩
def zl3 {α β γ ρ : Type} (q : α × β × γ) (f : α → β → γ → ρ) : ρ := f q.1 q.2.1 q.2.2
theorem zl3_some {α β γ ρ : Type} {q : α × β × γ} {f : α → β → γ → ρ} {r : ρ} (h : zl3 q f = r) : ∃ x0 x1 x2, q = (x0, x1, x2) ∧ f x0 x1 x2 = r := ⟨q.1, q.2.1, q.2.2, rfl, h⟩
def un3 {α β γ ρ : Type} (q : α × β × γ) (f : α → β → γ → ρ) : ρ := f q.1 q.2.1 q.2.2
theorem un3_eq {α β γ ρ : Type} {x0 : α} {x1 : β} {x2 : γ} {f : α → β → γ → ρ} {r : ρ} (h : un3 (x0, x1, x2) f = r) : f x0 x1 x2 = r := h
def bd4 {α β γ δ ρ : Type} (x : Option (α × β × γ × δ)) (f : α → β → γ → δ → Option ρ) : Option ρ := match x with
  | none => none
  | some q => f q.1 q.2.1 q.2.2.1 q.2.2.2
theorem bd4_some {α β γ δ ρ : Type} {x : Option (α × β × γ × δ)} {f : α → β → γ → δ → Option ρ} {r : ρ} (h : bd4 x f = some r) : ∃ x0 x1 x2 x3, x = some (x0, x1, x2, x3) ∧ f x0 x1 x2 x3 = some r := by
  cases x with
  | none => cases h
  | some q => exact ⟨q.1, q.2.1, q.2.2.1, q.2.2.2, rfl, h⟩
def zl4 {α β γ δ ρ : Type} (q : α × β × γ × δ) (f : α → β → γ → δ → ρ) : ρ := f q.1 q.2.1 q.2.2.1 q.2.2.2
theorem zl4_some {α β γ δ ρ : Type} {q : α × β × γ × δ} {f : α → β → γ → δ → ρ} {r : ρ} (h : zl4 q f = r) : ∃ x0 x1 x2 x3, q = (x0, x1, x2, x3) ∧ f x0 x1 x2 x3 = r := ⟨q.1, q.2.1, q.2.2.1, q.2.2.2, rfl, h⟩
def un4 {α β γ δ ρ : Type} (q : α × β × γ × δ) (f : α → β → γ → δ → ρ) : ρ := f q.1 q.2.1 q.2.2.1 q.2.2.2
theorem un4_eq {α β γ δ ρ : Type} {x0 : α} {x1 : β} {x2 : γ} {x3 : δ} {f : α → β → γ → δ → ρ} {r : ρ} (h : un4 (x0, x1, x2, x3) f = r) : f x0 x1 x2 x3 = r := h
def bd5 {α β γ δ ε ρ : Type} (x : Option (α × β × γ × δ × ε)) (f : α → β → γ → δ → ε → Option ρ) : Option ρ := match x with
  | none => none
  | some q => f q.1 q.2.1 q.2.2.1 q.2.2.2.1 q.2.2.2.2
theorem bd5_some {α β γ δ ε ρ : Type} {x : Option (α × β × γ × δ × ε)} {f : α → β → γ → δ → ε → Option ρ} {r : ρ} (h : bd5 x f = some r) : ∃ x0 x1 x2 x3 x4, x = some (x0, x1, x2, x3, x4) ∧ f x0 x1 x2 x3 x4 = some r := by
  cases x with
  | none => cases h
  | some q => exact ⟨q.1, q.2.1, q.2.2.1, q.2.2.2.1, q.2.2.2.2, rfl, h⟩
def zl5 {α β γ δ ε ρ : Type} (q : α × β × γ × δ × ε) (f : α → β → γ → δ → ε → ρ) : ρ := f q.1 q.2.1 q.2.2.1 q.2.2.2.1 q.2.2.2.2
theorem zl5_some {α β γ δ ε ρ : Type} {q : α × β × γ × δ × ε} {f : α → β → γ → δ → ε → ρ} {r : ρ} (h : zl5 q f = r) : ∃ x0 x1 x2 x3 x4, q = (x0, x1, x2, x3, x4) ∧ f x0 x1 x2 x3 x4 = r := ⟨q.1, q.2.1, q.2.2.1, q.2.2.2.1, q.2.2.2.2, rfl, h⟩
def un5 {α β γ δ ε ρ : Type} (q : α × β × γ × δ × ε) (f : α → β → γ → δ → ε → ρ) : ρ := f q.1 q.2.1 q.2.2.1 q.2.2.2.1 q.2.2.2.2
theorem un5_eq {α β γ δ ε ρ : Type} {x0 : α} {x1 : β} {x2 : γ} {x3 : δ} {x4 : ε} {f : α → β → γ → δ → ε → ρ} {r : ρ} (h : un5 (x0, x1, x2, x3, x4) f = r) : f x0 x1 x2 x3 x4 = r := h
def bd6 {α β γ δ ε ζ ρ : Type} (x : Option (α × β × γ × δ × ε × ζ)) (f : α → β → γ → δ → ε → ζ → Option ρ) : Option ρ := match x with
  | none => none
  | some q => f q.1 q.2.1 q.2.2.1 q.2.2.2.1 q.2.2.2.2.1 q.2.2.2.2.2
theorem bd6_some {α β γ δ ε ζ ρ : Type} {x : Option (α × β × γ × δ × ε × ζ)} {f : α → β → γ → δ → ε → ζ → Option ρ} {r : ρ} (h : bd6 x f = some r) : ∃ x0 x1 x2 x3 x4 x5, x = some (x0, x1, x2, x3, x4, x5) ∧ f x0 x1 x2 x3 x4 x5 = some r := by
  cases x with
  | none => cases h
  | some q => exact ⟨q.1, q.2.1, q.2.2.1, q.2.2.2.1, q.2.2.2.2.1, q.2.2.2.2.2, rfl, h⟩
def zl6 {α β γ δ ε ζ ρ : Type} (q : α × β × γ × δ × ε × ζ) (f : α → β → γ → δ → ε → ζ → ρ) : ρ := f q.1 q.2.1 q.2.2.1 q.2.2.2.1 q.2.2.2.2.1 q.2.2.2.2.2
theorem zl6_some {α β γ δ ε ζ ρ : Type} {q : α × β × γ × δ × ε × ζ} {f : α → β → γ → δ → ε → ζ → ρ} {r : ρ} (h : zl6 q f = r) : ∃ x0 x1 x2 x3 x4 x5, q = (x0, x1, x2, x3, x4, x5) ∧ f x0 x1 x2 x3 x4 x5 = r := ⟨q.1, q.2.1, q.2.2.1, q.2.2.2.1, q.2.2.2.2.1, q.2.2.2.2.2, rfl, h⟩
def un6 {α β γ δ ε ζ ρ : Type} (q : α × β × γ × δ × ε × ζ) (f : α → β → γ → δ → ε → ζ → ρ) : ρ := f q.1 q.2.1 q.2.2.1 q.2.2.2.1 q.2.2.2.2.1 q.2.2.2.2.2
theorem un6_eq {α β γ δ ε ζ ρ : Type} {x0 : α} {x1 : β} {x2 : γ} {x3 : δ} {x4 : ε} {x5 : ζ} {f : α → β → γ → δ → ε → ζ → ρ} {r : ρ} (h : un6 (x0, x1, x2, x3, x4, x5) f = r) : f x0 x1 x2 x3 x4 x5 = r := h
def bd7 {α β γ δ ε ζ η ρ : Type} (x : Option (α × β × γ × δ × ε × ζ × η)) (f : α → β → γ → δ → ε → ζ → η → Option ρ) : Option ρ := match x with
  | none => none
  | some q => f q.1 q.2.1 q.2.2.1 q.2.2.2.1 q.2.2.2.2.1 q.2.2.2.2.2.1 q.2.2.2.2.2.2
theorem bd7_some {α β γ δ ε ζ η ρ : Type} {x : Option (α × β × γ × δ × ε × ζ × η)} {f : α → β → γ → δ → ε → ζ → η → Option ρ} {r : ρ} (h : bd7 x f = some r) : ∃ x0 x1 x2 x3 x4 x5 x6, x = some (x0, x1, x2, x3, x4, x5, x6) ∧ f x0 x1 x2 x3 x4 x5 x6 = some r := by
  cases x with
  | none => cases h
  | some q => exact ⟨q.1, q.2.1, q.2.2.1, q.2.2.2.1, q.2.2.2.2.1, q.2.2.2.2.2.1, q.2.2.2.2.2.2, rfl, h⟩
def zl7 {α β γ δ ε ζ η ρ : Type} (q : α × β × γ × δ × ε × ζ × η) (f : α → β → γ → δ → ε → ζ → η → ρ) : ρ := f q.1 q.2.1 q.2.2.1 q.2.2.2.1 q.2.2.2.2.1 q.2.2.2.2.2.1 q.2.2.2.2.2.2
theorem zl7_some {α β γ δ ε ζ η ρ : Type} {q : α × β × γ × δ × ε × ζ × η} {f : α → β → γ → δ → ε → ζ → η → ρ} {r : ρ} (h : zl7 q f = r) : ∃ x0 x1 x2 x3 x4 x5 x6, q = (x0, x1, x2, x3, x4, x5, x6) ∧ f x0 x1 x2 x3 x4 x5 x6 = r := ⟨q.1, q.2.1, q.2.2.1, q.2.2.2.1, q.2.2.2.2.1, q.2.2.2.2.2.1, q.2.2.2.2.2.2, rfl, h⟩
def un7 {α β γ δ ε ζ η ρ : Type} (q : α × β × γ × δ × ε × ζ × η) (f : α → β → γ → δ → ε → ζ → η → ρ) : ρ := f q.1 q.2.1 q.2.2.1 q.2.2.2.1 q.2.2.2.2.1 q.2.2.2.2.2.1 q.2.2.2.2.2.2
theorem un7_eq {α β γ δ ε ζ η ρ : Type} {x0 : α} {x1 : β} {x2 : γ} {x3 : δ} {x4 : ε} {x5 : ζ} {x6 : η} {f : α → β → γ → δ → ε → ζ → η → ρ} {r : ρ} (h : un7 (x0, x1, x2, x3, x4, x5, x6) f = r) : f x0 x1 x2 x3 x4 x5 x6 = r := h
def bd8 {α β γ δ ε ζ η θ ρ : Type} (x : Option (α × β × γ × δ × ε × ζ × η × θ)) (f : α → β → γ → δ → ε → ζ → η → θ → Option ρ) : Option ρ := match x with
  | none => none
  | some q => f q.1 q.2.1 q.2.2.1 q.2.2.2.1 q.2.2.2.2.1 q.2.2.2.2.2.1 q.2.2.2.2.2.2.1 q.2.2.2.2.2.2.2
theorem bd8_some {α β γ δ ε ζ η θ ρ : Type} {x : Option (α × β × γ × δ × ε × ζ × η × θ)} {f : α → β → γ → δ → ε → ζ → η → θ → Option ρ} {r : ρ} (h : bd8 x f = some r) : ∃ x0 x1 x2 x3 x4 x5 x6 x7, x = some (x0, x1, x2, x3, x4, x5, x6, x7) ∧ f x0 x1 x2 x3 x4 x5 x6 x7 = some r := by
  cases x with
  | none => cases h
  | some q => exact ⟨q.1, q.2.1, q.2.2.1, q.2.2.2.1, q.2.2.2.2.1, q.2.2.2.2.2.1, q.2.2.2.2.2.2.1, q.2.2.2.2.2.2.2, rfl, h⟩
def zl8 {α β γ δ ε ζ η θ ρ : Type} (q : α × β × γ × δ × ε × ζ × η × θ) (f : α → β → γ → δ → ε → ζ → η → θ → ρ) : ρ := f q.1 q.2.1 q.2.2.1 q.2.2.2.1 q.2.2.2.2.1 q.2.2.2.2.2.1 q.2.2.2.2.2.2.1 q.2.2.2.2.2.2.2
theorem zl8_some {α β γ δ ε ζ η θ ρ : Type} {q : α × β × γ × δ × ε × ζ × η × θ} {f : α → β → γ → δ → ε → ζ → η → θ → ρ} {r : ρ} (h : zl8 q f = r) : ∃ x0 x1 x2 x3 x4 x5 x6 x7, q = (x0, x1, x2, x3, x4, x5, x6, x7) ∧ f x0 x1 x2 x3 x4 x5 x6 x7 = r := ⟨q.1, q.2.1, q.2.2.1, q.2.2.2.1, q.2.2.2.2.1, q.2.2.2.2.2.1, q.2.2.2.2.2.2.1, q.2.2.2.2.2.2.2, rfl, h⟩
def un8 {α β γ δ ε ζ η θ ρ : Type} (q : α × β × γ × δ × ε × ζ × η × θ) (f : α → β → γ → δ → ε → ζ → η → θ → ρ) : ρ := f q.1 q.2.1 q.2.2.1 q.2.2.2.1 q.2.2.2.2.1 q.2.2.2.2.2.1 q.2.2.2.2.2.2.1 q.2.2.2.2.2.2.2
theorem un8_eq {α β γ δ ε ζ η θ ρ : Type} {x0 : α} {x1 : β} {x2 : γ} {x3 : δ} {x4 : ε} {x5 : ζ} {x6 : η} {x7 : θ} {f : α → β → γ → δ → ε → ζ → η → θ → ρ} {r : ρ} (h : un8 (x0, x1, x2, x3, x4, x5, x6, x7) f = r) : f x0 x1 x2 x3 x4 x5 x6 x7 = r := h
theorem zl1_some {α ρ : Type} {q : α} {f : α → ρ} {r : ρ} (h : zlt q f = r) : ∃ x, q = x ∧ f x = r := ⟨q, rfl, h⟩
theorem so1 {α : Type} {a0 b0 : α} (h : some a0 = some b0) : b0 = a0 := by
  cases h
  exact rfl
theorem pr1 {α : Type} {a0 b0 : α} (h : a0 = b0) : b0 = a0 := by
  cases h
  exact rfl
theorem so2 {α β : Type} {a0 b0 : α} {a1 b1 : β} (h : some (a0, a1) = some (b0, b1)) : b0 = a0 ∧ b1 = a1 := by
  cases h
  exact ⟨rfl, rfl⟩
theorem pr2 {α β : Type} {a0 b0 : α} {a1 b1 : β} (h : (a0, a1) = (b0, b1)) : b0 = a0 ∧ b1 = a1 := by
  cases h
  exact ⟨rfl, rfl⟩
theorem so3 {α β γ : Type} {a0 b0 : α} {a1 b1 : β} {a2 b2 : γ} (h : some (a0, a1, a2) = some (b0, b1, b2)) : b0 = a0 ∧ b1 = a1 ∧ b2 = a2 := by
  cases h
  exact ⟨rfl, rfl, rfl⟩
theorem pr3 {α β γ : Type} {a0 b0 : α} {a1 b1 : β} {a2 b2 : γ} (h : (a0, a1, a2) = (b0, b1, b2)) : b0 = a0 ∧ b1 = a1 ∧ b2 = a2 := by
  cases h
  exact ⟨rfl, rfl, rfl⟩
theorem so4 {α β γ δ : Type} {a0 b0 : α} {a1 b1 : β} {a2 b2 : γ} {a3 b3 : δ} (h : some (a0, a1, a2, a3) = some (b0, b1, b2, b3)) : b0 = a0 ∧ b1 = a1 ∧ b2 = a2 ∧ b3 = a3 := by
  cases h
  exact ⟨rfl, rfl, rfl, rfl⟩
theorem pr4 {α β γ δ : Type} {a0 b0 : α} {a1 b1 : β} {a2 b2 : γ} {a3 b3 : δ} (h : (a0, a1, a2, a3) = (b0, b1, b2, b3)) : b0 = a0 ∧ b1 = a1 ∧ b2 = a2 ∧ b3 = a3 := by
  cases h
  exact ⟨rfl, rfl, rfl, rfl⟩
theorem so5 {α β γ δ ε : Type} {a0 b0 : α} {a1 b1 : β} {a2 b2 : γ} {a3 b3 : δ} {a4 b4 : ε} (h : some (a0, a1, a2, a3, a4) = some (b0, b1, b2, b3, b4)) : b0 = a0 ∧ b1 = a1 ∧ b2 = a2 ∧ b3 = a3 ∧ b4 = a4 := by
  cases h
  exact ⟨rfl, rfl, rfl, rfl, rfl⟩
theorem pr5 {α β γ δ ε : Type} {a0 b0 : α} {a1 b1 : β} {a2 b2 : γ} {a3 b3 : δ} {a4 b4 : ε} (h : (a0, a1, a2, a3, a4) = (b0, b1, b2, b3, b4)) : b0 = a0 ∧ b1 = a1 ∧ b2 = a2 ∧ b3 = a3 ∧ b4 = a4 := by
  cases h
  exact ⟨rfl, rfl, rfl, rfl, rfl⟩
theorem so6 {α β γ δ ε ζ : Type} {a0 b0 : α} {a1 b1 : β} {a2 b2 : γ} {a3 b3 : δ} {a4 b4 : ε} {a5 b5 : ζ} (h : some (a0, a1, a2, a3, a4, a5) = some (b0, b1, b2, b3, b4, b5)) : b0 = a0 ∧ b1 = a1 ∧ b2 = a2 ∧ b3 = a3 ∧ b4 = a4 ∧ b5 = a5 := by
  cases h
  exact ⟨rfl, rfl, rfl, rfl, rfl, rfl⟩
theorem pr6 {α β γ δ ε ζ : Type} {a0 b0 : α} {a1 b1 : β} {a2 b2 : γ} {a3 b3 : δ} {a4 b4 : ε} {a5 b5 : ζ} (h : (a0, a1, a2, a3, a4, a5) = (b0, b1, b2, b3, b4, b5)) : b0 = a0 ∧ b1 = a1 ∧ b2 = a2 ∧ b3 = a3 ∧ b4 = a4 ∧ b5 = a5 := by
  cases h
  exact ⟨rfl, rfl, rfl, rfl, rfl, rfl⟩
theorem so7 {α β γ δ ε ζ η : Type} {a0 b0 : α} {a1 b1 : β} {a2 b2 : γ} {a3 b3 : δ} {a4 b4 : ε} {a5 b5 : ζ} {a6 b6 : η} (h : some (a0, a1, a2, a3, a4, a5, a6) = some (b0, b1, b2, b3, b4, b5, b6)) : b0 = a0 ∧ b1 = a1 ∧ b2 = a2 ∧ b3 = a3 ∧ b4 = a4 ∧ b5 = a5 ∧ b6 = a6 := by
  cases h
  exact ⟨rfl, rfl, rfl, rfl, rfl, rfl, rfl⟩
theorem pr7 {α β γ δ ε ζ η : Type} {a0 b0 : α} {a1 b1 : β} {a2 b2 : γ} {a3 b3 : δ} {a4 b4 : ε} {a5 b5 : ζ} {a6 b6 : η} (h : (a0, a1, a2, a3, a4, a5, a6) = (b0, b1, b2, b3, b4, b5, b6)) : b0 = a0 ∧ b1 = a1 ∧ b2 = a2 ∧ b3 = a3 ∧ b4 = a4 ∧ b5 = a5 ∧ b6 = a6 := by
  cases h
  exact ⟨rfl, rfl, rfl, rfl, rfl, rfl, rfl⟩
theorem so8 {α β γ δ ε ζ η θ : Type} {a0 b0 : α} {a1 b1 : β} {a2 b2 : γ} {a3 b3 : δ} {a4 b4 : ε} {a5 b5 : ζ} {a6 b6 : η} {a7 b7 : θ} (h : some (a0, a1, a2, a3, a4, a5, a6, a7) = some (b0, b1, b2, b3, b4, b5, b6, b7)) : b0 = a0 ∧ b1 = a1 ∧ b2 = a2 ∧ b3 = a3 ∧ b4 = a4 ∧ b5 = a5 ∧ b6 = a6 ∧ b7 = a7 := by
  cases h
  exact ⟨rfl, rfl, rfl, rfl, rfl, rfl, rfl, rfl⟩
theorem pr8 {α β γ δ ε ζ η θ : Type} {a0 b0 : α} {a1 b1 : β} {a2 b2 : γ} {a3 b3 : δ} {a4 b4 : ε} {a5 b5 : ζ} {a6 b6 : η} {a7 b7 : θ} (h : (a0, a1, a2, a3, a4, a5, a6, a7) = (b0, b1, b2, b3, b4, b5, b6, b7)) : b0 = a0 ∧ b1 = a1 ∧ b2 = a2 ∧ b3 = a3 ∧ b4 = a4 ∧ b5 = a5 ∧ b6 = a6 ∧ b7 = a7 := by
  cases h
  exact ⟨rfl, rfl, rfl, rfl, rfl, rfl, rfl, rfl⟩
theorem jk0_el {ρ : Type} {K : Option ρ} {f : Option ρ → Option ρ} {R : ρ} {P G : Prop} (h : jk K f = some R) (a : K = some R → P) (b : ∀ k : Option ρ, (k = some R → P) → f k = some R → G) : G := b K a h
theorem jk1_el {α ρ : Type} {K : α → Option ρ} {f : (α → Option ρ) → Option ρ} {R : ρ} {P : α → Prop} {G : Prop} (h : jk K f = some R) (a : ∀ x0, K x0 = some R → P x0) (b : ∀ k : α → Option ρ, (∀ x0, k x0 = some R → P x0) → f k = some R → G) : G := b K a h
theorem jk2_el {α β ρ : Type} {K : α → β → Option ρ} {f : (α → β → Option ρ) → Option ρ} {R : ρ} {P : α → β → Prop} {G : Prop} (h : jk K f = some R) (a : ∀ x0 x1, K x0 x1 = some R → P x0 x1) (b : ∀ k : α → β → Option ρ, (∀ x0 x1, k x0 x1 = some R → P x0 x1) → f k = some R → G) : G := b K a h
theorem jk3_el {α β γ ρ : Type} {K : α → β → γ → Option ρ} {f : (α → β → γ → Option ρ) → Option ρ} {R : ρ} {P : α → β → γ → Prop} {G : Prop} (h : jk K f = some R) (a : ∀ x0 x1 x2, K x0 x1 x2 = some R → P x0 x1 x2) (b : ∀ k : α → β → γ → Option ρ, (∀ x0 x1 x2, k x0 x1 x2 = some R → P x0 x1 x2) → f k = some R → G) : G := b K a h
theorem jk4_el {α β γ δ ρ : Type} {K : α → β → γ → δ → Option ρ} {f : (α → β → γ → δ → Option ρ) → Option ρ} {R : ρ} {P : α → β → γ → δ → Prop} {G : Prop} (h : jk K f = some R) (a : ∀ x0 x1 x2 x3, K x0 x1 x2 x3 = some R → P x0 x1 x2 x3) (b : ∀ k : α → β → γ → δ → Option ρ, (∀ x0 x1 x2 x3, k x0 x1 x2 x3 = some R → P x0 x1 x2 x3) → f k = some R → G) : G := b K a h
theorem jk5_el {α β γ δ ε ρ : Type} {K : α → β → γ → δ → ε → Option ρ} {f : (α → β → γ → δ → ε → Option ρ) → Option ρ} {R : ρ} {P : α → β → γ → δ → ε → Prop} {G : Prop} (h : jk K f = some R) (a : ∀ x0 x1 x2 x3 x4, K x0 x1 x2 x3 x4 = some R → P x0 x1 x2 x3 x4) (b : ∀ k : α → β → γ → δ → ε → Option ρ, (∀ x0 x1 x2 x3 x4, k x0 x1 x2 x3 x4 = some R → P x0 x1 x2 x3 x4) → f k = some R → G) : G := b K a h
theorem jk6_el {α β γ δ ε ζ ρ : Type} {K : α → β → γ → δ → ε → ζ → Option ρ} {f : (α → β → γ → δ → ε → ζ → Option ρ) → Option ρ} {R : ρ} {P : α → β → γ → δ → ε → ζ → Prop} {G : Prop} (h : jk K f = some R) (a : ∀ x0 x1 x2 x3 x4 x5, K x0 x1 x2 x3 x4 x5 = some R → P x0 x1 x2 x3 x4 x5) (b : ∀ k : α → β → γ → δ → ε → ζ → Option ρ, (∀ x0 x1 x2 x3 x4 x5, k x0 x1 x2 x3 x4 x5 = some R → P x0 x1 x2 x3 x4 x5) → f k = some R → G) : G := b K a h
theorem tne {x k : Int32} {j : Int} (hk : k.toInt = j) (h : ¬ x = k) : x.toInt ≠ j := fun q => h (Int32.toInt_inj.mp (q.trans hk.symm))
def mcpy (μ : ZMem) (o0 o1 : ZId) (sp dp n : Nat) : ZMem := fun o k => if o = o1 ∧ dp ≤ k ∧ k < dp + n then μ o0 (sp + (k - dp)) else μ o k
section VC
variable {p : Program} {l : Launch} {e : Env} {R : Room} {s : State} {m : MethodId} {args : Array Value} {below : List Frame} {meth : Method} {c : Code} {Q : State → Prop}
variable {own : String} {cc : ByteArray} {nL : Nat} {ret : Option FieldType} {Ts : List Cond} {D : va_G} {A : Nat → Prop} {y : ZLay} {kc ks : Nat}
variable {μ μ' : ZMem} {pc : Nat} {lv : List (Nat × Value)} {st : List Value} {r v : Int32}
variable (X : Cx p l e R s m args below meth c Q own cc nL ret Ts D A y kc ks)
theorem V_copy {o0 o1 : ZId} {ix n0 n1 : Nat} {sp dp n : Int32} (sp' dp' n' : Nat) (hm1 : Cond.methodLink own ix arraycopyName ∈ Ts) (hm2 : Cond.native arraycopyName ∈ Ts) (hm3 : Cond.static arraycopyName ∈ Ts) (hm4 : Cond.initialized "java/lang/System" ∈ Ts) (ho0 : okI y o0) (ho1 : okI y o1) (ha0 : zisI o0 = true) (ha1 : zisI o1 = true) (hn0 : zlen y o0 = n0) (hn1 : zlen y o1 = n1) (h1 : ¬ sp < 0) (h2 : ¬ dp < 0) (h3 : ¬ n < 0) (e1 : sp.toNatClampNeg = sp') (e2 : dp.toNatClampNeg = dp') (e3 : n.toNatClampNeg = n') (h4 : sp' + n' ≤ n0) (h5 : dp' + n' ≤ n1) (hfr : 1 ≤ R.frames) (hlo : (st.map fun v => v.category).sum + (nativeFrameWords "java/lang/System" "arraycopy" 5 + 11) ≤ R.locals) (d : decode cc pc = .ok (.invokestatic ix, 3)) (kk : V X (mcpy μ o0 o1 sp' dp' n') (pc + 3) lv st) : V X μ pc lv (.int n :: .int dp :: .ref (zad y o1) :: .int sp :: .ref (zad y o0) :: st) := by
  intro H locs ls hP hw hS hl
  subst hn0; subst hn1; subst e1; subst e2; subst e3
  obtain ⟨q0, -, hq0⟩ := wd_get (μ := μ) ho0
  obtain ⟨q1, hi1, hq1⟩ := wd_get (μ := μ) ho1
  rw [zenc_i ha0] at hq0
  rw [zenc_i ha1] at hq1
  refine va_copyi X.1 X.2.1 (X.2.2.1.trans hl.1.symm) X.2.2.2.2.2.1 (X.2.2.2.2.2.2.1 _ hm1) (X.2.2.2.2.2.2.1 _ hm2) (X.2.2.2.2.2.2.1 _ hm3) (X.2.2.2.2.2.2.1 _ hm4) X.2.2.2.2.2.2.2.1 hP (X.2.2.2.2.2.2.2.2.2.2.1 μ) hS q0 q1 0 0 (ty := .int) hq0 hq1 rfl rfl rfl h1 h2 h3 h4 h5 (fun i _ => rfl) hfr hlo d (fun H1 locs1 hP1 hD1 hS1 => ?_)
  have e : (wd y μ).set q1 (zad y o1, .inl (zci y 0, zlen y o1, .inl (va_cpy (fun j => μ o0 j) (fun j => μ o1 j) sp.toNatClampNeg dp.toNatClampNeg n.toNatClampNeg))) = wd y (mcpy μ o0 o1 sp.toNatClampNeg dp.toNatClampNeg n.toNatClampNeg) := wd_set (X.2.2.2.2.2.2.2.2.2.2.1 μ) hi1 (by
    rw [zenc_i ha1]
    congr 4
    funext j
    simp only [mcpy, va_cpy, true_and]) (fun o' h => zenc_congr (by funext j; simp [mcpy, h]))
  rw [e] at hP1
  refine kk H1 locs1 ls hP1 (fun t ht => ?_) hS1 hl
  have : mcpy μ o0 o1 sp.toNatClampNeg dp.toNatClampNeg n.toNatClampNeg (1, t, 0) 10 = μ (1, t, 0) 10 := by
    unfold mcpy
    rw [if_neg]
    rintro ⟨a, -⟩
    rw [← a] at ha1
    simp [zisI, zsh] at ha1
  rw [this]
  exact hw t ht
end VC
