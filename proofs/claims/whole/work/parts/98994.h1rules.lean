/-! the law's helpers: what a method throws is caught by the law -/
section HL
variable {p : Program} {l : Launch} {e : Env} {R : Room} {s : State} {m : MethodId} {args : Array Value} {below : List Frame} {meth : Method} {c : Code} {Q : State → Prop}
variable {own : String} {cc : ByteArray} {nL : Nat} {ret : Option FieldType} {Ts : List Cond} {D : va_G} {A : Nat → Prop} {y : ZLay} {kc ks : Nat}
variable {μ μ' : ZMem} {pc : Nat} {lv : List (Nat × Value)} {st st0 : List Value} {res : Int32 ⊕ Nat}
variable {ym : MethodName} {w : List Cond} {rm : Room} {bytes : ByteArray} {maxL n ix : Nat} {ret' : Option FieldType} {C : String} {b : ZId} {As : List Value}
def VH (X : Cx p l e R s m args below meth c Q own cc nL ret Ts D A y kc ks) (μ : ZMem) (pc : Nat) (lv : List (Nat × Value)) (st : List Value) (E : String) : Prop :=
  ∀ (H : Heap) (locs : List Loc) (ls : Array Slot) (q : Nat) (ce : Cell), va_P D vwCl (wd y μ) H → lawok y μ → va_S A s.heap H locs → lv_has ls nL lv → H[q]? = some ce → ce.vm = .none → s.vm.findClass E = some ce.cls → vx_W p l e R s m args below meth c H locs kc ks Q (F0 m pc ls st) q
theorem V_callX (X : Cx p l e R s m args below meth c Q own cc nL ret Ts D A y kc ks) (X' : Cx p l e R s m args below meth c Q own cc nL ret Ts D A y (kc + 1) (ks + 6)) (hM : MX l ym w rm D y (.ref (zad y b) :: As) μ res μ') (cw : CallW R s args own C ix ym bytes maxL ret' w rm 1 6 n) {ci : Nat} {q0 : vw_C} {sh : List ZF} (ho : okI y b) (hs : zsh b = some (ci, sh)) (hc : vwCl[ci]? = some q0) (hC : q0.1 = C) (hn : As.length = n) (hcat : (st.map fun v => v.category).sum ≤ 8) (d : decode cc pc = .ok (.invokevirtual ix, 3)) (hst : As.reverse ++ .ref (zad y b) :: st = st0)
    (kx : ∀ k, res = .inr k → VH X' μ' pc lv st (zEx k)) (kk : ∀ r, res = .inl r → V X' μ' (pc + 3) lv (.int r :: st)) : V X μ pc lv st0 := by
  intro H locs ls hP hw hS hl
  have recv : ∃ cellB : Cell, H[zad y b]? = some cellB ∧ cellB.vm.isStatics = false ∧ s.vm.findClass C = some cellB.cls := by
    obtain ⟨q, -, hq⟩ := wd_get (μ := μ) ho
    rw [zenc_o hs] at hq
    rw [← hC]
    exact va_recv X.2.2.2.2.2.2.2.1 hP hc hq
  refine vx_calli (vx_runV (As := As) (rest := st) ⟨X.1, X.2.1, X.2.2.1, X.2.2.2.2.2.1, X.2.2.2.2.2.2.1⟩ (hM H.size) cw ⟨pre_blind, recv, fun U hU hW => ⟨rfl, pre_at (X := X) hP hw hS U hU hW⟩⟩ rfl hn hl.1 hst.symm (lv_room hcat) d ⟨X'.2.2.2.2.2.2.2.2.2.2.2.1, X'.2.2.2.2.2.2.2.2.2.2.2.2.1⟩) hS (fun q _ h => fA_in (X := X) hS q h) (fA_in (X := X) hS) (fun q _ h => fA_in (X := X) hS q h) (fun E ce q9 u t H1 locs1 ht hvm hu hB hz1 hk1 hS1 hce hcv hcl => ?_) (fun r0 u t H1 locs1 ht hvm hr hB hz1 hk1 hS1 => ?_)
  · obtain ⟨⟨k, hk, rfl⟩, hP1, hw2⟩ := hB
    rw [ht] at hP1
    exact kx k hk H1 locs1 ls q9 ce hP1 hw2 hS1 hl hce hcv hcl
  · obtain ⟨hP1, hw2⟩ := hB
    rw [ht] at hP1
    exact kk r0 hr H1 locs1 ls hP1 hw2 hS1 hl
theorem V_catch (X : Cx p l e R s m args below meth c Q own cc nL ret Ts D A y kc ks) {E : String} (name : String) (pre : List ExceptionTableEntry) (x : ExceptionTableEntry) (suf : List ExceptionTableEntry) (hsplit : c.exceptionTable.toList = pre ++ x :: suf)
    (hpass : ∀ z ∈ pre, z.catchType ≠ 0 ∧ ∃ nm : String, Cond.classLink own z.catchType nm ∈ Ts ∧ (E, nm) ∈ zNoC) (hx : covers x pc = true) (h0 : x.catchType ≠ 0) (hlink : Cond.classLink own x.catchType name ∈ Ts) (hcast : (E, name) ∈ zCast)
    (kk : ∀ q : Nat, V X μ x.handlerPc lv [.ref q]) : VH X μ pc lv st E := by
  intro H locs ls q ce hP hw hS hl hce hcv hcl
  have hE := X.2.2.2.2.2.2.2.2.2.2.2.2.2
  exact vx_catch X.2.2.2.2.2.1 pre x suf hsplit (fun z hz => Or.inr ⟨(hpass z hz).1, by
    obtain ⟨nm, h1, h2⟩ := (hpass z hz).2
    exact ⟨nm, X.2.2.2.2.2.2.1 _ h1, hE.2.2.2.2.2.2.1 _ h2⟩⟩) hx h0 (X.2.2.2.2.2.2.1 _ hlink) (va_Nw.use rfl (hE.2.2.2.2.2.1 _ hcast)) hce hcv hcl (kk q H locs ls hP hw hS hl)
theorem V_last (X : Cx p l e R s m args below meth c Q own cc nL ret Ts D A y kc ks) {x : Int32} (d : decode cc pc = .ok (.lastore, 1)) (kk : V X (mset μ (0, 31, 0) 0 x) (pc + 1) lv st) : V X μ pc lv (.long x.toInt64 :: .int 0 :: .ref (zad y (0, 31, 0)) :: st) := by
  intro H locs ls hP hw hS hl
  obtain ⟨q, hq0, hq⟩ := wd_get (μ := μ) (show okI y (0, 31, 0) from ⟨by decide, rfl⟩)
  rw [zenc_out] at hq
  refine va_last X.1 X.2.1 X.2.2.2.2.2.2.2.1 hP (X.2.2.2.2.2.2.2.2.2.2.1 μ) hS q 1 hq rfl (zin_vp (show zin 0 1 = true from rfl)) d (fun H1 locs1 hP1 hD1 hS1 => ?_)
  have e : (wd y μ).set q (zad y (0, 31, 0), .inl (zci y 1, 1, .inr (.inl (vp_updL (fun j => (μ (0, 31, 0) j).toInt64) (0 : Int32).toNatClampNeg x.toInt64)))) = wd y (mset μ (0, 31, 0) 0 x) := wd_set (X.2.2.2.2.2.2.2.2.2.2.1 μ) hq0 (by
    rw [zenc_out]
    congr 5
    funext j
    by_cases hj : j = 0
    · subst hj; rw [mset_at]; simp [vp_updL]
    · rw [mset_k hj]; simp [vp_updL, hj]) (fun o' h => zenc_congr (mset_ne h))
  rw [e] at hP1
  exact kk H1 locs1 ls hP1 (lawok_ne hw (by rintro ⟨h1, -⟩; cases h1)) hS1 hl
theorem V_lald (X : Cx p l e R s m args below meth c Q own cc nL ret Ts D A y kc ks) (d : decode cc pc = .ok (.laload, 1)) (kk : V X μ (pc + 1) lv (.long (μ (0, 31, 0) 0).toInt64 :: st)) : V X μ pc lv (.int 0 :: .ref (zad y (0, 31, 0)) :: st) := by
  intro H locs ls hP hw hS hl
  obtain ⟨q, -, hq⟩ := wd_get (μ := μ) (show okI y (0, 31, 0) from ⟨by decide, rfl⟩)
  rw [zenc_out] at hq
  exact va_lald X.1 X.2.1 X.2.2.2.2.2.2.2.1 hP q 1 hq rfl (zin_vp (show zin 0 1 = true from rfl)) d (kk H locs ls hP hw hS hl)
theorem V_iretH {r : Int32} {XC : String → State → State → Prop} {mc ms : Nat} (X : Cx p l e R s m args below meth c (vx_MQ below (QI D y A r μ) XC args s mc ms A) own cc nL (some .int) Ts D A y kc ks) {v : Int32} (h1 : kc ≤ mc) (h2 : ks ≤ ms) (hv : v = r) (d : decode cc pc = .ok (.ireturn, 1)) : V X μ pc lv [.int v] := by
  subst hv
  intro H locs ls hP hw hS hl
  refine vx_ret (W.widen (k := mc) (n := ms) h1 h2 ?_)
  exact W.iret (hlocks := X.2.2.2.2.1) X.1 X.2.1 X.2.2.2.1 (fun t ht hW => ⟨⟨v, (), rfl, rfl, by show PoW D y μ t; unfold PoW; rw [ht]; exact ⟨hP, hw⟩⟩, hS.F ht⟩) hS.2.2 d
end HL
def MH (l : Launch) (ym : MethodName) (w : List Cond) (rm : Room) (D : va_G) (y : ZLay) (av : List Value) (μ : ZMem) (r : Int32) (μ' : ZMem) : Prop := ∀ sz : Nat, vx_Met l ym w rm (va_Pc av (PreW D y sz μ)) (QI D y (fA y sz) r μ') (vx_X (S := Unit) (fun _ => False) (fun _ _ _ => False) (fA y sz)) 1 6 (fA y sz)
theorem MH_of {l : Launch} {ym : MethodName} {w ws' : List Cond} {rm : Room} {D : va_G} {y : ZLay} {av : List Value} {μ μ' : ZMem} {r : Int32} {cc : ByteArray} {maxL : Nat} {ret : Option FieldType} {hh : List (Nat × Nat × Nat × Nat)} (own : String) (lv : List (Nat × Value)) (hy : plainName ym.cls = true) (ho : ym.cls = own) (hw : w = Cond.codeWith ym cc maxL ret hh :: ws') (hrm : 1 ≤ rm.cells ∧ 6 ≤ rm.slots) (hloc : (lg_sl av).length ≤ maxL) (hlv : lv_args 0 av = lv)
    (h : ∀ {p : Program} {e : Env} {s : State} {m : MethodId} {args : Array Value} {below : List Frame} {meth : Method} {c : Code} {A : Nat → Prop} (X : Cx p l e (headSpec w rm).room s m args below meth c (vx_MQ below (QI D y A r μ') (vx_X (S := Unit) (fun _ => False) (fun _ _ _ => False) A) args s 1 6 A) own cc maxL ret w D A y 0 0) (_ : Cx p l e (headSpec w rm).room s m args below meth c (vx_MQ below (QI D y A r μ') (vx_X (S := Unit) (fun _ => False) (fun _ _ _ => False) A) args s 1 6 A) own cc maxL ret w D A y (0 + 1) (0 + 6)), c.exceptionTable.toList = tableOf hh → V X μ 0 lv []) : MH l ym w rm D y av μ r μ' := by
  intro sz
  refine vx_ofWH (cc := cc) (maxL := maxL) (ret := ret) hy hw ?_
  intro p e s m args below meth c s₁ B hml hv
  obtain ⟨rfl, hsz, hP, hK, hN, hD0, hlw, hE⟩ := hv
  subst hsz
  have hown : s.vm.findClass own = some m.cls := by rw [← ho]; exact findClass_of_methodNamed B.named
  have ht := vx_table (x := ym) B (atoms_spec (ws := w) B.pre _ (by rw [hw]; exact List.mem_cons_self))
  have X : ∀ kc ks : Nat, kc ≤ rm.cells → ks ≤ rm.slots → Cx p l e (headSpec w rm).room s m av.toArray below meth c (vx_MQ below (QI D y (fA y s.heap.size) r μ') (vx_X (S := Unit) (fun _ => False) (fun _ _ _ => False) (fA y s.heap.size)) av.toArray s 1 6 (fA y s.heap.size)) own cc maxL ret w D (fA y s.heap.size) y kc ks := fun kc ks h1 h2 =>
    ⟨B.exec, B.bytes, hml, B.returns, B.notSynchronized, hown, atoms_spec (ws := w) B.pre, hK, hN, fun q h => Or.inr h, fA_D hD0, h1, h2, hE⟩
  have hl := lv_entry av (n := maxL) hloc
  rw [lg_entry_eq]
  rw [hlv] at hl
  exact h (X 0 0 (Nat.zero_le _) (Nat.zero_le _)) (X _ _ hrm.1 hrm.2) ht _ _ _ hP hlw va_S.rf hl
/-! what a helper answers and leaves -/
def hres (c : Nat → Nat) : Int32 ⊕ Nat → Int32
  | .inl _ => 0
  | .inr k => Int32.ofNat (c k)
def hmem (μ : ZMem) : Int32 ⊕ Nat → ZMem
  | .inl v => mset μ (0, 31, 0) 0 v
  | .inr _ => μ
/-! which exceptions a method may throw -/
def zth (P : Int32 ⊕ Nat → Prop) (o : Option ((Int32 ⊕ Nat) × ZMem)) : Prop := ∀ q, o = some q → P q.1
section Th
variable {P : Int32 ⊕ Nat → Prop} {α β γ : Type}
theorem th_some {r : Int32 ⊕ Nat} {μ : ZMem} (h : P r) : zth P (some (r, μ)) := fun q e => by cases e; exact h
theorem th_bd {x : Option α} {f : α → Option ((Int32 ⊕ Nat) × ZMem)} (h : ∀ a, zth P (f a)) : zth P (bd x f) := fun q e => by
  obtain ⟨a, -, e⟩ := bd_some e
  exact h a q e
theorem th_bd2 {x : Option (α × β)} {f : α → β → Option ((Int32 ⊕ Nat) × ZMem)} (h : ∀ a b, zth P (f a b)) : zth P (bd2 x f) := fun q e => by
  obtain ⟨a, b, -, e⟩ := bd2_some e
  exact h a b q e
theorem th_gd {b : Bool} {x : Option ((Int32 ⊕ Nat) × ZMem)} (h : b = true → zth P x) : zth P (gd b x) := fun q e => h (gd_some e).1 q (gd_some e).2
theorem th_if {c : Prop} [Decidable c] {x z : Option ((Int32 ⊕ Nat) × ZMem)} (h1 : zth P x) (h2 : zth P z) : zth P (if c then x else z) := by
  by_cases hc : c
  · rw [if_pos hc]; exact h1
  · rw [if_neg hc]; exact h2
theorem th_jk {K : Option ((Int32 ⊕ Nat) × ZMem)} {f : Option ((Int32 ⊕ Nat) × ZMem) → Option ((Int32 ⊕ Nat) × ZMem)} (h1 : zth P K) (h2 : ∀ k, zth P k → zth P (f k)) : zth P (jk K f) := h2 K h1
theorem th_zlt {x : α} {f : α → Option ((Int32 ⊕ Nat) × ZMem)} (h : ∀ a, zth P (f a)) : zth P (zlt x f) := h x
theorem th_lp {σ ρ : Type} {F : σ → Option (σ ⊕ ρ)} {PR : ρ → Prop} (h : ∀ s r, F s = some (.inr r) → PR r) : ∀ (n : Nat) (s : σ) (r : ρ), lp F n s = some r → PR r := by
  intro n
  induction n with
  | zero => intro s r e; cases e
  | succ n ih =>
    intro s r e
    unfold lp at e
    cases hF : F s with
    | none => rw [hF] at e; cases e
    | some z =>
      rw [hF] at e
      cases z with
      | inl s' => exact ih s' r e
      | inr r' => cases e; exact h s r hF
end Th
