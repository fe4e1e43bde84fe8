/-! methods that may throw: .inl r returned, .inr k thrown -/
def QXi (D : va_G) (y : ZLay) (A : Nat → Prop) (res : Int32 ⊕ Nat) (μ : ZMem) : Array Value → State → Outcome → State → Prop := va_Qi (S := Unit) (fun r0 _ => res = .inl r0) (fun _ t => PoW D y μ t) A
def QXx (D : va_G) (y : ZLay) (A : Nat → Prop) (res : Int32 ⊕ Nat) (μ : ZMem) : String → State → State → Prop := vx_X (S := Unit) (fun _ => True) (fun E _ t => (∃ k, res = .inr k ∧ E = zEx k) ∧ PoW D y μ t) A
def MX (l : Launch) (ym : MethodName) (w : List Cond) (rm : Room) (D : va_G) (y : ZLay) (av : List Value) (μ : ZMem) (res : Int32 ⊕ Nat) (μ' : ZMem) : Prop := ∀ sz : Nat, vx_Met l ym w rm (va_Pc av (PreW D y sz μ)) (QXi D y (fA y sz) res μ') (QXx D y (fA y sz) res μ') 1 6 (fA y sz)
section VX
variable {p : Program} {l : Launch} {e : Env} {R : Room} {s : State} {m : MethodId} {args : Array Value} {below : List Frame} {meth : Method} {c : Code} {Q : State → Prop}
variable {own : String} {cc : ByteArray} {nL : Nat} {ret : Option FieldType} {Ts : List Cond} {D : va_G} {A : Nat → Prop} {y : ZLay}
variable {μ μ' : ZMem} {pc : Nat} {lv : List (Nat × Value)} {st : List Value} {v : Int32} {res : Int32 ⊕ Nat}
theorem V_iretX (X : Cx p l e R s m args below meth c (vx_MQ below (QXi D y A res μ') (QXx D y A res μ') args s 1 6 A) own cc nL (some .int) Ts D A y 0 0) (h : some (.inl v, μ) = some (res, μ')) (d : decode cc pc = .ok (.ireturn, 1)) : V X μ pc lv [.int v] := by
  cases h
  intro H locs ls hP hw hS hl
  refine vx_ret (W.widen (k := 1) (n := 6) (Nat.zero_le _) (Nat.zero_le _) ?_)
  exact W.iret (hlocks := X.2.2.2.2.1) X.1 X.2.1 X.2.2.2.1 (fun t ht hW => ⟨⟨v, (), rfl, rfl, by show PoW D y μ t; unfold PoW; rw [ht]; exact ⟨hP, hw⟩⟩, hS.F ht⟩) hS.2.2 d
theorem V_zretX (X : Cx p l e R s m args below meth c (vx_MQ below (QXi D y A res μ') (QXx D y A res μ') args s 1 6 A) own cc nL (some .boolean) Ts D A y 0 0) (h : some (.inl v, μ) = some (res, μ')) (hb : zbo v = true) (d : decode cc pc = .ok (.ireturn, 1)) : V X μ pc lv [.int v] := by
  cases h
  intro H locs ls hP hw hS hl
  refine vx_ret (W.widen (k := 1) (n := 6) (Nat.zero_le _) (Nat.zero_le _) ?_)
  exact W.zret (hlocks := X.2.2.2.2.1) X.1 X.2.1 X.2.2.2.1 (zbo_n hb) (fun t ht hW => ⟨⟨v, (), rfl, rfl, by show PoW D y μ t; unfold PoW; rw [ht]; exact ⟨hP, hw⟩⟩, hS.F ht⟩) hS.2.2 d
theorem V_throw (X : Cx p l e R s m args below meth c (vx_MQ below (QXi D y A res μ') (QXx D y A res μ') args s 1 6 A) own cc nL ret Ts D A y 0 0) (hex : ∀ x ∈ c.exceptionTable.toList, False) (hlf : l.stackTraces = false) {ik ic : Nat} (k : Nat) (h : some (.inr k, μ) = some (res, μ')) (hk5 : (zEx k, zEx k) ∈ zCast) (hfit : Bundle.fit (zEx k) = true)
    (hm1 : Cond.classLink own ik (zEx k) ∈ Ts) (hm2 : Cond.initialized (zEx k) ∈ Ts) (hm3 : ∀ w ∈ (vx_at0 own ic (zEx k) ["java/lang/RuntimeException", "java/lang/Exception"]).filter goodWord, w ∈ Ts)
    (hm4 : ∀ w ∈ (vx_at0 own ic (zEx k) ["java/lang/RuntimeException", "java/lang/Exception"]).filter (fun w => !goodWord w), w ∈ Cond.castable (zEx k) (zEx k) :: zDecl.map Cond.declares)
    (hgood : ∀ w ∈ Cond.classLink own ik (zEx k) :: Cond.initialized (zEx k) :: vx_at0 own ic (zEx k) ["java/lang/RuntimeException", "java/lang/Exception"], vx_ot w = true)
    (d0 : decode cc pc = .ok (.new ik, 3)) (d3 : decode cc (pc + 3) = .ok (.dup, 1)) (d4 : decode cc (pc + 4) = .ok (.invokespecial ic, 3)) (d7 : decode cc (pc + 7) = .ok (.athrow, 1))
    (hfr : 5 < R.frames) (hlo : (st.map fun v => v.category).sum + 81 ≤ R.locals) (hcl : 1 ≤ R.cells) (hsl : 6 ≤ R.slots) : V X μ pc lv st := by
  cases h
  intro H locs ls hP hw hS hl
  have hE := X.2.2.2.2.2.2.2.2.2.2.2.2.2
  refine vx_throw0 (own := own) (cls := zEx k) (names := ["java/lang/RuntimeException", "java/lang/Exception"]) (ik := ik) (ic := ic) (mc := 1) (ms := 6) (A := A) X.1 X.2.1 hlf X.2.2.2.2.2.1 hfit (by decide +kernel) (X.2.2.2.2.2.2.1 _ hm1) (X.2.2.2.2.2.2.1 _ hm2) ?_ hgood hE.2.2.2.1 hE.2.2.2.2.1 hS (hl.1.trans X.2.2.1.symm) d0 d3 d4 d7 (fun x hx => (hex x hx).elim) hfr hlo ?_ ?_ X.2.2.2.2.1 ?_ hS.2.2 (Nat.le_refl _) (Nat.le_refl _)
  · refine vx_hat (fun w hw' => X.2.2.2.2.2.2.1 w (hm3 w hw')) hm4 ?_
    intro w hw'
    rcases List.mem_cons.mp hw' with rfl | hw'
    · exact va_Nw.use rfl (hE.2.2.2.2.2.1 (zEx k, zEx k) hk5)
    · obtain ⟨q, hq, rfl⟩ := List.mem_map.mp hw'
      exact va_Nw.use rfl (hE.2.2.2.2.2.2.2.2 q hq)
  · omega
  · omega
  · intro t hal hsz hkept
    refine ⟨(), trivial, ⟨⟨k, rfl, rfl⟩, ?_, hw⟩, ?_, ?_⟩
    · exact hP.kept (fun i q hq => hkept q.1 (hP i q hq).lt)
    · exact Nat.le_trans hS.1 hsz
    · intro q h1 h2
      rw [hkept q (Nat.lt_of_lt_of_le h1 hS.1)]
      exact hS.2.1 q h1 h2
end VX
theorem MX_of {l : Launch} {ym : MethodName} {w ws' : List Cond} {rm : Room} {D : va_G} {y : ZLay} {av : List Value} {μ μ' : ZMem} {res : Int32 ⊕ Nat} {cc : ByteArray} {maxL : Nat} {ret : Option FieldType} (own : String) (lv : List (Nat × Value)) (hy : plainName ym.cls = true) (ho : ym.cls = own) (hw : w = Cond.code ym cc maxL ret :: ws') (hloc : (lg_sl av).length ≤ maxL) (hlv : lv_args 0 av = lv)
    (h : ∀ {p : Program} {e : Env} {s : State} {m : MethodId} {args : Array Value} {below : List Frame} {meth : Method} {c : Code} {A : Nat → Prop} (X : Cx p l e (headSpec w rm).room s m args below meth c (vx_MQ below (QXi D y A res μ') (QXx D y A res μ') args s 1 6 A) own cc maxL ret w D A y 0 0), (∀ x ∈ c.exceptionTable.toList, False) → V X μ 0 lv []) : MX l ym w rm D y av μ res μ' := by
  intro sz
  refine vx_ofW (cc := cc) (maxL := maxL) (ret := ret) hy hw ?_
  intro p e s m args below meth c s₁ B hml hex hv
  obtain ⟨rfl, hsz, hP, hK, hN, hD0, hlw, hE⟩ := hv
  subst hsz
  have hown : s.vm.findClass own = some m.cls := by rw [← ho]; exact findClass_of_methodNamed B.named
  have X : Cx p l e (headSpec w rm).room s m av.toArray below meth c (vx_MQ below (QXi D y (fA y s.heap.size) res μ') (QXx D y (fA y s.heap.size) res μ') av.toArray s 1 6 (fA y s.heap.size)) own cc maxL ret w D (fA y s.heap.size) y 0 0 :=
    ⟨B.exec, B.bytes, hml, B.returns, B.notSynchronized, hown, atoms_spec (ws := w) B.pre, hK, hN, fun q h => Or.inr h, fA_D hD0, Nat.zero_le _, Nat.zero_le _, hE⟩
  have hl := lv_entry av (n := maxL) hloc
  rw [lg_entry_eq]
  rw [hlv] at hl
  exact h X hex _ _ _ hP hlw va_S.rf hl
