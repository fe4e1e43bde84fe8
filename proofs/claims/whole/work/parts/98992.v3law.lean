/-! the class's law() -/
def QLi (D : va_G) (A : Nat → Prop) (R : Int32 → ZLay → ZMem → Prop) : Array Value → State → Outcome → State → Prop := va_Qi (S := ZLay × ZMem) (fun r0 u => R r0 u.1 u.2) (fun u t => va_P D vwCl (wd u.1 u.2) t.heap ∧ lawok u.1 u.2 ∧ va_D A (wd u.1 u.2)) A
def QLx (D : va_G) (y : ZLay) (A : Nat → Prop) (T : ZMem → Prop) : String → State → State → Prop := vx_X (S := ZMem) (fun μ' => T μ') (fun E μ' t => E = zEx 1 ∧ PoW D y μ' t) A
def MLW (l : Launch) (ym : MethodName) (w : List Cond) (rm : Room) (D : va_G) (y : ZLay) (av : List Value) (μ : ZMem) (R : Int32 → ZLay → ZMem → Prop) (T : ZMem → Prop) : Prop := ∀ sz : Nat, vx_Met l ym w rm (va_Pc av (fun U => PreW D y sz μ U ∧ AOs U)) (QLi D (fA y sz) R) (QLx D y (fA y sz) T) 6 1638 (fA y sz)
section VLw
variable {p : Program} {l : Launch} {e : Env} {R : Room} {s : State} {m : MethodId} {args : Array Value} {below : List Frame} {meth : Method} {c : Code}
variable {own : String} {cc : ByteArray} {nL : Nat} {ret : Option FieldType} {Ts : List Cond} {D : va_G} {A : Nat → Prop} {y y0 : ZLay}
variable {μ : ZMem} {pc kc ks : Nat} {lv : List (Nat × Value)} {st : List Value} {v : Int32} {RR : Int32 → ZLay → ZMem → Prop} {TT : ZMem → Prop}
theorem V_iretL (X : Cx p l e R s m args below meth c (vx_MQ below (QLi D A RR) (QLx D y0 A TT) args s 6 1638 A) own cc nL (some .int) Ts D A y kc ks) (h1 : kc ≤ 6) (h2 : ks ≤ 1638) (h : RR v y μ) (d : decode cc pc = .ok (.ireturn, 1)) : V X μ pc lv [.int v] := by
  intro H locs ls hP hw hS hl
  refine vx_ret (W.widen (k := 6) (n := 1638) h1 h2 ?_)
  exact W.iret (hlocks := X.2.2.2.2.1) X.1 X.2.1 X.2.2.2.1 (fun t ht hW => ⟨⟨v, (y, μ), rfl, h, by show va_P D vwCl (wd y μ) t.heap ∧ lawok y μ ∧ va_D A (wd y μ); rw [ht]; exact ⟨hP, hw, X.2.2.2.2.2.2.2.2.2.2.1 μ⟩⟩, hS.F ht⟩) hS.2.2 d
theorem V_throwL (X : Cx p l e R s m args below meth c (vx_MQ below (QLi D A RR) (QLx D y A TT) args s 6 1638 A) own cc nL ret Ts D A y 0 0) (hex : ∀ x ∈ c.exceptionTable.toList, False) (hlf : l.stackTraces = false) {ik ic : Nat} (h : TT μ)
    (hm1 : Cond.classLink own ik (zEx 1) ∈ Ts) (hm2 : Cond.initialized (zEx 1) ∈ Ts) (hm3 : ∀ w ∈ (vx_at0 own ic (zEx 1) ["java/lang/RuntimeException", "java/lang/Exception"]).filter goodWord, w ∈ Ts)
    (hm4 : ∀ w ∈ (vx_at0 own ic (zEx 1) ["java/lang/RuntimeException", "java/lang/Exception"]).filter (fun w => !goodWord w), w ∈ Cond.castable (zEx 1) (zEx 1) :: zDecl.map Cond.declares)
    (hgood : ∀ w ∈ Cond.classLink own ik (zEx 1) :: Cond.initialized (zEx 1) :: vx_at0 own ic (zEx 1) ["java/lang/RuntimeException", "java/lang/Exception"], vx_ot w = true)
    (d0 : decode cc pc = .ok (.new ik, 3)) (d3 : decode cc (pc + 3) = .ok (.dup, 1)) (d4 : decode cc (pc + 4) = .ok (.invokespecial ic, 3)) (d7 : decode cc (pc + 7) = .ok (.athrow, 1))
    (hfr : 5 < R.frames) (hlo : (st.map fun v => v.category).sum + 81 ≤ R.locals) (hcl : 1 ≤ R.cells) (hsl : 6 ≤ R.slots) : V X μ pc lv st := by
  intro H locs ls hP hw hS hl
  have hE := X.2.2.2.2.2.2.2.2.2.2.2.2.2
  refine vx_throw0 (own := own) (cls := zEx 1) (names := ["java/lang/RuntimeException", "java/lang/Exception"]) (ik := ik) (ic := ic) (mc := 6) (ms := 1638) (A := A) X.1 X.2.1 hlf X.2.2.2.2.2.1 (by decide +kernel) (by decide +kernel) (X.2.2.2.2.2.2.1 _ hm1) (X.2.2.2.2.2.2.1 _ hm2) ?_ hgood hE.2.2.2.1 hE.2.2.2.2.1 hS (hl.1.trans X.2.2.1.symm) d0 d3 d4 d7 (fun x hx => (hex x hx).elim) hfr hlo ?_ ?_ X.2.2.2.2.1 ?_ hS.2.2 (by omega) (by omega)
  · refine vx_hat (fun w hw' => X.2.2.2.2.2.2.1 w (hm3 w hw')) hm4 ?_
    intro w hw'
    rcases List.mem_cons.mp hw' with rfl | hw'
    · exact va_Nw.use rfl (hE.2.2.2.2.2.1 (zEx 1, zEx 1) (by decide +kernel))
    · obtain ⟨q, hq, rfl⟩ := List.mem_map.mp hw'
      exact va_Nw.use rfl (hE.2.2.2.2.2.2.2.2 q hq)
  · omega
  · omega
  · intro t hal hsz hkept
    refine ⟨μ, h, ⟨rfl, ?_, hw⟩, ?_, ?_⟩
    · exact hP.kept (fun i q hq => hkept q.1 (hP i q hq).lt)
    · exact Nat.le_trans hS.1 hsz
    · intro q h1 h2
      rw [hkept q (Nat.lt_of_lt_of_le h1 hS.1)]
      exact hS.2.1 q h1 h2
end VLw
theorem ML_of {l : Launch} {ym : MethodName} {w ws' : List Cond} {rm : Room} {D : va_G} {y : ZLay} {av : List Value} {μ : ZMem} {RR : Int32 → ZLay → ZMem → Prop} {TT : ZMem → Prop} {cc : ByteArray} {maxL : Nat} {ret : Option FieldType} (own : String) (lv : List (Nat × Value)) (hy : plainName ym.cls = true) (ho : ym.cls = own) (hw : w = Cond.code ym cc maxL ret :: ws') (hloc : (lg_sl av).length ≤ maxL) (hlv : lv_args 0 av = lv)
    (h : ∀ {p : Program} {e : Env} {s : State} {m : MethodId} {args : Array Value} {below : List Frame} {meth : Method} {c : Code} {A : Nat → Prop} (X : Cx p l e (headSpec w rm).room s m args below meth c (vx_MQ below (QLi D A RR) (QLx D y A TT) args s 6 1638 A) own cc maxL ret w D A y 0 0), AOs s → (∀ x ∈ c.exceptionTable.toList, False) → V X μ 0 lv []) : MLW l ym w rm D y av μ RR TT := by
  intro sz
  refine vx_ofW (cc := cc) (maxL := maxL) (ret := ret) hy hw ?_
  intro p e s m args below meth c s₁ B hml hex hv
  obtain ⟨rfl, ⟨hsz, hP, hK, hN, hD0, hlw, hE⟩, hO⟩ := hv
  subst hsz
  have hown : s.vm.findClass own = some m.cls := by rw [← ho]; exact findClass_of_methodNamed B.named
  have X : Cx p l e (headSpec w rm).room s m av.toArray below meth c (vx_MQ below (QLi D (fA y s.heap.size) RR) (QLx D y (fA y s.heap.size) TT) av.toArray s 6 1638 (fA y s.heap.size)) own cc maxL ret w D (fA y s.heap.size) y 0 0 :=
    ⟨B.exec, B.bytes, hml, B.returns, B.notSynchronized, hown, atoms_spec (ws := w) B.pre, hK, hN, fun q h => Or.inr h, fA_D hD0, Nat.zero_le _, Nat.zero_le _, hE⟩
  have hl := lv_entry av (n := maxL) hloc
  rw [lg_entry_eq]
  rw [hlv] at hl
  exact h X hO hex _ _ _ hP hlw va_S.rf hl
