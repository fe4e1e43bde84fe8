/-! V, the rules: one for each instruction, over memories -/
def tyl (y : ZLay) : List (ClassId × FieldType) := [(zci y 0, .int), (zci y 1, .long), (zci y 2, .object "SlotCluster$Node"), (zci y 3, .object "SlotCluster$State"), (zci y 4, .array .int)]
def zisN : Cond → Bool
  | .methodLinkNest _ _ _ _ => true
  | _ => false
theorem zNest_ok : ∀ w ∈ zNest, zisN w = true := by decide +kernel
def NWs (U : State) : Prop := ∀ w ∈ zNest, va_Nw w U
theorem NWs.warm {s U : State} (hW : s.WarmedH U.vm) (h : NWs s) : NWs U := by
  intro w hw
  have h1 := zNest_ok w hw
  have h2 := h w hw
  cases w <;> first | (exact va_Nw.warmM hW h2) | (exact absurd h1 (by simp [zisN]))
theorem NWs.same {u U : State} (hvm : u.vm = U.vm) (h : NWs u) : NWs U := by
  intro w hw
  have h1 := zNest_ok w hw
  have h2 := h w hw
  cases w <;> first | (exact va_Nw.same rfl hvm h2) | (exact absurd h1 (by simp [zisN]))
/-- the world as a method finds it, and leaves it -/
def fA (y : ZLay) (sz : Nat) : Nat → Prop := fun q => (∃ o, okI y o ∧ q = zad y o) ∨ sz ≤ q
def PreW (D : va_G) (y : ZLay) (sz : Nat) (μ : ZMem) : State → Prop := fun U => U.heap.size = sz ∧ va_P D vwCl (wd y μ) U.heap ∧ va_K D vwCl (tyl y) U ∧ NWs U ∧ va_D (fun _ => True) (wd y μ) ∧ lawok y μ ∧ EnvF y (fA y sz) U U.heap
def PoW (D : va_G) (y : ZLay) (μ : ZMem) : State → Prop := fun t => va_P D vwCl (wd y μ) t.heap ∧ lawok y μ
def QI (D : va_G) (y : ZLay) (A : Nat → Prop) (r : Int32) (μ : ZMem) : Array Value → State → Outcome → State → Prop := va_Qi (S := Unit) (fun r0 _ => r0 = r) (fun _ t => PoW D y μ t) A
def QV (D : va_G) (y : ZLay) (A : Nat → Prop) (μ : ZMem) : Array Value → State → Outcome → State → Prop := va_Qv (S := Unit) (fun _ => True) (fun _ t => PoW D y μ t) A
/-- contracts: an int method's, a void one's -/
def MI (l : Launch) (ym : MethodName) (w : List Cond) (rm : Room) (D : va_G) (y : ZLay) (av : List Value) (μ : ZMem) (r : Int32) (μ' : ZMem) : Prop := ∀ sz : Nat, Met l ym w rm (va_Pc av (PreW D y sz μ)) (QI D y (fA y sz) r μ') 0 0 (fA y sz)
def MV (l : Launch) (ym : MethodName) (w : List Cond) (rm : Room) (D : va_G) (y : ZLay) (av : List Value) (μ : ZMem) (μ' : ZMem) : Prop := ∀ sz : Nat, Met l ym w rm (va_Pc av (PreW D y sz μ)) (QV D y (fA y sz) μ') 0 0 (fA y sz)
theorem fA_D {y : ZLay} {sz : Nat} {μ : ZMem} (h : va_D (fun _ => True) (wd y μ)) : ∀ μ', va_D (fA y sz) (wd y μ') := by
  intro μ'
  have h1 : va_D (fun _ => True) (wd y μ') := wd_D h
  refine ⟨h1.1, fun k q hq => Or.inl ?_⟩
  rw [wd, List.getElem?_map] at hq
  cases hb : (zids (znl y))[k]? with
  | none => rw [hb] at hq; cases hq
  | some b =>
    rw [hb] at hq
    cases hq
    exact ⟨b, mem_zids.mp (List.mem_of_getElem? hb), rfl⟩
def Cx (p : Program) (l : Launch) (e : Env) (R : Room) (s : State) (m : MethodId) (args : Array Value) (below : List Frame) (meth : Method) (c : Code) (Q : State → Prop) (own : String) (cc : ByteArray) (nL : Nat) (ret : Option FieldType) (Ts : List Cond) (D : va_G) (A : Nat → Prop) (y : ZLay) (kc ks : Nat) : Prop :=
  p.tables.exec = Jvm.exec ∧ c.code = cc ∧ c.maxLocals = nL ∧ meth.sig.returnType = ret ∧ meth.locks = false ∧ s.vm.findClass own = some m.cls ∧ (∀ w ∈ Ts, w.before args s = true) ∧ va_K D vwCl (tyl y) s ∧ NWs s ∧ (∀ q, s.heap.size ≤ q → A q) ∧ (∀ μ, va_D A (wd y μ)) ∧ kc ≤ R.cells ∧ ks ≤ R.slots ∧ EnvF y A s s.heap
section VL
variable {p : Program} {l : Launch} {e : Env} {R : Room} {s : State} {m : MethodId} {args : Array Value} {below : List Frame} {meth : Method} {c : Code} {Q : State → Prop}
variable {own : String} {cc : ByteArray} {nL : Nat} {ret : Option FieldType} {Ts : List Cond} {D : va_G} {A : Nat → Prop} {y : ZLay} {kc ks : Nat}
def V (X : Cx p l e R s m args below meth c Q own cc nL ret Ts D A y kc ks) (μ : ZMem) (pc : Nat) (lv : List (Nat × Value)) (st : List Value) : Prop :=
  ∀ (H : Heap) (locs : List Loc) (ls : Array Slot), va_P D vwCl (wd y μ) H → lawok y μ → va_S A s.heap H locs → lv_has ls nL lv → W p l e R s m args below meth c H locs kc ks Q (F0 m pc ls st)
variable (X : Cx p l e R s m args below meth c Q own cc nL ret Ts D A y kc ks)
variable {μ : ZMem} {pc : Nat} {lv : List (Nat × Value)} {st : List Value}
theorem V_sub {lv' : List (Nat × Value)} (is : List Nat) (h : lv_pick lv is = lv') (k : V X μ pc lv' st) : V X μ pc lv st := fun H locs ls hP hw hS hl => k H locs ls hP hw hS (lv_sub hl is h)

theorem V_iadd {x z : Int32} (d : decode cc pc = .ok (.iadd, 1)) (k : V X μ (pc + 1) lv (.int (x + z) :: st)) : V X μ pc lv (.int z :: .int x :: st) := fun H locs ls hP hw hS hl => lv_iadd X.1 X.2.1 d (k H locs ls hP hw hS hl)
theorem V_isub {x z : Int32} (d : decode cc pc = .ok (.isub, 1)) (k : V X μ (pc + 1) lv (.int (x - z) :: st)) : V X μ pc lv (.int z :: .int x :: st) := fun H locs ls hP hw hS hl => lv_isub X.1 X.2.1 d (k H locs ls hP hw hS hl)
theorem V_imul {x z : Int32} (d : decode cc pc = .ok (.imul, 1)) (k : V X μ (pc + 1) lv (.int (x * z) :: st)) : V X μ pc lv (.int z :: .int x :: st) := fun H locs ls hP hw hS hl => lv_imul X.1 X.2.1 d (k H locs ls hP hw hS hl)
theorem V_iand {x z : Int32} (d : decode cc pc = .ok (.iand, 1)) (k : V X μ (pc + 1) lv (.int (x &&& z) :: st)) : V X μ pc lv (.int z :: .int x :: st) := fun H locs ls hP hw hS hl => lv_iand X.1 X.2.1 d (k H locs ls hP hw hS hl)
theorem V_ior {x z : Int32} (d : decode cc pc = .ok (.ior, 1)) (k : V X μ (pc + 1) lv (.int (x ||| z) :: st)) : V X μ pc lv (.int z :: .int x :: st) := fun H locs ls hP hw hS hl => lv_ior X.1 X.2.1 d (k H locs ls hP hw hS hl)
theorem V_ixor {x z : Int32} (d : decode cc pc = .ok (.ixor, 1)) (k : V X μ (pc + 1) lv (.int (x ^^^ z) :: st)) : V X μ pc lv (.int z :: .int x :: st) := fun H locs ls hP hw hS hl => lv_ixor X.1 X.2.1 d (k H locs ls hP hw hS hl)
theorem V_ishl {x z : Int32} (d : decode cc pc = .ok (.ishl, 1)) (k : V X μ (pc + 1) lv (.int (x <<< (z &&& 31)) :: st)) : V X μ pc lv (.int z :: .int x :: st) := fun H locs ls hP hw hS hl => lv_ishl X.1 X.2.1 d (k H locs ls hP hw hS hl)
theorem V_ishr {x z : Int32} (d : decode cc pc = .ok (.ishr, 1)) (k : V X μ (pc + 1) lv (.int (x >>> (z &&& 31)) :: st)) : V X μ pc lv (.int z :: .int x :: st) := fun H locs ls hP hw hS hl => lv_ishr X.1 X.2.1 d (k H locs ls hP hw hS hl)
def zushr (x z : Int32) : Int32 := (x.toUInt32 >>> (z.toUInt32 &&& Int32.toUInt32 31)).toInt32
theorem V_iushr {x z : Int32} (d : decode cc pc = .ok (.iushr, 1)) (k : V X μ (pc + 1) lv (.int (zushr x z) :: st)) : V X μ pc lv (.int z :: .int x :: st) := fun H locs ls hP hw hS hl => lv_iushr X.1 X.2.1 d rfl (k H locs ls hP hw hS hl)
theorem V_idiv {x z : Int32} (d : decode cc pc = .ok (.idiv, 1)) (hne : ¬ z = 0) (k : V X μ (pc + 1) lv (.int (x / z) :: st)) : V X μ pc lv (.int z :: .int x :: st) := fun H locs ls hP hw hS hl => lv_idiv X.1 X.2.1 d hne (k H locs ls hP hw hS hl)
theorem V_irem {x z : Int32} (d : decode cc pc = .ok (.irem, 1)) (hne : ¬ z = 0) (k : V X μ (pc + 1) lv (.int (x - x / z * z) :: st)) : V X μ pc lv (.int z :: .int x :: st) := fun H locs ls hP hw hS hl => lv_irem X.1 X.2.1 d hne (k H locs ls hP hw hS hl)
theorem V_ineg {x : Int32} (d : decode cc pc = .ok (.ineg, 1)) (k : V X μ (pc + 1) lv (.int (-x) :: st)) : V X μ pc lv (.int x :: st) := fun H locs ls hP hw hS hl => lv_ineg X.1 X.2.1 d (k H locs ls hP hw hS hl)
theorem V_ladd {x z : Int64} (d : decode cc pc = .ok (.ladd, 1)) (k : V X μ (pc + 1) lv (.long (x + z) :: st)) : V X μ pc lv (.long z :: .long x :: st) := fun H locs ls hP hw hS hl => lv_ladd X.1 X.2.1 d (k H locs ls hP hw hS hl)
theorem V_lsub {x z : Int64} (d : decode cc pc = .ok (.lsub, 1)) (k : V X μ (pc + 1) lv (.long (x - z) :: st)) : V X μ pc lv (.long z :: .long x :: st) := fun H locs ls hP hw hS hl => lv_lsub X.1 X.2.1 d (k H locs ls hP hw hS hl)
theorem V_lmul {x z : Int64} (d : decode cc pc = .ok (.lmul, 1)) (k : V X μ (pc + 1) lv (.long (x * z) :: st)) : V X μ pc lv (.long z :: .long x :: st) := fun H locs ls hP hw hS hl => lv_lmul X.1 X.2.1 d (k H locs ls hP hw hS hl)
theorem V_ldiv {x z : Int64} (d : decode cc pc = .ok (.ldiv, 1)) (hne : ¬ z = 0) (k : V X μ (pc + 1) lv (.long (x / z) :: st)) : V X μ pc lv (.long z :: .long x :: st) := fun H locs ls hP hw hS hl => lv_ldiv X.1 X.2.1 d hne (k H locs ls hP hw hS hl)
theorem V_lcmp {x z : Int64} (d : decode cc pc = .ok (.lcmp, 1)) (k : V X μ (pc + 1) lv (.int (lg_cmp x z) :: st)) : V X μ pc lv (.long z :: .long x :: st) := fun H locs ls hP hw hS hl => W.lcmp X.1 X.2.1 d (k H locs ls hP hw hS hl)
theorem V_i2l {x : Int32} (d : decode cc pc = .ok (.i2l, 1)) (k : V X μ (pc + 1) lv (.long x.toInt64 :: st)) : V X μ pc lv (.int x :: st) := fun H locs ls hP hw hS hl => lv_i2l X.1 X.2.1 d rfl (k H locs ls hP hw hS hl)
theorem V_l2i {x : Int64} (d : decode cc pc = .ok (.l2i, 1)) (k : V X μ (pc + 1) lv (.int x.toInt32 :: st)) : V X μ pc lv (.long x :: st) := fun H locs ls hP hw hS hl => lv_l2i X.1 X.2.1 d rfl (k H locs ls hP hw hS hl)
theorem V_iconst {n : Int} (v : Int32) (d : decode cc pc = .ok (.iconst n, 1)) (hv : Int32.ofInt n = v) (k : V X μ (pc + 1) lv (.int v :: st)) : V X μ pc lv st := fun H locs ls hP hw hS hl => lv_iconst X.1 X.2.1 d hv (k H locs ls hP hw hS hl)
theorem V_bipush {n : Int} (v : Int32) (d : decode cc pc = .ok (.bipush n, 2)) (hv : (Int8.ofInt n).toInt32 = v) (k : V X μ (pc + 2) lv (.int v :: st)) : V X μ pc lv st := fun H locs ls hP hw hS hl => lv_bipush X.1 X.2.1 d hv (k H locs ls hP hw hS hl)
theorem V_sipush {n : Int} (v : Int32) (d : decode cc pc = .ok (.sipush n, 3)) (hv : (Int16.ofInt n).toInt32 = v) (k : V X μ (pc + 3) lv (.int v :: st)) : V X μ pc lv st := fun H locs ls hP hw hS hl => lv_sipush X.1 X.2.1 d hv (k H locs ls hP hw hS hl)
theorem V_lconst {n : Fin 2} (v : Int64) (d : decode cc pc = .ok (.lconst n, 1)) (hv : Int64.ofNat (n : Nat) = v) (k : V X μ (pc + 1) lv (.long v :: st)) : V X μ pc lv st := fun H locs ls hP hw hS hl => lv_lconst X.1 X.2.1 d hv (k H locs ls hP hw hS hl)
theorem V_ldc {ix : Nat} {v : Int32} (hm : Cond.constant own ix v ∈ Ts) (d : decode cc pc = .ok (.ldc ix, 2)) (k : V X μ (pc + 2) lv (.int v :: st)) : V X μ pc lv st := fun H locs ls hP hw hS hl => lv_ldc X.1 X.2.1 X.2.2.2.2.2.1 (X.2.2.2.2.2.2.1 _ hm) d (k H locs ls hP hw hS hl)
theorem V_ldcw {ix : Nat} {v : Int32} (hm : Cond.constant own ix v ∈ Ts) (d : decode cc pc = .ok (.ldc_w ix, 3)) (k : V X μ (pc + 3) lv (.int v :: st)) : V X μ pc lv st := fun H locs ls hP hw hS hl => lv_ldcw X.1 X.2.1 X.2.2.2.2.2.1 (X.2.2.2.2.2.2.1 _ hm) d (k H locs ls hP hw hS hl)
theorem V_ldc2 {ix : Nat} {v : Int64} (hm : Cond.constantLong own ix v ∈ Ts) (d : decode cc pc = .ok (.ldc2_w ix, 3)) (k : V X μ (pc + 3) lv (.long v :: st)) : V X μ pc lv st := fun H locs ls hP hw hS hl => lv_ldc2 X.1 X.2.1 X.2.2.2.2.2.1 (X.2.2.2.2.2.2.1 _ hm) d (k H locs ls hP hw hS hl)
theorem V_iload {i : Nat} {x : Int32} (q : Nat) (d : decode cc pc = .ok (.iload i, 2)) (hl : lv[q]? = some (i, .int x)) (k : V X μ (pc + 2) lv (.int x :: st)) : V X μ pc lv st := fun H locs ls hP hw hS hh => lv_iload X.1 X.2.1 d (lv_at hh q hl) (k H locs ls hP hw hS hh)
theorem V_iload_n {f : Fin 4} {i : Nat} {x : Int32} (q : Nat) (d : decode cc pc = .ok (.iload_n f, 1)) (hi : (f : Nat) = i) (hl : lv[q]? = some (i, .int x)) (k : V X μ (pc + 1) lv (.int x :: st)) : V X μ pc lv st := fun H locs ls hP hw hS hh => lv_iload_n X.1 X.2.1 d hi (lv_at hh q hl) (k H locs ls hP hw hS hh)
theorem V_istore {i : Nat} {x : Int32} (lv' : List (Nat × Value)) (d : decode cc pc = .ok (.istore i, 2)) (hn : i < nL) (hl : (i, Value.int x) :: lv.filter (fun q => !(q.1 == i) && !(q.1 + 1 == i && q.2.category == 2)) = lv') (k : V X μ (pc + 2) lv' st) : V X μ pc lv (.int x :: st) := fun H locs ls hP hw hS hh => lv_istore X.1 X.2.1 d hh hn hl (fun ls' hh' => k H locs ls' hP hw hS hh')
theorem V_istore_n {f : Fin 4} {i : Nat} {x : Int32} (lv' : List (Nat × Value)) (d : decode cc pc = .ok (.istore_n f, 1)) (hi : (f : Nat) = i) (hn : i < nL) (hl : (i, Value.int x) :: lv.filter (fun q => !(q.1 == i) && !(q.1 + 1 == i && q.2.category == 2)) = lv') (k : V X μ (pc + 1) lv' st) : V X μ pc lv (.int x :: st) := fun H locs ls hP hw hS hh => lv_istore_n X.1 X.2.1 d hi hh hn hl (fun ls' hh' => k H locs ls' hP hw hS hh')
theorem V_lload {i : Nat} {x : Int64} (q : Nat) (d : decode cc pc = .ok (.lload i, 2)) (hl : lv[q]? = some (i, .long x)) (k : V X μ (pc + 2) lv (.long x :: st)) : V X μ pc lv st := fun H locs ls hP hw hS hh => lv_lload X.1 X.2.1 d (lv_at hh q hl) (k H locs ls hP hw hS hh)
theorem V_lload_n {f : Fin 4} {i : Nat} {x : Int64} (q : Nat) (d : decode cc pc = .ok (.lload_n f, 1)) (hi : (f : Nat) = i) (hl : lv[q]? = some (i, .long x)) (k : V X μ (pc + 1) lv (.long x :: st)) : V X μ pc lv st := fun H locs ls hP hw hS hh => lv_lload_n X.1 X.2.1 d hi (lv_at hh q hl) (k H locs ls hP hw hS hh)
theorem V_lstore {i : Nat} {x : Int64} (lv' : List (Nat × Value)) (d : decode cc pc = .ok (.lstore i, 2)) (hn : i + 1 < nL) (hl : (i, Value.long x) :: lv.filter (fun q => !(q.1 == i) && (!(q.1 == i + 1) && !(q.1 + 1 == i && q.2.category == 2))) = lv') (k : V X μ (pc + 2) lv' st) : V X μ pc lv (.long x :: st) := fun H locs ls hP hw hS hh => lv_lstore X.1 X.2.1 d hh hn hl (fun ls' hh' => k H locs ls' hP hw hS hh')
theorem V_lstore_n {f : Fin 4} {i : Nat} {x : Int64} (lv' : List (Nat × Value)) (d : decode cc pc = .ok (.lstore_n f, 1)) (hi : (f : Nat) = i) (hn : i + 1 < nL) (hl : (i, Value.long x) :: lv.filter (fun q => !(q.1 == i) && (!(q.1 == i + 1) && !(q.1 + 1 == i && q.2.category == 2))) = lv') (k : V X μ (pc + 1) lv' st) : V X μ pc lv (.long x :: st) := fun H locs ls hP hw hS hh => lv_lstore_n X.1 X.2.1 d hi hh hn hl (fun ls' hh' => k H locs ls' hP hw hS hh')
theorem V_aload {i : Nat} {x : Nat} (q : Nat) (d : decode cc pc = .ok (.aload i, 2)) (hl : lv[q]? = some (i, .ref x)) (k : V X μ (pc + 2) lv (.ref x :: st)) : V X μ pc lv st := fun H locs ls hP hw hS hh => lv_aload X.1 X.2.1 d (lv_at hh q hl) (k H locs ls hP hw hS hh)
theorem V_aload_n {f : Fin 4} {i : Nat} {x : Nat} (q : Nat) (d : decode cc pc = .ok (.aload_n f, 1)) (hi : (f : Nat) = i) (hl : lv[q]? = some (i, .ref x)) (k : V X μ (pc + 1) lv (.ref x :: st)) : V X μ pc lv st := fun H locs ls hP hw hS hh => lv_aload_n X.1 X.2.1 d hi (lv_at hh q hl) (k H locs ls hP hw hS hh)
theorem V_astore {i : Nat} {x : Nat} (lv' : List (Nat × Value)) (d : decode cc pc = .ok (.astore i, 2)) (hn : i < nL) (hl : (i, Value.ref x) :: lv.filter (fun q => !(q.1 == i) && !(q.1 + 1 == i && q.2.category == 2)) = lv') (k : V X μ (pc + 2) lv' st) : V X μ pc lv (.ref x :: st) := fun H locs ls hP hw hS hh => lv_astore X.1 X.2.1 d hh hn hl (fun ls' hh' => k H locs ls' hP hw hS hh')
theorem V_astore_n {f : Fin 4} {i : Nat} {x : Nat} (lv' : List (Nat × Value)) (d : decode cc pc = .ok (.astore_n f, 1)) (hi : (f : Nat) = i) (hn : i < nL) (hl : (i, Value.ref x) :: lv.filter (fun q => !(q.1 == i) && !(q.1 + 1 == i && q.2.category == 2)) = lv') (k : V X μ (pc + 1) lv' st) : V X μ pc lv (.ref x :: st) := fun H locs ls hP hw hS hh => lv_astore_n X.1 X.2.1 d hi hh hn hl (fun ls' hh' => k H locs ls' hP hw hS hh')
theorem V_iinc {i : Nat} {n : Int} {x : Int32} (q : Nat) (v : Int32) (lv' : List (Nat × Value)) (d : decode cc pc = .ok (.iinc i n, 3)) (hq : lv[q]? = some (i, .int x)) (hv : x + Int32.ofInt n = v) (hn : i < nL) (hl : (i, Value.int v) :: lv.filter (fun q => !(q.1 == i) && !(q.1 + 1 == i && q.2.category == 2)) = lv') (k : V X μ (pc + 3) lv' st) : V X μ pc lv st := fun H locs ls hP hw hS hh => lv_iinc X.1 X.2.1 d hh hq hv hn hl (fun ls' hh' => k H locs ls' hP hw hS hh')
theorem V_pop {v : Value} (d : decode cc pc = .ok (.pop, 1)) (hv : v.category = 1) (k : V X μ (pc + 1) lv st) : V X μ pc lv (v :: st) := fun H locs ls hP hw hS hl => lv_pop X.1 X.2.1 d hv (k H locs ls hP hw hS hl)
theorem V_dup {v : Value} (d : decode cc pc = .ok (.dup, 1)) (hv : v.category = 1) (k : V X μ (pc + 1) lv (v :: v :: st)) : V X μ pc lv (v :: st) := fun H locs ls hP hw hS hl => lv_dup X.1 X.2.1 d hv (k H locs ls hP hw hS hl)
theorem V_dup2 {v w : Value} (d : decode cc pc = .ok (.dup2, 1)) (hv : v.category = 1) (hv2 : w.category = 1) (k : V X μ (pc + 1) lv (v :: w :: v :: w :: st)) : V X μ pc lv (v :: w :: st) := fun H locs ls hP hw hS hl => lv_dup2_11 X.1 X.2.1 d hv hv2 (k H locs ls hP hw hS hl)
theorem V_goto {off : Int} {tgt : Nat} (d : decode cc pc = .ok (.goto off, 3)) (ht : (pc : Int) + off = (tgt : Int)) (k : V X μ tgt lv st) : V X μ pc lv st := fun H locs ls hP hw hS hl => lv_goto X.1 X.2.1 d ht (k H locs ls hP hw hS hl)
theorem V_icmp_eq {x z : Int32} {off : Int} {tgt : Nat} (d : decode cc pc = .ok (.if_icmp .eq off, 3)) (ht : (pc : Int) + off = (tgt : Int)) (kt : x = z → V X μ tgt lv st) (kf : ¬ x = z → V X μ (pc + 3) lv st) : V X μ pc lv (.int z :: .int x :: st) := fun H locs ls hP hw hS hl => lv_icmp_eq X.1 X.2.1 d ht (fun h => kt h H locs ls hP hw hS hl) (fun h => kf h H locs ls hP hw hS hl)
theorem V_if_eq {x : Int32} {off : Int} {tgt : Nat} (d : decode cc pc = .ok (.ifCond .eq off, 3)) (ht : (pc : Int) + off = (tgt : Int)) (kt : x = 0 → V X μ tgt lv st) (kf : ¬ x = 0 → V X μ (pc + 3) lv st) : V X μ pc lv (.int x :: st) := fun H locs ls hP hw hS hl => lv_if_eq X.1 X.2.1 d ht (fun h => kt h H locs ls hP hw hS hl) (fun h => kf h H locs ls hP hw hS hl)
theorem V_icmp_ne {x z : Int32} {off : Int} {tgt : Nat} (d : decode cc pc = .ok (.if_icmp .ne off, 3)) (ht : (pc : Int) + off = (tgt : Int)) (kt : ¬ x = z → V X μ tgt lv st) (kf : x = z → V X μ (pc + 3) lv st) : V X μ pc lv (.int z :: .int x :: st) := fun H locs ls hP hw hS hl => lv_icmp_ne X.1 X.2.1 d ht (fun h => kt h H locs ls hP hw hS hl) (fun h => kf h H locs ls hP hw hS hl)
theorem V_if_ne {x : Int32} {off : Int} {tgt : Nat} (d : decode cc pc = .ok (.ifCond .ne off, 3)) (ht : (pc : Int) + off = (tgt : Int)) (kt : ¬ x = 0 → V X μ tgt lv st) (kf : x = 0 → V X μ (pc + 3) lv st) : V X μ pc lv (.int x :: st) := fun H locs ls hP hw hS hl => lv_if_ne X.1 X.2.1 d ht (fun h => kt h H locs ls hP hw hS hl) (fun h => kf h H locs ls hP hw hS hl)
theorem V_icmp_lt {x z : Int32} {off : Int} {tgt : Nat} (d : decode cc pc = .ok (.if_icmp .lt off, 3)) (ht : (pc : Int) + off = (tgt : Int)) (kt : x < z → V X μ tgt lv st) (kf : ¬ x < z → V X μ (pc + 3) lv st) : V X μ pc lv (.int z :: .int x :: st) := fun H locs ls hP hw hS hl => lv_icmp_lt X.1 X.2.1 d ht (fun h => kt h H locs ls hP hw hS hl) (fun h => kf h H locs ls hP hw hS hl)
theorem V_if_lt {x : Int32} {off : Int} {tgt : Nat} (d : decode cc pc = .ok (.ifCond .lt off, 3)) (ht : (pc : Int) + off = (tgt : Int)) (kt : x < 0 → V X μ tgt lv st) (kf : ¬ x < 0 → V X μ (pc + 3) lv st) : V X μ pc lv (.int x :: st) := fun H locs ls hP hw hS hl => lv_if_lt X.1 X.2.1 d ht (fun h => kt h H locs ls hP hw hS hl) (fun h => kf h H locs ls hP hw hS hl)
theorem V_icmp_ge {x z : Int32} {off : Int} {tgt : Nat} (d : decode cc pc = .ok (.if_icmp .ge off, 3)) (ht : (pc : Int) + off = (tgt : Int)) (kt : z ≤ x → V X μ tgt lv st) (kf : ¬ z ≤ x → V X μ (pc + 3) lv st) : V X μ pc lv (.int z :: .int x :: st) := fun H locs ls hP hw hS hl => lv_icmp_ge X.1 X.2.1 d ht (fun h => kt h H locs ls hP hw hS hl) (fun h => kf h H locs ls hP hw hS hl)
theorem V_if_ge {x : Int32} {off : Int} {tgt : Nat} (d : decode cc pc = .ok (.ifCond .ge off, 3)) (ht : (pc : Int) + off = (tgt : Int)) (kt : 0 ≤ x → V X μ tgt lv st) (kf : ¬ 0 ≤ x → V X μ (pc + 3) lv st) : V X μ pc lv (.int x :: st) := fun H locs ls hP hw hS hl => lv_if_ge X.1 X.2.1 d ht (fun h => kt h H locs ls hP hw hS hl) (fun h => kf h H locs ls hP hw hS hl)
theorem V_icmp_gt {x z : Int32} {off : Int} {tgt : Nat} (d : decode cc pc = .ok (.if_icmp .gt off, 3)) (ht : (pc : Int) + off = (tgt : Int)) (kt : z < x → V X μ tgt lv st) (kf : ¬ z < x → V X μ (pc + 3) lv st) : V X μ pc lv (.int z :: .int x :: st) := fun H locs ls hP hw hS hl => lv_icmp_gt X.1 X.2.1 d ht (fun h => kt h H locs ls hP hw hS hl) (fun h => kf h H locs ls hP hw hS hl)
theorem V_if_gt {x : Int32} {off : Int} {tgt : Nat} (d : decode cc pc = .ok (.ifCond .gt off, 3)) (ht : (pc : Int) + off = (tgt : Int)) (kt : 0 < x → V X μ tgt lv st) (kf : ¬ 0 < x → V X μ (pc + 3) lv st) : V X μ pc lv (.int x :: st) := fun H locs ls hP hw hS hl => lv_if_gt X.1 X.2.1 d ht (fun h => kt h H locs ls hP hw hS hl) (fun h => kf h H locs ls hP hw hS hl)
theorem V_icmp_le {x z : Int32} {off : Int} {tgt : Nat} (d : decode cc pc = .ok (.if_icmp .le off, 3)) (ht : (pc : Int) + off = (tgt : Int)) (kt : x ≤ z → V X μ tgt lv st) (kf : ¬ x ≤ z → V X μ (pc + 3) lv st) : V X μ pc lv (.int z :: .int x :: st) := fun H locs ls hP hw hS hl => lv_icmp_le X.1 X.2.1 d ht (fun h => kt h H locs ls hP hw hS hl) (fun h => kf h H locs ls hP hw hS hl)
theorem V_if_le {x : Int32} {off : Int} {tgt : Nat} (d : decode cc pc = .ok (.ifCond .le off, 3)) (ht : (pc : Int) + off = (tgt : Int)) (kt : x ≤ 0 → V X μ tgt lv st) (kf : ¬ x ≤ 0 → V X μ (pc + 3) lv st) : V X μ pc lv (.int x :: st) := fun H locs ls hP hw hS hl => lv_if_le X.1 X.2.1 d ht (fun h => kt h H locs ls hP hw hS hl) (fun h => kf h H locs ls hP hw hS hl)
theorem V_tblOut {dflt lo hi : Int} {offs : Array Int} {len : Nat} {x : Int32} {tgt : Nat} (d : decode cc pc = .ok (.tableswitch dflt lo hi offs, len)) (h : x.toInt < lo ∨ hi < x.toInt) (ht : (pc : Int) + dflt = (tgt : Int)) (k : V X μ tgt lv st) : V X μ pc lv (.int x :: st) := fun H locs ls hP hw hS hl => lv_tableOut X.1 X.2.1 d h ht (k H locs ls hP hw hS hl)
theorem V_tblIn {dflt lo hi : Int} {offs : Array Int} {len : Nat} {x : Int32} {off : Int} {tgt : Nat} (d : decode cc pc = .ok (.tableswitch dflt lo hi offs, len)) (h1 : ¬ x.toInt < lo) (h2 : ¬ hi < x.toInt) (ho : offs[(x.toInt - lo).toNat]? = some off) (ht : (pc : Int) + off = (tgt : Int)) (k : V X μ tgt lv st) : V X μ pc lv (.int x :: st) := fun H locs ls hP hw hS hl => lv_tableIn X.1 X.2.1 d h1 h2 ho ht (k H locs ls hP hw hS hl)
theorem V_lookup {dflt : Int} {ps : Array (Int × Int)} {len : Nat} {x : Int32} {off : Int} {tgt : Nat} (d : decode cc pc = .ok (.lookupswitch dflt ps, len)) (hp : (ps.toList.zip (ps.toList.drop 1)).all (fun (a, next) => a.1 < next.1) = true) (ho : Op.lookupswitch.offset ps.toList dflt x.toInt = off) (ht : (pc : Int) + off = (tgt : Int)) (k : V X μ tgt lv st) : V X μ pc lv (.int x :: st) := fun H locs ls hP hw hS hl => lv_lookup X.1 X.2.1 d hp ho ht (k H locs ls hP hw hS hl)
/-- reads and writes -/
theorem V_geti {o : ZId} {ci k ix N : Nat} {C : String} {T : u_T} {sh : List ZF} (ho : okI y o) (hs : zsh o = some (ci, sh)) (hk : sh[k]? = some none) (hc : vwCl[ci]? = some (C, T, N)) (hkN : k < N) (hin : ∀ w ∈ u_ws C T N, w ∈ Ts) (hlink : Cond.fieldLink own ix (T k).1 (T k).2.1 (T k).2.2.1 ∈ Ts) (d : decode cc pc = .ok (.getfield ix, 3)) (kk : V X μ (pc + 3) lv (.int (μ o k) :: st)) : V X μ pc lv (.ref (zad y o) :: st) := by
  intro H locs ls hP hw hS hl
  obtain ⟨q, -, hq⟩ := wd_get (μ := μ) ho
  rw [zenc_o hs] at hq
  have hv := zfs_i (y := y) (μ := μ) (o := o) sh 0 k hk
  rw [Nat.zero_add] at hv
  exact va_get (D := D) (ci := ci) (v := .int (μ o k)) (C := C) (T := T) (N := N) X.1 X.2.1 X.2.2.2.2.2.2.1 hin X.2.2.2.2.2.1 X.2.2.2.2.2.2.2.1 hP q hq hc k hkN (X.2.2.2.2.2.2.1 _ hlink) (fun _ h => h) hv d (kk H locs ls hP hw hS hl)
theorem V_getr {o i : ZId} {ci k ix N : Nat} {C : String} {T : u_T} {sh : List ZF} (ho : okI y o) (hs : zsh o = some (ci, sh)) (hk : sh[k]? = some (some (some i))) (hc : vwCl[ci]? = some (C, T, N)) (hkN : k < N) (hin : ∀ w ∈ u_ws C T N, w ∈ Ts) (hlink : Cond.fieldLink own ix (T k).1 (T k).2.1 (T k).2.2.1 ∈ Ts) (d : decode cc pc = .ok (.getfield ix, 3)) (kk : V X μ (pc + 3) lv (.ref (zad y i) :: st)) : V X μ pc lv (.ref (zad y o) :: st) := by
  intro H locs ls hP hw hS hl
  obtain ⟨q, -, hq⟩ := wd_get (μ := μ) ho
  rw [zenc_o hs] at hq
  have hv := zfs_r (y := y) (μ := μ) (o := o) sh 0 k hk
  exact va_get (D := D) (ci := ci) (v := .ref (zad y i)) (C := C) (T := T) (N := N) X.1 X.2.1 X.2.2.2.2.2.2.1 hin X.2.2.2.2.2.1 X.2.2.2.2.2.2.2.1 hP q hq hc k hkN (X.2.2.2.2.2.2.1 _ hlink) (fun _ h => h) hv d (kk H locs ls hP hw hS hl)
/-- the law of a state -/
theorem V_getl {t ix : Nat} (ht : t < 15) (hin : ∀ w ∈ u_ws RX7 TX7 11, w ∈ Ts) (hlink : Cond.fieldLink own ix (TX7 10).1 (TX7 10).2.1 (TX7 10).2.2.1 ∈ Ts) (d : decode cc pc = .ok (.getfield ix, 3)) (kk : (μ (1, t, 0) 10).toNatClampNeg < znl y → V X μ (pc + 3) lv (.ref (zad y (5, (μ (1, t, 0) 10).toNatClampNeg, 0)) :: st)) : V X μ pc lv (.ref (zad y (1, t, 0)) :: st) := by
  intro H locs ls hP hw hS hl
  obtain ⟨q, -, hq⟩ := wd_get (y := y) (μ := μ) (o := (1, t, 0)) ⟨ht, rfl⟩
  rw [zenc_o (show zsh (1, t, 0) = some (7, _) from rfl)] at hq
  have hv := zfs_l (y := y) (μ := μ) (o := (1, t, 0)) _ 0 10 (show ([some (some (2, t, 0)), some (some (4, t, 0)), none, none, none, none, none, none, none, none, some none] : List ZF)[10]? = _ from rfl)
  rw [Nat.zero_add] at hv
  exact va_get (D := D) (ci := 7) (v := .ref (zad y (5, (μ (1, t, 0) 10).toNatClampNeg, 0))) (C := RX7) (T := TX7) (N := 11) X.1 X.2.1 X.2.2.2.2.2.2.1 hin X.2.2.2.2.2.1 X.2.2.2.2.2.2.2.1 hP q hq rfl 10 (by decide) (X.2.2.2.2.2.2.1 _ hlink) (fun _ h => h) hv d (kk (hw t ht) H locs ls hP hw hS hl)
theorem V_puti {o : ZId} {ci k ix N : Nat} {C : String} {T : u_T} {sh : List ZF} {v : Int32} (ty0 : Nat → FieldType) (ty : FieldType) (ho : okI y o) (hs : zsh o = some (ci, sh)) (hk : sh[k]? = some none) (hc : vwCl[ci]? = some (C, T, N)) (hkN : k < N) (hin : ∀ w ∈ u_ws C T N, w ∈ Ts) (hty : ∀ k, k < N → parseFieldDescriptor (T k).2.2.1 = some (ty0 k)) (hnm : ∀ a, a < N → ∀ b, b < N → a ≠ b → (T a).2.1 ≠ (T b).2.1) (hlink : Cond.fieldLink own ix (T k).1 (T k).2.1 (T k).2.2.1 ∈ Ts) (hfin : (T k).2.2.2 = false) (hd : ty0 k = ty) (hn : narrow ty (.int v) = .int v) (hf : fits ty (.int v) = true) (d : decode cc pc = .ok (.putfield ix, 3)) (kk : V X (mset μ o k v) (pc + 3) lv st) : V X μ pc lv (.int v :: .ref (zad y o) :: st) := by
  intro H locs ls hP hw hS hl
  obtain ⟨q, hq0, hq⟩ := wd_get (μ := μ) ho
  rw [zenc_o hs] at hq
  refine va_put (D := D) (ci := ci) (v := .int v) (ty := ty) (C := C) (T := T) (N := N) X.1 X.2.1 X.2.2.2.2.2.2.1 hin ty0 hty hnm X.2.2.2.2.2.1 X.2.2.2.2.2.2.2.1 hP (X.2.2.2.2.2.2.2.2.2.2.1 μ) hS q hq hc k hkN (X.2.2.2.2.2.2.1 _ hlink) (fun _ h => h) hfin (by rw [hty k hkN, hd]) hn hf (by rw [zfs_len]; exact (List.getElem?_eq_some_iff.mp hk).1) d (fun H1 locs1 hP1 hD1 hS1 => ?_)
  have e : (wd y μ).set q (zad y o, .inr (ci, (zfs y μ o 0 sh).set k (.int v))) = wd y (mset μ o k v) := wd_set (X.2.2.2.2.2.2.2.2.2.2.1 μ) hq0 (by
    have := zfs_set (y := y) (μ := μ) (o := o) (v := v) sh 0 k hk
    rw [Nat.zero_add] at this
    rw [zenc_o hs, this]) (fun o' h => zenc_congr (mset_ne h))
  rw [e] at hP1
  refine kk H1 locs1 ls hP1 (lawok_ne hw ?_) hS1 hl
  obtain ⟨a, b, t⟩ := o
  rintro ⟨h1, h2⟩
  dsimp only at h1
  subst h1
  subst h2
  simp only [zsh, Option.some.injEq, Prod.mk.injEq] at hs
  rw [← hs.2] at hk
  simp at hk
theorem V_putl {t ix : Nat} {x : Int32} (ht : t < 15) (hx : x.toNatClampNeg < znl y) (hin : ∀ w ∈ u_ws RX7 TX7 11, w ∈ Ts) (hlink : Cond.fieldLink own ix (TX7 10).1 (TX7 10).2.1 (TX7 10).2.2.1 ∈ Ts) (d : decode cc pc = .ok (.putfield ix, 3)) (kk : V X (mset μ (1, t, 0) 10 x) (pc + 3) lv st) : V X μ pc lv (.ref (zad y (5, x.toNatClampNeg, 0)) :: .ref (zad y (1, t, 0)) :: st) := by
  intro H locs ls hP hw hS hl
  obtain ⟨q, hq0, hq⟩ := wd_get (y := y) (μ := μ) (o := (1, t, 0)) ⟨ht, rfl⟩
  have hs : zsh (1, t, 0) = some (7, [some (some (2, t, 0)), some (some (4, t, 0)), none, none, none, none, none, none, none, none, some none]) := rfl
  rw [zenc_o hs] at hq
  refine va_put (D := D) (ci := 7) (v := .ref (zad y (5, x.toNatClampNeg, 0))) (ty := .object "SlotCluster$Law") (C := RX7) (T := TX7) (N := 11) X.1 X.2.1 X.2.2.2.2.2.2.1 hin tyX7 tyX7_ok nmX7 X.2.2.2.2.2.1 X.2.2.2.2.2.2.2.1 hP (X.2.2.2.2.2.2.2.2.2.2.1 μ) hS q hq rfl 10 (by decide) (X.2.2.2.2.2.2.1 _ hlink) (fun _ h => h) rfl (by decide +kernel) rfl rfl (by rw [zfs_len]; show 10 < 11; decide) d (fun H1 locs1 hP1 hD1 hS1 => ?_)
  have e : (wd y μ).set q (zad y (1, t, 0), .inr (7, (zfs y μ (1, t, 0) 0 [some (some (2, t, 0)), some (some (4, t, 0)), none, none, none, none, none, none, none, none, some none]).set 10 (.ref (zad y (5, x.toNatClampNeg, 0))))) = wd y (mset μ (1, t, 0) 10 x) := wd_set (X.2.2.2.2.2.2.2.2.2.2.1 μ) hq0 (by
    have := zfs_setl (y := y) (μ := μ) (o := (1, t, 0)) (v := x) [some (some (2, t, 0)), some (some (4, t, 0)), none, none, none, none, none, none, none, none, some none] 0 10 rfl
    rw [Nat.zero_add] at this
    rw [zenc_o hs, this]) (fun o' h => zenc_congr (mset_ne h))
  rw [e] at hP1
  exact kk H1 locs1 ls hP1 (lawok_law hw hx) hS1 hl
theorem V_iald {o : ZId} {i : Int32} {n : Nat} (j : Nat) (hj : i.toNatClampNeg = j) (ho : okI y o) (ha : zisI o = true) (hn : zlen y o = n) (hi : zin i n = true) (d : decode cc pc = .ok (.iaload, 1)) (kk : V X μ (pc + 1) lv (.int (μ o j) :: st)) : V X μ pc lv (.int i :: .ref (zad y o) :: st) := by
  intro H locs ls hP hw hS hl
  subst hn; subst hj
  obtain ⟨q, -, hq⟩ := wd_get (μ := μ) ho
  rw [zenc_i ha] at hq
  exact va_iald X.1 X.2.1 X.2.2.2.2.2.2.2.1 hP q 0 hq rfl (zin_vp hi) d (kk H locs ls hP hw hS hl)
theorem V_iast {o : ZId} {i v : Int32} {n : Nat} (j : Nat) (hj : i.toNatClampNeg = j) (ho : okI y o) (ha : zisI o = true) (hn : zlen y o = n) (hi : zin i n = true) (d : decode cc pc = .ok (.iastore, 1)) (kk : V X (mset μ o j v) (pc + 1) lv st) : V X μ pc lv (.int v :: .int i :: .ref (zad y o) :: st) := by
  intro H locs ls hP hw hS hl
  subst hn; subst hj
  obtain ⟨q, hq0, hq⟩ := wd_get (μ := μ) ho
  rw [zenc_i ha] at hq
  refine va_iast X.1 X.2.1 X.2.2.2.2.2.2.2.1 hP (X.2.2.2.2.2.2.2.2.2.2.1 μ) hS q 0 hq rfl (zin_vp hi) d (fun H1 locs1 hP1 hD1 hS1 => ?_)
  have e : (wd y μ).set q (zad y o, .inl (zci y 0, zlen y o, .inl (upd (fun j => μ o j) i.toNatClampNeg v))) = wd y (mset μ o i.toNatClampNeg v) := wd_set (X.2.2.2.2.2.2.2.2.2.2.1 μ) hq0 (by
    rw [zenc_i ha]
    congr 4
    funext j
    by_cases hj : j = i.toNatClampNeg
    · subst hj; rw [mset_at]; simp [upd]
    · rw [mset_k hj]; simp [upd, hj]) (fun o' h => zenc_congr (mset_ne h))
  rw [e] at hP1
  refine kk H1 locs1 ls hP1 (lawok_ne hw ?_) hS1 hl
  obtain ⟨a, b, t⟩ := o
  rintro ⟨h1, h2⟩
  dsimp only at h1
  subst h1
  simp [zisI, zsh] at ha
theorem V_alen {o : ZId} {n : Nat} (v : Int32) (ho : okI y o) (ha : zisI o = true) (hn : zlen y o = n) (hv : Int32.ofNat n = v) (d : decode cc pc = .ok (.arraylength, 1)) (kk : V X μ (pc + 1) lv (.int v :: st)) : V X μ pc lv (.ref (zad y o) :: st) := by
  intro H locs ls hP hw hS hl
  subst hn
  obtain ⟨q, -, hq⟩ := wd_get (μ := μ) ho
  rw [zenc_i ha] at hq
  exact va_alen X.1 X.2.1 X.2.2.2.2.2.2.2.1 hP q 0 hq rfl hv d (kk H locs ls hP hw hS hl)
theorem V_aald {o : ZId} {i : Int32} {n q0 : Nat} {f : Nat → ZId} {ty : FieldType} (j : Nat) (hj : i.toNatClampNeg = j) (ho : okI y o) (h1 : zsh o = none) (h2 : zra o = some (q0, n, f)) (ht : (tyl y)[q0]? = some (zci y q0, ty)) (hty : ty.isReference = true) (hi : zin i n = true) (d : decode cc pc = .ok (.aaload, 1)) (kk : V X μ (pc + 1) lv (.ref (zad y (f j)) :: st)) : V X μ pc lv (.int i :: .ref (zad y o) :: st) := by
  intro H locs ls hP hw hS hl
  subst hj
  obtain ⟨q, -, hq⟩ := wd_get (μ := μ) ho
  rw [zenc_ra h1 h2] at hq
  have hlt : i.toNatClampNeg < n := zin_lt hi
  exact W.aald (v := va_rf (some (zad y (f i.toNatClampNeg)))) (ty := ty) X.1 X.2.1 (hP q _ hq) ((X.2.2.2.2.2.2.2.1.2 q0 _ ht).1 n (fun j => va_rf (some (zad y (f j))))) hty (fun q => by cases q) (by show ¬ (i < 0 ∨ (arrV _ _ _).slots.size ≤ _); rw [arrV_size]; exact zin_vp hi) (by show (arrV _ _ _).slots[_]? = _; rw [arrV_read _ _ hlt]) rfl rfl d (kk H locs ls hP hw hS hl)
theorem V_alenr {o : ZId} {n q0 : Nat} {f : Nat → ZId} {ty : FieldType} (v : Int32) (ho : okI y o) (h1 : zsh o = none) (h2 : zra o = some (q0, n, f)) (ht : (tyl y)[q0]? = some (zci y q0, ty)) (hv : Int32.ofNat n = v) (d : decode cc pc = .ok (.arraylength, 1)) (kk : V X μ (pc + 1) lv (.int v :: st)) : V X μ pc lv (.ref (zad y o) :: st) := by
  intro H locs ls hP hw hS hl
  obtain ⟨q, -, hq⟩ := wd_get (μ := μ) ho
  rw [zenc_ra h1 h2] at hq
  exact va_alen X.1 X.2.1 X.2.2.2.2.2.2.2.1 hP q q0 hq ht hv d (kk H locs ls hP hw hS hl)
/-- ends -/
theorem V_iret {r : Int32} (X : Cx p l e R s m args below meth c (MQ below (QI D y A r μ) args s kc ks A) own cc nL (some .int) Ts D A y kc ks) (d : decode cc pc = .ok (.ireturn, 1)) : V X μ pc lv [.int r] := fun H locs ls hP hw hS hl =>
  W.iret (hlocks := X.2.2.2.2.1) X.1 X.2.1 X.2.2.2.1 (fun t ht hW => ⟨⟨r, (), rfl, rfl, by show PoW D y μ t; unfold PoW; rw [ht]; exact ⟨hP, hw⟩⟩, hS.F ht⟩) hS.2.2 d
def zbo (v : Int32) : Bool := decide (v = 0) || decide (v = 1)
theorem zbo_n {v : Int32} (h : zbo v = true) : narrow .boolean (.int v) = .int v := by
  simp only [zbo, Bool.or_eq_true, decide_eq_true_eq] at h
  rcases h with h | h <;> subst h <;> rfl
theorem zbo_f {v : Int32} (h : zbo v = true) : fits .boolean (.int v) = true := by
  simp only [zbo, Bool.or_eq_true, decide_eq_true_eq] at h
  rcases h with h | h <;> subst h <;> rfl
theorem V_zret {r : Int32} (X : Cx p l e R s m args below meth c (MQ below (QI D y A r μ) args s kc ks A) own cc nL (some .boolean) Ts D A y kc ks) (d : decode cc pc = .ok (.ireturn, 1)) (hb : zbo r = true) : V X μ pc lv [.int r] := fun H locs ls hP hw hS hl =>
  W.zret (hlocks := X.2.2.2.2.1) X.1 X.2.1 X.2.2.2.1 (zbo_n hb) (fun t ht hW => ⟨⟨r, (), rfl, rfl, by show PoW D y μ t; unfold PoW; rw [ht]; exact ⟨hP, hw⟩⟩, hS.F ht⟩) hS.2.2 d
theorem V_vret (X : Cx p l e R s m args below meth c (MQ below (QV D y A μ) args s kc ks A) own cc nL none Ts D A y kc ks) (d : decode cc pc = .ok (.return_, 1)) : V X μ pc lv [] := fun H locs ls hP hw hS hl =>
  W.vret (hlocks := X.2.2.2.2.1) X.1 X.2.1 X.2.2.2.1 (fun t ht hW => ⟨⟨(), rfl, trivial, by show PoW D y μ t; unfold PoW; rw [ht]; exact ⟨hP, hw⟩⟩, hS.F ht⟩) hS.2.2 d
/-- calls -/
theorem pre_blind {av : List Value} {D : va_G} {y : ZLay} {sz : Nat} {μ : ZMem} : FrameBlind (va_Pc av (PreW D y sz μ)) := by
  intro a U g mk q
  obtain ⟨q0, q1, qP, qK, qN, qD, qL, qE⟩ := q
  exact ⟨q0, q1, qP, va_K.moved (u := U) (U := U.calling g mk a) (Vm.Alike.refl U.vm) qK, NWs.same (u := U) (U := U.calling g mk a) rfl qN, qD, qL, EnvF.same (s := U) (U := U.calling g mk a) rfl qE⟩
theorem fA_in {X : Cx p l e R s m args below meth c Q own cc nL ret Ts D A y kc ks} {H : Heap} {locs : List Loc} (hS : va_S A s.heap H locs) : ∀ q, fA y H.size q → A q := by
  intro q h
  rcases h with ⟨o, ho, rfl⟩ | h
  · obtain ⟨k, -, hk⟩ := wd_get (y := y) (μ := fun _ _ => 0) ho
    exact (X.2.2.2.2.2.2.2.2.2.2.1 _).2 k _ hk
  · exact X.2.2.2.2.2.2.2.2.2.1 q (Nat.le_trans hS.1 h)
theorem pre_at {X : Cx p l e R s m args below meth c Q own cc nL ret Ts D A y kc ks} {H : Heap} {locs : List Loc} (hP : va_P D vwCl (wd y μ) H) (hw : lawok y μ) (hS : va_S A s.heap H locs) : ∀ U : State, U.heap = H → s.WarmedH U.vm → PreW D y H.size μ U := fun U hU hW =>
  ⟨by rw [hU], by rw [hU]; exact hP, va_K.moved hW.alike X.2.2.2.2.2.2.2.1, X.2.2.2.2.2.2.2.2.1.warm hW, wd_D ((X.2.2.2.2.2.2.2.2.2.2.1 μ).weaken (fun _ _ _ _ => trivial)), hw, by rw [hU]; exact EnvF.move hW hS.2.1 (fA_in (X := X) hS) X.2.2.2.2.2.2.2.2.2.2.2.2.2⟩
variable {ym : MethodName} {w : List Cond} {rm : Room} {μ' : ZMem} {r : Int32} {bytes : ByteArray} {maxL n ix : Nat} {ret' : Option FieldType} {C : String} {b : ZId} {As st0 : List Value} {host : String}

theorem V_callVi (hM : MI l ym w rm D y (.ref (zad y b) :: As) μ r μ') (cw : CallW R s args own C ix ym bytes maxL ret' w rm 0 0 n) {ci : Nat} {q0 : vw_C} {sh : List ZF} (ho : okI y b) (hs : zsh b = some (ci, sh)) (hc : vwCl[ci]? = some q0) (hC : q0.1 = C) (hn : As.length = n) (hcat : (st.map fun v => v.category).sum ≤ 8) (d : decode cc pc = .ok (.invokevirtual ix, 3)) (hst : As.reverse ++ .ref (zad y b) :: st = st0) (kk : V X μ' (pc + 3) lv (.int r :: st)) : V X μ pc lv st0 := by
  intro H locs ls hP hw hS hl
  have recv : ∃ cellB : Cell, H[zad y b]? = some cellB ∧ cellB.vm.isStatics = false ∧ s.vm.findClass C = some cellB.cls := by
    obtain ⟨q, -, hq⟩ := wd_get (μ := μ) ho
    rw [zenc_o hs] at hq
    rw [← hC]
    exact va_recv X.2.2.2.2.2.2.2.1 hP hc hq
  refine va_calli (va_runV (As := As) (rest := st) ⟨X.1, X.2.1, X.2.2.1, X.2.2.2.2.2.1, X.2.2.2.2.2.2.1⟩ (hM H.size) cw ⟨pre_blind, recv, fun U hU hW => ⟨rfl, pre_at (X := X) hP hw hS U hU hW⟩⟩ rfl hn hl.1 hst.symm (lv_room hcat) d ⟨X.2.2.2.2.2.2.2.2.2.2.2.1, X.2.2.2.2.2.2.2.2.2.2.2.2.1⟩) hS (fun q _ h => fA_in (X := X) hS q h) (fA_in (X := X) hS) (fun r0 u t H1 locs1 ht hvm hw1 hB hz1 hk1 hS1 => ?_)
  subst hw1
  obtain ⟨hP1, hw2⟩ := hB
  rw [ht] at hP1
  exact kk H1 locs1 ls hP1 hw2 hS1 hl
theorem V_callVv (hM : MV l ym w rm D y (.ref (zad y b) :: As) μ μ') (cw : CallW R s args own C ix ym bytes maxL ret' w rm 0 0 n) {ci : Nat} {q0 : vw_C} {sh : List ZF} (ho : okI y b) (hs : zsh b = some (ci, sh)) (hc : vwCl[ci]? = some q0) (hC : q0.1 = C) (hn : As.length = n) (hcat : (st.map fun v => v.category).sum ≤ 8) (d : decode cc pc = .ok (.invokevirtual ix, 3)) (hst : As.reverse ++ .ref (zad y b) :: st = st0) (kk : V X μ' (pc + 3) lv (st)) : V X μ pc lv st0 := by
  intro H locs ls hP hw hS hl
  have recv : ∃ cellB : Cell, H[zad y b]? = some cellB ∧ cellB.vm.isStatics = false ∧ s.vm.findClass C = some cellB.cls := by
    obtain ⟨q, -, hq⟩ := wd_get (μ := μ) ho
    rw [zenc_o hs] at hq
    rw [← hC]
    exact va_recv X.2.2.2.2.2.2.2.1 hP hc hq
  refine va_callv (va_runV (As := As) (rest := st) ⟨X.1, X.2.1, X.2.2.1, X.2.2.2.2.2.1, X.2.2.2.2.2.2.1⟩ (hM H.size) cw ⟨pre_blind, recv, fun U hU hW => ⟨rfl, pre_at (X := X) hP hw hS U hU hW⟩⟩ rfl hn hl.1 hst.symm (lv_room hcat) d ⟨X.2.2.2.2.2.2.2.2.2.2.2.1, X.2.2.2.2.2.2.2.2.2.2.2.2.1⟩) hS (fun q _ h => fA_in (X := X) hS q h) (fA_in (X := X) hS) (fun u t H1 locs1 ht hvm hw1 hB hz1 hk1 hS1 => ?_)
  obtain ⟨hP1, hw2⟩ := hB
  rw [ht] at hP1
  exact kk H1 locs1 ls hP1 hw2 hS1 hl
theorem V_callSi (hM : MI l ym w rm D y As μ r μ') (cw : CallB R s args own ix ym bytes maxL ret' w rm 0 0 n ∧ (Cond.static ym).before args s = true) (hn : As.length = n) (hcat : (st.map fun v => v.category).sum ≤ 8) (d : decode cc pc = .ok (.invokestatic ix, 3)) (hst : As.reverse ++ st = st0) (kk : V X μ' (pc + 3) lv (.int r :: st)) : V X μ pc lv st0 := by
  intro H locs ls hP hw hS hl
  refine va_calli (va_runS (As := As) (rest := st) ⟨X.1, X.2.1, X.2.2.1, X.2.2.2.2.2.1, X.2.2.2.2.2.2.1⟩ (hM H.size) cw ⟨pre_blind, fun U hU hW => ⟨rfl, pre_at (X := X) hP hw hS U hU hW⟩⟩ rfl hn hl.1 hst.symm (lv_room hcat) d ⟨X.2.2.2.2.2.2.2.2.2.2.2.1, X.2.2.2.2.2.2.2.2.2.2.2.2.1⟩) hS (fun q _ h => fA_in (X := X) hS q h) (fA_in (X := X) hS) (fun r0 u t H1 locs1 ht hvm hw1 hB hz1 hk1 hS1 => ?_)
  subst hw1
  obtain ⟨hP1, hw2⟩ := hB
  rw [ht] at hP1
  exact kk H1 locs1 ls hP1 hw2 hS1 hl
theorem V_callSv (hM : MV l ym w rm D y As μ μ') (cw : CallB R s args own ix ym bytes maxL ret' w rm 0 0 n ∧ (Cond.static ym).before args s = true) (hn : As.length = n) (hcat : (st.map fun v => v.category).sum ≤ 8) (d : decode cc pc = .ok (.invokestatic ix, 3)) (hst : As.reverse ++ st = st0) (kk : V X μ' (pc + 3) lv (st)) : V X μ pc lv st0 := by
  intro H locs ls hP hw hS hl
  refine va_callv (va_runS (As := As) (rest := st) ⟨X.1, X.2.1, X.2.2.1, X.2.2.2.2.2.1, X.2.2.2.2.2.2.1⟩ (hM H.size) cw ⟨pre_blind, fun U hU hW => ⟨rfl, pre_at (X := X) hP hw hS U hU hW⟩⟩ rfl hn hl.1 hst.symm (lv_room hcat) d ⟨X.2.2.2.2.2.2.2.2.2.2.2.1, X.2.2.2.2.2.2.2.2.2.2.2.2.1⟩) hS (fun q _ h => fA_in (X := X) hS q h) (fA_in (X := X) hS) (fun u t H1 locs1 ht hvm hw1 hB hz1 hk1 hS1 => ?_)
  obtain ⟨hP1, hw2⟩ := hB
  rw [ht] at hP1
  exact kk H1 locs1 ls hP1 hw2 hS1 hl
theorem V_callVNi (hM : MI l ym w rm D y (.ref (zad y b) :: As) μ r μ') (cw : va_CN R s args own ix ym host bytes maxL ret' w rm 0 0 n ∧ (Cond.instanceMethod ym).before args s = true ∧ (Cond.selects C ym ym).before args s = true) {ci : Nat} {q0 : vw_C} {sh : List ZF} (ho : okI y b) (hs : zsh b = some (ci, sh)) (hc : vwCl[ci]? = some q0) (hC : q0.1 = C) (hn : As.length = n) (hcat : (st.map fun v => v.category).sum ≤ 8) (d : decode cc pc = .ok (.invokevirtual ix, 3)) (hst : As.reverse ++ .ref (zad y b) :: st = st0) (kk : V X μ' (pc + 3) lv (.int r :: st)) : V X μ pc lv st0 := by
  intro H locs ls hP hw hS hl
  have recv : ∃ cellB : Cell, H[zad y b]? = some cellB ∧ cellB.vm.isStatics = false ∧ s.vm.findClass C = some cellB.cls := by
    obtain ⟨q, -, hq⟩ := wd_get (μ := μ) ho
    rw [zenc_o hs] at hq
    rw [← hC]
    exact va_recv X.2.2.2.2.2.2.2.1 hP hc hq
  refine va_calli (va_runVN (As := As) (rest := st) ⟨X.1, X.2.1, X.2.2.1, X.2.2.2.2.2.1, X.2.2.2.2.2.2.1⟩ (hM H.size) cw ⟨pre_blind, recv, fun U hU hW => ⟨rfl, pre_at (X := X) hP hw hS U hU hW⟩⟩ rfl hn hl.1 hst.symm (lv_room hcat) d ⟨X.2.2.2.2.2.2.2.2.2.2.2.1, X.2.2.2.2.2.2.2.2.2.2.2.2.1⟩) hS (fun q _ h => fA_in (X := X) hS q h) (fA_in (X := X) hS) (fun r0 u t H1 locs1 ht hvm hw1 hB hz1 hk1 hS1 => ?_)
  subst hw1
  obtain ⟨hP1, hw2⟩ := hB
  rw [ht] at hP1
  exact kk H1 locs1 ls hP1 hw2 hS1 hl
theorem V_callVNv (hM : MV l ym w rm D y (.ref (zad y b) :: As) μ μ') (cw : va_CN R s args own ix ym host bytes maxL ret' w rm 0 0 n ∧ (Cond.instanceMethod ym).before args s = true ∧ (Cond.selects C ym ym).before args s = true) {ci : Nat} {q0 : vw_C} {sh : List ZF} (ho : okI y b) (hs : zsh b = some (ci, sh)) (hc : vwCl[ci]? = some q0) (hC : q0.1 = C) (hn : As.length = n) (hcat : (st.map fun v => v.category).sum ≤ 8) (d : decode cc pc = .ok (.invokevirtual ix, 3)) (hst : As.reverse ++ .ref (zad y b) :: st = st0) (kk : V X μ' (pc + 3) lv (st)) : V X μ pc lv st0 := by
  intro H locs ls hP hw hS hl
  have recv : ∃ cellB : Cell, H[zad y b]? = some cellB ∧ cellB.vm.isStatics = false ∧ s.vm.findClass C = some cellB.cls := by
    obtain ⟨q, -, hq⟩ := wd_get (μ := μ) ho
    rw [zenc_o hs] at hq
    rw [← hC]
    exact va_recv X.2.2.2.2.2.2.2.1 hP hc hq
  refine va_callv (va_runVN (As := As) (rest := st) ⟨X.1, X.2.1, X.2.2.1, X.2.2.2.2.2.1, X.2.2.2.2.2.2.1⟩ (hM H.size) cw ⟨pre_blind, recv, fun U hU hW => ⟨rfl, pre_at (X := X) hP hw hS U hU hW⟩⟩ rfl hn hl.1 hst.symm (lv_room hcat) d ⟨X.2.2.2.2.2.2.2.2.2.2.2.1, X.2.2.2.2.2.2.2.2.2.2.2.2.1⟩) hS (fun q _ h => fA_in (X := X) hS q h) (fA_in (X := X) hS) (fun u t H1 locs1 ht hvm hw1 hB hz1 hk1 hS1 => ?_)
  obtain ⟨hP1, hw2⟩ := hB
  rw [ht] at hP1
  exact kk H1 locs1 ls hP1 hw2 hS1 hl
theorem V_callSNi (hM : MI l ym w rm D y As μ r μ') (cw : va_CN R s args own ix ym host bytes maxL ret' w rm 0 0 n ∧ (Cond.static ym).before args s = true ∧ True) (hn : As.length = n) (hcat : (st.map fun v => v.category).sum ≤ 8) (d : decode cc pc = .ok (.invokestatic ix, 3)) (hst : As.reverse ++ st = st0) (kk : V X μ' (pc + 3) lv (.int r :: st)) : V X μ pc lv st0 := by
  intro H locs ls hP hw hS hl
  refine va_calli (va_runSN (As := As) (rest := st) ⟨X.1, X.2.1, X.2.2.1, X.2.2.2.2.2.1, X.2.2.2.2.2.2.1⟩ (hM H.size) cw ⟨pre_blind, fun U hU hW => ⟨rfl, pre_at (X := X) hP hw hS U hU hW⟩⟩ rfl hn hl.1 hst.symm (lv_room hcat) d ⟨X.2.2.2.2.2.2.2.2.2.2.2.1, X.2.2.2.2.2.2.2.2.2.2.2.2.1⟩) hS (fun q _ h => fA_in (X := X) hS q h) (fA_in (X := X) hS) (fun r0 u t H1 locs1 ht hvm hw1 hB hz1 hk1 hS1 => ?_)
  subst hw1
  obtain ⟨hP1, hw2⟩ := hB
  rw [ht] at hP1
  exact kk H1 locs1 ls hP1 hw2 hS1 hl
theorem V_callSNv (hM : MV l ym w rm D y As μ μ') (cw : va_CN R s args own ix ym host bytes maxL ret' w rm 0 0 n ∧ (Cond.static ym).before args s = true ∧ True) (hn : As.length = n) (hcat : (st.map fun v => v.category).sum ≤ 8) (d : decode cc pc = .ok (.invokestatic ix, 3)) (hst : As.reverse ++ st = st0) (kk : V X μ' (pc + 3) lv (st)) : V X μ pc lv st0 := by
  intro H locs ls hP hw hS hl
  refine va_callv (va_runSN (As := As) (rest := st) ⟨X.1, X.2.1, X.2.2.1, X.2.2.2.2.2.1, X.2.2.2.2.2.2.1⟩ (hM H.size) cw ⟨pre_blind, fun U hU hW => ⟨rfl, pre_at (X := X) hP hw hS U hU hW⟩⟩ rfl hn hl.1 hst.symm (lv_room hcat) d ⟨X.2.2.2.2.2.2.2.2.2.2.2.1, X.2.2.2.2.2.2.2.2.2.2.2.2.1⟩) hS (fun q _ h => fA_in (X := X) hS q h) (fA_in (X := X) hS) (fun u t H1 locs1 ht hvm hw1 hB hz1 hk1 hS1 => ?_)
  obtain ⟨hP1, hw2⟩ := hB
  rw [ht] at hP1
  exact kk H1 locs1 ls hP1 hw2 hS1 hl
/-- Math -/
theorem V_max {x z : Int32} (hm1 : Cond.methodLink own ix Lib.Math.max.name ∈ Ts) (hm2 : Cond.static Lib.Math.max.name ∈ Ts) (hm3 : Cond.initialized "java/lang/Math" ∈ Ts) (hm4 : Cond.code Lib.Math.max.name Lib.Math.max.code 2 (some .int) ∈ Ts) (hfr : 1 ≤ R.frames) (hlo : (st.map fun v => v.category).sum + 13 ≤ R.locals) (d : decode cc pc = .ok (.invokestatic ix, 3)) (k : V X μ (pc + 3) lv (.int (if x < z then z else x) :: st)) : V X μ pc lv (.int z :: .int x :: st) := fun H locs ls hP hw hS hl =>
  va_mmax X.1 X.2.1 (X.2.2.1.trans hl.1.symm) X.2.2.2.2.2.1 (X.2.2.2.2.2.2.1 _ hm1) (X.2.2.2.2.2.2.1 _ hm2) (X.2.2.2.2.2.2.1 _ hm3) (X.2.2.2.2.2.2.1 _ hm4) hfr hlo X.2.2.2.2.2.2.2.2.2.2.2.1 X.2.2.2.2.2.2.2.2.2.2.2.2.1 d (k H locs ls hP hw hS hl)
theorem V_min {x z : Int32} (hm1 : Cond.methodLink own ix Lib.Math.min.name ∈ Ts) (hm2 : Cond.static Lib.Math.min.name ∈ Ts) (hm3 : Cond.initialized "java/lang/Math" ∈ Ts) (hm4 : Cond.code Lib.Math.min.name Lib.Math.min.code 2 (some .int) ∈ Ts) (hfr : 1 ≤ R.frames) (hlo : (st.map fun v => v.category).sum + 13 ≤ R.locals) (d : decode cc pc = .ok (.invokestatic ix, 3)) (k : V X μ (pc + 3) lv (.int (if z < x then z else x) :: st)) : V X μ pc lv (.int z :: .int x :: st) := fun H locs ls hP hw hS hl =>
  va_mmin X.1 X.2.1 (X.2.2.1.trans hl.1.symm) X.2.2.2.2.2.1 (X.2.2.2.2.2.2.1 _ hm1) (X.2.2.2.2.2.2.1 _ hm2) (X.2.2.2.2.2.2.1 _ hm3) (X.2.2.2.2.2.2.1 _ hm4) hfr hlo X.2.2.2.2.2.2.2.2.2.2.2.1 X.2.2.2.2.2.2.2.2.2.2.2.2.1 d (k H locs ls hP hw hS hl)
theorem V_abs {x : Int32} (hm1 : Cond.methodLink own ix Lib.Math.abs.name ∈ Ts) (hm2 : Cond.static Lib.Math.abs.name ∈ Ts) (hm3 : Cond.initialized "java/lang/Math" ∈ Ts) (hm4 : Cond.code Lib.Math.abs.name Lib.Math.abs.code 1 (some .int) ∈ Ts) (hfr : 1 ≤ R.frames) (hlo : (st.map fun v => v.category).sum + 13 ≤ R.locals) (d : decode cc pc = .ok (.invokestatic ix, 3)) (k : V X μ (pc + 3) lv (.int (if 0 ≤ x then x else 0 - x) :: st)) : V X μ pc lv (.int x :: st) := fun H locs ls hP hw hS hl =>
  va_mabs X.1 X.2.1 (X.2.2.1.trans hl.1.symm) X.2.2.2.2.2.1 (X.2.2.2.2.2.2.1 _ hm1) (X.2.2.2.2.2.2.1 _ hm2) (X.2.2.2.2.2.2.1 _ hm3) (X.2.2.2.2.2.2.1 _ hm4) hfr hlo X.2.2.2.2.2.2.2.2.2.2.2.1 X.2.2.2.2.2.2.2.2.2.2.2.2.1 d (k H locs ls hP hw hS hl)
theorem V_maxl {x z : Int64} (hm1 : Cond.methodLink own ix Lib.MathLoose.max_long.x ∈ Ts) (hm2 : Cond.static Lib.MathLoose.max_long.x ∈ Ts) (hm3 : Cond.initialized "java/lang/Math" ∈ Ts) (hm4 : Cond.code Lib.MathLoose.max_long.x Lib.MathLoose.max_long.code 4 (some .long) ∈ Ts) (hfr : 1 ≤ R.frames) (hlo : (st.map fun v => v.category).sum + 15 ≤ R.locals) (d : decode cc pc = .ok (.invokestatic ix, 3)) (k : V X μ (pc + 3) lv (.long (if z < x then x else z) :: st)) : V X μ pc lv (.long z :: .long x :: st) := fun H locs ls hP hw hS hl =>
  va_mmax_long X.1 X.2.1 (X.2.2.1.trans hl.1.symm) X.2.2.2.2.2.1 (X.2.2.2.2.2.2.1 _ hm1) (X.2.2.2.2.2.2.1 _ hm2) (X.2.2.2.2.2.2.1 _ hm3) (X.2.2.2.2.2.2.1 _ hm4) hfr hlo X.2.2.2.2.2.2.2.2.2.2.2.1 X.2.2.2.2.2.2.2.2.2.2.2.2.1 d (k H locs ls hP hw hS hl)
end VL
/-- contracts out of V -/
theorem MI_of {l : Launch} {ym : MethodName} {w ws' : List Cond} {rm : Room} {D : va_G} {y : ZLay} {av : List Value} {μ μ' : ZMem} {r : Int32} {cc : ByteArray} {maxL : Nat} {ret : Option FieldType} (own : String) (lv : List (Nat × Value)) (hy : plainName ym.cls = true) (ho : ym.cls = own) (hw : w = Cond.code ym cc maxL ret :: ws') (hloc : (lg_sl av).length ≤ maxL) (hlv : lv_args 0 av = lv)
    (h : ∀ {p : Program} {e : Env} {s : State} {m : MethodId} {args : Array Value} {below : List Frame} {meth : Method} {c : Code} {A : Nat → Prop} (X : Cx p l e (headSpec w rm).room s m args below meth c (MQ below (QI D y A r μ') args s 0 0 A) own cc maxL ret w D A y 0 0), V X μ 0 lv []) : MI l ym w rm D y av μ r μ' := by
  intro sz
  refine Met.ofW (cc := cc) (maxL := maxL) (ret := ret) hy hw ?_
  intro p e s m args below meth c s₁ B hml hv
  obtain ⟨rfl, hsz, hP, hK, hN, hD0, hlw, hE⟩ := hv
  subst hsz
  have hown : s.vm.findClass own = some m.cls := by rw [← ho]; exact findClass_of_methodNamed B.named
  have X : Cx p l e (headSpec w rm).room s m av.toArray below meth c (MQ below (QI D y (fA y s.heap.size) r μ') av.toArray s 0 0 (fA y s.heap.size)) own cc maxL ret w D (fA y s.heap.size) y 0 0 :=
    ⟨B.exec, B.bytes, hml, B.returns, B.notSynchronized, hown, atoms_spec (ws := w) B.pre, hK, hN, fun q h => Or.inr h, fA_D hD0, Nat.zero_le _, Nat.zero_le _, hE⟩
  have hl := lv_entry av (n := maxL) hloc
  rw [lg_entry_eq]
  rw [hlv] at hl
  exact h X _ _ _ hP hlw va_S.rf hl
theorem MV_of {l : Launch} {ym : MethodName} {w ws' : List Cond} {rm : Room} {D : va_G} {y : ZLay} {av : List Value} {μ μ' : ZMem} {cc : ByteArray} {maxL : Nat} {ret : Option FieldType} (own : String) (lv : List (Nat × Value)) (hy : plainName ym.cls = true) (ho : ym.cls = own) (hw : w = Cond.code ym cc maxL ret :: ws') (hloc : (lg_sl av).length ≤ maxL) (hlv : lv_args 0 av = lv)
    (h : ∀ {p : Program} {e : Env} {s : State} {m : MethodId} {args : Array Value} {below : List Frame} {meth : Method} {c : Code} {A : Nat → Prop} (X : Cx p l e (headSpec w rm).room s m args below meth c (MQ below (QV D y A μ') args s 0 0 A) own cc maxL ret w D A y 0 0), V X μ 0 lv []) : MV l ym w rm D y av μ μ' := by
  intro sz
  refine Met.ofW (cc := cc) (maxL := maxL) (ret := ret) hy hw ?_
  intro p e s m args below meth c s₁ B hml hv
  obtain ⟨rfl, hsz, hP, hK, hN, hD0, hlw, hE⟩ := hv
  subst hsz
  have hown : s.vm.findClass own = some m.cls := by rw [← ho]; exact findClass_of_methodNamed B.named
  have X : Cx p l e (headSpec w rm).room s m av.toArray below meth c (MQ below (QV D y (fA y s.heap.size) μ') av.toArray s 0 0 (fA y s.heap.size)) own cc maxL ret w D (fA y s.heap.size) y 0 0 :=
    ⟨B.exec, B.bytes, hml, B.returns, B.notSynchronized, hown, atoms_spec (ws := w) B.pre, hK, hN, fun q h => Or.inr h, fA_D hD0, Nat.zero_le _, Nat.zero_le _, hE⟩
  have hl := lv_entry av (n := maxL) hloc
  rw [lg_entry_eq]
  rw [hlv] at hl
  exact h X _ _ _ hP hlw va_S.rf hl

