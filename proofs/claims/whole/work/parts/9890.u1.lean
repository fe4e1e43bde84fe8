/-! U: making objects. The world is a list of words; it grows. -/
def tyz (zc : Nat → ClassId) : List (ClassId × FieldType) := [(zc 0, .int), (zc 1, .long), (zc 2, .object "SlotCluster$Node"), (zc 3, .object "SlotCluster$State"), (zc 4, .array .int)]
/-- the tables' words on arrays over arrays; the class of rows of rows of ints -/
def aoA (U : State) : Prop := ∃ (comp c : ClassId) (k : Class), U.vm.findClass (FieldType.array .int).toString = some comp ∧ U.vm.classes[c]? = some k ∧ k.kind = .array comp (.array .int) ∧ U.vm.findClass ("[" ++ (FieldType.array .int).toString) = some c
theorem aoA.moved {u U : State} (hvm : u.vm.Alike U.vm) (h : aoA u) : aoA U := by
  obtain ⟨comp, c, k, h1, h2, h3, h4⟩ := h
  obtain ⟨k', hk', he⟩ := hvm.2.2 _ _ h2
  exact ⟨comp, c, k', by rw [hvm.findClass]; exact h1, hk', by rw [he]; exact h3, by rw [hvm.findClass]; exact h4⟩
def AOs (U : State) : Prop := va_AO "SlotCluster$Node" U ∧ va_AO "SlotCluster$State" U ∧ aoA U
theorem AOs.moved {u U : State} (hvm : u.vm.Alike U.vm) (h : AOs u) : AOs U := ⟨h.1.moved hvm, h.2.1.moved hvm, h.2.2.moved hvm⟩
def PreU (D : va_G) (zc : Nat → ClassId) (ws : va_W) (sz : Nat) : State → Prop := fun U => U.heap.size = sz ∧ va_P D vwCl ws U.heap ∧ va_K D vwCl (tyz zc) U ∧ NWs U ∧ AOs U ∧ va_D (fun _ => True) ws
/-- a constructor's contract: on the object a of class ci with the fields fs; what it leaves is told by post -/
def KI (l : Launch) (ym : MethodName) (w : List Cond) (rm : Room) (D : va_G) (zc : Nat → ClassId) (As : List Value) (ci : Nat) (fs : List Value) (post : Nat → va_W → Prop) (mc ms : Nat) : Prop :=
  ∀ a sz : Nat, Met l ym w rm (va_Pc (.ref a :: As) (PreU D zc [(a, .inr (ci, fs))] sz)) (va_Qv (S := va_W) (fun w1 => post a w1) (fun w1 t => va_P D vwCl w1 t.heap ∧ va_D (va_A [(a, .inr (ci, fs))] sz) w1) (va_A [(a, .inr (ci, fs))] sz)) mc ms (va_A [(a, .inr (ci, fs))] sz)
def CU (p : Program) (R : Room) (s : State) (m : MethodId) (args : Array Value) (meth : Method) (c : Code) (own : String) (cc : ByteArray) (nL : Nat) (ret : Option FieldType) (Ts : List Cond) (D : va_G) (A : Nat → Prop) (zc : Nat → ClassId) : Prop :=
  p.tables.exec = Jvm.exec ∧ c.code = cc ∧ c.maxLocals = nL ∧ meth.sig.returnType = ret ∧ meth.locks = false ∧ s.vm.findClass own = some m.cls ∧ (∀ w ∈ Ts, w.before args s = true) ∧ va_K D vwCl (tyz zc) s ∧ NWs s ∧ AOs s ∧ (∀ q, s.heap.size ≤ q → A q)
/-- the last word is the callee's: behind the call the others stand as they stood -/
theorem nd_range : ∀ (n b : Nat), va_nd (List.range' b n) = true
  | 0, _ => rfl
  | n + 1, b => by
    rw [List.range'_succ, va_nd, Bool.and_eq_true, decide_eq_true_eq]
    refine ⟨fun h => ?_, nd_range n (b + 1)⟩
    have := (List.mem_range'_1.mp h).1
    omega
theorem map_range {α : Type} (l r : List α) : (List.range' 0 l.length).map (fun i => (l ++ r)[i]?) = l.map some := by
  apply List.ext_getElem?
  intro i
  rw [List.getElem?_map, List.getElem?_map]
  by_cases h : i < l.length
  · rw [List.getElem?_range' h, Option.map_some, Nat.zero_add, Nat.one_mul, List.getElem?_append_left h, List.getElem?_eq_getElem h]; rfl
  · rw [List.getElem?_eq_none (by rw [List.length_range']; omega), List.getElem?_eq_none (by omega)]; rfl
theorem join_last {A0 : Nat → Prop} {D : va_G} {cl : List vw_C} {wr w1 : va_W} {x : Nat × va_E} {H H1 : Heap} (hP : va_P D cl (wr ++ [x]) H) (hD : va_D A0 (wr ++ [x])) (hk : ∀ q : Nat, q < H.size → ¬ va_A [x] H.size q → H1[q]? = H[q]?) (hF : ∀ q, va_A [x] H.size q → A0 q) (hP1 : va_P D cl w1 H1) (hD1 : va_D (va_A [x] H.size) w1) : va_P D cl (wr ++ w1) H1 ∧ va_D A0 (wr ++ w1) := by
  refine va_join (wc := [x]) (wr := wr) hP hD [wr.length] (List.range' 0 wr.length) ?_ (map_range wr [x]) (nd_range _ _) (fun i hi => ?_) hk hF hP1 hD1
  · simp
  · have := List.mem_range'_1.mp hi
    simp only [List.mem_singleton]
    omega
section UL
variable {p : Program} {l : Launch} {e : Env} {R : Room} {s : State} {m : MethodId} {args : Array Value} {below : List Frame} {meth : Method} {c : Code} {Q : State → Prop}
variable {own : String} {cc : ByteArray} {nL : Nat} {ret : Option FieldType} {Ts : List Cond} {D : va_G} {A : Nat → Prop} {zc : Nat → ClassId}
def UW (l : Launch) (e : Env) (below : List Frame) (Q : State → Prop) (X : CU p R s m args meth c own cc nL ret Ts D A zc) (kc ks : Nat) (ws : va_W) (pc : Nat) (lv : List (Nat × Value)) (st : List Value) : Prop :=
  ∀ (H : Heap) (locs : List Loc) (ls : Array Slot), va_P D vwCl ws H → va_D A ws → va_S A s.heap H locs → lv_has ls nL lv → W p l e R s m args below meth c H locs kc ks Q (F0 m pc ls st)
variable (X : CU p R s m args meth c own cc nL ret Ts D A zc)
variable {kc ks : Nat} {ws : va_W} {pc : Nat} {lv : List (Nat × Value)} {st : List Value}
theorem U_perm {ws' : va_W} (is : List Nat) (hn : va_nd is = true) (h : is.map (fun i => ws[i]?) = ws'.map some) (k : UW l e below Q X kc ks ws' pc lv st) : UW l e below Q X kc ks ws pc lv st := fun H locs ls hP hD hS hl => by
  have hf : is.filterMap (fun i => ws[i]?) = ws' := by
    have : (is.map (fun i => ws[i]?)).filterMap id = (ws'.map some).filterMap id := by rw [h]
    rw [List.filterMap_map, List.filterMap_map] at this
    simpa using this
  exact k H locs ls (hP.sub is hf) (hD.sub is hn h) hS hl
theorem U_iconst {n : Int} (v : Int32) (d : decode cc pc = .ok (.iconst n, 1)) (hv : Int32.ofInt n = v) (k : UW l e below Q X kc ks ws (pc + 1) lv (.int v :: st)) : UW l e below Q X kc ks ws pc lv st := fun H locs ls hP hD hS hl => lv_iconst X.1 X.2.1 d hv (k H locs ls hP hD hS hl)
theorem U_bipush {n : Int} (v : Int32) (d : decode cc pc = .ok (.bipush n, 2)) (hv : (Int8.ofInt n).toInt32 = v) (k : UW l e below Q X kc ks ws (pc + 2) lv (.int v :: st)) : UW l e below Q X kc ks ws pc lv st := fun H locs ls hP hD hS hl => lv_bipush X.1 X.2.1 d hv (k H locs ls hP hD hS hl)
theorem U_sipush {n : Int} (v : Int32) (d : decode cc pc = .ok (.sipush n, 3)) (hv : (Int16.ofInt n).toInt32 = v) (k : UW l e below Q X kc ks ws (pc + 3) lv (.int v :: st)) : UW l e below Q X kc ks ws pc lv st := fun H locs ls hP hD hS hl => lv_sipush X.1 X.2.1 d hv (k H locs ls hP hD hS hl)
theorem U_iload_n {f : Fin 4} {i : Nat} {x : Int32} (q : Nat) (d : decode cc pc = .ok (.iload_n f, 1)) (hi : (f : Nat) = i) (hl : lv[q]? = some (i, .int x)) (k : UW l e below Q X kc ks ws (pc + 1) lv (.int x :: st)) : UW l e below Q X kc ks ws pc lv st := fun H locs ls hP hD hS hh => lv_iload_n X.1 X.2.1 d hi (lv_at hh q hl) (k H locs ls hP hD hS hh)
theorem U_aload {i : Nat} {x : Nat} (q : Nat) (d : decode cc pc = .ok (.aload i, 2)) (hl : lv[q]? = some (i, .ref x)) (k : UW l e below Q X kc ks ws (pc + 2) lv (.ref x :: st)) : UW l e below Q X kc ks ws pc lv st := fun H locs ls hP hD hS hh => lv_aload X.1 X.2.1 d (lv_at hh q hl) (k H locs ls hP hD hS hh)
theorem U_aload_n {f : Fin 4} {i : Nat} {x : Nat} (q : Nat) (d : decode cc pc = .ok (.aload_n f, 1)) (hi : (f : Nat) = i) (hl : lv[q]? = some (i, .ref x)) (k : UW l e below Q X kc ks ws (pc + 1) lv (.ref x :: st)) : UW l e below Q X kc ks ws pc lv st := fun H locs ls hP hD hS hh => lv_aload_n X.1 X.2.1 d hi (lv_at hh q hl) (k H locs ls hP hD hS hh)
theorem U_istore_n {f : Fin 4} {i : Nat} {x : Int32} (lv' : List (Nat × Value)) (d : decode cc pc = .ok (.istore_n f, 1)) (hi : (f : Nat) = i) (hn : i < nL) (hl : (i, Value.int x) :: lv.filter (fun q => !(q.1 == i) && !(q.1 + 1 == i && q.2.category == 2)) = lv') (k : UW l e below Q X kc ks ws (pc + 1) lv' st) : UW l e below Q X kc ks ws pc lv (.int x :: st) := fun H locs ls hP hD hS hh => lv_istore_n X.1 X.2.1 d hi hh hn hl (fun ls' hh' => k H locs ls' hP hD hS hh')
theorem U_astore_n {f : Fin 4} {i : Nat} {x : Nat} (lv' : List (Nat × Value)) (d : decode cc pc = .ok (.astore_n f, 1)) (hi : (f : Nat) = i) (hn : i < nL) (hl : (i, Value.ref x) :: lv.filter (fun q => !(q.1 == i) && !(q.1 + 1 == i && q.2.category == 2)) = lv') (k : UW l e below Q X kc ks ws (pc + 1) lv' st) : UW l e below Q X kc ks ws pc lv (.ref x :: st) := fun H locs ls hP hD hS hh => lv_astore_n X.1 X.2.1 d hi hh hn hl (fun ls' hh' => k H locs ls' hP hD hS hh')
theorem U_iinc {i : Nat} {n : Int} {x : Int32} (q : Nat) (v : Int32) (lv' : List (Nat × Value)) (d : decode cc pc = .ok (.iinc i n, 3)) (hq : lv[q]? = some (i, .int x)) (hv : x + Int32.ofInt n = v) (hn : i < nL) (hl : (i, Value.int v) :: lv.filter (fun q => !(q.1 == i) && !(q.1 + 1 == i && q.2.category == 2)) = lv') (k : UW l e below Q X kc ks ws (pc + 3) lv' st) : UW l e below Q X kc ks ws pc lv st := fun H locs ls hP hD hS hh => lv_iinc X.1 X.2.1 d hh hq hv hn hl (fun ls' hh' => k H locs ls' hP hD hS hh')
theorem U_dup {v : Value} (d : decode cc pc = .ok (.dup, 1)) (hv : v.category = 1) (k : UW l e below Q X kc ks ws (pc + 1) lv (v :: v :: st)) : UW l e below Q X kc ks ws pc lv (v :: st) := fun H locs ls hP hD hS hl => lv_dup X.1 X.2.1 d hv (k H locs ls hP hD hS hl)
theorem U_goto {off : Int} {tgt : Nat} (d : decode cc pc = .ok (.goto off, 3)) (ht : (pc : Int) + off = (tgt : Int)) (k : UW l e below Q X kc ks ws tgt lv st) : UW l e below Q X kc ks ws pc lv st := fun H locs ls hP hD hS hl => lv_goto X.1 X.2.1 d ht (k H locs ls hP hD hS hl)
theorem U_icmp_ge {x z : Int32} {off : Int} {tgt : Nat} (d : decode cc pc = .ok (.if_icmp .ge off, 3)) (ht : (pc : Int) + off = (tgt : Int)) (kt : z ≤ x → UW l e below Q X kc ks ws tgt lv st) (kf : ¬ z ≤ x → UW l e below Q X kc ks ws (pc + 3) lv st) : UW l e below Q X kc ks ws pc lv (.int z :: .int x :: st) := fun H locs ls hP hD hS hl => lv_icmp_ge X.1 X.2.1 d ht (fun h => kt h H locs ls hP hD hS hl) (fun h => kf h H locs ls hP hD hS hl)
theorem U_sub {lv' : List (Nat × Value)} (is : List Nat) (h : lv_pick lv is = lv') (k : UW l e below Q X kc ks ws pc lv' st) : UW l e below Q X kc ks ws pc lv st := fun H locs ls hP hD hS hl => k H locs ls hP hD hS (lv_sub hl is h)
theorem U_widen {k' n' : Nat} (h1 : kc ≤ k') (h2 : ks ≤ n') (k : UW l e below Q X k' n' ws pc lv st) : UW l e below Q X kc ks ws pc lv st := fun H locs ls hP hD hS hl => W.widen h1 h2 (k H locs ls hP hD hS hl)
theorem U_getf {a q0 k ix ci N : Nat} {C : String} {T : u_T} {fs : List Value} {v : Value} (he : ws[q0]? = some (a, .inr (ci, fs))) (hv : fs[k]? = some v) (hc : vwCl[ci]? = some (C, T, N)) (hkN : k < N) (hin : ∀ w ∈ u_ws C T N, w ∈ Ts) (hlink : Cond.fieldLink own ix (T k).1 (T k).2.1 (T k).2.2.1 ∈ Ts) (d : decode cc pc = .ok (.getfield ix, 3)) (kk : UW l e below Q X kc ks ws (pc + 3) lv (v :: st)) : UW l e below Q X kc ks ws pc lv (.ref a :: st) := fun H locs ls hP hD hS hl =>
  va_get (ci := ci) (v := v) (C := C) (T := T) (N := N) X.1 X.2.1 X.2.2.2.2.2.2.1 hin X.2.2.2.2.2.1 X.2.2.2.2.2.2.2.1 hP q0 he hc k hkN (X.2.2.2.2.2.2.1 _ hlink) (fun _ h => h) hv d (kk H locs ls hP hD hS hl)
theorem U_putf {a q0 k ix ci N : Nat} {C : String} {T : u_T} {fs : List Value} {v : Value} (ws' : va_W) (ty0 : Nat → FieldType) (ty : FieldType) (he : ws[q0]? = some (a, .inr (ci, fs))) (hc : vwCl[ci]? = some (C, T, N)) (hkN : k < N) (hin : ∀ w ∈ u_ws C T N, w ∈ Ts) (hty : ∀ k, k < N → parseFieldDescriptor (T k).2.2.1 = some (ty0 k)) (hnm : ∀ a, a < N → ∀ b, b < N → a ≠ b → (T a).2.1 ≠ (T b).2.1) (hlink : Cond.fieldLink own ix (T k).1 (T k).2.1 (T k).2.2.1 ∈ Ts) (hfin : (T k).2.2.2 = false) (hd : ty0 k = ty) (hn : narrow ty v = v) (hf : fits ty v = true) (hlen : k < fs.length) (hw : ws.set q0 (a, .inr (ci, fs.set k v)) = ws') (d : decode cc pc = .ok (.putfield ix, 3)) (kk : UW l e below Q X kc ks ws' (pc + 3) lv st) : UW l e below Q X kc ks ws pc lv (v :: .ref a :: st) := fun H locs ls hP hD hS hl =>
  va_put (ci := ci) (v := v) (ty := ty) (C := C) (T := T) (N := N) X.1 X.2.1 X.2.2.2.2.2.2.1 hin ty0 hty hnm X.2.2.2.2.2.1 X.2.2.2.2.2.2.2.1 hP hD hS q0 he hc k hkN (X.2.2.2.2.2.2.1 _ hlink) (fun _ h => h) hfin (by rw [hty k hkN, hd]) hn hf hlen d (fun H1 locs1 hP1 hD1 hS1 => kk H1 locs1 ls (by rw [← hw]; exact hP1) (by rw [← hw]; exact hD1) hS1 hl)
theorem U_putF {a q0 k ix ci N : Nat} {C : String} {T : u_T} {fs : List Value} {v : Value} (ws' : va_W) (ty0 : Nat → FieldType) (ty : FieldType) (hin2 : meth.name = "<init>") (he : ws[q0]? = some (a, .inr (ci, fs))) (hc : vwCl[ci]? = some (C, T, N)) (hkN : k < N) (hin : ∀ w ∈ u_ws C T N, w ∈ Ts) (hty : ∀ k, k < N → parseFieldDescriptor (T k).2.2.1 = some (ty0 k)) (hnm : ∀ a, a < N → ∀ b, b < N → a ≠ b → (T a).2.1 ≠ (T b).2.1) (hlink : Cond.fieldLink own ix (T k).1 (T k).2.1 (T k).2.2.1 ∈ Ts) (hfin : (T k).2.2.2 = true) (hdecl : (T k).1 = own) (hd : ty0 k = ty) (hn : narrow ty v = v) (hf : fits ty v = true) (hlen : k < fs.length) (hw : ws.set q0 (a, .inr (ci, fs.set k v)) = ws') (d : decode cc pc = .ok (.putfield ix, 3)) (kk : UW l e below Q X kc ks ws' (pc + 3) lv st) : UW l e below Q X kc ks ws pc lv (v :: .ref a :: st) := fun H locs ls hP hD hS hl =>
  va_putF (ci := ci) (v := v) (ty := ty) (C := C) (T := T) (N := N) X.1 X.2.1 X.2.2.2.2.2.2.1 hin ty0 hty hnm X.2.2.2.2.2.1 X.2.2.2.2.2.2.2.1 hP hD hS q0 he hc k hkN (X.2.2.2.2.2.2.1 _ hlink) (fun _ h => h) hfin hin2 hdecl (by rw [hty k hkN, hd]) hn hf hlen d (fun H1 locs1 hP1 hD1 hS1 => kk H1 locs1 ls (by rw [← hw]; exact hP1) (by rw [← hw]; exact hD1) hS1 hl)
theorem U_new {ix ci N : Nat} {C : String} {T : u_T} {fs : List Value} (ty0 : Nat → FieldType) (hty : ∀ k, k < N → parseFieldDescriptor (T k).2.2.1 = some (ty0 k)) (hin : ∀ w ∈ u_ws C T N, w ∈ Ts) (hcl : Cond.classLink own ix C ∈ Ts) (hinst : Cond.instantiable C N ∈ Ts) (hini : Cond.initialized C ∈ Ts) (hc : vwCl[ci]? = some (C, T, N)) (hfs : ∀ j, j < N → defaultValue (ty0 j) = vp_V fs j) (hcells : kc + 1 ≤ R.cells) (hslots : ks + N ≤ R.slots) (d : decode cc pc = .ok (.new ix, 3)) (kk : ∀ q : Nat, UW l e below Q X (kc + 1) (ks + N) (ws ++ [(q, .inr (ci, fs))]) (pc + 3) lv (.ref q :: st)) : UW l e below Q X kc ks ws pc lv st := fun H locs ls hP hD hS hl =>
  va_new (ci := ci) (C := C) (T := T) (N := N) X.1 X.2.1 X.2.2.2.2.2.2.1 hin ty0 hty X.2.2.2.2.2.1 (X.2.2.2.2.2.2.1 _ hcl) (X.2.2.2.2.2.2.1 _ hinst) (X.2.2.2.2.2.2.1 _ hini) X.2.2.2.2.2.2.2.1 hP hD hS X.2.2.2.2.2.2.2.2.2.2 hc hfs hcells hslots d (fun q H1 hP1 hD1 hS1 => kk q H1 locs ls hP1 hD1 hS1 hl)
theorem U_newa {n : Int32} (N' : Nat) (harr : Cond.arrayClass .int ∈ Ts) (hn : ¬ n < 0) (hN : n.toNatClampNeg = N') (hb : N' * 4 ≤ 536870912) (hcells : kc + 1 ≤ R.cells) (hslots : ks + N' ≤ R.slots) (d : decode cc pc = .ok (.newarray .int, 2)) (kk : ∀ q : Nat, UW l e below Q X (kc + 1) (ks + N') (ws ++ [(q, .inl (zc 0, N', .inl (fun _ => 0)))]) (pc + 2) lv (.ref q :: st)) : UW l e below Q X kc ks ws pc lv (.int n :: st) := fun H locs ls hP hD hS hl =>
  va_newa (atype := .int) (ty := .int) (a0 := (N', .inl (fun _ => 0))) X.1 X.2.1 (X.2.2.2.2.2.2.1 _ harr) rfl X.2.2.2.2.2.2.2.1 hP hD hS X.2.2.2.2.2.2.2.2.2.2 (fun cA => by rw [vp_cell_i]; rfl) hn hN hb hcells hslots d (fun q cA H1 hK1 hP1 hD1 hS1 => by
    have e1 : s.vm.findClass ("[" ++ FieldType.int.toString) = some cA := (hK1.2 5 (cA, .int) rfl).2
    have e2 : s.vm.findClass ("[" ++ FieldType.int.toString) = some (zc 0) := (hK1.2 0 (zc 0, .int) rfl).2
    have e3 : cA = zc 0 := Option.some.inj (e1.symm.trans e2)
    subst e3
    exact kk q H1 locs ls hP1 hD1 hS1 hl)
theorem U_newq {n : Int32} {C : String} {ix : Nat} (N' t0 : Nat) (hov : va_AO C s) (ht : (tyz zc)[t0]? = some (zc t0, .object C)) (hcl : Cond.classLink own ix C ∈ Ts) (hn : ¬ n < 0) (hN : n.toNatClampNeg = N') (hb : N' * 4 ≤ 536870912) (hcells : kc + 1 ≤ R.cells) (hslots : ks + N' ≤ R.slots) (d : decode cc pc = .ok (.anewarray ix, 3)) (kk : ∀ q : Nat, UW l e below Q X (kc + 1) (ks + N') (ws ++ [(q, .inl (zc t0, N', .inr (.inr (.inr (.inr (fun _ => none))))))]) (pc + 3) lv (.ref q :: st)) : UW l e below Q X kc ks ws pc lv (.int n :: st) := fun H locs ls hP hD hS hl =>
  va_newq (C := C) X.1 X.2.1 X.2.2.2.2.2.1 (X.2.2.2.2.2.2.1 _ hcl) hov X.2.2.2.2.2.2.2.1 hP hD hS X.2.2.2.2.2.2.2.2.2.2 hn hN hb hcells hslots d (fun q cA H1 hK1 hP1 hD1 hS1 => by
    obtain ⟨k1, c1, -, -, -, e1⟩ := (hK1.2 5 (cA, .object C) rfl).2
    obtain ⟨k2, c2, -, -, -, e2⟩ := (X.2.2.2.2.2.2.2.1.2 t0 (zc t0, .object C) ht).2
    have e3 : cA = zc t0 := Option.some.inj (e1.symm.trans e2)
    subst e3
    exact kk q H1 locs ls hP1 hD1 hS1 hl)
theorem U_alenq {a q0 t0 : Nat} {n : Nat} {f : Nat → Option Nat} {ty : FieldType} (v : Int32) (he : ws[q0]? = some (a, .inl (zc t0, n, .inr (.inr (.inr (.inr f)))))) (ht : (tyz zc)[t0]? = some (zc t0, ty)) (hv : Int32.ofNat n = v) (d : decode cc pc = .ok (.arraylength, 1)) (kk : UW l e below Q X kc ks ws (pc + 1) lv (.int v :: st)) : UW l e below Q X kc ks ws pc lv (.ref a :: st) := fun H locs ls hP hD hS hl =>
  va_alen X.1 X.2.1 X.2.2.2.2.2.2.2.1 hP q0 t0 he ht hv d (kk H locs ls hP hD hS hl)
theorem U_astq {a v q0 qk t0 ci : Nat} {r : vw_C} {n : Nat} {vs : List Value} {f : Nat → Option Nat} {i : Int32} (ws' : va_W) (he : ws[q0]? = some (a, .inl (zc t0, n, .inr (.inr (.inr (.inr f)))))) (ht : (tyz zc)[t0]? = some (zc t0, .object r.1)) (hv : ws[qk]? = some (v, .inr (ci, vs))) (hc : vwCl[ci]? = some r) (hin : zin i n = true) (hw : ws.set q0 (a, .inl (zc t0, n, .inr (.inr (.inr (.inr (va_up f i.toNatClampNeg (some v))))))) = ws') (d : decode cc pc = .ok (.aastore, 1)) (kk : UW l e below Q X kc ks ws' (pc + 1) lv st) : UW l e below Q X kc ks ws pc lv (.ref v :: .int i :: .ref a :: st) := fun H locs ls hP hD hS hl =>
  va_astq X.1 X.2.1 X.2.2.2.2.2.2.2.1 hP hD hS q0 t0 qk ci he ht hv hc (zin_vp hin) d (fun H1 locs1 hP1 hD1 hS1 => kk H1 locs1 ls (by rw [← hw]; exact hP1) (by rw [← hw]; exact hD1) hS1 hl)
theorem U_iast {a q0 : Nat} {n : Nat} {f : Nat → Int32} {i x : Int32} (ws' : va_W) (j : Nat) (hj : i.toNatClampNeg = j) (he : ws[q0]? = some (a, .inl (zc 0, n, .inl f))) (hin : zin i n = true) (hw : ws.set q0 (a, .inl (zc 0, n, .inl (upd f j x))) = ws') (d : decode cc pc = .ok (.iastore, 1)) (kk : UW l e below Q X kc ks ws' (pc + 1) lv st) : UW l e below Q X kc ks ws pc lv (.int x :: .int i :: .ref a :: st) := fun H locs ls hP hD hS hl =>
  va_iast X.1 X.2.1 X.2.2.2.2.2.2.2.1 hP hD hS q0 0 he rfl (zin_vp hin) d (fun H1 locs1 hP1 hD1 hS1 => kk H1 locs1 ls (by rw [← hw, ← hj]; exact hP1) (by rw [← hw, ← hj]; exact hD1) hS1 hl)
theorem U_obj {ix a : Nat} (hm1 : Cond.methodLink own ix objectInit ∈ Ts) (hm2 : Cond.instanceMethod objectInit ∈ Ts) (hm3 : Cond.code objectInit ⟨#[0xb1]⟩ 1 none ∈ Ts) (hcat : (st.map fun v => v.category).sum ≤ 8) (hfr : 1 ≤ R.frames) (hlo : 20 ≤ R.locals) (d : decode cc pc = .ok (.invokespecial ix, 3)) (kk : UW l e below Q X kc ks ws (pc + 3) lv st) : UW l e below Q X kc ks ws pc lv (.ref a :: st) := by
  intro H locs ls hP hD hS hl
  refine W.objInit X.1 X.2.1 X.2.2.2.2.2.1 (X.2.2.2.2.2.2.1 _ hm1) (X.2.2.2.2.2.2.1 _ hm2) (X.2.2.2.2.2.2.1 _ hm3) rfl (hl.1.trans X.2.2.1.symm) rfl d hfr (by show 2 * 0 + _ + 12 ≤ _; omega) ?_
  exact W.eq (g2 := F0 m (pc + 3) ls st) rfl (kk H locs ls hP hD hS hl)
theorem preU_blind {av : List Value} {sz : Nat} {ws : va_W} : FrameBlind (va_Pc av (PreU D zc ws sz)) := by
  intro a U g mk q
  obtain ⟨q0, q1, qP, qK, qN, qO, qD⟩ := q
  exact ⟨q0, q1, qP, va_K.moved (u := U) (U := U.calling g mk a) (Vm.Alike.refl U.vm) qK, NWs.same (u := U) (U := U.calling g mk a) rfl qN, AOs.moved (u := U) (U := U.calling g mk a) (Vm.Alike.refl U.vm) qO, qD⟩
theorem U_pre (X0 : CU p R s m args meth c own cc nL ret Ts D A zc) {H : Heap} {x : Nat × va_E} {wr : va_W} (hP : va_P D vwCl (wr ++ [x]) H) (hD : va_D A (wr ++ [x])) : ∀ U : State, U.heap = H → s.WarmedH U.vm → PreU D zc [x] H.size U := fun U hU hW => by
  have hP1 : va_P D vwCl [x] H := fun k q hq => hP (wr.length + k) q (by rw [List.getElem?_append_right (by omega), Nat.add_sub_cancel_left]; exact hq)
  refine ⟨by rw [hU], by rw [hU]; exact hP1, va_K.moved hW.alike X0.2.2.2.2.2.2.2.1, X0.2.2.2.2.2.2.2.2.1.warm hW, AOs.moved hW.alike X0.2.2.2.2.2.2.2.2.2.1, ?_⟩
  refine ⟨fun i j p q hp hq _ => ?_, fun _ _ _ => trivial⟩
  have h1 := (List.getElem?_eq_some_iff.mp hp).1
  have h2 := (List.getElem?_eq_some_iff.mp hq).1
  simp only [List.length_singleton] at h1 h2
  omega
theorem U_free (X0 : CU p R s m args meth c own cc nL ret Ts D A zc) {H : Heap} {locs : List Loc} {x : Nat × va_E} {wr : va_W} (hD : va_D A (wr ++ [x])) (hS : va_S A s.heap H locs) : ∀ q, va_A [x] H.size q → A q := by
  refine va_free hD hS X0.2.2.2.2.2.2.2.2.2.2 [wr.length] ?_
  simp
variable {ym : MethodName} {w : List Cond} {rm : Room} {bytes : ByteArray} {maxL n ix : Nat} {As st0 : List Value} {host : String} {ci mc ms : Nat} {fs : List Value} {post : Nat → va_W → Prop} {wr : va_W} {a : Nat}
theorem U_callI (hM : KI l ym w rm D zc As ci fs post mc ms) (cw : CallB R s args own ix ym bytes maxL none w rm mc ms n ∧ ym.name = "<init>" ∧ (Cond.instanceMethod ym).before args s = true) (hn : As.length = n) (hcat : (st.map fun v => v.category).sum ≤ 8) (hf : kc + mc ≤ R.cells ∧ ks + ms ≤ R.slots) (d : decode cc pc = .ok (.invokespecial ix, 3)) (hst : As.reverse ++ .ref a :: st = st0) (kk : ∀ w1, post a w1 → UW l e below Q X (kc + mc) (ks + ms) (wr ++ w1) (pc + 3) lv st) : UW l e below Q X kc ks (wr ++ [(a, .inr (ci, fs))]) pc lv st0 := by
  intro H locs ls hP hD hS hl
  refine va_callv (va_runI (As := As) (rest := st) ⟨X.1, X.2.1, X.2.2.1, X.2.2.2.2.2.1, X.2.2.2.2.2.2.1⟩ (hM a H.size) cw ⟨preU_blind, fun U hU hW => ⟨rfl, U_pre X hP hD U hU hW⟩⟩ rfl hn hl.1 hst.symm (lv_room hcat) d hf) hS (fun q _ h => U_free X hD hS q h) (U_free X hD hS) (fun w1 t H1 locs1 ht hvm hp hB hz hk hS1 => ?_)
  obtain ⟨hP1, hD1⟩ := hB
  rw [ht] at hP1
  obtain ⟨g1, g2⟩ := join_last hP hD hk (U_free X hD hS) hP1 hD1
  exact kk w1 hp H1 locs1 ls g1 g2 hS1 hl
theorem U_callIN (hM : KI l ym w rm D zc As ci fs post mc ms) (cw : va_CN R s args own ix ym host bytes maxL none w rm mc ms n ∧ ym.name = "<init>" ∧ (Cond.instanceMethod ym).before args s = true) (hn : As.length = n) (hcat : (st.map fun v => v.category).sum ≤ 8) (hf : kc + mc ≤ R.cells ∧ ks + ms ≤ R.slots) (d : decode cc pc = .ok (.invokespecial ix, 3)) (hst : As.reverse ++ .ref a :: st = st0) (kk : ∀ w1, post a w1 → UW l e below Q X (kc + mc) (ks + ms) (wr ++ w1) (pc + 3) lv st) : UW l e below Q X kc ks (wr ++ [(a, .inr (ci, fs))]) pc lv st0 := by
  intro H locs ls hP hD hS hl
  refine va_callv (va_runIN (As := As) (rest := st) ⟨X.1, X.2.1, X.2.2.1, X.2.2.2.2.2.1, X.2.2.2.2.2.2.1⟩ (hM a H.size) cw ⟨preU_blind, fun U hU hW => ⟨rfl, U_pre X hP hD U hU hW⟩⟩ rfl hn hl.1 hst.symm (lv_room hcat) d hf) hS (fun q _ h => U_free X hD hS q h) (U_free X hD hS) (fun w1 t H1 locs1 ht hvm hp hB hz hk hS1 => ?_)
  obtain ⟨hP1, hD1⟩ := hB
  rw [ht] at hP1
  obtain ⟨g1, g2⟩ := join_last hP hD hk (U_free X hD hS) hP1 hD1
  exact kk w1 hp H1 locs1 ls g1 g2 hS1 hl
end UL
section UE
variable {p : Program} {l : Launch} {e : Env} {R : Room} {s : State} {m : MethodId} {args : Array Value} {below : List Frame} {meth : Method} {c : Code}
variable {own : String} {cc : ByteArray} {nL : Nat} {Ts : List Cond} {D : va_G} {A : Nat → Prop} {zc : Nat → ClassId}
variable {kc ks : Nat} {ws : va_W} {pc : Nat} {lv : List (Nat × Value)} {post : va_W → Prop}
/-- what a constructor comes to -/
def EndI (below : List Frame) (D : va_G) (A : Nat → Prop) (args : Array Value) (s : State) (post : va_W → Prop) (mc ms : Nat) : State → Prop := MQ below (va_Qv (S := va_W) post (fun w1 t => va_P D vwCl w1 t.heap ∧ va_D A w1) A) args s mc ms A
theorem U_vret (X : CU p R s m args meth c own cc nL none Ts D A zc) (hp : post ws) (d : decode cc pc = .ok (.return_, 1)) : UW l e below (EndI below D A args s post kc ks) X kc ks ws pc lv [] := fun H locs ls hP hD hS hl =>
  W.vret (hlocks := X.2.2.2.2.1) X.1 X.2.1 X.2.2.2.1 (fun t ht hW => ⟨⟨ws, rfl, hp, by show va_P D vwCl ws t.heap ∧ va_D A ws; rw [ht]; exact ⟨hP, hD⟩⟩, hS.F ht⟩) hS.2.2 d
end UE
theorem KI_of {l : Launch} {ym : MethodName} {w ws' : List Cond} {rm : Room} {D : va_G} {zc : Nat → ClassId} {As : List Value} {ci : Nat} {fs : List Value} {post : Nat → va_W → Prop} {mc ms : Nat} {cc : ByteArray} {maxL : Nat} (own : String) (lv : Nat → List (Nat × Value)) (hy : plainName ym.cls = true) (ho : ym.cls = own) (hnm : ym.name = "<init>") (hw : w = Cond.code ym cc maxL none :: ws') (hloc : ∀ a : Nat, (lg_sl (.ref a :: As)).length ≤ maxL) (hlv : ∀ a : Nat, lv_args 0 (.ref a :: As) = lv a)
    (h : ∀ {p : Program} {e : Env} {s : State} {m : MethodId} {args : Array Value} {below : List Frame} {meth : Method} {c : Code} {A : Nat → Prop} (X : CU p (headSpec w rm).room s m args meth c own cc maxL none w D A zc) (_ : meth.name = "<init>") (a : Nat), UW l e below (EndI below D A args s (post a) mc ms) X 0 0 [(a, .inr (ci, fs))] 0 (lv a) []) : KI l ym w rm D zc As ci fs post mc ms := by
  intro a sz
  refine Met.ofW (cc := cc) (maxL := maxL) (ret := none) hy hw ?_
  intro p e s m args below meth c s₁ B hml hv
  obtain ⟨rfl, hsz, hP, hK, hN, hO, hD0⟩ := hv
  subst hsz
  have hown : s.vm.findClass own = some m.cls := by rw [← ho]; exact findClass_of_methodNamed B.named
  have hin : meth.name = "<init>" := (name_of_methodNamed B.named B.method).1.trans hnm
  have X : CU p (headSpec w rm).room s m (Value.ref a :: As).toArray meth c own cc maxL none w D (va_A [(a, .inr (ci, fs))] s.heap.size) zc :=
    ⟨B.exec, B.bytes, hml, B.returns, B.notSynchronized, hown, atoms_spec (ws := w) B.pre, hK, hN, hO, fun q h => Or.inr h⟩
  have hl := lv_entry (.ref a :: As) (n := maxL) (hloc a)
  rw [lg_entry_eq]
  rw [hlv a] at hl
  exact h X hin a _ _ _ hP hD0.self va_S.rf hl
theorem U_eq {p : Program} {l : Launch} {e : Env} {R : Room} {s : State} {m : MethodId} {args : Array Value} {below : List Frame} {meth : Method} {c : Code} {Q : State → Prop} {own : String} {cc : ByteArray} {nL : Nat} {ret : Option FieldType} {Ts : List Cond} {D : va_G} {A : Nat → Prop} {zc : Nat → ClassId} (X : CU p R s m args meth c own cc nL ret Ts D A zc) {kc ks : Nat} {ws : va_W} {pc : Nat} {lv : List (Nat × Value)} {st : List Value} {ws' : va_W} (h : ws = ws') (k : UW l e below Q X kc ks ws' pc lv st) : UW l e below Q X kc ks ws pc lv st := by rw [h]; exact k
theorem D_iff {A : Nat → Prop} {ws : va_W} : va_D A ws ↔ (ws.map Prod.fst).Nodup ∧ ∀ q ∈ ws, A q.1 := by
  constructor
  · rintro ⟨h1, h2⟩
    refine ⟨?_, fun q hq => ?_⟩
    · rw [List.nodup_iff_pairwise_ne, List.pairwise_iff_getElem]
      intro i j hi hj hij e
      rw [List.length_map] at hi hj
      rw [List.getElem_map, List.getElem_map] at e
      have := h1 i j _ _ (List.getElem?_eq_getElem hi) (List.getElem?_eq_getElem hj) e
      omega
    · obtain ⟨k, hk⟩ := List.getElem?_of_mem hq
      exact h2 k q hk
  · rintro ⟨h1, h2⟩
    refine ⟨fun i j p q hp hq e => ?_, fun k q hq => h2 q (List.mem_of_getElem? hq)⟩
    rw [List.nodup_iff_pairwise_ne, List.pairwise_iff_getElem] at h1
    obtain ⟨hi, rfl⟩ := List.getElem?_eq_some_iff.mp hp
    obtain ⟨hj, rfl⟩ := List.getElem?_eq_some_iff.mp hq
    rcases Nat.lt_trichotomy i j with h | h | h
    · exact absurd (by rw [List.getElem_map, List.getElem_map]; exact e) (h1 i j (by rw [List.length_map]; exact hi) (by rw [List.length_map]; exact hj) h)
    · exact h
    · exact absurd (by rw [List.getElem_map, List.getElem_map]; exact e.symm) (h1 j i (by rw [List.length_map]; exact hj) (by rw [List.length_map]; exact hi) h)
theorem P_mem {D : va_G} {cl : List vw_C} {ws : va_W} {H : Heap} : va_P D cl ws H ↔ ∀ q ∈ ws, va_at D cl q H := by
  constructor
  · intro h q hq
    obtain ⟨k, hk⟩ := List.getElem?_of_mem hq
    exact h k q hk
  · intro h k q hq
    exact h q (List.mem_of_getElem? hq)
theorem U_swap {p : Program} {l : Launch} {e : Env} {R : Room} {s : State} {m : MethodId} {args : Array Value} {below : List Frame} {meth : Method} {c : Code} {Q : State → Prop} {own : String} {cc : ByteArray} {nL : Nat} {ret : Option FieldType} {Ts : List Cond} {D : va_G} {A : Nat → Prop} {zc : Nat → ClassId} (X : CU p R s m args meth c own cc nL ret Ts D A zc) {kc ks : Nat} {pc : Nat} {lv : List (Nat × Value)} {st : List Value} {wa wb : va_W} {x : Nat × va_E} (k : UW l e below Q X kc ks (wa ++ (wb ++ [x])) pc lv st) : UW l e below Q X kc ks (wa ++ ([x] ++ wb)) pc lv st := by
  have hp : (wa ++ ([x] ++ wb)).Perm (wa ++ (wb ++ [x])) := List.Perm.append_left wa List.perm_append_comm
  intro H locs ls hP hD hS hl
  refine k H locs ls (P_mem.mpr fun q hq => P_mem.mp hP q (hp.mem_iff.mpr hq)) (D_iff.mpr ?_) hS hl
  obtain ⟨h1, h2⟩ := D_iff.mp hD
  exact ⟨(hp.map Prod.fst).nodup_iff.mp h1, fun q hq => h2 q (hp.mem_iff.mpr hq)⟩
