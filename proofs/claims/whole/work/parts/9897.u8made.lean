/-! the law's arrays copied, the law made -/
/-- a method that answers an object -/
def KR (l : Launch) (ym : MethodName) (w : List Cond) (rm : Room) (D : va_G) (zc : Nat → ClassId) (As : List Value) (wc : va_W) (post : Nat → va_W → Prop) (mc ms : Nat) : Prop :=
  ∀ sz : Nat, Met l ym w rm (va_Pc As (PreU D zc wc sz)) (va_Qr (S := va_W) (fun _ => True) (fun w1 a t => post a w1 ∧ va_P D vwCl w1 t.heap ∧ va_D (va_A wc sz) w1) (va_A wc sz)) mc ms (va_A wc sz)
section UR
variable {p : Program} {l : Launch} {e : Env} {R : Room} {s : State} {m : MethodId} {args : Array Value} {below : List Frame} {meth : Method} {c : Code} {Q : State → Prop}
variable {own : String} {cc : ByteArray} {nL : Nat} {ret : Option FieldType} {Ts : List Cond} {D : va_G} {A : Nat → Prop} {zc : Nat → ClassId}
theorem U_preC (X0 : CU p R s m args meth c own cc nL ret Ts D A zc) {H : Heap} {ws wc : va_W} (is : List Nat) (hn : va_nd is = true) (hC : is.map (fun i => ws[i]?) = wc.map some) (hP : va_P D vwCl ws H) (hD : va_D A ws) : ∀ U : State, U.heap = H → s.WarmedH U.vm → PreU D zc wc H.size U := fun U hU hW => by
  have hf : is.filterMap (fun i => ws[i]?) = wc := by
    have : (is.map (fun i => ws[i]?)).filterMap id = (wc.map some).filterMap id := by rw [hC]
    rw [List.filterMap_map, List.filterMap_map] at this
    simpa using this
  exact ⟨by rw [hU], by rw [hU]; exact hP.sub is hf, va_K.moved hW.alike X0.2.2.2.2.2.2.2.1, X0.2.2.2.2.2.2.2.2.1.warm hW, AOs.moved hW.alike X0.2.2.2.2.2.2.2.2.2.1, (hD.sub is hn hC).weaken (fun _ _ _ _ => trivial)⟩
variable (X : CU p R s m args meth c own cc nL ret Ts D A zc)
variable {kc ks : Nat} {ws : va_W} {pc : Nat} {lv : List (Nat × Value)} {st : List Value}
theorem U_iadd {x z : Int32} (d : decode cc pc = .ok (.iadd, 1)) (k : UW l e below Q X kc ks ws (pc + 1) lv (.int (x + z) :: st)) : UW l e below Q X kc ks ws pc lv (.int z :: .int x :: st) := fun H locs ls hP hD hS hl => lv_iadd X.1 X.2.1 d (k H locs ls hP hD hS hl)
theorem U_aleni {a q0 : Nat} {n : Nat} {f : Nat → Int32} (v : Int32) (he : ws[q0]? = some (a, .inl (zc 0, n, .inl f))) (hv : Int32.ofNat n = v) (d : decode cc pc = .ok (.arraylength, 1)) (kk : UW l e below Q X kc ks ws (pc + 1) lv (.int v :: st)) : UW l e below Q X kc ks ws pc lv (.ref a :: st) := fun H locs ls hP hD hS hl =>
  va_alen X.1 X.2.1 X.2.2.2.2.2.2.2.1 hP q0 0 he rfl hv d (kk H locs ls hP hD hS hl)
theorem U_max {ix : Nat} {x z : Int32} (hm1 : Cond.methodLink own ix Lib.Math.max.name ∈ Ts) (hm2 : Cond.static Lib.Math.max.name ∈ Ts) (hm3 : Cond.initialized "java/lang/Math" ∈ Ts) (hm4 : Cond.code Lib.Math.max.name Lib.Math.max.code 2 (some .int) ∈ Ts) (hfr : 1 ≤ R.frames) (hlo : (st.map fun v => v.category).sum + 13 ≤ R.locals) (hc : kc ≤ R.cells) (hs : ks ≤ R.slots) (d : decode cc pc = .ok (.invokestatic ix, 3)) (k : UW l e below Q X kc ks ws (pc + 3) lv (.int (if x < z then z else x) :: st)) : UW l e below Q X kc ks ws pc lv (.int z :: .int x :: st) := fun H locs ls hP hD hS hl =>
  va_mmax X.1 X.2.1 (X.2.2.1.trans hl.1.symm) X.2.2.2.2.2.1 (X.2.2.2.2.2.2.1 _ hm1) (X.2.2.2.2.2.2.1 _ hm2) (X.2.2.2.2.2.2.1 _ hm3) (X.2.2.2.2.2.2.1 _ hm4) hfr hlo hc hs d (k H locs ls hP hD hS hl)
theorem U_min {ix : Nat} {x z : Int32} (hm1 : Cond.methodLink own ix Lib.Math.min.name ∈ Ts) (hm2 : Cond.static Lib.Math.min.name ∈ Ts) (hm3 : Cond.initialized "java/lang/Math" ∈ Ts) (hm4 : Cond.code Lib.Math.min.name Lib.Math.min.code 2 (some .int) ∈ Ts) (hfr : 1 ≤ R.frames) (hlo : (st.map fun v => v.category).sum + 13 ≤ R.locals) (hc : kc ≤ R.cells) (hs : ks ≤ R.slots) (d : decode cc pc = .ok (.invokestatic ix, 3)) (k : UW l e below Q X kc ks ws (pc + 3) lv (.int (if z < x then z else x) :: st)) : UW l e below Q X kc ks ws pc lv (.int z :: .int x :: st) := fun H locs ls hP hD hS hl =>
  va_mmin X.1 X.2.1 (X.2.2.1.trans hl.1.symm) X.2.2.2.2.2.1 (X.2.2.2.2.2.2.1 _ hm1) (X.2.2.2.2.2.2.1 _ hm2) (X.2.2.2.2.2.2.1 _ hm3) (X.2.2.2.2.2.2.1 _ hm4) hfr hlo hc hs d (k H locs ls hP hD hS hl)
theorem U_copy {ix a0 a q0 q1 n0 n1 : Nat} {f g : Nat → Int32} {n : Int32} (ws' : va_W) (n' : Nat) (hm1 : Cond.methodLink own ix arraycopyName ∈ Ts) (hm2 : Cond.native arraycopyName ∈ Ts) (hm3 : Cond.static arraycopyName ∈ Ts) (hm4 : Cond.initialized "java/lang/System" ∈ Ts) (he0 : ws[q0]? = some (a0, .inl (zc 0, n0, .inl f))) (he1 : ws[q1]? = some (a, .inl (zc 0, n1, .inl g))) (h3 : ¬ n < 0) (e3 : n.toNatClampNeg = n') (h4 : n' ≤ n0) (h5 : n' ≤ n1) (hfr : 1 ≤ R.frames) (hlo : (st.map fun v => v.category).sum + (nativeFrameWords "java/lang/System" "arraycopy" 5 + 11) ≤ R.locals) (d : decode cc pc = .ok (.invokestatic ix, 3)) (hw : ws.set q1 (a, .inl (zc 0, n1, .inl (va_cpy f g 0 0 n'))) = ws') (kk : UW l e below Q X kc ks ws' (pc + 3) lv st) : UW l e below Q X kc ks ws pc lv (.int n :: .int 0 :: .ref a :: .int 0 :: .ref a0 :: st) := fun H locs ls hP hD hS hl => by
  subst e3
  exact va_copyi X.1 X.2.1 (X.2.2.1.trans hl.1.symm) X.2.2.2.2.2.1 (X.2.2.2.2.2.2.1 _ hm1) (X.2.2.2.2.2.2.1 _ hm2) (X.2.2.2.2.2.2.1 _ hm3) (X.2.2.2.2.2.2.1 _ hm4) X.2.2.2.2.2.2.2.1 hP hD hS q0 q1 0 0 he0 he1 rfl rfl rfl (by decide) (by decide) h3 (by show 0 + _ ≤ _; omega) (by show 0 + _ ≤ _; omega) (fun i _ => rfl) hfr hlo d (fun H1 locs1 hP1 hD1 hS1 => kk H1 locs1 ls (by rw [← hw]; exact hP1) (by rw [← hw]; exact hD1) hS1 hl)
variable {ym : MethodName} {w : List Cond} {rm : Room} {bytes : ByteArray} {maxL n ix mc ms : Nat} {As st0 : List Value} {ret' : Option FieldType} {post : Nat → va_W → Prop} {wr wc : va_W}
theorem U_callSr (isC isR : List Nat) (hM : KR l ym w rm D zc As wc post mc ms) (cw : CallB R s args own ix ym bytes maxL ret' w rm mc ms n ∧ (Cond.static ym).before args s = true) (hnC : va_nd isC = true) (hC : isC.map (fun i => ws[i]?) = wc.map some) (hR : isR.map (fun i => ws[i]?) = wr.map some) (hnR : va_nd isR = true) (hdis : ∀ i ∈ isR, i ∉ isC) (hn : As.length = n) (hcat : (st.map fun v => v.category).sum ≤ 8) (hf : kc + mc ≤ R.cells ∧ ks + ms ≤ R.slots) (d : decode cc pc = .ok (.invokestatic ix, 3)) (hst : As.reverse ++ st = st0) (kk : ∀ a w1, post a w1 → UW l e below Q X (kc + mc) (ks + ms) (wr ++ w1) (pc + 3) lv (.ref a :: st)) : UW l e below Q X kc ks ws pc lv st0 := by
  intro H locs ls hP hD hS hl
  have hF : ∀ q, va_A wc H.size q → A q := va_free hD hS X.2.2.2.2.2.2.2.2.2.2 isC hC
  refine va_callr (va_runS (As := As) (rest := st) ⟨X.1, X.2.1, X.2.2.1, X.2.2.2.2.2.1, X.2.2.2.2.2.2.1⟩ (hM H.size) cw ⟨preU_blind, fun U hU hW => ⟨rfl, U_preC X isC hnC hC hP hD U hU hW⟩⟩ rfl hn hl.1 hst.symm (lv_room hcat) d hf) hS (fun q _ h => hF q h) hF (fun w1 a t H1 locs1 ht hvm _ hB hz hk hS1 => ?_)
  obtain ⟨hp, hP1, hD1⟩ := hB
  rw [ht] at hP1
  obtain ⟨g1, g2⟩ := va_join hP hD isC isR hC hR hnR hdis hk hF hP1 hD1
  exact kk a w1 hp H1 locs1 ls g1 g2 hS1 hl
end UR
section UA
variable {p : Program} {l : Launch} {e : Env} {R : Room} {s : State} {m : MethodId} {args : Array Value} {below : List Frame} {meth : Method} {c : Code}
variable {own : String} {cc : ByteArray} {nL : Nat} {ret : Option FieldType} {Ts : List Cond} {D : va_G} {A : Nat → Prop} {zc : Nat → ClassId}
variable {kc ks : Nat} {ws : va_W} {pc : Nat} {lv : List (Nat × Value)} {post : Nat → va_W → Prop}
def EndR (below : List Frame) (D : va_G) (A : Nat → Prop) (args : Array Value) (s : State) (post : Nat → va_W → Prop) (mc ms : Nat) : State → Prop := MQ below (va_Qr (S := va_W) (fun _ => True) (fun w1 a t => post a w1 ∧ va_P D vwCl w1 t.heap ∧ va_D A w1) A) args s mc ms A
theorem U_aret {rt : FieldType} {a : Nat} (X : CU p R s m args meth c own cc nL (some rt) Ts D A zc) (hrt : (∃ n, rt = .object n) ∨ ∃ t, rt = .array t) (hp : post a ws) (d : decode cc pc = .ok (.areturn, 1)) : UW l e below (EndR below D A args s post kc ks) X kc ks ws pc lv [.ref a] := fun H locs ls hP hD hS hl =>
  W.aret (hlocks := X.2.2.2.2.1) X.1 X.2.1 X.2.2.2.1 hrt (Or.inr ⟨a, rfl⟩) (fun t ht hW => ⟨⟨ws, a, rfl, trivial, by show post a ws ∧ va_P D vwCl ws t.heap ∧ va_D A ws; rw [ht]; exact ⟨hp, hP, hD⟩⟩, hS.F ht⟩) hS.2.2 d
end UA
theorem KR_of {l : Launch} {ym : MethodName} {w ws' : List Cond} {rm : Room} {D : va_G} {zc : Nat → ClassId} {As : List Value} {wc : va_W} {post : Nat → va_W → Prop} {mc ms : Nat} {cc : ByteArray} {maxL : Nat} {ret : Option FieldType} (own : String) (lv : List (Nat × Value)) (hy : plainName ym.cls = true) (ho : ym.cls = own) (hw : w = Cond.code ym cc maxL ret :: ws') (hloc : (lg_sl As).length ≤ maxL) (hlv : lv_args 0 As = lv)
    (h : ∀ {p : Program} {e : Env} {s : State} {m : MethodId} {args : Array Value} {below : List Frame} {meth : Method} {c : Code} {A : Nat → Prop} (X : CU p (headSpec w rm).room s m args meth c own cc maxL ret w D A zc), UW l e below (EndR below D A args s post mc ms) X 0 0 wc 0 lv []) : KR l ym w rm D zc As wc post mc ms := by
  intro sz
  refine Met.ofW (cc := cc) (maxL := maxL) (ret := ret) hy hw ?_
  intro p e s m args below meth c s₁ B hml hv
  obtain ⟨rfl, hsz, hP, hK, hN, hO, hD0⟩ := hv
  subst hsz
  have hown : s.vm.findClass own = some m.cls := by rw [← ho]; exact findClass_of_methodNamed B.named
  have X : CU p (headSpec w rm).room s m As.toArray meth c own cc maxL ret w D (va_A wc s.heap.size) zc :=
    ⟨B.exec, B.bytes, hml, B.returns, B.notSynchronized, hown, atoms_spec (ws := w) B.pre, hK, hN, hO, fun q h => Or.inr h⟩
  have hl := lv_entry As (n := maxL) hloc
  rw [lg_entry_eq]
  rw [hlv] at hl
  exact h X _ _ _ hP hD0.self va_S.rf hl
abbrev wbU_X4_copyOf : List Cond := Cond.code yX4_copyOf cX4_copyOf 4 (some (.array .int)) :: BIG
def rmU_X4_copyOf : Room := { frames := 1, cells := 1, slots := 400, locals := 100 }
set_option maxRecDepth 100000 in
set_option maxHeartbeats 4000000 in
theorem K_X4_copyOf {l : Launch} {D : va_G} {zc : Nat → ClassId} {b L k : Nat} {f : Nat → Int32} (hL : L ≤ 400) (hk : k ≤ L) : KR l yX4_copyOf wbU_X4_copyOf rmU_X4_copyOf D zc [.ref b, .int (nI k)] [(b, .inl (zc 0, L, .inl f))] (fun a w1 => ∃ g : Nat → Int32, (∀ j, j < k → g j = f j) ∧ w1 = [(b, .inl (zc 0, L, .inl f)), (a, .inl (zc 0, k, .inl g))]) 1 400 := by
  refine KR_of (cc := cX4_copyOf) (maxL := 4) RX4 [(0, .ref b), (1, .int (nI k))] (by decide) rfl rfl (Nat.le_of_ble_eq_true rfl) rfl ?_
  intro p e s m args below meth c A X
  refine U_iconst X 0 dX4_copyOf_0 (by decide) ?_
  refine U_iload_n X 1 dX4_copyOf_1 rfl rfl ?_
  refine U_aload_n X 0 dX4_copyOf_2 rfl rfl ?_
  refine U_aleni X (q0 := 0) (nI L) rfl rfl dX4_copyOf_3 ?_
  refine U_min X (mB wm_RX4_44) (mB wst_Math_min) (mB win_Math) (mB wc_Math_min) (Nat.le_of_ble_eq_true rfl) (Nat.le_of_ble_eq_true rfl) (Nat.zero_le _) (Nat.zero_le _) dX4_copyOf_4 ?_
  rw [if_neg (nI_nlt (a := L) (b := k) hk (by omega))]
  refine U_max X (mB wm_RX4_50) (mB wst_Math_max) (mB win_Math) (mB wc_Math_max) (Nat.le_of_ble_eq_true rfl) (Nat.le_of_ble_eq_true rfl) (Nat.zero_le _) (Nat.zero_le _) dX4_copyOf_7 ?_
  have e0 : (if (0 : Int32) < nI k then nI k else 0) = nI k := by
    by_cases h0 : 0 < k
    · rw [if_pos (show (0 : Int32) < nI k from nI_lt (a := 0) h0 (by omega))]
    · rw [show k = 0 by omega]; rfl
  rw [e0]
  refine U_istore_n X [(2, .int (nI k)), (0, .ref b), (1, .int (nI k))] dX4_copyOf_10 rfl (by decide) rfl ?_
  refine U_iload_n X 0 dX4_copyOf_11 rfl rfl ?_
  refine U_newa X k (mB wac) (nI_pos (by omega)) (nI_cl (by omega)) (by omega) (Nat.le_of_ble_eq_true rfl) (by show 0 + k ≤ 400; omega) dX4_copyOf_12 (fun q => ?_)
  refine U_astore_n X [(3, .ref q), (2, .int (nI k)), (0, .ref b), (1, .int (nI k))] dX4_copyOf_14 rfl (by decide) rfl ?_
  refine U_aload_n X 2 dX4_copyOf_15 rfl rfl ?_
  refine U_iconst X 0 dX4_copyOf_16 (by decide) ?_
  refine U_aload_n X 0 dX4_copyOf_17 rfl rfl ?_
  refine U_iconst X 0 dX4_copyOf_18 (by decide) ?_
  refine U_iload_n X 1 dX4_copyOf_19 rfl rfl ?_
  refine U_copy X (q0 := 0) (q1 := 1) [(b, .inl (zc 0, L, .inl f)), (q, .inl (zc 0, k, .inl (va_cpy f (fun _ => 0) 0 0 k)))] k (mB wm_RX4_53) (mB wnat_copy) (mB wst_copy) (mB win_System) rfl rfl (nI_pos (by omega)) (nI_cl (by omega)) hk (Nat.le_refl _) (Nat.le_of_ble_eq_true rfl) (Nat.le_of_ble_eq_true rfl) dX4_copyOf_20 rfl ?_
  refine U_aload_n X 0 dX4_copyOf_23 rfl rfl ?_
  refine U_widen X (k' := 1) (n' := 400) (by omega) (by omega) ?_
  refine U_aret X (Or.inr ⟨_, rfl⟩) ⟨va_cpy f (fun _ => 0) 0 0 k, fun j hj => ?_, rfl⟩ dX4_copyOf_24
  unfold va_cpy
  rw [if_pos (by omega)]
  congr 1
  omega
theorem hd_X4_copyOf' : yX4_copyOf.cls ≠ "java/lang/invoke/MethodHandle" ∧ yX4_copyOf.cls ≠ "java/lang/invoke/VarHandle" ∧ (parseMethodDescriptor yX4_copyOf.desc).map (fun d => d.parameters.length) = some 2 := by decide +kernel
