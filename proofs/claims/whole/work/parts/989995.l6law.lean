/-! the helper law -/
section LW
variable {p : Program} {l : Launch} {e : Env} {R : Room} {s : State} {m : MethodId} {args : Array Value} {below : List Frame} {meth : Method} {c : Code} {Q : State → Prop}
variable {own : String} {cc : ByteArray} {nL : Nat} {ret : Option FieldType} {Ts : List Cond} {D : va_G} {A : Nat → Prop} {y : ZLay} {kc ks : Nat}
variable {μ : ZMem} {pc : Nat} {lv : List (Nat × Value)} {st st0 : List Value}
variable {ym : MethodName} {w : List Cond} {rm : Room} {bytes : ByteArray} {maxL n ix : Nat} {ret' : Option FieldType} {C : String} {b : ZId} {As : List Value} {hh : List (Nat × Nat × Nat × Nat)}
variable {RR : Int32 → ZLay → ZMem → Prop} {TT : ZMem → Prop}
theorem V_callL (X : Cx p l e R s m args below meth c Q own cc nL ret Ts D A y kc ks) (hO : AOs s) (X' : Cx p l e R s m args below meth c Q own cc nL ret Ts D A y (kc + 6) (ks + 1638)) (hM : MLW l ym w rm D y (.ref (zad y b) :: As) μ RR TT) (cw : CallW R s args own C ix ym bytes maxL ret' w rm 6 1638 n) {ci : Nat} {q0 : vw_C} {sh : List ZF} (ho : okI y b) (hs : zsh b = some (ci, sh)) (hc : vwCl[ci]? = some q0) (hC : q0.1 = C) (hn : As.length = n) (hcat : (st.map fun v => v.category).sum ≤ 8) (d : decode cc pc = .ok (.invokevirtual ix, 3)) (hst : As.reverse ++ .ref (zad y b) :: st = st0)
    (hg : ∀ r y' μ', RR r y' μ' → y'.2.2.2 = y.2.2.2) (kx : ∀ μ', TT μ' → VH X' μ' pc lv st (zEx 1)) (kk : ∀ r y' μ' (X'' : Cx p l e R s m args below meth c Q own cc nL ret Ts D A y' (kc + 6) (ks + 1638)), RR r y' μ' → V X'' μ' (pc + 3) lv (.int r :: st)) : V X μ pc lv st0 := by
  intro H locs ls hP hw hS hl
  have recv : ∃ cellB : Cell, H[zad y b]? = some cellB ∧ cellB.vm.isStatics = false ∧ s.vm.findClass C = some cellB.cls := by
    obtain ⟨q, -, hq⟩ := wd_get (μ := μ) ho
    rw [zenc_o hs] at hq
    rw [← hC]
    exact va_recv X.2.2.2.2.2.2.2.1 hP hc hq
  refine vx_calli (vx_runV (As := As) (rest := st) ⟨X.1, X.2.1, X.2.2.1, X.2.2.2.2.2.1, X.2.2.2.2.2.2.1⟩ (hM H.size) cw ⟨?_, recv, fun U hU hW => ⟨rfl, pre_at (X := X) hP hw hS U hU hW, AOs.moved hW.alike hO⟩⟩ rfl hn hl.1 hst.symm (lv_room hcat) d ⟨X'.2.2.2.2.2.2.2.2.2.2.2.1, X'.2.2.2.2.2.2.2.2.2.2.2.2.1⟩) hS (fun q _ h => fA_in (X := X) hS q h) (fA_in (X := X) hS) (fun q _ h => fA_in (X := X) hS q h) (fun E ce q9 u t H1 locs1 ht hvm hu hB hz1 hk1 hS1 hce hcv hcl => ?_) (fun r0 u t H1 locs1 ht hvm hr hB hz1 hk1 hS1 => ?_)
  · intro a U g mk q
    have z := pre_blind a U g mk ⟨q.1, q.2.1⟩
    exact ⟨z.1, z.2, AOs.moved (u := U) (U := U.calling g mk a) (Vm.Alike.refl U.vm) q.2.2⟩
  · obtain ⟨rfl, hP1, hw2⟩ := hB
    rw [ht] at hP1
    exact kx u hu H1 locs1 ls q9 ce hP1 hw2 hS1 hl hce hcv hcl
  · obtain ⟨hP1, hw2, hD1⟩ := hB
    rw [ht] at hP1
    have hD2 : va_D A (wd u.1 u.2) := hD1.weaken (fun k q _ h => fA_in (X := X) hS q.1 h)
    exact kk r0 u.1 u.2 (Cx.grow X' (hg _ _ _ hr) hD2 X'.2.2.2.2.2.2.2.2.2.2.2.1 X'.2.2.2.2.2.2.2.2.2.2.2.2.1) hr H1 locs1 ls hP1 hw2 hS1 hl
def MHL (l : Launch) (ym : MethodName) (w : List Cond) (rm : Room) (D : va_G) (y : ZLay) (av : List Value) (μ : ZMem) (RR : Int32 → ZLay → ZMem → Prop) : Prop := ∀ sz : Nat, vx_Met l ym w rm (va_Pc av (fun U => PreW D y sz μ U ∧ AOs U)) (QLi D (fA y sz) RR) (vx_X (S := Unit) (fun _ => False) (fun _ _ _ => False) (fA y sz)) 6 1638 (fA y sz)
theorem V_iretHL {XC : String → State → State → Prop} {v : Int32} (X : Cx p l e R s m args below meth c (vx_MQ below (QLi D A RR) XC args s 6 1638 A) own cc nL (some .int) Ts D A y kc ks) (h1 : kc ≤ 6) (h2 : ks ≤ 1638) (h : RR v y μ) (d : decode cc pc = .ok (.ireturn, 1)) : V X μ pc lv [.int v] := by
  intro H locs ls hP hw hS hl
  refine vx_ret (W.widen (k := 6) (n := 1638) h1 h2 ?_)
  exact W.iret (hlocks := X.2.2.2.2.1) X.1 X.2.1 X.2.2.2.1 (fun t ht hW => ⟨⟨v, (y, μ), rfl, h, by show va_P D vwCl (wd y μ) t.heap ∧ lawok y μ ∧ va_D A (wd y μ); rw [ht]; exact ⟨hP, hw, X.2.2.2.2.2.2.2.2.2.2.1 μ⟩⟩, hS.F ht⟩) hS.2.2 d
theorem MHL_of {ws' : List Cond} {av : List Value} (own : String) (lv : List (Nat × Value)) (hy : plainName ym.cls = true) (ho : ym.cls = own) (hw : w = Cond.codeWith ym cc maxL ret hh :: ws') (hrm : 6 ≤ rm.cells ∧ 1638 ≤ rm.slots) (hloc : (lg_sl av).length ≤ maxL) (hlv : lv_args 0 av = lv)
    (h : ∀ {p : Program} {e : Env} {s : State} {m : MethodId} {args : Array Value} {below : List Frame} {meth : Method} {c : Code} {A : Nat → Prop} (X : Cx p l e (headSpec w rm).room s m args below meth c (vx_MQ below (QLi D A RR) (vx_X (S := Unit) (fun _ => False) (fun _ _ _ => False) A) args s 6 1638 A) own cc maxL ret w D A y 0 0) (_ : Cx p l e (headSpec w rm).room s m args below meth c (vx_MQ below (QLi D A RR) (vx_X (S := Unit) (fun _ => False) (fun _ _ _ => False) A) args s 6 1638 A) own cc maxL ret w D A y (0 + 6) (0 + 1638)), AOs s → c.exceptionTable.toList = tableOf hh → V X μ 0 lv []) : MHL l ym w rm D y av μ RR := by
  intro sz
  refine vx_ofWH (cc := cc) (maxL := maxL) (ret := ret) hy hw ?_
  intro p e s m args below meth c s₁ B hml hv
  obtain ⟨rfl, ⟨hsz, hP, hK, hN, hD0, hlw, hE⟩, hO⟩ := hv
  subst hsz
  have hown : s.vm.findClass own = some m.cls := by rw [← ho]; exact findClass_of_methodNamed B.named
  have ht := vx_table (x := ym) B (atoms_spec (ws := w) B.pre _ (by rw [hw]; exact List.mem_cons_self))
  have X : ∀ kc ks : Nat, kc ≤ rm.cells → ks ≤ rm.slots → Cx p l e (headSpec w rm).room s m av.toArray below meth c (vx_MQ below (QLi D (fA y s.heap.size) RR) (vx_X (S := Unit) (fun _ => False) (fun _ _ _ => False) (fA y s.heap.size)) av.toArray s 6 1638 (fA y s.heap.size)) own cc maxL ret w D (fA y s.heap.size) y kc ks := fun kc ks h1 h2 =>
    ⟨B.exec, B.bytes, hml, B.returns, B.notSynchronized, hown, atoms_spec (ws := w) B.pre, hK, hN, fun q h => Or.inr h, fA_D hD0, h1, h2, hE⟩
  have hl := lv_entry av (n := maxL) hloc
  rw [lg_entry_eq]
  rw [hlv] at hl
  exact h (X 0 0 (Nat.zero_le _) (Nat.zero_le _)) (X _ _ hrm.1 hrm.2) hO ht _ _ _ hP hlw va_S.rf hl
/-- a call of the helper law -/
theorem V_callHL (X : Cx p l e R s m args below meth c Q own cc nL ret Ts D A y kc ks) (hO : AOs s) (X' : Cx p l e R s m args below meth c Q own cc nL ret Ts D A y (kc + 6) (ks + 1638)) (hM : MHL l ym w rm D y As μ RR) (cw : vx_CSW R s args own ix ym bytes maxL ret' hh w rm 6 1638 n) (hn : As.length = n) (hcat : (st.map fun v => v.category).sum ≤ 8) (d : decode cc pc = .ok (.invokestatic ix, 3)) (hst : As.reverse ++ st = st0)
    (hg : ∀ r y' μ', RR r y' μ' → y'.2.2.2 = y.2.2.2) (kk : ∀ r y' μ' (X'' : Cx p l e R s m args below meth c Q own cc nL ret Ts D A y' (kc + 6) (ks + 1638)), RR r y' μ' → V X'' μ' (pc + 3) lv (.int r :: st)) : V X μ pc lv st0 := by
  intro H locs ls hP hw hS hl
  refine vx_calli (vx_runSX (As := As) (rest := st) ⟨X.1, X.2.1, X.2.2.1, X.2.2.2.2.2.1, X.2.2.2.2.2.2.1⟩ (hM H.size) cw ⟨?_, fun U hU hW => ⟨rfl, pre_at (X := X) hP hw hS U hU hW, AOs.moved hW.alike hO⟩⟩ rfl hn hl.1 hst.symm (lv_room hcat) d ⟨X'.2.2.2.2.2.2.2.2.2.2.2.1, X'.2.2.2.2.2.2.2.2.2.2.2.2.1⟩) hS (fun q _ h => fA_in (X := X) hS q h) (fA_in (X := X) hS) (fun q _ h => fA_in (X := X) hS q h) (fun E ce q9 u t H1 locs1 ht hvm hu hB hz1 hk1 hS1 hce hcv hcl => hu.elim) (fun r0 u t H1 locs1 ht hvm hr hB hz1 hk1 hS1 => ?_)
  · intro a U g mk q
    have z := pre_blind a U g mk ⟨q.1, q.2.1⟩
    exact ⟨z.1, z.2, AOs.moved (u := U) (U := U.calling g mk a) (Vm.Alike.refl U.vm) q.2.2⟩
  · obtain ⟨hP1, hw2, hD1⟩ := hB
    rw [ht] at hP1
    have hD2 : va_D A (wd u.1 u.2) := hD1.weaken (fun k q _ h => fA_in (X := X) hS q.1 h)
    exact kk r0 u.1 u.2 (Cx.grow X' (hg _ _ _ hr) hD2 X'.2.2.2.2.2.2.2.2.2.2.2.1 X'.2.2.2.2.2.2.2.2.2.2.2.2.1) hr H1 locs1 ls hP1 hw2 hS1 hl
end LW
def HLR (y : ZLay) (RR : Int32 → ZLay → ZMem → Prop) (TT : ZMem → Prop) : Int32 → ZLay → ZMem → Prop := fun k y' μ' => (k = 0 ∧ ∃ r μ0, RR r y' μ0 ∧ μ' = mset μ0 (0, 31, 0) 0 r) ∨ (k = 1 ∧ y' = y ∧ TT μ')
def rh_law : Room := { frames := 61, cells := 6, slots := 1638, locals := 2600 }
def wh_law : List Cond := Cond.codeWith yL_law cL_law 3 (some .int) [(0, 8, 11, 13)] :: BIG
theorem hdL_law : yL_law.cls ≠ "java/lang/invoke/MethodHandle" ∧ yL_law.cls ≠ "java/lang/invoke/VarHandle" ∧ (parseMethodDescriptor yL_law.desc).map (fun d => d.parameters.length) = some 2 := by decide +kernel
theorem hd_X11_law : yX11_law.cls = RX11 ∧ yX11_law.cls ≠ "java/lang/invoke/MethodHandle" ∧ yX11_law.cls ≠ "java/lang/invoke/VarHandle" ∧ (parseMethodDescriptor yX11_law.desc).map (fun d => d.parameters.length) = some 0 := by decide +kernel
theorem H_law {l : Launch} {D : va_G} {y : ZLay} {μ : ZMem} {RR : Int32 → ZLay → ZMem → Prop} {TT : ZMem → Prop} (hM : MLW l yX11_law wb_X11_law rmU_X11_law D y [.ref (zad y (0, 0, 0))] μ RR TT) (hg : ∀ r y' μ', RR r y' μ' → y'.2.2.2 = y.2.2.2 ∧ zad y' (0, 31, 0) = zad y (0, 31, 0)) : MHL l yL_law wh_law rh_law D y [.ref (zad y (0, 0, 0)), .ref (zad y (0, 31, 0))] μ (HLR y RR TT) := by
  refine MHL_of RL _ rfl rfl rfl ⟨Nat.le_refl _, Nat.le_refl _⟩ (Nat.le_of_ble_eq_true rfl) rfl ?_
  intro p e s m args below meth c A X X' hO ht
  refine V_aload_n X 1 dL_law_0 rfl rfl ?_
  refine V_iconst X 0 dL_law_1 (by decide) ?_
  refine V_aload_n X 0 dL_law_2 rfl rfl ?_
  refine V_callL X hO X' (As := []) hM (cwV 0 X.2.2.2.2.2.2.1 (gV wm_RL_17 wi_X11_law wse_X11_law win_RX11 wc_X11_law) rfl rfl rfl hd_X11_law ⟨Nat.le_of_ble_eq_true rfl, Nat.le_of_ble_eq_true rfl⟩) (b := (0, 0, 0)) ⟨by decide, rfl⟩ rfl rfl rfl rfl (Nat.le_of_ble_eq_true rfl) dL_law_3 rfl (fun r y' μ' h => (hg r y' μ' h).1) (fun μ' hT => ?_) (fun r y' μ' X'' hr => ?_)
  · refine V_catch X' (E := zEx 1) (zEx 1) [] ⟨0, 8, 11, 13⟩ [] ht (by intro z hz; cases hz) (by decide) (by decide) (mB wcl_RL_13) (by decide +kernel) (fun q => ?_)
    refine V_astore_n X' ([(2, .ref q), (0, .ref (zad y (0, 0, 0))), (1, .ref (zad y (0, 31, 0)))]) dL_law_11 rfl (Nat.le_of_ble_eq_true rfl) rfl ?_
    refine V_iconst X' 1 dL_law_12 (by decide) ?_
    exact V_iretHL X' (Nat.le_refl _) (Nat.le_refl _) (Or.inr ⟨rfl, rfl, hT⟩) dL_law_13
  · refine V_i2l X'' dL_law_6 ?_
    rw [← (hg r y' μ' hr).2]
    refine V_last X'' dL_law_7 ?_
    refine V_goto X'' (tgt := 14) dL_law_8 (by decide) ?_
    refine V_iconst X'' 0 dL_law_14 (by decide) ?_
    exact V_iretHL X'' (Nat.le_refl _) (Nat.le_refl _) (Or.inl ⟨rfl, r, μ', hr, rfl⟩) dL_law_15
/-- the pure pair of law -/
def OPL (y : ZLay) : Prop := ∀ μ, lawok y μ → INV y μ → ∃ μ8, lawPre y μ = some μ8 ∧ (μ8 (0, 0, 0) 2 = -1 → ∃ nl ml, nl ≤ 12 ∧ ml ≤ 400 ∧ μ8 (0, 24, 0) 5 = nI nl ∧ μ8 (0, 24, 0) 6 = nI ml) ∧
  (¬ μ8 (0, 0, 0) 2 = -1 → ok (f_X12_law μ8) (fun q => q.2 (0, 32, 0) 0 = 1 ∧ INV y q.2)) ∧
  ∀ r y' μ', lawR y μ8 r y' μ' → ok (f_X12_law (mset μ' (0, 31, 0) 0 r)) (fun q => q.2 (0, 32, 0) 0 = 0 ∧ q.1 = r ∧ INV y' q.2)
theorem lawR_y {y y' : ZLay} {μ8 μ' : ZMem} {r : Int32} (h : lawR y μ8 r y' μ') : YE y y' ∧ y'.2.2.2 = y.2.2.2 ∧ znl y' = znl y + 1 := by
  obtain ⟨t, a0, a1, a2, a3, nl, ml, g0, g1, g2, g3, -, -, -, -, -, -, -, -, -, rfl, -, -⟩ := h
  exact ⟨yext_YE, rfl, rfl⟩
theorem YE_lv5 {y y' : ZLay} (h : YE y y') (b : Nat) (i : Int32) : lv5 y' b i = lv5 y b i := by
  have e0 : zad y' (0, 0, 0) = zad y (0, 0, 0) := h.1 _ (Or.inl ⟨by decide, by decide⟩)
  have e1 : zad y' (0, 31, 0) = zad y (0, 31, 0) := h.1 _ (Or.inl ⟨by decide, by decide⟩)
  have e2 : zad y' (0, 32, 0) = zad y (0, 32, 0) := h.1 _ (Or.inl ⟨by decide, by decide⟩)
  show [_, _, _, _, _] = _
  rw [e0, e1, e2]
section LLw
variable {p : Program} {l : Launch} {e : Env} {s : State} {m : MethodId} {b : Nat} {below : List Frame} {meth : Method} {c : Code} {Q : State → Prop}
variable {D : va_G} {A : Nat → Prop} {y : ZLay} {kc ks : Nat} {i : Int32} {μ : ZMem}
theorem LC_law (X : LX p l e s m b below meth c Q D A y kc ks) (hR : kc + 6 ≤ room_1.cells ∧ ks + 1638 ≤ room_1.slots) (hlf : l.stackTraces = false) (hO : AOs s) (hny : znl y < 1000000) (hP : OPL y) (hI : INV y μ) (K : LKy p l e s m b below meth c Q D A y kc ks i) : V X μ 386 (lv5 y b i) [] := by
  intro H9 locs9 ls9 hP9 hw9 hS9 hl9
  refine (?_ : V X μ 386 (lv5 y b i) []) H9 locs9 ls9 hP9 hw9 hS9 hl9
  obtain ⟨μ8, e1, hs, hT, hN⟩ := hP μ hw9 hI
  have X' := Cx.up X (kc' := kc + 6) (ks' := ks + 1638) hR.1 hR.2
  have hM := M_X11_law (l := l) (D := D) hlf hny e1 hs
  refine V_aload_n X 1 dL_law__386 rfl rfl ?_
  refine V_aload_n X 3 dL_law__387 rfl rfl ?_
  refine V_callHL X hO X' (As := [.ref (zad y (0, 0, 0)), .ref (zad y (0, 31, 0))]) (H_law hM (fun r y' μ' h => ⟨(lawR_y h).2.1, (lawR_y h).1.1 _ (Or.inl ⟨by decide, by decide⟩)⟩)) (vx_cwSW 2 X.2.2.2.2.2.2.1 (gS wmL_law wstL_law win_RL wcw_law) rfl rfl rfl hdL_law ⟨Nat.le_of_ble_eq_true rfl, Nat.le_of_ble_eq_true rfl⟩) rfl (Nat.le_of_ble_eq_true rfl) dL_law__388 rfl (fun r y' μ' h => ?_) (fun r y' μ' X'' h => ?_)
  · rcases h with ⟨-, r0, μ0, h, -⟩ | ⟨-, rfl, -⟩
    · exact (lawR_y h).2.1
    · rfl
  · rcases h with ⟨rfl, r0, μ0, h, rfl⟩ | ⟨rfl, rfl, rfl, hw⟩
    · obtain ⟨⟨bq, μ2⟩, e2, t1, hb, hI2⟩ := hN r0 y' μ0 h
      dsimp only at e2 t1 hb hI2
      subst hb
      rw [← YE_lv5 (lawR_y h).1 b i]
      refine V_istore X'' ((5, .int 0) :: lv5 y' b i) dL_law__391 (by decide) rfl ?_
      refine V_aload_n X'' 3 dL_law__393 rfl rfl ?_
      refine V_callVi X'' (As := []) (M_X12_law e2) (cwV 0 X''.2.2.2.2.2.2.1 (gV wm_RL_143 wi_X12_law wse_X12_law win_RX12 wc_X12_law) rfl rfl rfl hd_X12_law ⟨Nat.le_of_ble_eq_true rfl, Nat.le_of_ble_eq_true rfl⟩) (b := (0, 32, 0)) ⟨by decide, rfl⟩ rfl rfl rfl rfl (Nat.le_of_ble_eq_true rfl) dL_law__394 rfl ?_
      have t2 : KM bq μ2 := nw_X12_law (v := bq) (show KM bq (mset μ0 (0, 31, 0) 0 bq) from mset_at) _ e2
      exact V_tail X'' t1 (fun _ => t2) dL_law__397 dL_law__399 dL_law__400 dL_law__403 dL_law__405 dL_law__410 dL_law__412 dL_law__415 dL_law__416 dL_law__417 dL_law__418 dL_law__420 dL_law__421 dL_law__422 dL_law__427 (by decide) (K y' _ _ X'' _ (Nat.le_refl _) (Nat.le_refl _) (Nat.le_of_eq (lawR_y h).2.2) hI2)
    · obtain ⟨⟨bq, μ2⟩, e2, t1, hI2⟩ := hT hw
      dsimp only at e2 t1 hI2
      refine V_istore X'' ((5, .int 1) :: lv5 y' b i) dL_law__391 (by decide) rfl ?_
      refine V_aload_n X'' 3 dL_law__393 rfl rfl ?_
      refine V_callVi X'' (As := []) (M_X12_law e2) (cwV 0 X''.2.2.2.2.2.2.1 (gV wm_RL_143 wi_X12_law wse_X12_law win_RX12 wc_X12_law) rfl rfl rfl hd_X12_law ⟨Nat.le_of_ble_eq_true rfl, Nat.le_of_ble_eq_true rfl⟩) (b := (0, 32, 0)) ⟨by decide, rfl⟩ rfl rfl rfl rfl (Nat.le_of_ble_eq_true rfl) dL_law__394 rfl ?_
      exact V_tail X'' t1 (fun h0 => absurd h0 (by decide)) dL_law__397 dL_law__399 dL_law__400 dL_law__403 dL_law__405 dL_law__410 dL_law__412 dL_law__415 dL_law__416 dL_law__417 dL_law__418 dL_law__420 dL_law__421 dL_law__422 dL_law__427 (by decide) (K y' _ _ X'' _ (Nat.le_refl _) (Nat.le_refl _) (Nat.le_succ _) hI2)
end LLw
