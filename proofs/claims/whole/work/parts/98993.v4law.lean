/-! the class's law(): the walk -/
def lawPre (y : ZLay) (μ : ZMem) : Option ZMem := bd2 (f_X11_useTape μ) (fun x μ3 => bd (f_X8_load y (0, 1, 0) x μ3) (fun μ5 => bd (f_X4_readAllLines μ5) (fun μ7 => some (mset μ7 (0, 0, 0) 2 (μ7 (0, 20, 0) 0)))))
def lawR (y : ZLay) (μ8 : ZMem) (r : Int32) (y' : ZLay) (μ' : ZMem) : Prop := ∃ (t : Nat → Nat) (a0 a1 a2 a3 nl ml : Nat) (g0 g1 g2 g3 : Nat → Int32), μ8 (0, 0, 0) 2 = -1 ∧ μ8 (0, 24, 0) 5 = nI nl ∧ μ8 (0, 24, 0) 6 = nI ml ∧ nl ≤ 12 ∧ ml ≤ 400 ∧ (∀ j, j < nl → g0 j = μ8 (0, 25, 0) j) ∧ (∀ j, j < nl → g1 j = μ8 (0, 26, 0) j) ∧ (∀ j, j < nl + 1 → g2 j = μ8 (0, 27, 0) j) ∧ (∀ j, j < ml → g3 j = μ8 (0, 28, 0) j) ∧ y' = yext y t a0 a1 a2 a3 nl ml ∧ μ' = mset (mset (mext μ8 (znl y) (nI nl) g0 g1 g2 g3) (1, 0, 0) 10 (nI (znl y))) (0, 2, 0) 2 0 ∧ r = nI nl
theorem hd_X4_made' : yX4_made.cls = RX4 ∧ yX4_made.cls ≠ "java/lang/invoke/MethodHandle" ∧ yX4_made.cls ≠ "java/lang/invoke/VarHandle" ∧ (parseMethodDescriptor yX4_made.desc).map (fun d => d.parameters.length) = some 0 := by decide +kernel
def rmU_X11_law : Room := { frames := 60, cells := 6, slots := 1638, locals := 2500 }
section VLz
variable {p : Program} {l : Launch} {e : Env} {s : State} {m : MethodId} {args : Array Value} {below : List Frame} {meth : Method} {c : Code}
variable {D : va_G} {A : Nat → Prop} {y y0 : ZLay} {RR : Int32 → ZLay → ZMem → Prop} {TT : ZMem → Prop}
set_option maxRecDepth 100000 in
set_option maxHeartbeats 4000000 in
theorem law_tail {kc ks n : Nat} {μ : ZMem} (X : Cx p l e (headSpec wb_X11_law rmU_X11_law).room s m args below meth c (vx_MQ below (QLi D A RR) (QLx D y0 A TT) args s 6 1638 A) RX11 cX11_law 1 (some .int) wb_X11_law D A y kc ks) (h1 : kc ≤ 6) (h2 : ks ≤ 1638) (hn : n < znl y) (hn2 : n < 1000000) (h : RR (μ (5, n, 0) 0) y (mset (mset μ (1, 0, 0) 10 (nI n)) (0, 2, 0) 2 0)) : V X μ 60 [(0, .ref (zad y (0, 0, 0)))] [.ref (zad y (5, n, 0)), .ref (zad y (1, 0, 0))] := by
  have en : (nI n).toNatClampNeg = n := nI_cl (by omega)
  have kk0 : V X μ 60 [(0, .ref (zad y (0, 0, 0)))] [.ref (zad y (5, (nI n).toNatClampNeg, 0)), .ref (zad y (1, 0, 0))] := by
    refine V_putl X (t := 0) (x := nI n) (by decide) (by rw [en]; exact hn) (mBa inB_X7) (mB wl_RX11_138) dX11_law_60 ?_
    refine V_aload_n X 0 dX11_law_63 rfl rfl ?_
    refine V_getr X (o := (0, 0, 0)) (i := (0, 2, 0)) (ci := 11) (k := 7) (N := 16) (T := TX11) (C := RX11) ⟨by decide, rfl⟩ rfl rfl rfl (by decide) (mBa inB_X11) (mB wl_RX11_90) dX11_law_64 ?_
    refine V_callVv X (As := []) (M_X6_forget rfl) (cwV 0 X.2.2.2.2.2.2.1 (gV wm_RX11_128 wi_X6_forget wse_X6_forget win_RX6 wc_X6_forget) rfl rfl rfl hd_X6_forget ⟨Nat.le_of_ble_eq_true rfl, Nat.le_of_ble_eq_true rfl⟩) (b := (0, 2, 0)) ⟨by decide, rfl⟩ rfl rfl rfl rfl (Nat.le_of_ble_eq_true rfl) dX11_law_67 rfl ?_
    refine V_aload_n X 0 dX11_law_70 rfl rfl ?_
    refine V_getr X (o := (0, 0, 0)) (i := (1, 0, 0)) (ci := 11) (k := 3) (N := 16) (T := TX11) (C := RX11) ⟨by decide, rfl⟩ rfl rfl rfl (by decide) (mBa inB_X11) (mB wl_RX11_77) dX11_law_71 ?_
    refine V_getl X (t := 0) (by decide) (mBa inB_X7) (mB wl_RX11_138) dX11_law_74 (fun hlt => ?_)
    refine V_geti X (o := (5, ((mset (mset μ (1, 0, 0) 10 (nI n)) (0, 2, 0) 2 0) (1, 0, 0) 10).toNatClampNeg, 0)) (ci := 3) (k := 0) (N := 6) (T := TX3) (C := RX3) ⟨hlt, rfl⟩ rfl rfl rfl (by decide) (mBa inB_X3) (mB wl_RX11_142) dX11_law_77 ?_
    refine V_iretL X h1 h2 ?_ dX11_law_80
    have e1 : (mset (mset μ (1, 0, 0) 10 (nI n)) (0, 2, 0) 2 0) (1, 0, 0) 10 = nI n := by rw [mset_ne (by decide), mset_at]
    rw [e1, en]
    have e2 : (mset (mset μ (1, 0, 0) 10 (nI n)) (0, 2, 0) 2 0) (5, n, 0) 0 = μ (5, n, 0) 0 := by rw [mset_ne (zne (by decide)), mset_ne (zne (by decide))]
    rw [e2]
    exact h
  rw [en] at kk0
  exact kk0
end VLz
set_option maxRecDepth 100000 in
set_option maxHeartbeats 4000000 in
theorem M_X11_law {l : Launch} {D : va_G} {y : ZLay} {μ μ8 : ZMem} (hlf : l.stackTraces = false) (hny : znl y < 1000000) (h : lawPre y μ = some μ8) (hs : μ8 (0, 0, 0) 2 = -1 → ∃ nl ml, nl ≤ 12 ∧ ml ≤ 400 ∧ μ8 (0, 24, 0) 5 = nI nl ∧ μ8 (0, 24, 0) 6 = nI ml) : MLW l yX11_law wb_X11_law rmU_X11_law D y [.ref (zad y (0, 0, 0))] μ (lawR y μ8) (fun μ' => μ' = μ8 ∧ ¬ μ8 (0, 0, 0) 2 = -1) := by
  unfold lawPre at h
  refine ML_of RX11 [(0, .ref (zad y (0, 0, 0)))] (by decide) rfl rfl (Nat.le_of_ble_eq_true rfl) rfl ?_
  intro p e s m args below meth c A X hO hex
  refine V_aload_n X 0 dX11_law_0 rfl rfl ?_
  refine V_getr X (o := (0, 0, 0)) (i := (0, 20, 0)) (ci := 11) (k := 11) (N := 16) (T := TX11) (C := RX11) ⟨by decide, rfl⟩ rfl rfl rfl (by decide) (mBa inB_X11) (mB wl_RX11_41) dX11_law_1 ?_
  refine V_aload_n X 0 dX11_law_4 rfl rfl ?_
  refine V_getr X (o := (0, 0, 0)) (i := (0, 1, 0)) (ci := 11) (k := 0) (N := 16) (T := TX11) (C := RX11) ⟨by decide, rfl⟩ rfl rfl rfl (by decide) (mBa inB_X11) (mB wl_RX11_9) dX11_law_5 ?_
  refine V_aload_n X 0 dX11_law_8 rfl rfl ?_
  obtain ⟨x2, μ3, c1, h⟩ := bd2_some h
  refine V_callVi X (As := []) (M_X11_useTape c1) (cwV 0 X.2.2.2.2.2.2.1 (gV wm_RX11_101 wi_X11_useTape wse_X11_useTape win_RX11 wc_X11_useTape) rfl rfl rfl hd_X11_useTape ⟨Nat.le_of_ble_eq_true rfl, Nat.le_of_ble_eq_true rfl⟩) (b := (0, 0, 0)) ⟨by decide, rfl⟩ rfl rfl rfl rfl (Nat.le_of_ble_eq_true rfl) dX11_law_9 rfl ?_
  obtain ⟨μ5, c4, h⟩ := bd_some h
  refine V_callVv X (As := [.ref (zad y (0, 1, 0)), .int x2]) (M_X8_load (show okI y (0, 1, 0) from ⟨by decide, rfl⟩) (show zisI (0, 1, 0) = true from rfl) c4) (cwV 2 X.2.2.2.2.2.2.1 (gV wm_RX11_105 wi_X8_load wse_X8_load win_RX8 wc_X8_load) rfl rfl rfl hd_X8_load ⟨Nat.le_of_ble_eq_true rfl, Nat.le_of_ble_eq_true rfl⟩) (b := (0, 20, 0)) ⟨by decide, rfl⟩ rfl rfl rfl rfl (Nat.le_of_ble_eq_true rfl) dX11_law_12 rfl ?_
  refine V_aload_n X 0 dX11_law_15 rfl rfl ?_
  refine V_getr X (o := (0, 0, 0)) (i := (0, 24, 0)) (ci := 11) (k := 13) (N := 16) (T := TX11) (C := RX11) ⟨by decide, rfl⟩ rfl rfl rfl (by decide) (mBa inB_X11) (mB wl_RX11_57) dX11_law_16 ?_
  obtain ⟨μ7, c6, h⟩ := bd_some h
  refine V_callVv X (As := []) (M_X4_readAllLines c6) (cwV 0 X.2.2.2.2.2.2.1 (gV wm_RX11_131 wi_X4_readAllLines wse_X4_readAllLines win_RX4 wc_X4_readAllLines) rfl rfl rfl hd_X4_readAllLines ⟨Nat.le_of_ble_eq_true rfl, Nat.le_of_ble_eq_true rfl⟩) (b := (0, 24, 0)) ⟨by decide, rfl⟩ rfl rfl rfl rfl (Nat.le_of_ble_eq_true rfl) dX11_law_19 rfl ?_
  refine V_aload_n X 0 dX11_law_22 rfl rfl ?_
  refine V_aload_n X 0 dX11_law_23 rfl rfl ?_
  refine V_getr X (o := (0, 0, 0)) (i := (0, 20, 0)) (ci := 11) (k := 11) (N := 16) (T := TX11) (C := RX11) ⟨by decide, rfl⟩ rfl rfl rfl (by decide) (mBa inB_X11) (mB wl_RX11_41) dX11_law_24 ?_
  refine V_geti X (o := (0, 20, 0)) (ci := 8) (k := 0) (N := 5) (T := TX8) (C := RX8) ⟨by decide, rfl⟩ rfl rfl rfl (by decide) (mBa inB_X8) (mB wl_RX11_116) dX11_law_27 ?_
  refine V_puti X tyX11 .int (o := (0, 0, 0)) (ci := 11) (k := 2) (N := 16) (T := TX11) (C := RX11) ⟨by decide, rfl⟩ rfl rfl rfl (by decide) (mBa inB_X11) tyX11_ok nmX11 (mB wl_RX11_13) rfl rfl rfl rfl dX11_law_30 ?_
  rw [Option.some.inj h]
  refine V_aload_n X 0 dX11_law_33 rfl rfl ?_
  refine V_geti X (o := (0, 0, 0)) (ci := 11) (k := 2) (N := 16) (T := TX11) (C := RX11) ⟨by decide, rfl⟩ rfl rfl rfl (by decide) (mBa inB_X11) (mB wl_RX11_13) dX11_law_34 ?_
  refine V_iconst X (-1) dX11_law_37 (by decide) ?_
  refine V_icmp_eq X (tgt := 49) dX11_law_38 (by decide) (fun b11 => ?_) (fun b11 => ?_)
  · obtain ⟨nl, ml, q1, q2, q3, q4⟩ := hs b11
    refine V_aload_n X 0 dX11_law_49 rfl rfl ?_
    refine V_getr X (o := (0, 0, 0)) (i := (1, 0, 0)) (ci := 11) (k := 3) (N := 16) (T := TX11) (C := RX11) ⟨by decide, rfl⟩ rfl rfl rfl (by decide) (mBa inB_X11) (mB wl_RX11_77) dX11_law_50 ?_
    refine V_aload_n X 0 dX11_law_53 rfl rfl ?_
    refine V_getr X (o := (0, 0, 0)) (i := (0, 24, 0)) (ci := 11) (k := 13) (N := 16) (T := TX11) (C := RX11) ⟨by decide, rfl⟩ rfl rfl rfl (by decide) (mBa inB_X11) (mB wl_RX11_57) dX11_law_54 ?_
    refine V_made X hO q1 q2 q3 q4 (cwV 0 X.2.2.2.2.2.2.1 (gV wm_RX11_134 wi_X4_made wse_X4_made win_RX4 wc_X4_made) rfl rfl rfl hd_X4_made' ⟨Nat.le_of_ble_eq_true rfl, Nat.le_of_ble_eq_true rfl⟩) (Nat.le_of_ble_eq_true rfl) ⟨Nat.le_of_ble_eq_true rfl, Nat.le_of_ble_eq_true rfl⟩ dX11_law_57 (fun t a0 a1 a2 a3 g0 g1 g2 g3 X' r0 r1 r2 r3 => ?_)
    have y0 : zad (yext y t a0 a1 a2 a3 nl ml) (0, 0, 0) = zad y (0, 0, 0) := yext_YE.1 _ (Or.inl ⟨by decide, by decide⟩)
    have y1 : zad (yext y t a0 a1 a2 a3 nl ml) (1, 0, 0) = zad y (1, 0, 0) := yext_YE.1 _ (Or.inl ⟨by decide, by decide⟩)
    have y5 : zad (yext y t a0 a1 a2 a3 nl ml) (5, znl y, 0) = t 0 := by show (if znl y = znl y ∧ (5 : Nat) = 5 then t 0 else _) = _; rw [if_pos ⟨rfl, rfl⟩]
    have m5 : mext μ8 (znl y) (nI nl) g0 g1 g2 g3 (5, znl y, 0) 0 = nI nl := by
      show (if znl y = znl y ∧ (5 : Nat) = 5 then (fun _ => nI nl) else _ : Nat → Int32) 0 = _
      rw [if_pos ⟨rfl, rfl⟩]
    have tl := law_tail X' (n := znl y) (μ := mext μ8 (znl y) (nI nl) g0 g1 g2 g3) (by omega) (by omega) (Nat.lt_succ_self _) hny ⟨t, a0, a1, a2, a3, nl, ml, g0, g1, g2, g3, b11, q3, q4, q1, q2, r0, r1, r2, r3, rfl, rfl, m5⟩
    rw [y0, y1, y5] at tl
    exact tl
  · exact V_throwL X hex hlf (ik := 119) (ic := 121) ⟨rfl, b11⟩ (mB wcl_RX11_119) (mB wine_1) (mBa wx_1) wx_n1 wx_g1 dX11_law_41 dX11_law_44 dX11_law_45 dX11_law_48 (Nat.le_of_ble_eq_true rfl) (Nat.le_of_ble_eq_true rfl) (Nat.le_of_ble_eq_true rfl) (Nat.le_of_ble_eq_true rfl)
