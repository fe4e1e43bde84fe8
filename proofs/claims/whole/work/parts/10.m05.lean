def f_X11_midOf (y : ZLay) (o0 : ZId) (a1 : Int32) (μ : ZMem) : Option (Int32 × ZMem) := jk (some (0, μ)) (fun k2 => if a1 < 1 then k2 else if a1 ≤ (Int32.ofNat (zlen y o0)) then bd (f_X11_sort y o0 a1 μ) (fun (μ5 : ZMem) => zlt (α := Int32) (if a1 < 8 then if a1 < 3 then 0 else 1 else 2) (fun (x7 : Int32) => gd (zin x7 (zlen y o0)) (gd (zin ((a1 - 1) - x7) (zlen y o0)) (some ((((μ5 o0 x7.toNatClampNeg) + (μ5 o0 ((a1 - 1) - x7).toNatClampNeg)) / 2), μ5))))) else k2)
set_option maxRecDepth 100000 in
set_option maxHeartbeats 4000000 in
theorem M_X11_midOf {l : Launch} {D : va_G} {y : ZLay} {o0 : ZId} {a1 : Int32} (ho0 : okI y o0) (hz0 : zisI o0 = true) {μ : ZMem} {r : Int32} {μ0 : ZMem} (h : f_X11_midOf y o0 a1 μ = some (r, μ0)) : MI l yX11_midOf wb_X11_midOf rm_X11_midOf D y [.ref (zad y o0), .int a1] μ r μ0 := by
  unfold f_X11_midOf at h
  refine MI_of RX11 [(0, .ref (zad y o0)), (1, .int a1)] (by decide) rfl rfl (Nat.le_of_ble_eq_true rfl) rfl ?_
  intro p e s m args below meth c A X
  refine V_iload_n X 1 dX11_midOf_0 rfl rfl ?_
  refine V_iconst X 1 dX11_midOf_1 (by decide) ?_
  refine jk0_el (P := V X μ 11 [] []) h (fun h => ?_) (fun k2 hk2 h => ?_)
  · refine V_iconst X 0 dX11_midOf_11 (by decide) ?_
    exact V_iretW X h dX11_midOf_12
  · refine V_icmp_lt X (tgt := 11) dX11_midOf_2 (by decide) (fun b1 => ?_) (fun b1 => ?_)
    · replace h := (if_pos b1).symm.trans h
      refine V_sub X [] (lv' := []) rfl ?_
      exact hk2 h
    · replace h := (if_neg b1).symm.trans h
      refine V_iload_n X 1 dX11_midOf_5 rfl rfl ?_
      refine V_aload_n X 0 dX11_midOf_6 rfl rfl ?_
      refine V_alen X (Int32.ofNat (zlen y o0)) (o := o0) (n := (zlen y o0)) ho0 hz0 rfl rfl dX11_midOf_7 ?_
      refine V_icmp_le X (tgt := 13) dX11_midOf_8 (by decide) (fun b3 => ?_) (fun b3 => ?_)
      · replace h := (if_pos b3).symm.trans h
        refine V_aload_n X 0 dX11_midOf_13 rfl rfl ?_
        refine V_iload_n X 1 dX11_midOf_14 rfl rfl ?_
        obtain ⟨μ5, c4, h⟩ := bd_some h
        refine V_callSv X (As := [.ref (zad y o0), .int a1]) (M_X11_sort (show okI y o0 from ho0) hz0 c4) (va_cwS 2 X.2.2.2.2.2.2.1 (gS wm_RX11_394 wst_X11_sort win_RX11 wc_X11_sort) rfl rfl rfl hd_X11_sort.2 ⟨Nat.le_of_ble_eq_true rfl, Nat.le_of_ble_eq_true rfl⟩) rfl (Nat.le_of_ble_eq_true rfl) dX11_midOf_15 rfl ?_
        refine V_iload_n X 1 dX11_midOf_18 rfl rfl ?_
        refine V_bipush X 8 dX11_midOf_19 (by decide) ?_
        obtain ⟨x7, h1, h⟩ := zl1_some h
        have hk : V X μ5 38 [(0, .ref (zad y o0)), (1, .int a1)] [.int x7] := by
          clear h1
          refine V_istore_n X [(2, .int x7), (0, .ref (zad y o0)), (1, .int a1)] dX11_midOf_38 rfl (by decide) rfl ?_
          refine V_aload_n X 1 dX11_midOf_39 rfl rfl ?_
          refine V_iload_n X 0 dX11_midOf_40 rfl rfl ?_
          obtain ⟨g9, h⟩ := gd_some h
          refine V_iald X x7.toNatClampNeg rfl (o := o0) (n := (zlen y o0)) ho0 hz0 rfl g9 dX11_midOf_41 ?_
          refine V_aload_n X 1 dX11_midOf_42 rfl rfl ?_
          refine V_iload_n X 2 dX11_midOf_43 rfl rfl ?_
          refine V_iconst X 1 dX11_midOf_44 (by decide) ?_
          refine V_isub X dX11_midOf_45 ?_
          refine V_iload_n X 0 dX11_midOf_46 rfl rfl ?_
          refine V_isub X dX11_midOf_47 ?_
          obtain ⟨g10, h⟩ := gd_some h
          refine V_iald X ((a1 - 1) - x7).toNatClampNeg rfl (o := o0) (n := (zlen y o0)) ho0 hz0 rfl g10 dX11_midOf_48 ?_
          refine V_iadd X dX11_midOf_49 ?_
          refine V_iconst X 2 dX11_midOf_50 (by decide) ?_
          refine V_idiv X dX11_midOf_51 (by decide) ?_
          exact V_iretW X h dX11_midOf_52
        replace h := h1
        clear h1
        refine V_icmp_lt X (tgt := 28) dX11_midOf_21 (by decide) (fun b6 => ?_) (fun b6 => ?_)
        · replace h := (if_pos b6).symm.trans h
          refine V_iload_n X 1 dX11_midOf_28 rfl rfl ?_
          refine V_iconst X 3 dX11_midOf_29 (by decide) ?_
          refine V_icmp_lt X (tgt := 37) dX11_midOf_30 (by decide) (fun b8 => ?_) (fun b8 => ?_)
          · replace h := (if_pos b8).symm.trans h
            refine V_iconst X 0 dX11_midOf_37 (by decide) ?_
            obtain rfl := pr1 h
            exact hk
          · replace h := (if_neg b8).symm.trans h
            refine V_iconst X 1 dX11_midOf_33 (by decide) ?_
            refine V_goto X (tgt := 38) dX11_midOf_34 (by decide) ?_
            obtain rfl := pr1 h
            exact hk
        · replace h := (if_neg b6).symm.trans h
          refine V_iconst X 2 dX11_midOf_24 (by decide) ?_
          refine V_goto X (tgt := 38) dX11_midOf_25 (by decide) ?_
          obtain rfl := pr1 h
          exact hk
      · replace h := (if_neg b3).symm.trans h
        refine V_sub X [] (lv' := []) rfl ?_
        exact hk2 h

def f_X10_middleOf (y : ZLay) (s1 : Nat) (a2 : Int32) (a3 : Int32) (μ : ZMem) : Option (Int32 × ZMem) := bd2 (lp (σ := Int32 × Int32 × ZMem) (fun q => un3 q (fun (x1 : Int32) (x2 : Int32) (μ3 : ZMem) => if (μ3 (1, s1, 0) 4) ≤ x2 then some (.inr (x1, μ3)) else bd2 (α := Int32) (β := ZMem) (if x2 = a2 then gd (zin x1 8) (zlt (mset μ3 (0, 10, 0) x1.toNatClampNeg 0) (fun (μ18 : ZMem) => some ((x1 + 1), μ18))) else gd (zin a2 8) (bd (f_X11_isIn (a3 &&& (μ3 (0, 7, 0) a2.toNatClampNeg)) x2) (fun (x12 : Int32) => if x12 = 0 then some (x1, μ3) else gd (zin x2 8) (gd (zin x1 8) (zlt (mset μ3 (0, 10, 0) x1.toNatClampNeg ((μ3 (7, x2.toNatClampNeg, 0) a2.toNatClampNeg) - (μ3 (3, s1, a2.toNatClampNeg) 0))) (fun (μ16 : ZMem) => some ((x1 + 1), μ16))))))) (fun (x8 : Int32) (μ9 : ZMem) => some (.inl (x8, (x2 + 1), μ9))))) FU (0, 0, μ)) (fun (x4 : Int32) (μ5 : ZMem) => bd2 (f_X11_midOf y (0, 10, 0) x4 μ5) (fun (x20 : Int32) (μ21 : ZMem) => some (x20, μ21)))
set_option maxRecDepth 100000 in
set_option maxHeartbeats 4000000 in
theorem M_X10_middleOf {l : Launch} {D : va_G} {y : ZLay} {s1 : Nat} {a2 : Int32} {a3 : Int32} (hs1 : s1 < 15) {μ : ZMem} {r : Int32} {μ0 : ZMem} (h : f_X10_middleOf y s1 a2 a3 μ = some (r, μ0)) : MI l yX10_middleOf wb_X10_middleOf rm_X10_middleOf D y [.ref (zad y (0, 5, 0)), .ref (zad y (1, s1, 0)), .int a2, .int a3] μ r μ0 := by
  unfold f_X10_middleOf at h
  refine MI_of RX10 [(0, .ref (zad y (0, 5, 0))), (1, .ref (zad y (1, s1, 0))), (2, .int a2), (3, .int a3)] (by decide) rfl rfl (Nat.le_of_ble_eq_true rfl) rfl ?_
  intro p e s m args below meth c A X
  refine V_iconst X 0 dX10_middleOf_0 (by decide) ?_
  refine V_istore X [(4, .int 0), (0, .ref (zad y (0, 5, 0))), (1, .ref (zad y (1, s1, 0))), (2, .int a2), (3, .int a3)] dX10_middleOf_1 (by decide) rfl ?_
  refine V_iconst X 0 dX10_middleOf_3 (by decide) ?_
  refine V_istore X [(5, .int 0), (4, .int 0), (0, .ref (zad y (0, 5, 0))), (1, .ref (zad y (1, s1, 0))), (2, .int a2), (3, .int a3)] dX10_middleOf_4 (by decide) rfl ?_
  refine V_sub X [2, 3, 4, 5, 1, 0] (lv' := [(0, .ref (zad y (0, 5, 0))), (1, .ref (zad y (1, s1, 0))), (2, .int a2), (3, .int a3), (4, .int 0), (5, .int 0)]) rfl ?_
  obtain ⟨x4, μ5, hl, h⟩ := bd2_some h
  have hk : V X μ5 86 [(0, .ref (zad y (0, 5, 0))), (4, .int x4)] [] := by
    clear hl
    refine V_aload_n X 0 dX10_middleOf_86 rfl rfl ?_
    refine V_getr X (o := (0, 5, 0)) (i := (0, 10, 0)) (ci := 10) (k := 6) (N := 7) (T := TX10) (C := RX10) ⟨by decide, rfl⟩ rfl rfl rfl (by decide) (mBa inB_X10) (mB wl_RX10_26) dX10_middleOf_87 ?_
    refine V_iload X 1 dX10_middleOf_90 rfl ?_
    obtain ⟨x20, μ21, c19, h⟩ := bd2_some h
    refine V_callSNi X (As := [.ref (zad y (0, 10, 0)), .int x4]) (M_X11_midOf (show okI y (0, 10, 0) from ⟨by decide, rfl⟩) (show zisI (0, 10, 0) = true from rfl) c19) ⟨va_cnB (host := "SlotCluster") 2 X.2.2.2.2.2.2.1 (gN wc_X11_midOf) rfl rfl rfl (X.2.2.2.2.2.2.2.2.1 _ (List.mem_of_getElem? wn_RX10_98)) (X.2.2.2.2.2.2.1 (.initialized RX11) (mB win_RX11)) hd_X11_midOf.2 ⟨Nat.le_of_ble_eq_true rfl, Nat.le_of_ble_eq_true rfl⟩, X.2.2.2.2.2.2.1 (.static yX11_midOf) (mB wst_X11_midOf), trivial⟩ rfl (Nat.le_of_ble_eq_true rfl) dX10_middleOf_92 rfl ?_
    exact V_iretW X h dX10_middleOf_95
  refine lp_ind (P := fun q => V X q.2.2 6 [(0, .ref (zad y (0, 5, 0))), (1, .ref (zad y (1, s1, 0))), (2, .int a2), (3, .int a3), (4, .int q.1), (5, .int q.2.1)] []) (fun q z h hz => ?_) hl
  obtain ⟨x1, x2, μ3⟩ := q
  replace h := un3_eq h
  show V X μ3 6 [(0, .ref (zad y (0, 5, 0))), (1, .ref (zad y (1, s1, 0))), (2, .int a2), (3, .int a3), (4, .int x1), (5, .int x2)] []
  refine V_iload X 5 dX10_middleOf_6 rfl ?_
  refine V_aload_n X 1 dX10_middleOf_8 rfl rfl ?_
  refine V_geti X (o := (1, s1, 0)) (ci := 7) (k := 4) (N := 11) (T := TX7) (C := RX7) ⟨hs1, rfl⟩ rfl rfl rfl (by decide) (mBa inB_X7) (mB wl_RX10_42) dX10_middleOf_9 ?_
  refine V_icmp_ge X (tgt := 86) dX10_middleOf_12 (by decide) (fun b6 => ?_) (fun b6 => ?_)
  · replace h := (if_pos b6).symm.trans h
    refine V_sub X [0, 4] (lv' := [(0, .ref (zad y (0, 5, 0))), (4, .int x1)]) rfl ?_
    cases h
    obtain ⟨rfl, rfl⟩ := pr2 hz
    exact hk
  · replace h := (if_neg b6).symm.trans h
    refine V_iload X 5 dX10_middleOf_15 rfl ?_
    refine V_iload_n X 2 dX10_middleOf_17 rfl rfl ?_
    obtain ⟨x8, μ9, h1, h⟩ := bd2_some h
    have hk : V X μ9 80 [(0, .ref (zad y (0, 5, 0))), (1, .ref (zad y (1, s1, 0))), (2, .int a2), (3, .int a3), (4, .int x8), (5, .int x2)] [] := by
      clear h1
      refine V_inc X 5 1 [(5, .int (x2 + 1)), (0, .ref (zad y (0, 5, 0))), (1, .ref (zad y (1, s1, 0))), (2, .int a2), (3, .int a3), (4, .int x8)] dX10_middleOf_80 rfl (by decide) (by decide) rfl ?_
      refine V_goto X (tgt := 6) dX10_middleOf_83 (by decide) ?_
      refine V_sub X [1, 2, 3, 4, 5, 0] (lv' := [(0, .ref (zad y (0, 5, 0))), (1, .ref (zad y (1, s1, 0))), (2, .int a2), (3, .int a3), (4, .int x8), (5, .int (x2 + 1))]) rfl ?_
      cases h
      exact hz
    replace h := h1
    clear h1
    refine V_icmp_ne X (tgt := 35) dX10_middleOf_18 (by decide) (fun b7 => ?_) (fun b7 => ?_)
    · replace h := (if_neg b7).symm.trans h
      refine V_iload_n X 3 dX10_middleOf_35 rfl rfl ?_
      refine V_aload_n X 0 dX10_middleOf_36 rfl rfl ?_
      refine V_getr X (o := (0, 5, 0)) (i := (0, 7, 0)) (ci := 10) (k := 1) (N := 7) (T := TX10) (C := RX10) ⟨by decide, rfl⟩ rfl rfl rfl (by decide) (mBa inB_X10) (mB wl_RX10_16) dX10_middleOf_37 ?_
      refine V_iload_n X 2 dX10_middleOf_40 rfl rfl ?_
      obtain ⟨g10, h⟩ := gd_some h
      refine V_iald X a2.toNatClampNeg rfl (o := (0, 7, 0)) (n := 8) ⟨by decide, rfl⟩ rfl rfl g10 dX10_middleOf_41 ?_
      refine V_iand X dX10_middleOf_42 ?_
      refine V_iload X 5 dX10_middleOf_43 rfl ?_
      obtain ⟨x12, c11, h⟩ := bd_some h
      refine V_callSNi X (As := [.int (a3 &&& (μ3 (0, 7, 0) a2.toNatClampNeg)), .int x2]) (M_X11_isIn c11) ⟨va_cnB (host := "SlotCluster") 2 X.2.2.2.2.2.2.1 (gN wc_X11_isIn) rfl rfl rfl (X.2.2.2.2.2.2.2.2.1 _ (List.mem_of_getElem? wn_RX10_94)) (X.2.2.2.2.2.2.1 (.initialized RX11) (mB win_RX11)) hd_X11_isIn.2 ⟨Nat.le_of_ble_eq_true rfl, Nat.le_of_ble_eq_true rfl⟩, X.2.2.2.2.2.2.1 (.static yX11_isIn) (mB wst_X11_isIn), trivial⟩ rfl (Nat.le_of_ble_eq_true rfl) dX10_middleOf_45 rfl ?_
      refine V_if_eq X (tgt := 80) dX10_middleOf_48 (by decide) (fun b13 => ?_) (fun b13 => ?_)
      · replace h := (if_pos b13).symm.trans h
        obtain ⟨rfl, rfl⟩ := so2 h
        exact hk
      · replace h := (if_neg b13).symm.trans h
        refine V_aload_n X 0 dX10_middleOf_51 rfl rfl ?_
        refine V_getr X (o := (0, 5, 0)) (i := (0, 10, 0)) (ci := 10) (k := 6) (N := 7) (T := TX10) (C := RX10) ⟨by decide, rfl⟩ rfl rfl rfl (by decide) (mBa inB_X10) (mB wl_RX10_26) dX10_middleOf_52 ?_
        refine V_iload X 4 dX10_middleOf_55 rfl ?_
        refine V_aload_n X 0 dX10_middleOf_57 rfl rfl ?_
        refine V_getr X (o := (0, 5, 0)) (i := (0, 6, 0)) (ci := 10) (k := 0) (N := 7) (T := TX10) (C := RX10) ⟨by decide, rfl⟩ rfl rfl rfl (by decide) (mBa inB_X10) (mB wl_RX10_11) dX10_middleOf_58 ?_
        refine V_iload X 5 dX10_middleOf_61 rfl ?_
        obtain ⟨g14, h⟩ := gd_some h
        refine V_aald X x2.toNatClampNeg rfl (o := (0, 6, 0)) ⟨by decide, rfl⟩ rfl rfl rfl rfl g14 dX10_middleOf_63 ?_
        refine V_iload_n X 2 dX10_middleOf_64 rfl rfl ?_
        refine V_iald X a2.toNatClampNeg rfl (o := (7, x2.toNatClampNeg, 0)) (n := 8) ⟨zin_lt g14, rfl⟩ rfl rfl g10 dX10_middleOf_65 ?_
        refine V_aload_n X 1 dX10_middleOf_66 rfl rfl ?_
        refine V_getr X (o := (1, s1, 0)) (i := (2, s1, 0)) (ci := 7) (k := 0) (N := 11) (T := TX7) (C := RX7) ⟨hs1, rfl⟩ rfl rfl rfl (by decide) (mBa inB_X7) (mB wl_RX10_45) dX10_middleOf_67 ?_
        refine V_iload_n X 2 dX10_middleOf_70 rfl rfl ?_
        refine V_aald X a2.toNatClampNeg rfl (o := (2, s1, 0)) ⟨hs1, rfl⟩ rfl rfl rfl rfl g10 dX10_middleOf_71 ?_
        refine V_geti X (o := (3, s1, a2.toNatClampNeg)) (ci := 5) (k := 0) (N := 11) (T := TX5) (C := RX5) ⟨hs1, zin_lt g10⟩ rfl rfl rfl (by decide) (mBa inB_X5) (mB wl_RX10_76) dX10_middleOf_72 ?_
        refine V_isub X dX10_middleOf_75 ?_
        obtain ⟨g15, h⟩ := gd_some h
        refine V_iast X x1.toNatClampNeg rfl (o := (0, 10, 0)) (n := 8) ⟨by decide, rfl⟩ rfl rfl g15 dX10_middleOf_76 ?_
        refine zlt_el (P := fun (μ16 : ZMem) => V X μ16 77 [(0, .ref (zad y (0, 5, 0))), (1, .ref (zad y (1, s1, 0))), (2, .int a2), (3, .int a3), (4, .int x1), (5, .int x2)] []) h (fun μ16 h => ?_)
        refine V_inc X 4 1 [(4, .int (x1 + 1)), (0, .ref (zad y (0, 5, 0))), (1, .ref (zad y (1, s1, 0))), (2, .int a2), (3, .int a3), (5, .int x2)] dX10_middleOf_77 rfl (by decide) (by decide) rfl ?_
        refine V_sub X [1, 2, 3, 4, 0, 5] (lv' := [(0, .ref (zad y (0, 5, 0))), (1, .ref (zad y (1, s1, 0))), (2, .int a2), (3, .int a3), (4, .int (x1 + 1)), (5, .int x2)]) rfl ?_
        obtain ⟨rfl, rfl⟩ := so2 h
        exact hk
    · replace h := (if_pos b7).symm.trans h
      refine V_aload_n X 0 dX10_middleOf_21 rfl rfl ?_
      refine V_getr X (o := (0, 5, 0)) (i := (0, 10, 0)) (ci := 10) (k := 6) (N := 7) (T := TX10) (C := RX10) ⟨by decide, rfl⟩ rfl rfl rfl (by decide) (mBa inB_X10) (mB wl_RX10_26) dX10_middleOf_22 ?_
      refine V_iload X 4 dX10_middleOf_25 rfl ?_
      refine V_iconst X 0 dX10_middleOf_27 (by decide) ?_
      obtain ⟨g17, h⟩ := gd_some h
      refine V_iast X x1.toNatClampNeg rfl (o := (0, 10, 0)) (n := 8) ⟨by decide, rfl⟩ rfl rfl g17 dX10_middleOf_28 ?_
      refine zlt_el (P := fun (μ18 : ZMem) => V X μ18 29 [(0, .ref (zad y (0, 5, 0))), (1, .ref (zad y (1, s1, 0))), (2, .int a2), (3, .int a3), (4, .int x1), (5, .int x2)] []) h (fun μ18 h => ?_)
      refine V_inc X 4 1 [(4, .int (x1 + 1)), (0, .ref (zad y (0, 5, 0))), (1, .ref (zad y (1, s1, 0))), (2, .int a2), (3, .int a3), (5, .int x2)] dX10_middleOf_29 rfl (by decide) (by decide) rfl ?_
      refine V_goto X (tgt := 80) dX10_middleOf_32 (by decide) ?_
      refine V_sub X [1, 2, 3, 4, 0, 5] (lv' := [(0, .ref (zad y (0, 5, 0))), (1, .ref (zad y (1, s1, 0))), (2, .int a2), (3, .int a3), (4, .int (x1 + 1)), (5, .int x2)]) rfl ?_
      obtain ⟨rfl, rfl⟩ := so2 h
      exact hk

def f_X9_correct (y : ZLay) (s1 : Nat) (a2 : Int32) (a3 : Int32) (μ : ZMem) : Option (ZMem) := bd (lp (σ := Int32 × ZMem) (fun q => un2 q (fun (x1 : Int32) (μ2 : ZMem) => if (μ2 (1, s1, 0) 4) ≤ x1 then some (.inr μ2) else bd (f_X11_isIn a2 x1) (fun (x6 : Int32) => bd (α := ZMem) (if x6 = 0 then some μ2 else gd (zin x1 8) (bd2 (f_X10_middleOf y s1 x1 a3 μ2) (fun (x11 : Int32) (μ12 : ZMem) => if (zrem (μ12 (1, s1, 0) 7) 2) = 0 then zlt (mset μ12 (3, s1, x1.toNatClampNeg) 0 ((μ12 (3, s1, x1.toNatClampNeg) 0) + x11)) (fun (μ15 : ZMem) => some μ15) else zlt (mset μ12 (3, s1, x1.toNatClampNeg) 2 (f_X11_keepWithin ((μ12 (3, s1, x1.toNatClampNeg) 2) + (x11 / 4)) 9)) (fun (μ14 : ZMem) => some μ14)))) (fun (μ8 : ZMem) => some (.inl ((x1 + 1), μ8)))))) FU (0, μ)) (fun (μ3 : ZMem) => some μ3)
set_option maxRecDepth 100000 in
set_option maxHeartbeats 4000000 in
theorem M_X9_correct {l : Launch} {D : va_G} {y : ZLay} {s1 : Nat} {a2 : Int32} {a3 : Int32} (hs1 : s1 < 15) {μ : ZMem} {μ0 : ZMem} (h : f_X9_correct y s1 a2 a3 μ = some μ0) : MV l yX9_correct wb_X9_correct rm_X9_correct D y [.ref (zad y (0, 4, 0)), .ref (zad y (1, s1, 0)), .int a2, .int a3] μ μ0 := by
  unfold f_X9_correct at h
  refine MV_of RX9 [(0, .ref (zad y (0, 4, 0))), (1, .ref (zad y (1, s1, 0))), (2, .int a2), (3, .int a3)] (by decide) rfl rfl (Nat.le_of_ble_eq_true rfl) rfl ?_
  intro p e s m args below meth c A X
  refine V_iconst X 0 dX9_correct_0 (by decide) ?_
  refine V_istore X [(4, .int 0), (0, .ref (zad y (0, 4, 0))), (1, .ref (zad y (1, s1, 0))), (2, .int a2), (3, .int a3)] dX9_correct_1 (by decide) rfl ?_
  refine V_sub X [1, 2, 3, 4, 0] (lv' := [(0, .ref (zad y (0, 4, 0))), (1, .ref (zad y (1, s1, 0))), (2, .int a2), (3, .int a3), (4, .int 0)]) rfl ?_
  obtain ⟨μ3, hl, h⟩ := bd_some h
  have hk : V X μ3 93 [] [] := by
    clear hl
    exact V_vretW X h dX9_correct_93
  refine lp_ind (P := fun q => V X q.2 3 [(0, .ref (zad y (0, 4, 0))), (1, .ref (zad y (1, s1, 0))), (2, .int a2), (3, .int a3), (4, .int q.1)] []) (fun q z h hz => ?_) hl
  obtain ⟨x1, μ2⟩ := q
  replace h := un2_eq h
  show V X μ2 3 [(0, .ref (zad y (0, 4, 0))), (1, .ref (zad y (1, s1, 0))), (2, .int a2), (3, .int a3), (4, .int x1)] []
  refine V_iload X 4 dX9_correct_3 rfl ?_
  refine V_aload_n X 1 dX9_correct_5 rfl rfl ?_
  refine V_geti X (o := (1, s1, 0)) (ci := 7) (k := 4) (N := 11) (T := TX7) (C := RX7) ⟨hs1, rfl⟩ rfl rfl rfl (by decide) (mBa inB_X7) (mB wl_RX9_75) dX9_correct_6 ?_
  refine V_icmp_ge X (tgt := 93) dX9_correct_9 (by decide) (fun b4 => ?_) (fun b4 => ?_)
  · replace h := (if_pos b4).symm.trans h
    refine V_sub X [] (lv' := []) rfl ?_
    cases h
    obtain rfl := pr1 hz
    exact hk
  · replace h := (if_neg b4).symm.trans h
    refine V_iload_n X 2 dX9_correct_12 rfl rfl ?_
    refine V_iload X 4 dX9_correct_13 rfl ?_
    obtain ⟨x6, c5, h⟩ := bd_some h
    refine V_callSNi X (As := [.int a2, .int x1]) (M_X11_isIn c5) ⟨va_cnB (host := "SlotCluster") 2 X.2.2.2.2.2.2.1 (gN wc_X11_isIn) rfl rfl rfl (X.2.2.2.2.2.2.2.2.1 _ (List.mem_of_getElem? wn_RX9_78)) (X.2.2.2.2.2.2.1 (.initialized RX11) (mB win_RX11)) hd_X11_isIn.2 ⟨Nat.le_of_ble_eq_true rfl, Nat.le_of_ble_eq_true rfl⟩, X.2.2.2.2.2.2.1 (.static yX11_isIn) (mB wst_X11_isIn), trivial⟩ rfl (Nat.le_of_ble_eq_true rfl) dX9_correct_15 rfl ?_
    obtain ⟨μ8, h1, h⟩ := bd_some h
    have hk : V X μ8 87 [(0, .ref (zad y (0, 4, 0))), (1, .ref (zad y (1, s1, 0))), (2, .int a2), (3, .int a3), (4, .int x1)] [] := by
      clear h1
      refine V_inc X 4 1 [(4, .int (x1 + 1)), (0, .ref (zad y (0, 4, 0))), (1, .ref (zad y (1, s1, 0))), (2, .int a2), (3, .int a3)] dX9_correct_87 rfl (by decide) (by decide) rfl ?_
      refine V_goto X (tgt := 3) dX9_correct_90 (by decide) ?_
      refine V_sub X [1, 2, 3, 4, 0] (lv' := [(0, .ref (zad y (0, 4, 0))), (1, .ref (zad y (1, s1, 0))), (2, .int a2), (3, .int a3), (4, .int (x1 + 1))]) rfl ?_
      cases h
      exact hz
    replace h := h1
    clear h1
    refine V_if_eq X (tgt := 87) dX9_correct_18 (by decide) (fun b7 => ?_) (fun b7 => ?_)
    · replace h := (if_pos b7).symm.trans h
      obtain rfl := so1 h
      exact hk
    · replace h := (if_neg b7).symm.trans h
      refine V_aload_n X 1 dX9_correct_21 rfl rfl ?_
      refine V_getr X (o := (1, s1, 0)) (i := (2, s1, 0)) (ci := 7) (k := 0) (N := 11) (T := TX7) (C := RX7) ⟨hs1, rfl⟩ rfl rfl rfl (by decide) (mBa inB_X7) (mB wl_RX9_95) dX9_correct_22 ?_
      refine V_iload X 4 dX9_correct_25 rfl ?_
      obtain ⟨g9, h⟩ := gd_some h
      refine V_aald X x1.toNatClampNeg rfl (o := (2, s1, 0)) ⟨hs1, rfl⟩ rfl rfl rfl rfl g9 dX9_correct_27 ?_
      refine V_astore X [(5, .ref (zad y (3, s1, x1.toNatClampNeg))), (0, .ref (zad y (0, 4, 0))), (1, .ref (zad y (1, s1, 0))), (2, .int a2), (3, .int a3), (4, .int x1)] dX9_correct_28 (by decide) rfl ?_
      refine V_aload_n X 1 dX9_correct_30 rfl rfl ?_
      refine V_getr X (o := (0, 4, 0)) (i := (0, 5, 0)) (ci := 9) (k := 0) (N := 2) (T := TX9) (C := RX9) ⟨by decide, rfl⟩ rfl rfl rfl (by decide) (mBa inB_X9) (mB wl_RX9_12) dX9_correct_31 ?_
      refine V_aload_n X 2 dX9_correct_34 rfl rfl ?_
      refine V_iload X 5 dX9_correct_35 rfl ?_
      refine V_iload_n X 4 dX9_correct_37 rfl rfl ?_
      obtain ⟨x11, μ12, c10, h⟩ := bd2_some h
      refine V_callVi X (As := [.ref (zad y (1, s1, 0)), .int x1, .int a3]) (M_X10_middleOf hs1 c10) (cwV 3 X.2.2.2.2.2.2.1 (gV wm_RX9_158 wi_X10_middleOf wse_X10_middleOf win_RX10 wc_X10_middleOf) rfl rfl rfl hd_X10_middleOf ⟨Nat.le_of_ble_eq_true rfl, Nat.le_of_ble_eq_true rfl⟩) (b := (0, 5, 0)) ⟨by decide, rfl⟩ rfl rfl rfl rfl (Nat.le_of_ble_eq_true rfl) dX9_correct_38 rfl ?_
      refine V_istore X [(6, .int x11), (5, .ref (zad y (3, s1, x1.toNatClampNeg))), (0, .ref (zad y (0, 4, 0))), (1, .ref (zad y (1, s1, 0))), (2, .int a2), (3, .int a3), (4, .int x1)] dX9_correct_41 (by decide) rfl ?_
      refine V_aload_n X 3 dX9_correct_43 rfl rfl ?_
      refine V_geti X (o := (1, s1, 0)) (ci := 7) (k := 7) (N := 11) (T := TX7) (C := RX7) ⟨hs1, rfl⟩ rfl rfl rfl (by decide) (mBa inB_X7) (mB wl_RX9_58) dX9_correct_44 ?_
      refine V_iconst X 2 dX9_correct_47 (by decide) ?_
      refine V_rem X dX9_correct_48 (by decide) ?_
      refine V_if_ne X (tgt := 67) dX9_correct_49 (by decide) (fun b13 => ?_) (fun b13 => ?_)
      · replace h := (if_neg b13).symm.trans h
        refine V_aload X 1 dX9_correct_67 rfl ?_
        refine V_aload X 1 dX9_correct_69 rfl ?_
        refine V_geti X (o := (3, s1, x1.toNatClampNeg)) (ci := 5) (k := 2) (N := 11) (T := TX5) (C := RX5) ⟨hs1, zin_lt g9⟩ rfl rfl rfl (by decide) (mBa inB_X5) (mB wl_RX9_127) dX9_correct_71 ?_
        refine V_iload X 0 dX9_correct_74 rfl ?_
        refine V_iconst X 4 dX9_correct_76 (by decide) ?_
        refine V_idiv X dX9_correct_77 (by decide) ?_
        refine V_iadd X dX9_correct_78 ?_
        refine V_bipush X 9 dX9_correct_79 (by decide) ?_
        refine V_callSNi X (As := [.int ((μ12 (3, s1, x1.toNatClampNeg) 2) + (x11 / 4)), .int 9]) (M_X11_keepWithin) ⟨va_cnB (host := "SlotCluster") 2 X.2.2.2.2.2.2.1 (gN wc_X11_keepWithin) rfl rfl rfl (X.2.2.2.2.2.2.2.2.1 _ (List.mem_of_getElem? wn_RX9_137)) (X.2.2.2.2.2.2.1 (.initialized RX11) (mB win_RX11)) hd_X11_keepWithin.2 ⟨Nat.le_of_ble_eq_true rfl, Nat.le_of_ble_eq_true rfl⟩, X.2.2.2.2.2.2.1 (.static yX11_keepWithin) (mB wst_X11_keepWithin), trivial⟩ rfl (Nat.le_of_ble_eq_true rfl) dX9_correct_81 rfl ?_
        refine V_puti X tyX5 .int (o := (3, s1, x1.toNatClampNeg)) (ci := 5) (k := 2) (N := 11) (T := TX5) (C := RX5) ⟨hs1, zin_lt g9⟩ rfl rfl rfl (by decide) (mBa inB_X5) tyX5_ok nmX5 (mB wl_RX9_127) rfl rfl rfl rfl dX9_correct_84 ?_
        refine zlt_el (P := fun (μ14 : ZMem) => V X μ14 87 [(6, .int x11), (5, .ref (zad y (3, s1, x1.toNatClampNeg))), (0, .ref (zad y (0, 4, 0))), (1, .ref (zad y (1, s1, 0))), (2, .int a2), (3, .int a3), (4, .int x1)] []) h (fun μ14 h => ?_)
        refine V_sub X [2, 3, 4, 5, 6] (lv' := [(0, .ref (zad y (0, 4, 0))), (1, .ref (zad y (1, s1, 0))), (2, .int a2), (3, .int a3), (4, .int x1)]) rfl ?_
        obtain rfl := so1 h
        exact hk
      · replace h := (if_pos b13).symm.trans h
        refine V_aload X 1 dX9_correct_52 rfl ?_
        refine V_dup X dX9_correct_54 rfl ?_
        refine V_geti X (o := (3, s1, x1.toNatClampNeg)) (ci := 5) (k := 0) (N := 11) (T := TX5) (C := RX5) ⟨hs1, zin_lt g9⟩ rfl rfl rfl (by decide) (mBa inB_X5) (mB wl_RX9_140) dX9_correct_55 ?_
        refine V_iload X 0 dX9_correct_58 rfl ?_
        refine V_iadd X dX9_correct_60 ?_
        refine V_puti X tyX5 .int (o := (3, s1, x1.toNatClampNeg)) (ci := 5) (k := 0) (N := 11) (T := TX5) (C := RX5) ⟨hs1, zin_lt g9⟩ rfl rfl rfl (by decide) (mBa inB_X5) tyX5_ok nmX5 (mB wl_RX9_140) rfl rfl rfl rfl dX9_correct_61 ?_
        refine zlt_el (P := fun (μ15 : ZMem) => V X μ15 64 [(6, .int x11), (5, .ref (zad y (3, s1, x1.toNatClampNeg))), (0, .ref (zad y (0, 4, 0))), (1, .ref (zad y (1, s1, 0))), (2, .int a2), (3, .int a3), (4, .int x1)] []) h (fun μ15 h => ?_)
        refine V_goto X (tgt := 87) dX9_correct_64 (by decide) ?_
        refine V_sub X [2, 3, 4, 5, 6] (lv' := [(0, .ref (zad y (0, 4, 0))), (1, .ref (zad y (1, s1, 0))), (2, .int a2), (3, .int a3), (4, .int x1)]) rfl ?_
        obtain rfl := so1 h
        exact hk

def f_X9_runClocks (s0 : Nat) (μ : ZMem) : Option (ZMem) := bd (lp (σ := Int32 × ZMem) (fun q => un2 q (fun (x1 : Int32) (μ2 : ZMem) => if (μ2 (1, s0, 0) 4) ≤ x1 then some (.inr μ2) else gd (zin x1 8) (zlt (α := ZMem) (if (μ2 (3, s0, x1.toNatClampNeg) 3) = 0 then μ2 else zlt (mset μ2 (3, s0, x1.toNatClampNeg) 0 (f_X11_keepWithin (((μ2 (3, s0, x1.toNatClampNeg) 0) + (μ2 (3, s0, x1.toNatClampNeg) 1)) + (μ2 (3, s0, x1.toNatClampNeg) 2)) 999)) (fun (μ8 : ZMem) => μ8)) (fun (μ7 : ZMem) => some (.inl ((x1 + 1), μ7)))))) FU (0, μ)) (fun (μ3 : ZMem) => some μ3)
set_option maxRecDepth 100000 in
set_option maxHeartbeats 4000000 in
theorem M_X9_runClocks {l : Launch} {D : va_G} {y : ZLay} {s0 : Nat} (hs0 : s0 < 15) {μ : ZMem} {μ0 : ZMem} (h : f_X9_runClocks s0 μ = some μ0) : MV l yX9_runClocks wb_X9_runClocks rm_X9_runClocks D y [.ref (zad y (1, s0, 0))] μ μ0 := by
  unfold f_X9_runClocks at h
  refine MV_of RX9 [(0, .ref (zad y (1, s0, 0)))] (by decide) rfl rfl (Nat.le_of_ble_eq_true rfl) rfl ?_
  intro p e s m args below meth c A X
  refine V_iconst X 0 dX9_runClocks_0 (by decide) ?_
  refine V_istore_n X [(1, .int 0), (0, .ref (zad y (1, s0, 0)))] dX9_runClocks_1 rfl (by decide) rfl ?_
  refine V_sub X [1, 0] (lv' := [(0, .ref (zad y (1, s0, 0))), (1, .int 0)]) rfl ?_
  obtain ⟨μ3, hl, h⟩ := bd_some h
  have hk : V X μ3 54 [] [] := by
    clear hl
    exact V_vretW X h dX9_runClocks_54
  refine lp_ind (P := fun q => V X q.2 2 [(0, .ref (zad y (1, s0, 0))), (1, .int q.1)] []) (fun q z h hz => ?_) hl
  obtain ⟨x1, μ2⟩ := q
  replace h := un2_eq h
  show V X μ2 2 [(0, .ref (zad y (1, s0, 0))), (1, .int x1)] []
  refine V_iload_n X 1 dX9_runClocks_2 rfl rfl ?_
  refine V_aload_n X 0 dX9_runClocks_3 rfl rfl ?_
  refine V_geti X (o := (1, s0, 0)) (ci := 7) (k := 4) (N := 11) (T := TX7) (C := RX7) ⟨hs0, rfl⟩ rfl rfl rfl (by decide) (mBa inB_X7) (mB wl_RX9_75) dX9_runClocks_4 ?_
  refine V_icmp_ge X (tgt := 54) dX9_runClocks_7 (by decide) (fun b4 => ?_) (fun b4 => ?_)
  · replace h := (if_pos b4).symm.trans h
    refine V_sub X [] (lv' := []) rfl ?_
    cases h
    obtain rfl := pr1 hz
    exact hk
  · replace h := (if_neg b4).symm.trans h
    refine V_aload_n X 0 dX9_runClocks_10 rfl rfl ?_
    refine V_getr X (o := (1, s0, 0)) (i := (2, s0, 0)) (ci := 7) (k := 0) (N := 11) (T := TX7) (C := RX7) ⟨hs0, rfl⟩ rfl rfl rfl (by decide) (mBa inB_X7) (mB wl_RX9_95) dX9_runClocks_11 ?_
    refine V_iload_n X 1 dX9_runClocks_14 rfl rfl ?_
    obtain ⟨g5, h⟩ := gd_some h
    refine V_aald X x1.toNatClampNeg rfl (o := (2, s0, 0)) ⟨hs0, rfl⟩ rfl rfl rfl rfl g5 dX9_runClocks_15 ?_
    refine V_astore_n X [(2, .ref (zad y (3, s0, x1.toNatClampNeg))), (0, .ref (zad y (1, s0, 0))), (1, .int x1)] dX9_runClocks_16 rfl (by decide) rfl ?_
    refine V_aload_n X 0 dX9_runClocks_17 rfl rfl ?_
    refine V_geti X (o := (3, s0, x1.toNatClampNeg)) (ci := 5) (k := 3) (N := 11) (T := TX5) (C := RX5) ⟨hs0, zin_lt g5⟩ rfl rfl rfl (by decide) (mBa inB_X5) (mB wl_RX9_99) dX9_runClocks_18 ?_
    obtain ⟨μ7, h1, h⟩ := zl1_some h
    have hk : V X μ7 48 [(0, .ref (zad y (1, s0, 0))), (1, .int x1)] [] := by
      clear h1
      refine V_inc X 1 1 [(1, .int (x1 + 1)), (0, .ref (zad y (1, s0, 0)))] dX9_runClocks_48 rfl (by decide) (by decide) rfl ?_
      refine V_goto X (tgt := 2) dX9_runClocks_51 (by decide) ?_
      refine V_sub X [1, 0] (lv' := [(0, .ref (zad y (1, s0, 0))), (1, .int (x1 + 1))]) rfl ?_
      cases h
      exact hz
    replace h := h1
    clear h1
    refine V_if_eq X (tgt := 48) dX9_runClocks_21 (by decide) (fun b6 => ?_) (fun b6 => ?_)
    · replace h := (if_pos b6).symm.trans h
      refine V_sub X [1, 2] (lv' := [(0, .ref (zad y (1, s0, 0))), (1, .int x1)]) rfl ?_
      obtain rfl := pr1 h
      exact hk
    · replace h := (if_neg b6).symm.trans h
      refine V_aload_n X 0 dX9_runClocks_24 rfl rfl ?_
      refine V_aload_n X 0 dX9_runClocks_25 rfl rfl ?_
      refine V_geti X (o := (3, s0, x1.toNatClampNeg)) (ci := 5) (k := 0) (N := 11) (T := TX5) (C := RX5) ⟨hs0, zin_lt g5⟩ rfl rfl rfl (by decide) (mBa inB_X5) (mB wl_RX9_140) dX9_runClocks_26 ?_
      refine V_aload_n X 0 dX9_runClocks_29 rfl rfl ?_
      refine V_geti X (o := (3, s0, x1.toNatClampNeg)) (ci := 5) (k := 1) (N := 11) (T := TX5) (C := RX5) ⟨hs0, zin_lt g5⟩ rfl rfl rfl (by decide) (mBa inB_X5) (mB wl_RX9_161) dX9_runClocks_30 ?_
      refine V_iadd X dX9_runClocks_33 ?_
      refine V_aload_n X 0 dX9_runClocks_34 rfl rfl ?_
      refine V_geti X (o := (3, s0, x1.toNatClampNeg)) (ci := 5) (k := 2) (N := 11) (T := TX5) (C := RX5) ⟨hs0, zin_lt g5⟩ rfl rfl rfl (by decide) (mBa inB_X5) (mB wl_RX9_127) dX9_runClocks_35 ?_
      refine V_iadd X dX9_runClocks_38 ?_
      refine V_sipush X 999 dX9_runClocks_39 (by decide) ?_
      refine V_callSNi X (As := [.int (((μ2 (3, s0, x1.toNatClampNeg) 0) + (μ2 (3, s0, x1.toNatClampNeg) 1)) + (μ2 (3, s0, x1.toNatClampNeg) 2)), .int 999]) (M_X11_keepWithin) ⟨va_cnB (host := "SlotCluster") 2 X.2.2.2.2.2.2.1 (gN wc_X11_keepWithin) rfl rfl rfl (X.2.2.2.2.2.2.2.2.1 _ (List.mem_of_getElem? wn_RX9_137)) (X.2.2.2.2.2.2.1 (.initialized RX11) (mB win_RX11)) hd_X11_keepWithin.2 ⟨Nat.le_of_ble_eq_true rfl, Nat.le_of_ble_eq_true rfl⟩, X.2.2.2.2.2.2.1 (.static yX11_keepWithin) (mB wst_X11_keepWithin), trivial⟩ rfl (Nat.le_of_ble_eq_true rfl) dX9_runClocks_42 rfl ?_
      refine V_puti X tyX5 .int (o := (3, s0, x1.toNatClampNeg)) (ci := 5) (k := 0) (N := 11) (T := TX5) (C := RX5) ⟨hs0, zin_lt g5⟩ rfl rfl rfl (by decide) (mBa inB_X5) tyX5_ok nmX5 (mB wl_RX9_140) rfl rfl rfl rfl dX9_runClocks_45 ?_
      refine zlt_el (P := fun (μ8 : ZMem) => V X μ8 48 [(2, .ref (zad y (3, s0, x1.toNatClampNeg))), (0, .ref (zad y (1, s0, 0))), (1, .int x1)] []) h (fun μ8 h => ?_)
      refine V_sub X [1, 2] (lv' := [(0, .ref (zad y (1, s0, 0))), (1, .int x1)]) rfl ?_
      obtain rfl := pr1 h
      exact hk

def f_X9_play (y : ZLay) (s1 : Nat) (a2 : Int32) (μ : ZMem) : Option (Int32 × ZMem) := bd (f_X10_look y s1 μ) (fun (μ2 : ZMem) => zlt (μ2 (0, 5, 0) 4) (fun (x3 : Int32) => bd2 (f_X9_sendersOf s1 x3 a2 μ2) (fun (x5 : Int32) (μ6 : ZMem) => bd (α := ZMem) (if x5 = 0 then bd (f_X9_callOrWait y s1 μ6) (fun (μ12 : ZMem) => some μ12) else bd (f_X9_joinAll s1 x5 μ6) (fun (μ10 : ZMem) => some μ10)) (fun (μ8 : ZMem) => bd (f_X9_judge s1 x3 x5 μ8) (fun (μ14 : ZMem) => bd2 (f_X9_acknowledge s1 x5 μ14) (fun (x16 : Int32) (μ17 : ZMem) => bd2 (f_X9_outvote s1 (x3 &&& (x16 ^^^ (-1))) μ17) (fun (x19 : Int32) (μ20 : ZMem) => zlt (x16 ||| x19) (fun (x21 : Int32) => bd (f_X9_correct y s1 (x3 &&& (x21 ^^^ (-1))) x5 μ20) (fun (μ23 : ZMem) => bd (f_X9_runClocks s1 μ23) (fun (μ25 : ZMem) => zlt (mset μ25 (1, s1, 0) 7 (zmin 9999 ((μ25 (1, s1, 0) 7) + 1))) (fun (μ26 : ZMem) => some ((f_J6_bitCount_0f7a4 x21), μ26))))))))))))
set_option maxRecDepth 100000 in
set_option maxHeartbeats 4000000 in
theorem M_X9_play {l : Launch} {D : va_G} {y : ZLay} {s1 : Nat} {a2 : Int32} (hs1 : s1 < 15) {μ : ZMem} {r : Int32} {μ0 : ZMem} (h : f_X9_play y s1 a2 μ = some (r, μ0)) : MI l yX9_play wb_X9_play rm_X9_play D y [.ref (zad y (0, 4, 0)), .ref (zad y (1, s1, 0)), .int a2] μ r μ0 := by
  unfold f_X9_play at h
  refine MI_of RX9 [(0, .ref (zad y (0, 4, 0))), (1, .ref (zad y (1, s1, 0))), (2, .int a2)] (by decide) rfl rfl (Nat.le_of_ble_eq_true rfl) rfl ?_
  intro p e s m args below meth c A X
  refine V_aload_n X 0 dX9_play_0 rfl rfl ?_
  refine V_getr X (o := (0, 4, 0)) (i := (0, 5, 0)) (ci := 9) (k := 0) (N := 2) (T := TX9) (C := RX9) ⟨by decide, rfl⟩ rfl rfl rfl (by decide) (mBa inB_X9) (mB wl_RX9_12) dX9_play_1 ?_
  refine V_aload_n X 1 dX9_play_4 rfl rfl ?_
  obtain ⟨μ2, c1, h⟩ := bd_some h
  refine V_callVv X (As := [.ref (zad y (1, s1, 0))]) (M_X10_look hs1 c1) (cwV 1 X.2.2.2.2.2.2.1 (gV wm_RX9_22 wi_X10_look wse_X10_look win_RX10 wc_X10_look) rfl rfl rfl hd_X10_look ⟨Nat.le_of_ble_eq_true rfl, Nat.le_of_ble_eq_true rfl⟩) (b := (0, 5, 0)) ⟨by decide, rfl⟩ rfl rfl rfl rfl (Nat.le_of_ble_eq_true rfl) dX9_play_5 rfl ?_
  refine V_aload_n X 0 dX9_play_8 rfl rfl ?_
  refine V_getr X (o := (0, 4, 0)) (i := (0, 5, 0)) (ci := 9) (k := 0) (N := 2) (T := TX9) (C := RX9) ⟨by decide, rfl⟩ rfl rfl rfl (by decide) (mBa inB_X9) (mB wl_RX9_12) dX9_play_9 ?_
  refine V_geti X (o := (0, 5, 0)) (ci := 10) (k := 4) (N := 7) (T := TX10) (C := RX10) ⟨by decide, rfl⟩ rfl rfl rfl (by decide) (mBa inB_X10) (mB wl_RX9_26) dX9_play_12 ?_
  refine V_istore_n X [(3, .int (μ2 (0, 5, 0) 4)), (0, .ref (zad y (0, 4, 0))), (1, .ref (zad y (1, s1, 0))), (2, .int a2)] dX9_play_15 rfl (by decide) rfl ?_
  refine zlt_el (P := fun (x3 : Int32) => V X μ2 16 [(3, .int x3), (0, .ref (zad y (0, 4, 0))), (1, .ref (zad y (1, s1, 0))), (2, .int a2)] []) h (fun x3 h => ?_)
  refine V_aload_n X 1 dX9_play_16 rfl rfl ?_
  refine V_aload_n X 2 dX9_play_17 rfl rfl ?_
  refine V_iload_n X 0 dX9_play_18 rfl rfl ?_
  refine V_iload_n X 3 dX9_play_19 rfl rfl ?_
  obtain ⟨x5, μ6, c4, h⟩ := bd2_some h
  refine V_callVi X (As := [.ref (zad y (1, s1, 0)), .int x3, .int a2]) (M_X9_sendersOf hs1 c4) (cwV 3 X.2.2.2.2.2.2.1 (gV wm_RX9_30 wi_X9_sendersOf wse_X9_sendersOf win_RX9 wc_X9_sendersOf) rfl rfl rfl hd_X9_sendersOf ⟨Nat.le_of_ble_eq_true rfl, Nat.le_of_ble_eq_true rfl⟩) (b := (0, 4, 0)) ⟨by decide, rfl⟩ rfl rfl rfl rfl (Nat.le_of_ble_eq_true rfl) dX9_play_20 rfl ?_
  refine V_istore X [(4, .int x5), (3, .int x3), (0, .ref (zad y (0, 4, 0))), (1, .ref (zad y (1, s1, 0))), (2, .int a2)] dX9_play_23 (by decide) rfl ?_
  refine V_iload X 0 dX9_play_25 rfl ?_
  obtain ⟨μ8, h1, h⟩ := bd_some h
  have hk : V X μ8 44 [(0, .ref (zad y (0, 4, 0))), (1, .ref (zad y (1, s1, 0))), (3, .int x3), (4, .int x5)] [] := by
    clear h1
    refine V_aload_n X 0 dX9_play_44 rfl rfl ?_
    refine V_aload_n X 1 dX9_play_45 rfl rfl ?_
    refine V_iload_n X 2 dX9_play_46 rfl rfl ?_
    refine V_iload X 3 dX9_play_47 rfl ?_
    obtain ⟨μ14, c13, h⟩ := bd_some h
    refine V_callVv X (As := [.ref (zad y (1, s1, 0)), .int x3, .int x5]) (M_X9_judge hs1 c13) (cwV 3 X.2.2.2.2.2.2.1 (gV wm_RX9_41 wi_X9_judge wse_X9_judge win_RX9 wc_X9_judge) rfl rfl rfl hd_X9_judge ⟨Nat.le_of_ble_eq_true rfl, Nat.le_of_ble_eq_true rfl⟩) (b := (0, 4, 0)) ⟨by decide, rfl⟩ rfl rfl rfl rfl (Nat.le_of_ble_eq_true rfl) dX9_play_49 rfl ?_
    refine V_aload_n X 0 dX9_play_52 rfl rfl ?_
    refine V_aload_n X 1 dX9_play_53 rfl rfl ?_
    refine V_iload X 3 dX9_play_54 rfl ?_
    obtain ⟨x16, μ17, c15, h⟩ := bd2_some h
    refine V_callVi X (As := [.ref (zad y (1, s1, 0)), .int x5]) (M_X9_acknowledge hs1 c15) (cwV 2 X.2.2.2.2.2.2.1 (gV wm_RX9_45 wi_X9_acknowledge wse_X9_acknowledge win_RX9 wc_X9_acknowledge) rfl rfl rfl hd_X9_acknowledge ⟨Nat.le_of_ble_eq_true rfl, Nat.le_of_ble_eq_true rfl⟩) (b := (0, 4, 0)) ⟨by decide, rfl⟩ rfl rfl rfl rfl (Nat.le_of_ble_eq_true rfl) dX9_play_56 rfl ?_
    refine V_istore X [(5, .int x16), (0, .ref (zad y (0, 4, 0))), (1, .ref (zad y (1, s1, 0))), (3, .int x3), (4, .int x5)] dX9_play_59 (by decide) rfl ?_
    refine V_iload X 0 dX9_play_61 rfl ?_
    refine V_aload_n X 2 dX9_play_63 rfl rfl ?_
    refine V_iload_n X 3 dX9_play_64 rfl rfl ?_
    refine V_iload X 0 dX9_play_65 rfl ?_
    refine V_iconst X (-1) dX9_play_67 (by decide) ?_
    refine V_ixor X dX9_play_68 ?_
    refine V_iand X dX9_play_69 ?_
    obtain ⟨x19, μ20, c18, h⟩ := bd2_some h
    refine V_callSi X (As := [.ref (zad y (1, s1, 0)), .int (x3 &&& (x16 ^^^ (-1)))]) (M_X9_outvote hs1 c18) (va_cwS 2 X.2.2.2.2.2.2.1 (gS wm_RX9_49 wst_X9_outvote win_RX9 wc_X9_outvote) rfl rfl rfl hd_X9_outvote.2 ⟨Nat.le_of_ble_eq_true rfl, Nat.le_of_ble_eq_true rfl⟩) rfl (Nat.le_of_ble_eq_true rfl) dX9_play_70 rfl ?_
    refine V_ior X dX9_play_73 ?_
    refine V_istore X [(5, .int (x16 ||| x19)), (0, .ref (zad y (0, 4, 0))), (1, .ref (zad y (1, s1, 0))), (3, .int x3), (4, .int x5)] dX9_play_74 (by decide) rfl ?_
    refine zlt_el (P := fun (x21 : Int32) => V X μ20 76 [(5, .int x21), (0, .ref (zad y (0, 4, 0))), (1, .ref (zad y (1, s1, 0))), (3, .int x3), (4, .int x5)] []) h (fun x21 h => ?_)
    refine V_aload_n X 1 dX9_play_76 rfl rfl ?_
    refine V_aload_n X 2 dX9_play_77 rfl rfl ?_
    refine V_iload_n X 3 dX9_play_78 rfl rfl ?_
    refine V_iload X 0 dX9_play_79 rfl ?_
    refine V_iconst X (-1) dX9_play_81 (by decide) ?_
    refine V_ixor X dX9_play_82 ?_
    refine V_iand X dX9_play_83 ?_
    refine V_iload X 4 dX9_play_84 rfl ?_
    obtain ⟨μ23, c22, h⟩ := bd_some h
    refine V_callVv X (As := [.ref (zad y (1, s1, 0)), .int (x3 &&& (x21 ^^^ (-1))), .int x5]) (M_X9_correct hs1 c22) (cwV 3 X.2.2.2.2.2.2.1 (gV wm_RX9_52 wi_X9_correct wse_X9_correct win_RX9 wc_X9_correct) rfl rfl rfl hd_X9_correct ⟨Nat.le_of_ble_eq_true rfl, Nat.le_of_ble_eq_true rfl⟩) (b := (0, 4, 0)) ⟨by decide, rfl⟩ rfl rfl rfl rfl (Nat.le_of_ble_eq_true rfl) dX9_play_86 rfl ?_
    refine V_aload_n X 2 dX9_play_89 rfl rfl ?_
    obtain ⟨μ25, c24, h⟩ := bd_some h
    refine V_callSv X (As := [.ref (zad y (1, s1, 0))]) (M_X9_runClocks hs1 c24) (va_cwS 1 X.2.2.2.2.2.2.1 (gS wm_RX9_55 wst_X9_runClocks win_RX9 wc_X9_runClocks) rfl rfl rfl hd_X9_runClocks.2 ⟨Nat.le_of_ble_eq_true rfl, Nat.le_of_ble_eq_true rfl⟩) rfl (Nat.le_of_ble_eq_true rfl) dX9_play_90 rfl ?_
    refine V_aload_n X 2 dX9_play_93 rfl rfl ?_
    refine V_sipush X 9999 dX9_play_94 (by decide) ?_
    refine V_aload_n X 2 dX9_play_97 rfl rfl ?_
    refine V_geti X (o := (1, s1, 0)) (ci := 7) (k := 7) (N := 11) (T := TX7) (C := RX7) ⟨hs1, rfl⟩ rfl rfl rfl (by decide) (mBa inB_X7) (mB wl_RX9_58) dX9_play_98 ?_
    refine V_iconst X 1 dX9_play_101 (by decide) ?_
    refine V_iadd X dX9_play_102 ?_
    refine V_zmin X (ix := 63) (mB wm_RX9_63) (mB wst_Math_min) (mB win_Math) (mB wc_Math_min) (Nat.le_of_ble_eq_true rfl) (Nat.le_of_ble_eq_true rfl) dX9_play_103 ?_
    refine V_puti X tyX7 .int (o := (1, s1, 0)) (ci := 7) (k := 7) (N := 11) (T := TX7) (C := RX7) ⟨hs1, rfl⟩ rfl rfl rfl (by decide) (mBa inB_X7) tyX7_ok nmX7 (mB wl_RX9_58) rfl rfl rfl rfl dX9_play_106 ?_
    refine zlt_el (P := fun (μ26 : ZMem) => V X μ26 109 [(5, .int x21), (0, .ref (zad y (0, 4, 0))), (1, .ref (zad y (1, s1, 0))), (3, .int x3), (4, .int x5)] []) h (fun μ26 h => ?_)
    refine V_iload X 0 dX9_play_109 rfl ?_
    refine V_callSi X (As := [.int x21]) (M_J6_bitCount_0f7a4) (va_cwS 1 X.2.2.2.2.2.2.1 (gS wm_RX9_69 wst_J6_bitCount_0f7a4 win_RJ6 wc_J6_bitCount_0f7a4) rfl rfl rfl hd_J6_bitCount_0f7a4.2 ⟨Nat.le_of_ble_eq_true rfl, Nat.le_of_ble_eq_true rfl⟩) rfl (Nat.le_of_ble_eq_true rfl) dX9_play_111 rfl ?_
    exact V_iretW X h dX9_play_114
  replace h := h1
  clear h1
  refine V_if_ne X (tgt := 37) dX9_play_27 (by decide) (fun b7 => ?_) (fun b7 => ?_)
  · replace h := (if_neg b7).symm.trans h
    refine V_aload_n X 2 dX9_play_37 rfl rfl ?_
    refine V_aload_n X 3 dX9_play_38 rfl rfl ?_
    refine V_iload X 0 dX9_play_39 rfl ?_
    obtain ⟨μ10, c9, h⟩ := bd_some h
    refine V_callVv X (As := [.ref (zad y (1, s1, 0)), .int x5]) (M_X9_joinAll hs1 c9) (cwV 2 X.2.2.2.2.2.2.1 (gV wm_RX9_37 wi_X9_joinAll wse_X9_joinAll win_RX9 wc_X9_joinAll) rfl rfl rfl hd_X9_joinAll ⟨Nat.le_of_ble_eq_true rfl, Nat.le_of_ble_eq_true rfl⟩) (b := (0, 4, 0)) ⟨by decide, rfl⟩ rfl rfl rfl rfl (Nat.le_of_ble_eq_true rfl) dX9_play_41 rfl ?_
    refine V_sub X [2, 3, 1, 0] (lv' := [(0, .ref (zad y (0, 4, 0))), (1, .ref (zad y (1, s1, 0))), (3, .int x3), (4, .int x5)]) rfl ?_
    obtain rfl := so1 h
    exact hk
  · replace h := (if_pos b7).symm.trans h
    refine V_aload_n X 3 dX9_play_30 rfl rfl ?_
    obtain ⟨μ12, c11, h⟩ := bd_some h
    refine V_callSv X (As := [.ref (zad y (1, s1, 0))]) (M_X9_callOrWait hs1 c11) (va_cwS 1 X.2.2.2.2.2.2.1 (gS wm_RX9_34 wst_X9_callOrWait win_RX9 wc_X9_callOrWait) rfl rfl rfl hd_X9_callOrWait.2 ⟨Nat.le_of_ble_eq_true rfl, Nat.le_of_ble_eq_true rfl⟩) rfl (Nat.le_of_ble_eq_true rfl) dX9_play_31 rfl ?_
    refine V_goto X (tgt := 44) dX9_play_34 (by decide) ?_
    refine V_sub X [2, 3, 1, 0] (lv' := [(0, .ref (zad y (0, 4, 0))), (1, .ref (zad y (1, s1, 0))), (3, .int x3), (4, .int x5)]) rfl ?_
    obtain rfl := so1 h
    exact hk

def f_X11_putBytes (a1 : Int32) (μ : ZMem) : Option (ZMem) := bd (lp (σ := Int32 × ZMem) (fun q => un2 q (fun (x1 : Int32) (μ2 : ZMem) => if x1 < 0 then some (.inr μ2) else bd (α := ZMem) (if 400 ≤ (μ2 (0, 0, 0) 1) then some μ2 else gd (zin (μ2 (0, 0, 0) 1) 400) (zlt (mset μ2 (0, 1, 0) (μ2 (0, 0, 0) 1).toNatClampNeg ((zushr a1 x1) &&& 255)) (fun (μ8 : ZMem) => zlt (mset μ8 (0, 0, 0) 1 ((μ8 (0, 0, 0) 1) + 1)) (fun (μ9 : ZMem) => some μ9)))) (fun (μ6 : ZMem) => some (.inl ((x1 + (-8)), μ6))))) FU (24, μ)) (fun (μ3 : ZMem) => some μ3)
set_option maxRecDepth 100000 in
set_option maxHeartbeats 4000000 in
theorem M_X11_putBytes {l : Launch} {D : va_G} {y : ZLay} {a1 : Int32}  {μ : ZMem} {μ0 : ZMem} (h : f_X11_putBytes a1 μ = some μ0) : MV l yX11_putBytes wb_X11_putBytes rm_X11_putBytes D y [.ref (zad y (0, 0, 0)), .int a1] μ μ0 := by
  unfold f_X11_putBytes at h
  refine MV_of RX11 [(0, .ref (zad y (0, 0, 0))), (1, .int a1)] (by decide) rfl rfl (Nat.le_of_ble_eq_true rfl) rfl ?_
  intro p e s m args below meth c A X
  refine V_bipush X 24 dX11_putBytes_0 (by decide) ?_
  refine V_istore_n X [(2, .int 24), (0, .ref (zad y (0, 0, 0))), (1, .int a1)] dX11_putBytes_2 rfl (by decide) rfl ?_
  refine V_sub X [1, 2, 0] (lv' := [(0, .ref (zad y (0, 0, 0))), (1, .int a1), (2, .int 24)]) rfl ?_
  obtain ⟨μ3, hl, h⟩ := bd_some h
  have hk : V X μ3 51 [] [] := by
    clear hl
    exact V_vretW X h dX11_putBytes_51
  refine lp_ind (P := fun q => V X q.2 3 [(0, .ref (zad y (0, 0, 0))), (1, .int a1), (2, .int q.1)] []) (fun q z h hz => ?_) hl
  obtain ⟨x1, μ2⟩ := q
  replace h := un2_eq h
  show V X μ2 3 [(0, .ref (zad y (0, 0, 0))), (1, .int a1), (2, .int x1)] []
  refine V_iload_n X 2 dX11_putBytes_3 rfl rfl ?_
  refine V_if_lt X (tgt := 51) dX11_putBytes_4 (by decide) (fun b4 => ?_) (fun b4 => ?_)
  · replace h := (if_pos b4).symm.trans h
    refine V_sub X [] (lv' := []) rfl ?_
    cases h
    obtain rfl := pr1 hz
    exact hk
  · replace h := (if_neg b4).symm.trans h
    refine V_aload_n X 0 dX11_putBytes_7 rfl rfl ?_
    refine V_geti X (o := (0, 0, 0)) (ci := 11) (k := 1) (N := 16) (T := TX11) (C := RX11) ⟨by decide, rfl⟩ rfl rfl rfl (by decide) (mBa inB_X11) (mB wl_RX11_94) dX11_putBytes_8 ?_
    refine V_aload_n X 0 dX11_putBytes_11 rfl rfl ?_
    refine V_getr X (o := (0, 0, 0)) (i := (0, 1, 0)) (ci := 11) (k := 0) (N := 16) (T := TX11) (C := RX11) ⟨by decide, rfl⟩ rfl rfl rfl (by decide) (mBa inB_X11) (mB wl_RX11_9) dX11_putBytes_12 ?_
    refine V_alen X 400 (o := (0, 1, 0)) (n := 400) ⟨by decide, rfl⟩ rfl rfl (by decide) dX11_putBytes_15 ?_
    obtain ⟨μ6, h1, h⟩ := bd_some h
    have hk : V X μ6 45 [(0, .ref (zad y (0, 0, 0))), (1, .int a1), (2, .int x1)] [] := by
      clear h1
      refine V_inc X 2 (-8) [(2, .int (x1 + (-8))), (0, .ref (zad y (0, 0, 0))), (1, .int a1)] dX11_putBytes_45 rfl (by decide) (by decide) rfl ?_
      refine V_goto X (tgt := 3) dX11_putBytes_48 (by decide) ?_
      refine V_sub X [1, 2, 0] (lv' := [(0, .ref (zad y (0, 0, 0))), (1, .int a1), (2, .int (x1 + (-8)))]) rfl ?_
      cases h
      exact hz
    replace h := h1
    clear h1
    refine V_icmp_ge X (tgt := 45) dX11_putBytes_16 (by decide) (fun b5 => ?_) (fun b5 => ?_)
    · replace h := (if_pos b5).symm.trans h
      obtain rfl := so1 h
      exact hk
    · replace h := (if_neg b5).symm.trans h
      refine V_aload_n X 0 dX11_putBytes_19 rfl rfl ?_
      refine V_getr X (o := (0, 0, 0)) (i := (0, 1, 0)) (ci := 11) (k := 0) (N := 16) (T := TX11) (C := RX11) ⟨by decide, rfl⟩ rfl rfl rfl (by decide) (mBa inB_X11) (mB wl_RX11_9) dX11_putBytes_20 ?_
      refine V_aload_n X 0 dX11_putBytes_23 rfl rfl ?_
      refine V_geti X (o := (0, 0, 0)) (ci := 11) (k := 1) (N := 16) (T := TX11) (C := RX11) ⟨by decide, rfl⟩ rfl rfl rfl (by decide) (mBa inB_X11) (mB wl_RX11_94) dX11_putBytes_24 ?_
      refine V_iload_n X 1 dX11_putBytes_27 rfl rfl ?_
      refine V_iload_n X 2 dX11_putBytes_28 rfl rfl ?_
      refine V_iushr X dX11_putBytes_29 ?_
      refine V_sipush X 255 dX11_putBytes_30 (by decide) ?_
      refine V_iand X dX11_putBytes_33 ?_
      obtain ⟨g7, h⟩ := gd_some h
      refine V_iast X (μ2 (0, 0, 0) 1).toNatClampNeg rfl (o := (0, 1, 0)) (n := 400) ⟨by decide, rfl⟩ rfl rfl g7 dX11_putBytes_34 ?_
      refine zlt_el (P := fun (μ8 : ZMem) => V X μ8 35 [(0, .ref (zad y (0, 0, 0))), (1, .int a1), (2, .int x1)] []) h (fun μ8 h => ?_)
      refine V_aload_n X 0 dX11_putBytes_35 rfl rfl ?_
      refine V_dup X dX11_putBytes_36 rfl ?_
      refine V_geti X (o := (0, 0, 0)) (ci := 11) (k := 1) (N := 16) (T := TX11) (C := RX11) ⟨by decide, rfl⟩ rfl rfl rfl (by decide) (mBa inB_X11) (mB wl_RX11_94) dX11_putBytes_37 ?_
      refine V_iconst X 1 dX11_putBytes_40 (by decide) ?_
      refine V_iadd X dX11_putBytes_41 ?_
      refine V_puti X tyX11 .int (o := (0, 0, 0)) (ci := 11) (k := 1) (N := 16) (T := TX11) (C := RX11) ⟨by decide, rfl⟩ rfl rfl rfl (by decide) (mBa inB_X11) tyX11_ok nmX11 (mB wl_RX11_94) rfl rfl rfl rfl dX11_putBytes_42 ?_
      refine zlt_el (P := fun (μ9 : ZMem) => V X μ9 45 [(0, .ref (zad y (0, 0, 0))), (1, .int a1), (2, .int x1)] []) h (fun μ9 h => ?_)
      obtain rfl := so1 h
      exact hk

def f_X11_feed (a1 : Int32) (a2 : Int32) (a3 : Int32) (a4 : Int32) (a5 : Int32) (μ : ZMem) : Option (Int32 × ZMem) := if ((μ (0, 0, 0) 1) + 20) ≤ 400 then bd (f_X11_putBytes a1 μ) (fun (μ3 : ZMem) => bd (f_X11_putBytes a2 μ3) (fun (μ5 : ZMem) => bd (f_X11_putBytes a3 μ5) (fun (μ7 : ZMem) => bd (f_X11_putBytes a4 μ7) (fun (μ9 : ZMem) => bd (f_X11_putBytes a5 μ9) (fun (μ11 : ZMem) => some ((μ11 (0, 0, 0) 1), μ11)))))) else some ((-1), μ)
set_option maxRecDepth 100000 in
set_option maxHeartbeats 4000000 in
theorem M_X11_feed {l : Launch} {D : va_G} {y : ZLay} {a1 : Int32} {a2 : Int32} {a3 : Int32} {a4 : Int32} {a5 : Int32}  {μ : ZMem} {r : Int32} {μ0 : ZMem} (h : f_X11_feed a1 a2 a3 a4 a5 μ = some (r, μ0)) : MI l yX11_feed wb_X11_feed rm_X11_feed D y [.ref (zad y (0, 0, 0)), .int a1, .int a2, .int a3, .int a4, .int a5] μ r μ0 := by
  unfold f_X11_feed at h
  refine MI_of RX11 [(0, .ref (zad y (0, 0, 0))), (1, .int a1), (2, .int a2), (3, .int a3), (4, .int a4), (5, .int a5)] (by decide) rfl rfl (Nat.le_of_ble_eq_true rfl) rfl ?_
  intro p e s m args below meth c A X
  refine V_aload_n X 0 dX11_feed_0 rfl rfl ?_
  refine V_geti X (o := (0, 0, 0)) (ci := 11) (k := 1) (N := 16) (T := TX11) (C := RX11) ⟨by decide, rfl⟩ rfl rfl rfl (by decide) (mBa inB_X11) (mB wl_RX11_94) dX11_feed_1 ?_
  refine V_bipush X 20 dX11_feed_4 (by decide) ?_
  refine V_iadd X dX11_feed_6 ?_
  refine V_sipush X 400 dX11_feed_7 (by decide) ?_
  refine V_icmp_le X (tgt := 15) dX11_feed_10 (by decide) (fun b1 => ?_) (fun b1 => ?_)
  · replace h := (if_pos b1).symm.trans h
    refine V_aload_n X 0 dX11_feed_15 rfl rfl ?_
    refine V_iload_n X 1 dX11_feed_16 rfl rfl ?_
    obtain ⟨μ3, c2, h⟩ := bd_some h
    refine V_callVv X (As := [.int a1]) (M_X11_putBytes c2) (cwV 1 X.2.2.2.2.2.2.1 (gV wm_RX11_97 wi_X11_putBytes wse_X11_putBytes win_RX11 wc_X11_putBytes) rfl rfl rfl hd_X11_putBytes ⟨Nat.le_of_ble_eq_true rfl, Nat.le_of_ble_eq_true rfl⟩) (b := (0, 0, 0)) ⟨by decide, rfl⟩ rfl rfl rfl rfl (Nat.le_of_ble_eq_true rfl) dX11_feed_17 rfl ?_
    refine V_aload_n X 0 dX11_feed_20 rfl rfl ?_
    refine V_iload_n X 2 dX11_feed_21 rfl rfl ?_
    obtain ⟨μ5, c4, h⟩ := bd_some h
    refine V_callVv X (As := [.int a2]) (M_X11_putBytes c4) (cwV 1 X.2.2.2.2.2.2.1 (gV wm_RX11_97 wi_X11_putBytes wse_X11_putBytes win_RX11 wc_X11_putBytes) rfl rfl rfl hd_X11_putBytes ⟨Nat.le_of_ble_eq_true rfl, Nat.le_of_ble_eq_true rfl⟩) (b := (0, 0, 0)) ⟨by decide, rfl⟩ rfl rfl rfl rfl (Nat.le_of_ble_eq_true rfl) dX11_feed_22 rfl ?_
    refine V_aload_n X 0 dX11_feed_25 rfl rfl ?_
    refine V_iload_n X 3 dX11_feed_26 rfl rfl ?_
    obtain ⟨μ7, c6, h⟩ := bd_some h
    refine V_callVv X (As := [.int a3]) (M_X11_putBytes c6) (cwV 1 X.2.2.2.2.2.2.1 (gV wm_RX11_97 wi_X11_putBytes wse_X11_putBytes win_RX11 wc_X11_putBytes) rfl rfl rfl hd_X11_putBytes ⟨Nat.le_of_ble_eq_true rfl, Nat.le_of_ble_eq_true rfl⟩) (b := (0, 0, 0)) ⟨by decide, rfl⟩ rfl rfl rfl rfl (Nat.le_of_ble_eq_true rfl) dX11_feed_27 rfl ?_
    refine V_aload_n X 0 dX11_feed_30 rfl rfl ?_
    refine V_iload X 4 dX11_feed_31 rfl ?_
    obtain ⟨μ9, c8, h⟩ := bd_some h
    refine V_callVv X (As := [.int a4]) (M_X11_putBytes c8) (cwV 1 X.2.2.2.2.2.2.1 (gV wm_RX11_97 wi_X11_putBytes wse_X11_putBytes win_RX11 wc_X11_putBytes) rfl rfl rfl hd_X11_putBytes ⟨Nat.le_of_ble_eq_true rfl, Nat.le_of_ble_eq_true rfl⟩) (b := (0, 0, 0)) ⟨by decide, rfl⟩ rfl rfl rfl rfl (Nat.le_of_ble_eq_true rfl) dX11_feed_33 rfl ?_
    refine V_aload_n X 0 dX11_feed_36 rfl rfl ?_
    refine V_iload X 5 dX11_feed_37 rfl ?_
    obtain ⟨μ11, c10, h⟩ := bd_some h
    refine V_callVv X (As := [.int a5]) (M_X11_putBytes c10) (cwV 1 X.2.2.2.2.2.2.1 (gV wm_RX11_97 wi_X11_putBytes wse_X11_putBytes win_RX11 wc_X11_putBytes) rfl rfl rfl hd_X11_putBytes ⟨Nat.le_of_ble_eq_true rfl, Nat.le_of_ble_eq_true rfl⟩) (b := (0, 0, 0)) ⟨by decide, rfl⟩ rfl rfl rfl rfl (Nat.le_of_ble_eq_true rfl) dX11_feed_39 rfl ?_
    refine V_aload_n X 0 dX11_feed_42 rfl rfl ?_
    refine V_geti X (o := (0, 0, 0)) (ci := 11) (k := 1) (N := 16) (T := TX11) (C := RX11) ⟨by decide, rfl⟩ rfl rfl rfl (by decide) (mBa inB_X11) (mB wl_RX11_94) dX11_feed_43 ?_
    exact V_iretW X h dX11_feed_46
  · replace h := (if_neg b1).symm.trans h
    refine V_iconst X (-1) dX11_feed_13 (by decide) ?_
    exact V_iretW X h dX11_feed_14

def f_X11_end (a1 : Int32) (μ : ZMem) : Option (Int32 × ZMem) := jk (some (0, μ)) (fun k2 => if a1 < 0 then k2 else if a1 ≤ (μ (0, 0, 0) 1) then zlt (mset μ (0, 0, 0) 1 a1) (fun (μ4 : ZMem) => some (1, μ4)) else k2)
set_option maxRecDepth 100000 in
set_option maxHeartbeats 4000000 in
theorem M_X11_end {l : Launch} {D : va_G} {y : ZLay} {a1 : Int32}  {μ : ZMem} {r : Int32} {μ0 : ZMem} (h : f_X11_end a1 μ = some (r, μ0)) : MI l yX11_end wb_X11_end rm_X11_end D y [.ref (zad y (0, 0, 0)), .int a1] μ r μ0 := by
  unfold f_X11_end at h
  refine MI_of RX11 [(0, .ref (zad y (0, 0, 0))), (1, .int a1)] (by decide) rfl rfl (Nat.le_of_ble_eq_true rfl) rfl ?_
  intro p e s m args below meth c A X
  refine V_iload_n X 1 dX11_end_0 rfl rfl ?_
  refine jk0_el (P := V X μ 12 [] []) h (fun h => ?_) (fun k2 hk2 h => ?_)
  · refine V_iconst X 0 dX11_end_12 (by decide) ?_
    exact V_zretW X h (by decide) dX11_end_13
  · refine V_if_lt X (tgt := 12) dX11_end_1 (by decide) (fun b1 => ?_) (fun b1 => ?_)
    · replace h := (if_pos b1).symm.trans h
      refine V_sub X [] (lv' := []) rfl ?_
      exact hk2 h
    · replace h := (if_neg b1).symm.trans h
      refine V_iload_n X 1 dX11_end_4 rfl rfl ?_
      refine V_aload_n X 0 dX11_end_5 rfl rfl ?_
      refine V_geti X (o := (0, 0, 0)) (ci := 11) (k := 1) (N := 16) (T := TX11) (C := RX11) ⟨by decide, rfl⟩ rfl rfl rfl (by decide) (mBa inB_X11) (mB wl_RX11_94) dX11_end_6 ?_
      refine V_icmp_le X (tgt := 14) dX11_end_9 (by decide) (fun b3 => ?_) (fun b3 => ?_)
      · replace h := (if_pos b3).symm.trans h
        refine V_aload_n X 0 dX11_end_14 rfl rfl ?_
        refine V_iload_n X 1 dX11_end_15 rfl rfl ?_
        refine V_puti X tyX11 .int (o := (0, 0, 0)) (ci := 11) (k := 1) (N := 16) (T := TX11) (C := RX11) ⟨by decide, rfl⟩ rfl rfl rfl (by decide) (mBa inB_X11) tyX11_ok nmX11 (mB wl_RX11_94) rfl rfl rfl rfl dX11_end_16 ?_
        refine zlt_el (P := fun (μ4 : ZMem) => V X μ4 19 [(0, .ref (zad y (0, 0, 0))), (1, .int a1)] []) h (fun μ4 h => ?_)
        refine V_iconst X 1 dX11_end_19 (by decide) ?_
        exact V_zretW X h (by decide) dX11_end_20
      · replace h := (if_neg b3).symm.trans h
        refine V_sub X [] (lv' := []) rfl ?_
        exact hk2 h

def f_X11_useTape (μ : ZMem) : Option (Int32 × ZMem) := zlt (μ (0, 0, 0) 1) (fun (x1 : Int32) => zlt (mset μ (0, 0, 0) 1 0) (fun (μ2 : ZMem) => some (x1, μ2)))
set_option maxRecDepth 100000 in
set_option maxHeartbeats 4000000 in
theorem M_X11_useTape {l : Launch} {D : va_G} {y : ZLay}   {μ : ZMem} {r : Int32} {μ0 : ZMem} (h : f_X11_useTape μ = some (r, μ0)) : MI l yX11_useTape wb_X11_useTape rm_X11_useTape D y [.ref (zad y (0, 0, 0))] μ r μ0 := by
  unfold f_X11_useTape at h
  refine MI_of RX11 [(0, .ref (zad y (0, 0, 0)))] (by decide) rfl rfl (Nat.le_of_ble_eq_true rfl) rfl ?_
  intro p e s m args below meth c A X
  refine V_aload_n X 0 dX11_useTape_0 rfl rfl ?_
  refine V_geti X (o := (0, 0, 0)) (ci := 11) (k := 1) (N := 16) (T := TX11) (C := RX11) ⟨by decide, rfl⟩ rfl rfl rfl (by decide) (mBa inB_X11) (mB wl_RX11_94) dX11_useTape_1 ?_
  refine V_istore_n X [(1, .int (μ (0, 0, 0) 1)), (0, .ref (zad y (0, 0, 0)))] dX11_useTape_4 rfl (by decide) rfl ?_
  refine zlt_el (P := fun (x1 : Int32) => V X μ 5 [(1, .int x1), (0, .ref (zad y (0, 0, 0)))] []) h (fun x1 h => ?_)
  refine V_aload_n X 1 dX11_useTape_5 rfl rfl ?_
  refine V_iconst X 0 dX11_useTape_6 (by decide) ?_
  refine V_puti X tyX11 .int (o := (0, 0, 0)) (ci := 11) (k := 1) (N := 16) (T := TX11) (C := RX11) ⟨by decide, rfl⟩ rfl rfl rfl (by decide) (mBa inB_X11) tyX11_ok nmX11 (mB wl_RX11_94) rfl rfl rfl rfl dX11_useTape_7 ?_
  refine zlt_el (P := fun (μ2 : ZMem) => V X μ2 10 [(1, .int x1), (0, .ref (zad y (0, 0, 0)))] []) h (fun μ2 h => ?_)
  refine V_iload_n X 0 dX11_useTape_10 rfl rfl ?_
  exact V_iretW X h dX11_useTape_11

def f_X11_cluster (y : ZLay) (μ : ZMem) : Option ((Int32 ⊕ Nat) × ZMem) := bd2 (f_X11_useTape μ) (fun (x2 : Int32) (μ3 : ZMem) => bd (f_X8_load y (0, 1, 0) x2 μ3) (fun (μ5 : ZMem) => bd (f_X7_copyFrom 1 0 μ5) (fun (μ7 : ZMem) => bd (f_X0_readInto 1 μ7) (fun (μ9 : ZMem) => zlt (mset μ9 (0, 0, 0) 2 (μ9 (0, 20, 0) 0)) (fun (μ10 : ZMem) => if (μ10 (0, 0, 0) 2) = (-1) then if (μ10 (1, 0, 0) 9) < 12 then bd (f_X7_copyFrom 0 1 μ10) (fun (μ14 : ZMem) => zlt (mset μ14 (1, 0, 0) 9 ((μ14 (1, 0, 0) 9) + 1)) (fun (μ15 : ZMem) => bd (f_X6_forget μ15) (fun (μ17 : ZMem) => some (.inl (μ17 (1, 0, 0) 9), μ17)))) else some (.inr 2, μ10) else some (.inr 1, μ10))))))
set_option maxRecDepth 100000 in
set_option maxHeartbeats 4000000 in
theorem M_X11_cluster {l : Launch} {D : va_G} {y : ZLay}   {μ : ZMem} {res : Int32 ⊕ Nat} {μ0 : ZMem} (hlf : l.stackTraces = false) (h : f_X11_cluster y μ = some (res, μ0)) : MX l yX11_cluster wb_X11_cluster rm_X11_cluster D y [.ref (zad y (0, 0, 0))] μ res μ0 := by
  unfold f_X11_cluster at h
  refine MX_of RX11 [(0, .ref (zad y (0, 0, 0)))] (by decide) rfl rfl (Nat.le_of_ble_eq_true rfl) rfl ?_
  intro p e s m args below meth c A X hex
  refine V_aload_n X 0 dX11_cluster_0 rfl rfl ?_
  refine V_getr X (o := (0, 0, 0)) (i := (0, 20, 0)) (ci := 11) (k := 11) (N := 16) (T := TX11) (C := RX11) ⟨by decide, rfl⟩ rfl rfl rfl (by decide) (mBa inB_X11) (mB wl_RX11_41) dX11_cluster_1 ?_
  refine V_aload_n X 0 dX11_cluster_4 rfl rfl ?_
  refine V_getr X (o := (0, 0, 0)) (i := (0, 1, 0)) (ci := 11) (k := 0) (N := 16) (T := TX11) (C := RX11) ⟨by decide, rfl⟩ rfl rfl rfl (by decide) (mBa inB_X11) (mB wl_RX11_9) dX11_cluster_5 ?_
  refine V_aload_n X 0 dX11_cluster_8 rfl rfl ?_
  obtain ⟨x2, μ3, c1, h⟩ := bd2_some h
  refine V_callVi X (As := []) (M_X11_useTape c1) (cwV 0 X.2.2.2.2.2.2.1 (gV wm_RX11_101 wi_X11_useTape wse_X11_useTape win_RX11 wc_X11_useTape) rfl rfl rfl hd_X11_useTape ⟨Nat.le_of_ble_eq_true rfl, Nat.le_of_ble_eq_true rfl⟩) (b := (0, 0, 0)) ⟨by decide, rfl⟩ rfl rfl rfl rfl (Nat.le_of_ble_eq_true rfl) dX11_cluster_9 rfl ?_
  obtain ⟨μ5, c4, h⟩ := bd_some h
  refine V_callVv X (As := [.ref (zad y (0, 1, 0)), .int x2]) (M_X8_load (show okI y (0, 1, 0) from ⟨by decide, rfl⟩) (show zisI (0, 1, 0) = true from rfl) c4) (cwV 2 X.2.2.2.2.2.2.1 (gV wm_RX11_105 wi_X8_load wse_X8_load win_RX8 wc_X8_load) rfl rfl rfl hd_X8_load ⟨Nat.le_of_ble_eq_true rfl, Nat.le_of_ble_eq_true rfl⟩) (b := (0, 20, 0)) ⟨by decide, rfl⟩ rfl rfl rfl rfl (Nat.le_of_ble_eq_true rfl) dX11_cluster_12 rfl ?_
  refine V_aload_n X 0 dX11_cluster_15 rfl rfl ?_
  refine V_getr X (o := (0, 0, 0)) (i := (1, 1, 0)) (ci := 11) (k := 4) (N := 16) (T := TX11) (C := RX11) ⟨by decide, rfl⟩ rfl rfl rfl (by decide) (mBa inB_X11) (mB wl_RX11_81) dX11_cluster_16 ?_
  refine V_aload_n X 0 dX11_cluster_19 rfl rfl ?_
  refine V_getr X (o := (0, 0, 0)) (i := (1, 0, 0)) (ci := 11) (k := 3) (N := 16) (T := TX11) (C := RX11) ⟨by decide, rfl⟩ rfl rfl rfl (by decide) (mBa inB_X11) (mB wl_RX11_77) dX11_cluster_20 ?_
  obtain ⟨μ7, c6, h⟩ := bd_some h
  refine V_callVv X (As := [.ref (zad y (1, 0, 0))]) (M_X7_copyFrom (by decide) (by decide) c6) (cwV 1 X.2.2.2.2.2.2.1 (gV wm_RX11_109 wi_X7_copyFrom wse_X7_copyFrom win_RX7 wc_X7_copyFrom) rfl rfl rfl hd_X7_copyFrom ⟨Nat.le_of_ble_eq_true rfl, Nat.le_of_ble_eq_true rfl⟩) (b := (1, 1, 0)) ⟨(by decide), rfl⟩ rfl rfl rfl rfl (Nat.le_of_ble_eq_true rfl) dX11_cluster_23 rfl ?_
  refine V_aload_n X 0 dX11_cluster_26 rfl rfl ?_
  refine V_getr X (o := (0, 0, 0)) (i := (0, 23, 0)) (ci := 11) (k := 12) (N := 16) (T := TX11) (C := RX11) ⟨by decide, rfl⟩ rfl rfl rfl (by decide) (mBa inB_X11) (mB wl_RX11_50) dX11_cluster_27 ?_
  refine V_aload_n X 0 dX11_cluster_30 rfl rfl ?_
  refine V_getr X (o := (0, 0, 0)) (i := (1, 1, 0)) (ci := 11) (k := 4) (N := 16) (T := TX11) (C := RX11) ⟨by decide, rfl⟩ rfl rfl rfl (by decide) (mBa inB_X11) (mB wl_RX11_81) dX11_cluster_31 ?_
  obtain ⟨μ9, c8, h⟩ := bd_some h
  refine V_callVv X (As := [.ref (zad y (1, 1, 0))]) (M_X0_readInto (by decide) c8) (cwV 1 X.2.2.2.2.2.2.1 (gV wm_RX11_113 wi_X0_readInto wse_X0_readInto win_RX0 wc_X0_readInto) rfl rfl rfl hd_X0_readInto ⟨Nat.le_of_ble_eq_true rfl, Nat.le_of_ble_eq_true rfl⟩) (b := (0, 23, 0)) ⟨by decide, rfl⟩ rfl rfl rfl rfl (Nat.le_of_ble_eq_true rfl) dX11_cluster_34 rfl ?_
  refine V_aload_n X 0 dX11_cluster_37 rfl rfl ?_
  refine V_aload_n X 0 dX11_cluster_38 rfl rfl ?_
  refine V_getr X (o := (0, 0, 0)) (i := (0, 20, 0)) (ci := 11) (k := 11) (N := 16) (T := TX11) (C := RX11) ⟨by decide, rfl⟩ rfl rfl rfl (by decide) (mBa inB_X11) (mB wl_RX11_41) dX11_cluster_39 ?_
  refine V_geti X (o := (0, 20, 0)) (ci := 8) (k := 0) (N := 5) (T := TX8) (C := RX8) ⟨by decide, rfl⟩ rfl rfl rfl (by decide) (mBa inB_X8) (mB wl_RX11_116) dX11_cluster_42 ?_
  refine V_puti X tyX11 .int (o := (0, 0, 0)) (ci := 11) (k := 2) (N := 16) (T := TX11) (C := RX11) ⟨by decide, rfl⟩ rfl rfl rfl (by decide) (mBa inB_X11) tyX11_ok nmX11 (mB wl_RX11_13) rfl rfl rfl rfl dX11_cluster_45 ?_
  refine zlt_el (P := fun (μ10 : ZMem) => V X μ10 48 [(0, .ref (zad y (0, 0, 0)))] []) h (fun μ10 h => ?_)
  refine V_aload_n X 0 dX11_cluster_48 rfl rfl ?_
  refine V_geti X (o := (0, 0, 0)) (ci := 11) (k := 2) (N := 16) (T := TX11) (C := RX11) ⟨by decide, rfl⟩ rfl rfl rfl (by decide) (mBa inB_X11) (mB wl_RX11_13) dX11_cluster_49 ?_
  refine V_iconst X (-1) dX11_cluster_52 (by decide) ?_
  refine V_icmp_eq X (tgt := 64) dX11_cluster_53 (by decide) (fun b11 => ?_) (fun b11 => ?_)
  · replace h := (if_pos b11).symm.trans h
    refine V_aload_n X 0 dX11_cluster_64 rfl rfl ?_
    refine V_getr X (o := (0, 0, 0)) (i := (1, 0, 0)) (ci := 11) (k := 3) (N := 16) (T := TX11) (C := RX11) ⟨by decide, rfl⟩ rfl rfl rfl (by decide) (mBa inB_X11) (mB wl_RX11_77) dX11_cluster_65 ?_
    refine V_geti X (o := (1, 0, 0)) (ci := 7) (k := 9) (N := 11) (T := TX7) (C := RX7) ⟨(by decide), rfl⟩ rfl rfl rfl (by decide) (mBa inB_X7) (mB wl_RX11_122) dX11_cluster_68 ?_
    refine V_bipush X 12 dX11_cluster_71 (by decide) ?_
    refine V_icmp_lt X (tgt := 84) dX11_cluster_73 (by decide) (fun b12 => ?_) (fun b12 => ?_)
    · replace h := (if_pos b12).symm.trans h
      refine V_aload_n X 0 dX11_cluster_84 rfl rfl ?_
      refine V_getr X (o := (0, 0, 0)) (i := (1, 0, 0)) (ci := 11) (k := 3) (N := 16) (T := TX11) (C := RX11) ⟨by decide, rfl⟩ rfl rfl rfl (by decide) (mBa inB_X11) (mB wl_RX11_77) dX11_cluster_85 ?_
      refine V_aload_n X 0 dX11_cluster_88 rfl rfl ?_
      refine V_getr X (o := (0, 0, 0)) (i := (1, 1, 0)) (ci := 11) (k := 4) (N := 16) (T := TX11) (C := RX11) ⟨by decide, rfl⟩ rfl rfl rfl (by decide) (mBa inB_X11) (mB wl_RX11_81) dX11_cluster_89 ?_
      obtain ⟨μ14, c13, h⟩ := bd_some h
      refine V_callVv X (As := [.ref (zad y (1, 1, 0))]) (M_X7_copyFrom (by decide) (by decide) c13) (cwV 1 X.2.2.2.2.2.2.1 (gV wm_RX11_109 wi_X7_copyFrom wse_X7_copyFrom win_RX7 wc_X7_copyFrom) rfl rfl rfl hd_X7_copyFrom ⟨Nat.le_of_ble_eq_true rfl, Nat.le_of_ble_eq_true rfl⟩) (b := (1, 0, 0)) ⟨(by decide), rfl⟩ rfl rfl rfl rfl (Nat.le_of_ble_eq_true rfl) dX11_cluster_92 rfl ?_
      refine V_aload_n X 0 dX11_cluster_95 rfl rfl ?_
      refine V_getr X (o := (0, 0, 0)) (i := (1, 0, 0)) (ci := 11) (k := 3) (N := 16) (T := TX11) (C := RX11) ⟨by decide, rfl⟩ rfl rfl rfl (by decide) (mBa inB_X11) (mB wl_RX11_77) dX11_cluster_96 ?_
      refine V_dup X dX11_cluster_99 rfl ?_
      refine V_geti X (o := (1, 0, 0)) (ci := 7) (k := 9) (N := 11) (T := TX7) (C := RX7) ⟨(by decide), rfl⟩ rfl rfl rfl (by decide) (mBa inB_X7) (mB wl_RX11_122) dX11_cluster_100 ?_
      refine V_iconst X 1 dX11_cluster_103 (by decide) ?_
      refine V_iadd X dX11_cluster_104 ?_
      refine V_puti X tyX7 .int (o := (1, 0, 0)) (ci := 7) (k := 9) (N := 11) (T := TX7) (C := RX7) ⟨(by decide), rfl⟩ rfl rfl rfl (by decide) (mBa inB_X7) tyX7_ok nmX7 (mB wl_RX11_122) rfl rfl rfl rfl dX11_cluster_105 ?_
      refine zlt_el (P := fun (μ15 : ZMem) => V X μ15 108 [(0, .ref (zad y (0, 0, 0)))] []) h (fun μ15 h => ?_)
      refine V_aload_n X 0 dX11_cluster_108 rfl rfl ?_
      refine V_getr X (o := (0, 0, 0)) (i := (0, 2, 0)) (ci := 11) (k := 7) (N := 16) (T := TX11) (C := RX11) ⟨by decide, rfl⟩ rfl rfl rfl (by decide) (mBa inB_X11) (mB wl_RX11_90) dX11_cluster_109 ?_
      obtain ⟨μ17, c16, h⟩ := bd_some h
      refine V_callVv X (As := []) (M_X6_forget c16) (cwV 0 X.2.2.2.2.2.2.1 (gV wm_RX11_128 wi_X6_forget wse_X6_forget win_RX6 wc_X6_forget) rfl rfl rfl hd_X6_forget ⟨Nat.le_of_ble_eq_true rfl, Nat.le_of_ble_eq_true rfl⟩) (b := (0, 2, 0)) ⟨by decide, rfl⟩ rfl rfl rfl rfl (Nat.le_of_ble_eq_true rfl) dX11_cluster_112 rfl ?_
      refine V_aload_n X 0 dX11_cluster_115 rfl rfl ?_
      refine V_getr X (o := (0, 0, 0)) (i := (1, 0, 0)) (ci := 11) (k := 3) (N := 16) (T := TX11) (C := RX11) ⟨by decide, rfl⟩ rfl rfl rfl (by decide) (mBa inB_X11) (mB wl_RX11_77) dX11_cluster_116 ?_
      refine V_geti X (o := (1, 0, 0)) (ci := 7) (k := 9) (N := 11) (T := TX7) (C := RX7) ⟨(by decide), rfl⟩ rfl rfl rfl (by decide) (mBa inB_X7) (mB wl_RX11_122) dX11_cluster_119 ?_
      exact V_iretX X h dX11_cluster_122
    · replace h := (if_neg b12).symm.trans h
      exact V_throw X hex hlf (ik := 125) (ic := 127) 2 h (by decide +kernel) (by decide +kernel) (mB wcl_RX11_125) (mB wine_2) (mBa wx_2) wx_n2 wx_g2 dX11_cluster_76 dX11_cluster_79 dX11_cluster_80 dX11_cluster_83 (Nat.le_of_ble_eq_true rfl) (Nat.le_of_ble_eq_true rfl) (Nat.le_of_ble_eq_true rfl) (Nat.le_of_ble_eq_true rfl)
  · replace h := (if_neg b11).symm.trans h
    exact V_throw X hex hlf (ik := 119) (ic := 121) 1 h (by decide +kernel) (by decide +kernel) (mB wcl_RX11_119) (mB wine_1) (mBa wx_1) wx_n1 wx_g1 dX11_cluster_56 dX11_cluster_59 dX11_cluster_60 dX11_cluster_63 (Nat.le_of_ble_eq_true rfl) (Nat.le_of_ble_eq_true rfl) (Nat.le_of_ble_eq_true rfl) (Nat.le_of_ble_eq_true rfl)

def f_X11_fault (μ : ZMem) : Int32 := (μ (0, 0, 0) 2)
set_option maxRecDepth 100000 in
set_option maxHeartbeats 4000000 in
theorem M_X11_fault {l : Launch} {D : va_G} {y : ZLay}   {μ : ZMem} : MI l yX11_fault wb_X11_fault rm_X11_fault D y [.ref (zad y (0, 0, 0))] μ (f_X11_fault μ) μ := by
  obtain ⟨r, h⟩ : ∃ r, f_X11_fault μ = r := ⟨_, rfl⟩
  rw [h]
  unfold f_X11_fault at h
  refine MI_of RX11 [(0, .ref (zad y (0, 0, 0)))] (by decide) rfl rfl (Nat.le_of_ble_eq_true rfl) rfl ?_
  intro p e s m args below meth c A X
  refine V_aload_n X 0 dX11_fault_0 rfl rfl ?_
  refine V_geti X (o := (0, 0, 0)) (ci := 11) (k := 2) (N := 16) (T := TX11) (C := RX11) ⟨by decide, rfl⟩ rfl rfl rfl (by decide) (mBa inB_X11) (mB wl_RX11_13) dX11_fault_1 ?_
  exact V_iretT X h dX11_fault_4

def f_X11_isNode (a1 : Int32) (μ : ZMem) : Option (Int32) := bd (α := Int32) (jk (some 0) (fun k3 => if a1 < 0 then k3 else if (μ (1, 0, 0) 4) ≤ a1 then k3 else if 8 ≤ a1 then k3 else some 1)) (fun (x2 : Int32) => gd (zbo x2) (some x2))
set_option maxRecDepth 100000 in
set_option maxHeartbeats 4000000 in
theorem M_X11_isNode {l : Launch} {D : va_G} {y : ZLay} {a1 : Int32}  {μ : ZMem} {r : Int32} (h : f_X11_isNode a1 μ = some r) : MI l yX11_isNode wb_X11_isNode rm_X11_isNode D y [.ref (zad y (0, 0, 0)), .int a1] μ r μ := by
  unfold f_X11_isNode at h
  refine MI_of RX11 [(0, .ref (zad y (0, 0, 0))), (1, .int a1)] (by decide) rfl rfl (Nat.le_of_ble_eq_true rfl) rfl ?_
  intro p e s m args below meth c A X
  refine V_iload_n X 1 dX11_isNode_0 rfl rfl ?_
  obtain ⟨x2, h1, h⟩ := bd_some h
  have hk : V X μ 26 [] [.int x2] := by
    clear h1
    obtain ⟨hzb, h⟩ := gd_some h
    exact V_zretR X h hzb dX11_isNode_26
  replace h := h1
  clear h1
  refine jk0_el (P := V X μ 25 [] []) h (fun h => ?_) (fun k3 hk3 h => ?_)
  · refine V_iconst X 0 dX11_isNode_25 (by decide) ?_
    obtain rfl := so1 h
    exact hk
  · refine V_if_lt X (tgt := 25) dX11_isNode_1 (by decide) (fun b1 => ?_) (fun b1 => ?_)
    · replace h := (if_pos b1).symm.trans h
      refine V_sub X [] (lv' := []) rfl ?_
      exact hk3 h
    · replace h := (if_neg b1).symm.trans h
      refine V_iload_n X 1 dX11_isNode_4 rfl rfl ?_
      refine V_aload_n X 0 dX11_isNode_5 rfl rfl ?_
      refine V_getr X (o := (0, 0, 0)) (i := (1, 0, 0)) (ci := 11) (k := 3) (N := 16) (T := TX11) (C := RX11) ⟨by decide, rfl⟩ rfl rfl rfl (by decide) (mBa inB_X11) (mB wl_RX11_77) dX11_isNode_6 ?_
      refine V_geti X (o := (1, 0, 0)) (ci := 7) (k := 4) (N := 11) (T := TX7) (C := RX7) ⟨(by decide), rfl⟩ rfl rfl rfl (by decide) (mBa inB_X7) (mB wl_RX11_145) dX11_isNode_9 ?_
      refine V_icmp_ge X (tgt := 25) dX11_isNode_12 (by decide) (fun b4 => ?_) (fun b4 => ?_)
      · replace h := (if_pos b4).symm.trans h
        refine V_sub X [] (lv' := []) rfl ?_
        exact hk3 h
      · replace h := (if_neg b4).symm.trans h
        refine V_iload_n X 1 dX11_isNode_15 rfl rfl ?_
        refine V_bipush X 8 dX11_isNode_16 (by decide) ?_
        refine V_icmp_ge X (tgt := 25) dX11_isNode_18 (by decide) (fun b5 => ?_) (fun b5 => ?_)
        · replace h := (if_pos b5).symm.trans h
          refine V_sub X [] (lv' := []) rfl ?_
          exact hk3 h
        · replace h := (if_neg b5).symm.trans h
          refine V_iconst X 1 dX11_isNode_21 (by decide) ?_
          refine V_goto X (tgt := 26) dX11_isNode_22 (by decide) ?_
          refine V_sub X [] (lv' := []) rfl ?_
          obtain rfl := so1 h
          exact hk

def f_X11_node (y : ZLay) (a1 : Int32) (a2 : Int32) (μ : ZMem) : Option ((Int32 ⊕ Nat) × ZMem) := bd (f_X11_isNode a1 μ) (fun (x2 : Int32) => if x2 = 0 then some (.inr 3, μ) else jk (some (.inr 4, μ)) (fun k5 => if a2 < 0 then k5 else if a2 ≤ 17 then if 10 < a2 then bd (f_X10_look y 0 μ) (fun (μ9 : ZMem) => if a2 = 11 then gd (zin a1 8) (some (.inl (μ9 (0, 8, 0) a1.toNatClampNeg), μ9)) else if a2 = 12 then gd (zin a1 8) (some (.inl (μ9 (0, 9, 0) a1.toNatClampNeg), μ9)) else if a2 = 13 then bd2 (f_X3_sum y ((μ9 (1, 0, 0) 10).toNatClampNeg) 0 a1 1012 μ9) (fun (x31 : Int32) (μ32 : ZMem) => some (.inl x31, μ32)) else if a2 = 14 then some (.inl (((μ9 (0, 5, 0) 5) >>> (a1 &&& 31)) &&& 1), μ9) else if a2 = 15 then bd (f_X1_load μ9) (fun (μ26 : ZMem) => bd (f_X1_cliqueOf a1 μ26) (fun (x28 : Int32) => some (.inl x28, μ26))) else if a2 = 16 then gd (zin a1 8) (bd2 (α := Int32) (β := ZMem) (if (μ9 (3, 0, a1.toNatClampNeg) 3) = 2 then bd2 (f_X10_middleOf y 0 a1 (μ9 (0, 5, 0) 5) μ9) (fun (x23 : Int32) (μ24 : ZMem) => some (x23, μ24)) else some (0, μ9)) (fun (x20 : Int32) (μ21 : ZMem) => some (.inl x20, μ21))) else bd (f_X7_knowing 0 a1 μ9) (fun (x17 : Int32) => some (.inl x17, μ9))) else gd (zin a1 8) (some (.inl (f_X5_told 0 a1.toNatClampNeg a2 μ), μ)) else k5))
set_option maxRecDepth 100000 in
set_option maxHeartbeats 4000000 in
theorem M_X11_node {l : Launch} {D : va_G} {y : ZLay} {a1 : Int32} {a2 : Int32}  {μ : ZMem} {res : Int32 ⊕ Nat} {μ0 : ZMem} (hlf : l.stackTraces = false) (h : f_X11_node y a1 a2 μ = some (res, μ0)) : MX l yX11_node wb_X11_node rm_X11_node D y [.ref (zad y (0, 0, 0)), .int a1, .int a2] μ res μ0 := by
  unfold f_X11_node at h
  refine MX_of RX11 [(0, .ref (zad y (0, 0, 0))), (1, .int a1), (2, .int a2)] (by decide) rfl rfl (Nat.le_of_ble_eq_true rfl) rfl ?_
  intro p e s m args below meth c A X hex
  refine V_aload_n X 0 dX11_node_0 rfl rfl ?_
  refine V_iload_n X 1 dX11_node_1 rfl rfl ?_
  obtain ⟨x2, c1, h⟩ := bd_some h
  refine V_callVi X (As := [.int a1]) (M_X11_isNode c1) (cwV 1 X.2.2.2.2.2.2.1 (gV wm_RX11_148 wi_X11_isNode wse_X11_isNode win_RX11 wc_X11_isNode) rfl rfl rfl hd_X11_isNode ⟨Nat.le_of_ble_eq_true rfl, Nat.le_of_ble_eq_true rfl⟩) (b := (0, 0, 0)) ⟨by decide, rfl⟩ rfl rfl rfl rfl (Nat.le_of_ble_eq_true rfl) dX11_node_2 rfl ?_
  refine V_if_ne X (tgt := 16) dX11_node_5 (by decide) (fun b3 => ?_) (fun b3 => ?_)
  · replace h := (if_neg b3).symm.trans h
    refine V_iload_n X 2 dX11_node_16 rfl rfl ?_
    refine jk0_el (P := V X μ 26 [] []) h (fun h => ?_) (fun k5 hk5 h => ?_)
    · exact V_throw X hex hlf (ik := 155) (ic := 157) 4 h (by decide +kernel) (by decide +kernel) (mB wcl_RX11_155) (mB wine_4) (mBa wx_4) wx_n4 wx_g4 dX11_node_26 dX11_node_29 dX11_node_30 dX11_node_33 (Nat.le_of_ble_eq_true rfl) (Nat.le_of_ble_eq_true rfl) (Nat.le_of_ble_eq_true rfl) (Nat.le_of_ble_eq_true rfl)
    · refine V_if_lt X (tgt := 26) dX11_node_17 (by decide) (fun b4 => ?_) (fun b4 => ?_)
      · replace h := (if_pos b4).symm.trans h
        refine V_sub X [] (lv' := []) rfl ?_
        exact hk5 h
      · replace h := (if_neg b4).symm.trans h
        refine V_iload_n X 2 dX11_node_20 rfl rfl ?_
        refine V_bipush X 17 dX11_node_21 (by decide) ?_
        refine V_icmp_le X (tgt := 34) dX11_node_23 (by decide) (fun b6 => ?_) (fun b6 => ?_)
        · replace h := (if_pos b6).symm.trans h
          refine V_iload_n X 2 dX11_node_34 rfl rfl ?_
          refine V_bipush X 10 dX11_node_35 (by decide) ?_
          refine V_icmp_gt X (tgt := 54) dX11_node_37 (by decide) (fun b7 => ?_) (fun b7 => ?_)
          · replace h := (if_pos b7).symm.trans h
            refine V_aload_n X 0 dX11_node_54 rfl rfl ?_
            refine V_getr X (o := (0, 0, 0)) (i := (0, 4, 0)) (ci := 11) (k := 8) (N := 16) (T := TX11) (C := RX11) ⟨by decide, rfl⟩ rfl rfl rfl (by decide) (mBa inB_X11) (mB wl_RX11_20) dX11_node_55 ?_
            refine V_getr X (o := (0, 4, 0)) (i := (0, 5, 0)) (ci := 9) (k := 0) (N := 2) (T := TX9) (C := RX9) ⟨by decide, rfl⟩ rfl rfl rfl (by decide) (mBa inB_X9) (mB wl_RX11_168) dX11_node_58 ?_
            refine V_aload_n X 0 dX11_node_61 rfl rfl ?_
            refine V_getr X (o := (0, 0, 0)) (i := (1, 0, 0)) (ci := 11) (k := 3) (N := 16) (T := TX11) (C := RX11) ⟨by decide, rfl⟩ rfl rfl rfl (by decide) (mBa inB_X11) (mB wl_RX11_77) dX11_node_62 ?_
            obtain ⟨μ9, c8, h⟩ := bd_some h
            refine V_callVv X (As := [.ref (zad y (1, 0, 0))]) (M_X10_look (by decide) c8) (cwV 1 X.2.2.2.2.2.2.1 (gV wm_RX11_172 wi_X10_look wse_X10_look win_RX10 wc_X10_look) rfl rfl rfl hd_X10_look ⟨Nat.le_of_ble_eq_true rfl, Nat.le_of_ble_eq_true rfl⟩) (b := (0, 5, 0)) ⟨by decide, rfl⟩ rfl rfl rfl rfl (Nat.le_of_ble_eq_true rfl) dX11_node_65 rfl ?_
            refine V_iload_n X 2 dX11_node_68 rfl rfl ?_
            by_cases b10 : a2 = 11
            · replace h := (if_pos b10).symm.trans h
              refine V_tblIn X (tgt := 108) dX11_node_69 (by rw [b10]; decide) (by rw [b10]; decide) (by rw [b10]; try rfl) (by decide) ?_
              refine V_aload_n X 0 dX11_node_108 rfl rfl ?_
              refine V_getr X (o := (0, 0, 0)) (i := (0, 4, 0)) (ci := 11) (k := 8) (N := 16) (T := TX11) (C := RX11) ⟨by decide, rfl⟩ rfl rfl rfl (by decide) (mBa inB_X11) (mB wl_RX11_20) dX11_node_109 ?_
              refine V_getr X (o := (0, 4, 0)) (i := (0, 5, 0)) (ci := 9) (k := 0) (N := 2) (T := TX9) (C := RX9) ⟨by decide, rfl⟩ rfl rfl rfl (by decide) (mBa inB_X9) (mB wl_RX11_168) dX11_node_112 ?_
              refine V_getr X (o := (0, 5, 0)) (i := (0, 8, 0)) (ci := 10) (k := 2) (N := 7) (T := TX10) (C := RX10) ⟨by decide, rfl⟩ rfl rfl rfl (by decide) (mBa inB_X10) (mB wl_RX11_177) dX11_node_115 ?_
              refine V_iload_n X 1 dX11_node_118 rfl rfl ?_
              obtain ⟨g34, h⟩ := gd_some h
              refine V_iald X a1.toNatClampNeg rfl (o := (0, 8, 0)) (n := 8) ⟨by decide, rfl⟩ rfl rfl g34 dX11_node_119 ?_
              exact V_iretX X h dX11_node_120
            · replace h := (if_neg b10).symm.trans h
              by_cases b11 : a2 = 12
              · replace h := (if_pos b11).symm.trans h
                refine V_tblIn X (tgt := 121) dX11_node_69 (by rw [b11]; decide) (by rw [b11]; decide) (by rw [b11]; try rfl) (by decide) ?_
                refine V_aload_n X 0 dX11_node_121 rfl rfl ?_
                refine V_getr X (o := (0, 0, 0)) (i := (0, 4, 0)) (ci := 11) (k := 8) (N := 16) (T := TX11) (C := RX11) ⟨by decide, rfl⟩ rfl rfl rfl (by decide) (mBa inB_X11) (mB wl_RX11_20) dX11_node_122 ?_
                refine V_getr X (o := (0, 4, 0)) (i := (0, 5, 0)) (ci := 9) (k := 0) (N := 2) (T := TX9) (C := RX9) ⟨by decide, rfl⟩ rfl rfl rfl (by decide) (mBa inB_X9) (mB wl_RX11_168) dX11_node_125 ?_
                refine V_getr X (o := (0, 5, 0)) (i := (0, 9, 0)) (ci := 10) (k := 3) (N := 7) (T := TX10) (C := RX10) ⟨by decide, rfl⟩ rfl rfl rfl (by decide) (mBa inB_X10) (mB wl_RX11_180) dX11_node_128 ?_
                refine V_iload_n X 1 dX11_node_131 rfl rfl ?_
                obtain ⟨g33, h⟩ := gd_some h
                refine V_iald X a1.toNatClampNeg rfl (o := (0, 9, 0)) (n := 8) ⟨by decide, rfl⟩ rfl rfl g33 dX11_node_132 ?_
                exact V_iretX X h dX11_node_133
              · replace h := (if_neg b11).symm.trans h
                by_cases b12 : a2 = 13
                · replace h := (if_pos b12).symm.trans h
                  refine V_tblIn X (tgt := 134) dX11_node_69 (by rw [b12]; decide) (by rw [b12]; decide) (by rw [b12]; try rfl) (by decide) ?_
                  refine V_aload_n X 0 dX11_node_134 rfl rfl ?_
                  refine V_getr X (o := (0, 0, 0)) (i := (1, 0, 0)) (ci := 11) (k := 3) (N := 16) (T := TX11) (C := RX11) ⟨by decide, rfl⟩ rfl rfl rfl (by decide) (mBa inB_X11) (mB wl_RX11_77) dX11_node_135 ?_
                  refine V_getl X (by decide) (mBa inB_X7) (mB wl_RX11_138) dX11_node_138 (fun hn29 => ?_)
                  refine V_aload_n X 0 dX11_node_141 rfl rfl ?_
                  refine V_getr X (o := (0, 0, 0)) (i := (1, 0, 0)) (ci := 11) (k := 3) (N := 16) (T := TX11) (C := RX11) ⟨by decide, rfl⟩ rfl rfl rfl (by decide) (mBa inB_X11) (mB wl_RX11_77) dX11_node_142 ?_
                  refine V_iload_n X 1 dX11_node_145 rfl rfl ?_
                  refine V_sipush X 1012 dX11_node_146 (by decide) ?_
                  obtain ⟨x31, μ32, c30, h⟩ := bd2_some h
                  refine V_callVi X (As := [.ref (zad y (1, 0, 0)), .int a1, .int 1012]) (M_X3_sum hn29 (by decide) c30) (cwV 3 X.2.2.2.2.2.2.1 (gV wm_RX11_183 wi_X3_sum wse_X3_sum win_RX3 wc_X3_sum) rfl rfl rfl hd_X3_sum ⟨Nat.le_of_ble_eq_true rfl, Nat.le_of_ble_eq_true rfl⟩) (b := (5, (μ9 (1, 0, 0) 10).toNatClampNeg, 0)) ⟨hn29, rfl⟩ rfl rfl rfl rfl (Nat.le_of_ble_eq_true rfl) dX11_node_149 rfl ?_
                  exact V_iretX X h dX11_node_152
                · replace h := (if_neg b12).symm.trans h
                  by_cases b13 : a2 = 14
                  · replace h := (if_pos b13).symm.trans h
                    refine V_tblIn X (tgt := 153) dX11_node_69 (by rw [b13]; decide) (by rw [b13]; decide) (by rw [b13]; try rfl) (by decide) ?_
                    refine V_aload_n X 0 dX11_node_153 rfl rfl ?_
                    refine V_getr X (o := (0, 0, 0)) (i := (0, 4, 0)) (ci := 11) (k := 8) (N := 16) (T := TX11) (C := RX11) ⟨by decide, rfl⟩ rfl rfl rfl (by decide) (mBa inB_X11) (mB wl_RX11_20) dX11_node_154 ?_
                    refine V_getr X (o := (0, 4, 0)) (i := (0, 5, 0)) (ci := 9) (k := 0) (N := 2) (T := TX9) (C := RX9) ⟨by decide, rfl⟩ rfl rfl rfl (by decide) (mBa inB_X9) (mB wl_RX11_168) dX11_node_157 ?_
                    refine V_geti X (o := (0, 5, 0)) (ci := 10) (k := 5) (N := 7) (T := TX10) (C := RX10) ⟨by decide, rfl⟩ rfl rfl rfl (by decide) (mBa inB_X10) (mB wl_RX11_187) dX11_node_160 ?_
                    refine V_iload_n X 1 dX11_node_163 rfl rfl ?_
                    refine V_ishr X dX11_node_164 ?_
                    refine V_iconst X 1 dX11_node_165 (by decide) ?_
                    refine V_iand X dX11_node_166 ?_
                    exact V_iretX X h dX11_node_167
                  · replace h := (if_neg b13).symm.trans h
                    by_cases b14 : a2 = 15
                    · replace h := (if_pos b14).symm.trans h
                      refine V_tblIn X (tgt := 168) dX11_node_69 (by rw [b14]; decide) (by rw [b14]; decide) (by rw [b14]; try rfl) (by decide) ?_
                      refine V_aload_n X 0 dX11_node_168 rfl rfl ?_
                      refine V_getr X (o := (0, 0, 0)) (i := (0, 12, 0)) (ci := 11) (k := 9) (N := 16) (T := TX11) (C := RX11) ⟨by decide, rfl⟩ rfl rfl rfl (by decide) (mBa inB_X11) (mB wl_RX11_27) dX11_node_169 ?_
                      refine V_aload_n X 0 dX11_node_172 rfl rfl ?_
                      refine V_getr X (o := (0, 0, 0)) (i := (0, 4, 0)) (ci := 11) (k := 8) (N := 16) (T := TX11) (C := RX11) ⟨by decide, rfl⟩ rfl rfl rfl (by decide) (mBa inB_X11) (mB wl_RX11_20) dX11_node_173 ?_
                      refine V_getr X (o := (0, 4, 0)) (i := (0, 5, 0)) (ci := 9) (k := 0) (N := 2) (T := TX9) (C := RX9) ⟨by decide, rfl⟩ rfl rfl rfl (by decide) (mBa inB_X9) (mB wl_RX11_168) dX11_node_176 ?_
                      obtain ⟨μ26, c25, h⟩ := bd_some h
                      refine V_callVv X (As := [.ref (zad y (0, 5, 0))]) (M_X1_load c25) (cwV 1 X.2.2.2.2.2.2.1 (gV wm_RX11_190 wi_X1_load wse_X1_load win_RX1 wc_X1_load) rfl rfl rfl hd_X1_load ⟨Nat.le_of_ble_eq_true rfl, Nat.le_of_ble_eq_true rfl⟩) (b := (0, 12, 0)) ⟨by decide, rfl⟩ rfl rfl rfl rfl (Nat.le_of_ble_eq_true rfl) dX11_node_179 rfl ?_
                      refine V_aload_n X 0 dX11_node_182 rfl rfl ?_
                      refine V_getr X (o := (0, 0, 0)) (i := (0, 12, 0)) (ci := 11) (k := 9) (N := 16) (T := TX11) (C := RX11) ⟨by decide, rfl⟩ rfl rfl rfl (by decide) (mBa inB_X11) (mB wl_RX11_27) dX11_node_183 ?_
                      refine V_iload_n X 1 dX11_node_186 rfl rfl ?_
                      obtain ⟨x28, c27, h⟩ := bd_some h
                      refine V_callVi X (As := [.int a1]) (M_X1_cliqueOf c27) (cwV 1 X.2.2.2.2.2.2.1 (gV wm_RX11_193 wi_X1_cliqueOf wse_X1_cliqueOf win_RX1 wc_X1_cliqueOf) rfl rfl rfl hd_X1_cliqueOf ⟨Nat.le_of_ble_eq_true rfl, Nat.le_of_ble_eq_true rfl⟩) (b := (0, 12, 0)) ⟨by decide, rfl⟩ rfl rfl rfl rfl (Nat.le_of_ble_eq_true rfl) dX11_node_187 rfl ?_
                      exact V_iretX X h dX11_node_190
                    · replace h := (if_neg b14).symm.trans h
                      by_cases b15 : a2 = 16
                      · replace h := (if_pos b15).symm.trans h
                        refine V_tblIn X (tgt := 191) dX11_node_69 (by rw [b15]; decide) (by rw [b15]; decide) (by rw [b15]; try rfl) (by decide) ?_
                        refine V_aload_n X 0 dX11_node_191 rfl rfl ?_
                        refine V_getr X (o := (0, 0, 0)) (i := (1, 0, 0)) (ci := 11) (k := 3) (N := 16) (T := TX11) (C := RX11) ⟨by decide, rfl⟩ rfl rfl rfl (by decide) (mBa inB_X11) (mB wl_RX11_77) dX11_node_192 ?_
                        refine V_getr X (o := (1, 0, 0)) (i := (2, 0, 0)) (ci := 7) (k := 0) (N := 11) (T := TX7) (C := RX7) ⟨(by decide), rfl⟩ rfl rfl rfl (by decide) (mBa inB_X7) (mB wl_RX11_158) dX11_node_195 ?_
                        refine V_iload_n X 1 dX11_node_198 rfl rfl ?_
                        obtain ⟨g18, h⟩ := gd_some h
                        refine V_aald X a1.toNatClampNeg rfl (o := (2, 0, 0)) ⟨(by decide), rfl⟩ rfl rfl rfl rfl g18 dX11_node_199 ?_
                        refine V_geti X (o := (3, 0, a1.toNatClampNeg)) (ci := 5) (k := 3) (N := 11) (T := TX5) (C := RX5) ⟨(by decide), zin_lt g18⟩ rfl rfl rfl (by decide) (mBa inB_X5) (mB wl_RX11_196) dX11_node_200 ?_
                        refine V_iconst X 2 dX11_node_203 (by decide) ?_
                        obtain ⟨x20, μ21, h1, h⟩ := bd2_some h
                        have hk : V X μ21 236 [] [.int x20] := by
                          clear h1
                          exact V_iretX X h dX11_node_236
                        replace h := h1
                        clear h1
                        refine V_icmp_ne X (tgt := 235) dX11_node_204 (by decide) (fun b19 => ?_) (fun b19 => ?_)
                        · replace h := (if_neg b19).symm.trans h
                          refine V_iconst X 0 dX11_node_235 (by decide) ?_
                          refine V_sub X [] (lv' := []) rfl ?_
                          obtain ⟨rfl, rfl⟩ := so2 h
                          exact hk
                        · replace h := (if_pos b19).symm.trans h
                          refine V_aload_n X 0 dX11_node_207 rfl rfl ?_
                          refine V_getr X (o := (0, 0, 0)) (i := (0, 4, 0)) (ci := 11) (k := 8) (N := 16) (T := TX11) (C := RX11) ⟨by decide, rfl⟩ rfl rfl rfl (by decide) (mBa inB_X11) (mB wl_RX11_20) dX11_node_208 ?_
                          refine V_getr X (o := (0, 4, 0)) (i := (0, 5, 0)) (ci := 9) (k := 0) (N := 2) (T := TX9) (C := RX9) ⟨by decide, rfl⟩ rfl rfl rfl (by decide) (mBa inB_X9) (mB wl_RX11_168) dX11_node_211 ?_
                          refine V_aload_n X 0 dX11_node_214 rfl rfl ?_
                          refine V_getr X (o := (0, 0, 0)) (i := (1, 0, 0)) (ci := 11) (k := 3) (N := 16) (T := TX11) (C := RX11) ⟨by decide, rfl⟩ rfl rfl rfl (by decide) (mBa inB_X11) (mB wl_RX11_77) dX11_node_215 ?_
                          refine V_iload_n X 1 dX11_node_218 rfl rfl ?_
                          refine V_aload_n X 0 dX11_node_219 rfl rfl ?_
                          refine V_getr X (o := (0, 0, 0)) (i := (0, 4, 0)) (ci := 11) (k := 8) (N := 16) (T := TX11) (C := RX11) ⟨by decide, rfl⟩ rfl rfl rfl (by decide) (mBa inB_X11) (mB wl_RX11_20) dX11_node_220 ?_
                          refine V_getr X (o := (0, 4, 0)) (i := (0, 5, 0)) (ci := 9) (k := 0) (N := 2) (T := TX9) (C := RX9) ⟨by decide, rfl⟩ rfl rfl rfl (by decide) (mBa inB_X9) (mB wl_RX11_168) dX11_node_223 ?_
                          refine V_geti X (o := (0, 5, 0)) (ci := 10) (k := 5) (N := 7) (T := TX10) (C := RX10) ⟨by decide, rfl⟩ rfl rfl rfl (by decide) (mBa inB_X10) (mB wl_RX11_187) dX11_node_226 ?_
                          obtain ⟨x23, μ24, c22, h⟩ := bd2_some h
                          refine V_callVi X (As := [.ref (zad y (1, 0, 0)), .int a1, .int (μ9 (0, 5, 0) 5)]) (M_X10_middleOf (by decide) c22) (cwV 3 X.2.2.2.2.2.2.1 (gV wm_RX11_199 wi_X10_middleOf wse_X10_middleOf win_RX10 wc_X10_middleOf) rfl rfl rfl hd_X10_middleOf ⟨Nat.le_of_ble_eq_true rfl, Nat.le_of_ble_eq_true rfl⟩) (b := (0, 5, 0)) ⟨by decide, rfl⟩ rfl rfl rfl rfl (Nat.le_of_ble_eq_true rfl) dX11_node_229 rfl ?_
                          refine V_goto X (tgt := 236) dX11_node_232 (by decide) ?_
                          refine V_sub X [] (lv' := []) rfl ?_
                          obtain ⟨rfl, rfl⟩ := so2 h
                          exact hk
                      · replace h := (if_neg b15).symm.trans h
                        have hd0 := tne (j := 11) (by decide) b10
                        have hd1 := tne (j := 12) (by decide) b11
                        have hd2 := tne (j := 13) (by decide) b12
                        have hd3 := tne (j := 14) (by decide) b13
                        have hd4 := tne (j := 15) (by decide) b14
                        have hd5 := tne (j := 16) (by decide) b15
                        refine V_tblOut X (tgt := 237) dX11_node_69 (by omega) (by decide) ?_
                        refine V_aload_n X 0 dX11_node_237 rfl rfl ?_
                        refine V_getr X (o := (0, 0, 0)) (i := (1, 0, 0)) (ci := 11) (k := 3) (N := 16) (T := TX11) (C := RX11) ⟨by decide, rfl⟩ rfl rfl rfl (by decide) (mBa inB_X11) (mB wl_RX11_77) dX11_node_238 ?_
                        refine V_iload_n X 1 dX11_node_241 rfl rfl ?_
                        obtain ⟨x17, c16, h⟩ := bd_some h
                        refine V_callVi X (As := [.int a1]) (M_X7_knowing (by decide) c16) (cwV 1 X.2.2.2.2.2.2.1 (gV wm_RX11_202 wi_X7_knowing wse_X7_knowing win_RX7 wc_X7_knowing) rfl rfl rfl hd_X7_knowing ⟨Nat.le_of_ble_eq_true rfl, Nat.le_of_ble_eq_true rfl⟩) (b := (1, 0, 0)) ⟨(by decide), rfl⟩ rfl rfl rfl rfl (Nat.le_of_ble_eq_true rfl) dX11_node_242 rfl ?_
                        exact V_iretX X h dX11_node_245
          · replace h := (if_neg b7).symm.trans h
            refine V_aload_n X 0 dX11_node_40 rfl rfl ?_
            refine V_getr X (o := (0, 0, 0)) (i := (1, 0, 0)) (ci := 11) (k := 3) (N := 16) (T := TX11) (C := RX11) ⟨by decide, rfl⟩ rfl rfl rfl (by decide) (mBa inB_X11) (mB wl_RX11_77) dX11_node_41 ?_
            refine V_getr X (o := (1, 0, 0)) (i := (2, 0, 0)) (ci := 7) (k := 0) (N := 11) (T := TX7) (C := RX7) ⟨(by decide), rfl⟩ rfl rfl rfl (by decide) (mBa inB_X7) (mB wl_RX11_158) dX11_node_44 ?_
            refine V_iload_n X 1 dX11_node_47 rfl rfl ?_
            obtain ⟨g35, h⟩ := gd_some h
            refine V_aald X a1.toNatClampNeg rfl (o := (2, 0, 0)) ⟨(by decide), rfl⟩ rfl rfl rfl rfl g35 dX11_node_48 ?_
            refine V_iload_n X 2 dX11_node_49 rfl rfl ?_
            refine V_callVi X (As := [.int a2]) (M_X5_told (by decide) (zin_lt g35)) (cwV 1 X.2.2.2.2.2.2.1 (gV wm_RX11_162 wi_X5_told wse_X5_told win_RX5 wc_X5_told) rfl rfl rfl hd_X5_told ⟨Nat.le_of_ble_eq_true rfl, Nat.le_of_ble_eq_true rfl⟩) (b := (3, 0, a1.toNatClampNeg)) ⟨(by decide), zin_lt g35⟩ rfl rfl rfl rfl (Nat.le_of_ble_eq_true rfl) dX11_node_50 rfl ?_
            exact V_iretX X h dX11_node_53
        · replace h := (if_neg b6).symm.trans h
          refine V_sub X [] (lv' := []) rfl ?_
          exact hk5 h
  · replace h := (if_pos b3).symm.trans h
    exact V_throw X hex hlf (ik := 152) (ic := 154) 3 h (by decide +kernel) (by decide +kernel) (mB wcl_RX11_152) (mB wine_3) (mBa wx_3) wx_n3 wx_g3 dX11_node_8 dX11_node_11 dX11_node_12 dX11_node_15 (Nat.le_of_ble_eq_true rfl) (Nat.le_of_ble_eq_true rfl) (Nat.le_of_ble_eq_true rfl) (Nat.le_of_ble_eq_true rfl)

def f_X11_shift (y : ZLay) (a1 : Int32) (a2 : Int32) (μ : ZMem) : Option ((Int32 ⊕ Nat) × ZMem) := bd (f_X11_isNode a1 μ) (fun (x2 : Int32) => jk (some (.inr 3, μ)) (fun k4 => if x2 = 0 then k4 else bd (f_X11_isNode a2 μ) (fun (x6 : Int32) => if x6 = 0 then k4 else if a1 = a2 then some (.inr 1, μ) else bd (f_X10_look y 0 μ) (fun (μ10 : ZMem) => gd (zin a1 8) (gd (zin a2 8) (some (.inl (μ10 (7, a1.toNatClampNeg, 0) a2.toNatClampNeg), μ10)))))))
set_option maxRecDepth 100000 in
set_option maxHeartbeats 4000000 in
theorem M_X11_shift {l : Launch} {D : va_G} {y : ZLay} {a1 : Int32} {a2 : Int32}  {μ : ZMem} {res : Int32 ⊕ Nat} {μ0 : ZMem} (hlf : l.stackTraces = false) (h : f_X11_shift y a1 a2 μ = some (res, μ0)) : MX l yX11_shift wb_X11_shift rm_X11_shift D y [.ref (zad y (0, 0, 0)), .int a1, .int a2] μ res μ0 := by
  unfold f_X11_shift at h
  refine MX_of RX11 [(0, .ref (zad y (0, 0, 0))), (1, .int a1), (2, .int a2)] (by decide) rfl rfl (Nat.le_of_ble_eq_true rfl) rfl ?_
  intro p e s m args below meth c A X hex
  refine V_aload_n X 0 dX11_shift_0 rfl rfl ?_
  refine V_iload_n X 1 dX11_shift_1 rfl rfl ?_
  obtain ⟨x2, c1, h⟩ := bd_some h
  refine V_callVi X (As := [.int a1]) (M_X11_isNode c1) (cwV 1 X.2.2.2.2.2.2.1 (gV wm_RX11_148 wi_X11_isNode wse_X11_isNode win_RX11 wc_X11_isNode) rfl rfl rfl hd_X11_isNode ⟨Nat.le_of_ble_eq_true rfl, Nat.le_of_ble_eq_true rfl⟩) (b := (0, 0, 0)) ⟨by decide, rfl⟩ rfl rfl rfl rfl (Nat.le_of_ble_eq_true rfl) dX11_shift_2 rfl ?_
  refine jk0_el (P := V X μ 16 [] []) h (fun h => ?_) (fun k4 hk4 h => ?_)
  · exact V_throw X hex hlf (ik := 152) (ic := 154) 3 h (by decide +kernel) (by decide +kernel) (mB wcl_RX11_152) (mB wine_3) (mBa wx_3) wx_n3 wx_g3 dX11_shift_16 dX11_shift_19 dX11_shift_20 dX11_shift_23 (Nat.le_of_ble_eq_true rfl) (Nat.le_of_ble_eq_true rfl) (Nat.le_of_ble_eq_true rfl) (Nat.le_of_ble_eq_true rfl)
  · refine V_if_eq X (tgt := 16) dX11_shift_5 (by decide) (fun b3 => ?_) (fun b3 => ?_)
    · replace h := (if_pos b3).symm.trans h
      refine V_sub X [] (lv' := []) rfl ?_
      exact hk4 h
    · replace h := (if_neg b3).symm.trans h
      refine V_aload_n X 0 dX11_shift_8 rfl rfl ?_
      refine V_iload_n X 2 dX11_shift_9 rfl rfl ?_
      obtain ⟨x6, c5, h⟩ := bd_some h
      refine V_callVi X (As := [.int a2]) (M_X11_isNode c5) (cwV 1 X.2.2.2.2.2.2.1 (gV wm_RX11_148 wi_X11_isNode wse_X11_isNode win_RX11 wc_X11_isNode) rfl rfl rfl hd_X11_isNode ⟨Nat.le_of_ble_eq_true rfl, Nat.le_of_ble_eq_true rfl⟩) (b := (0, 0, 0)) ⟨by decide, rfl⟩ rfl rfl rfl rfl (Nat.le_of_ble_eq_true rfl) dX11_shift_10 rfl ?_
      refine V_if_ne X (tgt := 24) dX11_shift_13 (by decide) (fun b7 => ?_) (fun b7 => ?_)
      · replace h := (if_neg b7).symm.trans h
        refine V_iload_n X 1 dX11_shift_24 rfl rfl ?_
        refine V_iload_n X 2 dX11_shift_25 rfl rfl ?_
        refine V_icmp_ne X (tgt := 37) dX11_shift_26 (by decide) (fun b8 => ?_) (fun b8 => ?_)
        · replace h := (if_neg b8).symm.trans h
          refine V_aload_n X 0 dX11_shift_37 rfl rfl ?_
          refine V_getr X (o := (0, 0, 0)) (i := (0, 4, 0)) (ci := 11) (k := 8) (N := 16) (T := TX11) (C := RX11) ⟨by decide, rfl⟩ rfl rfl rfl (by decide) (mBa inB_X11) (mB wl_RX11_20) dX11_shift_38 ?_
          refine V_getr X (o := (0, 4, 0)) (i := (0, 5, 0)) (ci := 9) (k := 0) (N := 2) (T := TX9) (C := RX9) ⟨by decide, rfl⟩ rfl rfl rfl (by decide) (mBa inB_X9) (mB wl_RX11_168) dX11_shift_41 ?_
          refine V_aload_n X 0 dX11_shift_44 rfl rfl ?_
          refine V_getr X (o := (0, 0, 0)) (i := (1, 0, 0)) (ci := 11) (k := 3) (N := 16) (T := TX11) (C := RX11) ⟨by decide, rfl⟩ rfl rfl rfl (by decide) (mBa inB_X11) (mB wl_RX11_77) dX11_shift_45 ?_
          obtain ⟨μ10, c9, h⟩ := bd_some h
          refine V_callVv X (As := [.ref (zad y (1, 0, 0))]) (M_X10_look (by decide) c9) (cwV 1 X.2.2.2.2.2.2.1 (gV wm_RX11_172 wi_X10_look wse_X10_look win_RX10 wc_X10_look) rfl rfl rfl hd_X10_look ⟨Nat.le_of_ble_eq_true rfl, Nat.le_of_ble_eq_true rfl⟩) (b := (0, 5, 0)) ⟨by decide, rfl⟩ rfl rfl rfl rfl (Nat.le_of_ble_eq_true rfl) dX11_shift_48 rfl ?_
          refine V_aload_n X 0 dX11_shift_51 rfl rfl ?_
          refine V_getr X (o := (0, 0, 0)) (i := (0, 4, 0)) (ci := 11) (k := 8) (N := 16) (T := TX11) (C := RX11) ⟨by decide, rfl⟩ rfl rfl rfl (by decide) (mBa inB_X11) (mB wl_RX11_20) dX11_shift_52 ?_
          refine V_getr X (o := (0, 4, 0)) (i := (0, 5, 0)) (ci := 9) (k := 0) (N := 2) (T := TX9) (C := RX9) ⟨by decide, rfl⟩ rfl rfl rfl (by decide) (mBa inB_X9) (mB wl_RX11_168) dX11_shift_55 ?_
          refine V_getr X (o := (0, 5, 0)) (i := (0, 6, 0)) (ci := 10) (k := 0) (N := 7) (T := TX10) (C := RX10) ⟨by decide, rfl⟩ rfl rfl rfl (by decide) (mBa inB_X10) (mB wl_RX11_205) dX11_shift_58 ?_
          refine V_iload_n X 1 dX11_shift_61 rfl rfl ?_
          obtain ⟨g11, h⟩ := gd_some h
          refine V_aald X a1.toNatClampNeg rfl (o := (0, 6, 0)) ⟨by decide, rfl⟩ rfl rfl rfl rfl g11 dX11_shift_62 ?_
          refine V_iload_n X 2 dX11_shift_63 rfl rfl ?_
          obtain ⟨g12, h⟩ := gd_some h
          refine V_iald X a2.toNatClampNeg rfl (o := (7, a1.toNatClampNeg, 0)) (n := 8) ⟨zin_lt g11, rfl⟩ rfl rfl g12 dX11_shift_64 ?_
          exact V_iretX X h dX11_shift_65
        · replace h := (if_pos b8).symm.trans h
          exact V_throw X hex hlf (ik := 119) (ic := 121) 1 h (by decide +kernel) (by decide +kernel) (mB wcl_RX11_119) (mB wine_1) (mBa wx_1) wx_n1 wx_g1 dX11_shift_29 dX11_shift_32 dX11_shift_33 dX11_shift_36 (Nat.le_of_ble_eq_true rfl) (Nat.le_of_ble_eq_true rfl) (Nat.le_of_ble_eq_true rfl) (Nat.le_of_ble_eq_true rfl)
      · replace h := (if_pos b7).symm.trans h
        refine V_sub X [] (lv' := []) rfl ?_
        exact hk4 h

def f_X11_hears (y : ZLay) (a1 : Int32) (a2 : Int32) (μ : ZMem) : Option ((Int32 ⊕ Nat) × ZMem) := bd (f_X11_isNode a1 μ) (fun (x2 : Int32) => jk (some (.inr 3, μ)) (fun k4 => if x2 = 0 then k4 else bd (f_X11_isNode a2 μ) (fun (x6 : Int32) => if x6 = 0 then k4 else if a1 = a2 then some (.inr 1, μ) else bd (f_X10_look y 0 μ) (fun (μ10 : ZMem) => gd (zin a1 8) (bd (f_X11_isIn (μ10 (0, 7, 0) a1.toNatClampNeg) a2) (fun (x13 : Int32) => gd (zbo x13) (some (.inl x13, μ10))))))))
set_option maxRecDepth 100000 in
set_option maxHeartbeats 4000000 in
theorem M_X11_hears {l : Launch} {D : va_G} {y : ZLay} {a1 : Int32} {a2 : Int32}  {μ : ZMem} {res : Int32 ⊕ Nat} {μ0 : ZMem} (hlf : l.stackTraces = false) (h : f_X11_hears y a1 a2 μ = some (res, μ0)) : MX l yX11_hears wb_X11_hears rm_X11_hears D y [.ref (zad y (0, 0, 0)), .int a1, .int a2] μ res μ0 := by
  unfold f_X11_hears at h
  refine MX_of RX11 [(0, .ref (zad y (0, 0, 0))), (1, .int a1), (2, .int a2)] (by decide) rfl rfl (Nat.le_of_ble_eq_true rfl) rfl ?_
  intro p e s m args below meth c A X hex
  refine V_aload_n X 0 dX11_hears_0 rfl rfl ?_
  refine V_iload_n X 1 dX11_hears_1 rfl rfl ?_
  obtain ⟨x2, c1, h⟩ := bd_some h
  refine V_callVi X (As := [.int a1]) (M_X11_isNode c1) (cwV 1 X.2.2.2.2.2.2.1 (gV wm_RX11_148 wi_X11_isNode wse_X11_isNode win_RX11 wc_X11_isNode) rfl rfl rfl hd_X11_isNode ⟨Nat.le_of_ble_eq_true rfl, Nat.le_of_ble_eq_true rfl⟩) (b := (0, 0, 0)) ⟨by decide, rfl⟩ rfl rfl rfl rfl (Nat.le_of_ble_eq_true rfl) dX11_hears_2 rfl ?_
  refine jk0_el (P := V X μ 16 [] []) h (fun h => ?_) (fun k4 hk4 h => ?_)
  · exact V_throw X hex hlf (ik := 152) (ic := 154) 3 h (by decide +kernel) (by decide +kernel) (mB wcl_RX11_152) (mB wine_3) (mBa wx_3) wx_n3 wx_g3 dX11_hears_16 dX11_hears_19 dX11_hears_20 dX11_hears_23 (Nat.le_of_ble_eq_true rfl) (Nat.le_of_ble_eq_true rfl) (Nat.le_of_ble_eq_true rfl) (Nat.le_of_ble_eq_true rfl)
  · refine V_if_eq X (tgt := 16) dX11_hears_5 (by decide) (fun b3 => ?_) (fun b3 => ?_)
    · replace h := (if_pos b3).symm.trans h
      refine V_sub X [] (lv' := []) rfl ?_
      exact hk4 h
    · replace h := (if_neg b3).symm.trans h
      refine V_aload_n X 0 dX11_hears_8 rfl rfl ?_
      refine V_iload_n X 2 dX11_hears_9 rfl rfl ?_
      obtain ⟨x6, c5, h⟩ := bd_some h
      refine V_callVi X (As := [.int a2]) (M_X11_isNode c5) (cwV 1 X.2.2.2.2.2.2.1 (gV wm_RX11_148 wi_X11_isNode wse_X11_isNode win_RX11 wc_X11_isNode) rfl rfl rfl hd_X11_isNode ⟨Nat.le_of_ble_eq_true rfl, Nat.le_of_ble_eq_true rfl⟩) (b := (0, 0, 0)) ⟨by decide, rfl⟩ rfl rfl rfl rfl (Nat.le_of_ble_eq_true rfl) dX11_hears_10 rfl ?_
      refine V_if_ne X (tgt := 24) dX11_hears_13 (by decide) (fun b7 => ?_) (fun b7 => ?_)
      · replace h := (if_neg b7).symm.trans h
        refine V_iload_n X 1 dX11_hears_24 rfl rfl ?_
        refine V_iload_n X 2 dX11_hears_25 rfl rfl ?_
        refine V_icmp_ne X (tgt := 37) dX11_hears_26 (by decide) (fun b8 => ?_) (fun b8 => ?_)
        · replace h := (if_neg b8).symm.trans h
          refine V_aload_n X 0 dX11_hears_37 rfl rfl ?_
          refine V_getr X (o := (0, 0, 0)) (i := (0, 4, 0)) (ci := 11) (k := 8) (N := 16) (T := TX11) (C := RX11) ⟨by decide, rfl⟩ rfl rfl rfl (by decide) (mBa inB_X11) (mB wl_RX11_20) dX11_hears_38 ?_
          refine V_getr X (o := (0, 4, 0)) (i := (0, 5, 0)) (ci := 9) (k := 0) (N := 2) (T := TX9) (C := RX9) ⟨by decide, rfl⟩ rfl rfl rfl (by decide) (mBa inB_X9) (mB wl_RX11_168) dX11_hears_41 ?_
          refine V_aload_n X 0 dX11_hears_44 rfl rfl ?_
          refine V_getr X (o := (0, 0, 0)) (i := (1, 0, 0)) (ci := 11) (k := 3) (N := 16) (T := TX11) (C := RX11) ⟨by decide, rfl⟩ rfl rfl rfl (by decide) (mBa inB_X11) (mB wl_RX11_77) dX11_hears_45 ?_
          obtain ⟨μ10, c9, h⟩ := bd_some h
          refine V_callVv X (As := [.ref (zad y (1, 0, 0))]) (M_X10_look (by decide) c9) (cwV 1 X.2.2.2.2.2.2.1 (gV wm_RX11_172 wi_X10_look wse_X10_look win_RX10 wc_X10_look) rfl rfl rfl hd_X10_look ⟨Nat.le_of_ble_eq_true rfl, Nat.le_of_ble_eq_true rfl⟩) (b := (0, 5, 0)) ⟨by decide, rfl⟩ rfl rfl rfl rfl (Nat.le_of_ble_eq_true rfl) dX11_hears_48 rfl ?_
          refine V_aload_n X 0 dX11_hears_51 rfl rfl ?_
          refine V_getr X (o := (0, 0, 0)) (i := (0, 4, 0)) (ci := 11) (k := 8) (N := 16) (T := TX11) (C := RX11) ⟨by decide, rfl⟩ rfl rfl rfl (by decide) (mBa inB_X11) (mB wl_RX11_20) dX11_hears_52 ?_
          refine V_getr X (o := (0, 4, 0)) (i := (0, 5, 0)) (ci := 9) (k := 0) (N := 2) (T := TX9) (C := RX9) ⟨by decide, rfl⟩ rfl rfl rfl (by decide) (mBa inB_X9) (mB wl_RX11_168) dX11_hears_55 ?_
          refine V_getr X (o := (0, 5, 0)) (i := (0, 7, 0)) (ci := 10) (k := 1) (N := 7) (T := TX10) (C := RX10) ⟨by decide, rfl⟩ rfl rfl rfl (by decide) (mBa inB_X10) (mB wl_RX11_209) dX11_hears_58 ?_
          refine V_iload_n X 1 dX11_hears_61 rfl rfl ?_
          obtain ⟨g11, h⟩ := gd_some h
          refine V_iald X a1.toNatClampNeg rfl (o := (0, 7, 0)) (n := 8) ⟨by decide, rfl⟩ rfl rfl g11 dX11_hears_62 ?_
          refine V_iload_n X 2 dX11_hears_63 rfl rfl ?_
          obtain ⟨x13, c12, h⟩ := bd_some h
          refine V_callSi X (As := [.int (μ10 (0, 7, 0) a1.toNatClampNeg), .int a2]) (M_X11_isIn c12) (va_cwS 2 X.2.2.2.2.2.2.1 (gS wm_RX11_212 wst_X11_isIn win_RX11 wc_X11_isIn) rfl rfl rfl hd_X11_isIn.2 ⟨Nat.le_of_ble_eq_true rfl, Nat.le_of_ble_eq_true rfl⟩) rfl (Nat.le_of_ble_eq_true rfl) dX11_hears_64 rfl ?_
          obtain ⟨hzb, h⟩ := gd_some h
          exact V_zretX X h hzb dX11_hears_67
        · replace h := (if_pos b8).symm.trans h
          exact V_throw X hex hlf (ik := 119) (ic := 121) 1 h (by decide +kernel) (by decide +kernel) (mB wcl_RX11_119) (mB wine_1) (mBa wx_1) wx_n1 wx_g1 dX11_hears_29 dX11_hears_32 dX11_hears_33 dX11_hears_36 (Nat.le_of_ble_eq_true rfl) (Nat.le_of_ble_eq_true rfl) (Nat.le_of_ble_eq_true rfl) (Nat.le_of_ble_eq_true rfl)
      · replace h := (if_pos b7).symm.trans h
        refine V_sub X [] (lv' := []) rfl ?_
        exact hk4 h

def f_X11_rounds (y : ZLay) (a1 : Int32) (μ : ZMem) : Option ((Int32 ⊕ Nat) × ZMem) := jk (some (.inr 1, μ)) (fun k2 => if a1 < 1 then k2 else if a1 ≤ 60 then bd (f_X6_remember 0 μ) (fun (μ5 : ZMem) => bd2 (lp (σ := Int32 × Int32 × ZMem) (fun q => un3 q (fun (x6 : Int32) (x7 : Int32) (μ8 : ZMem) => if a1 ≤ x7 then some (.inr (x6, μ8)) else bd2 (f_X9_play y 0 1 μ8) (fun (x13 : Int32) (μ14 : ZMem) => zlt (x6 + x13) (fun (x15 : Int32) => some (.inl (x15, (x7 + 1), μ14)))))) FU (0, 0, μ5)) (fun (x9 : Int32) (μ10 : ZMem) => some (.inl x9, μ10))) else k2)
set_option maxRecDepth 100000 in
set_option maxHeartbeats 4000000 in
theorem M_X11_rounds {l : Launch} {D : va_G} {y : ZLay} {a1 : Int32}  {μ : ZMem} {res : Int32 ⊕ Nat} {μ0 : ZMem} (hlf : l.stackTraces = false) (h : f_X11_rounds y a1 μ = some (res, μ0)) : MX l yX11_rounds wb_X11_rounds rm_X11_rounds D y [.ref (zad y (0, 0, 0)), .int a1] μ res μ0 := by
  unfold f_X11_rounds at h
  refine MX_of RX11 [(0, .ref (zad y (0, 0, 0))), (1, .int a1)] (by decide) rfl rfl (Nat.le_of_ble_eq_true rfl) rfl ?_
  intro p e s m args below meth c A X hex
  refine V_iload_n X 1 dX11_rounds_0 rfl rfl ?_
  refine V_iconst X 1 dX11_rounds_1 (by decide) ?_
  refine jk0_el (P := V X μ 11 [] []) h (fun h => ?_) (fun k2 hk2 h => ?_)
  · exact V_throw X hex hlf (ik := 119) (ic := 121) 1 h (by decide +kernel) (by decide +kernel) (mB wcl_RX11_119) (mB wine_1) (mBa wx_1) wx_n1 wx_g1 dX11_rounds_11 dX11_rounds_14 dX11_rounds_15 dX11_rounds_18 (Nat.le_of_ble_eq_true rfl) (Nat.le_of_ble_eq_true rfl) (Nat.le_of_ble_eq_true rfl) (Nat.le_of_ble_eq_true rfl)
  · refine V_icmp_lt X (tgt := 11) dX11_rounds_2 (by decide) (fun b1 => ?_) (fun b1 => ?_)
    · replace h := (if_pos b1).symm.trans h
      refine V_sub X [] (lv' := []) rfl ?_
      exact hk2 h
    · replace h := (if_neg b1).symm.trans h
      refine V_iload_n X 1 dX11_rounds_5 rfl rfl ?_
      refine V_bipush X 60 dX11_rounds_6 (by decide) ?_
      refine V_icmp_le X (tgt := 19) dX11_rounds_8 (by decide) (fun b3 => ?_) (fun b3 => ?_)
      · replace h := (if_pos b3).symm.trans h
        refine V_aload_n X 0 dX11_rounds_19 rfl rfl ?_
        refine V_getr X (o := (0, 0, 0)) (i := (0, 2, 0)) (ci := 11) (k := 7) (N := 16) (T := TX11) (C := RX11) ⟨by decide, rfl⟩ rfl rfl rfl (by decide) (mBa inB_X11) (mB wl_RX11_90) dX11_rounds_20 ?_
        refine V_aload_n X 0 dX11_rounds_23 rfl rfl ?_
        refine V_getr X (o := (0, 0, 0)) (i := (1, 0, 0)) (ci := 11) (k := 3) (N := 16) (T := TX11) (C := RX11) ⟨by decide, rfl⟩ rfl rfl rfl (by decide) (mBa inB_X11) (mB wl_RX11_77) dX11_rounds_24 ?_
        obtain ⟨μ5, c4, h⟩ := bd_some h
        refine V_callVv X (As := [.ref (zad y (1, 0, 0))]) (M_X6_remember (by decide) c4) (cwV 1 X.2.2.2.2.2.2.1 (gV wm_RX11_216 wi_X6_remember wse_X6_remember win_RX6 wc_X6_remember) rfl rfl rfl hd_X6_remember ⟨Nat.le_of_ble_eq_true rfl, Nat.le_of_ble_eq_true rfl⟩) (b := (0, 2, 0)) ⟨by decide, rfl⟩ rfl rfl rfl rfl (Nat.le_of_ble_eq_true rfl) dX11_rounds_27 rfl ?_
        refine V_iconst X 0 dX11_rounds_30 (by decide) ?_
        refine V_istore_n X [(2, .int 0), (0, .ref (zad y (0, 0, 0))), (1, .int a1)] dX11_rounds_31 rfl (by decide) rfl ?_
        refine V_iconst X 0 dX11_rounds_32 (by decide) ?_
        refine V_istore_n X [(3, .int 0), (2, .int 0), (0, .ref (zad y (0, 0, 0))), (1, .int a1)] dX11_rounds_33 rfl (by decide) rfl ?_
        refine V_sub X [2, 3, 1, 0] (lv' := [(0, .ref (zad y (0, 0, 0))), (1, .int a1), (2, .int 0), (3, .int 0)]) rfl ?_
        obtain ⟨x9, μ10, hl, h⟩ := bd2_some h
        have hk : V X μ10 60 [(2, .int x9)] [] := by
          clear hl
          refine V_iload_n X 0 dX11_rounds_60 rfl rfl ?_
          exact V_iretX X h dX11_rounds_61
        refine lp_ind (P := fun q => V X q.2.2 34 [(0, .ref (zad y (0, 0, 0))), (1, .int a1), (2, .int q.1), (3, .int q.2.1)] []) (fun q z h hz => ?_) hl
        obtain ⟨x6, x7, μ8⟩ := q
        replace h := un3_eq h
        show V X μ8 34 [(0, .ref (zad y (0, 0, 0))), (1, .int a1), (2, .int x6), (3, .int x7)] []
        refine V_iload_n X 3 dX11_rounds_34 rfl rfl ?_
        refine V_iload_n X 1 dX11_rounds_35 rfl rfl ?_
        refine V_icmp_ge X (tgt := 60) dX11_rounds_36 (by decide) (fun b11 => ?_) (fun b11 => ?_)
        · replace h := (if_pos b11).symm.trans h
          refine V_sub X [2] (lv' := [(2, .int x6)]) rfl ?_
          cases h
          obtain ⟨rfl, rfl⟩ := pr2 hz
          exact hk
        · replace h := (if_neg b11).symm.trans h
          refine V_iload_n X 2 dX11_rounds_39 rfl rfl ?_
          refine V_aload_n X 0 dX11_rounds_40 rfl rfl ?_
          refine V_getr X (o := (0, 0, 0)) (i := (0, 4, 0)) (ci := 11) (k := 8) (N := 16) (T := TX11) (C := RX11) ⟨by decide, rfl⟩ rfl rfl rfl (by decide) (mBa inB_X11) (mB wl_RX11_20) dX11_rounds_41 ?_
          refine V_aload_n X 0 dX11_rounds_44 rfl rfl ?_
          refine V_getr X (o := (0, 0, 0)) (i := (1, 0, 0)) (ci := 11) (k := 3) (N := 16) (T := TX11) (C := RX11) ⟨by decide, rfl⟩ rfl rfl rfl (by decide) (mBa inB_X11) (mB wl_RX11_77) dX11_rounds_45 ?_
          refine V_iconst X 1 dX11_rounds_48 (by decide) ?_
          obtain ⟨x13, μ14, c12, h⟩ := bd2_some h
          refine V_callVi X (As := [.ref (zad y (1, 0, 0)), .int 1]) (M_X9_play (by decide) c12) (cwV 2 X.2.2.2.2.2.2.1 (gV wm_RX11_219 wi_X9_play wse_X9_play win_RX9 wc_X9_play) rfl rfl rfl hd_X9_play ⟨Nat.le_of_ble_eq_true rfl, Nat.le_of_ble_eq_true rfl⟩) (b := (0, 4, 0)) ⟨by decide, rfl⟩ rfl rfl rfl rfl (Nat.le_of_ble_eq_true rfl) dX11_rounds_49 rfl ?_
          refine V_iadd X dX11_rounds_52 ?_
          refine V_istore_n X [(2, .int (x6 + x13)), (0, .ref (zad y (0, 0, 0))), (1, .int a1), (3, .int x7)] dX11_rounds_53 rfl (by decide) rfl ?_
          refine zlt_el (P := fun (x15 : Int32) => V X μ14 54 [(2, .int x15), (0, .ref (zad y (0, 0, 0))), (1, .int a1), (3, .int x7)] []) h (fun x15 h => ?_)
          refine V_inc X 3 1 [(3, .int (x7 + 1)), (2, .int x15), (0, .ref (zad y (0, 0, 0))), (1, .int a1)] dX11_rounds_54 rfl (by decide) (by decide) rfl ?_
          refine V_goto X (tgt := 34) dX11_rounds_57 (by decide) ?_
          refine V_sub X [2, 3, 1, 0] (lv' := [(0, .ref (zad y (0, 0, 0))), (1, .int a1), (2, .int x15), (3, .int (x7 + 1))]) rfl ?_
          cases h
          exact hz
      · replace h := (if_neg b3).symm.trans h
        refine V_sub X [] (lv' := []) rfl ?_
        exact hk2 h

def f_X11_add (a1 : Int32) (μ : ZMem) : Option ((Int32 ⊕ Nat) × ZMem) := jk (some (.inr 1, μ)) (fun k2 => if a1 < (-9) then k2 else if a1 ≤ 9 then if (μ (1, 0, 0) 4) < 8 then bd (f_X6_remember 0 μ) (fun (μ6 : ZMem) => bd2 (f_X7_addNode 0 a1 μ6) (fun (x8 : Int32) (μ9 : ZMem) => some (.inl x8, μ9))) else some (.inr 5, μ) else k2)
set_option maxRecDepth 100000 in
set_option maxHeartbeats 4000000 in
theorem M_X11_add {l : Launch} {D : va_G} {y : ZLay} {a1 : Int32}  {μ : ZMem} {res : Int32 ⊕ Nat} {μ0 : ZMem} (hlf : l.stackTraces = false) (h : f_X11_add a1 μ = some (res, μ0)) : MX l yX11_add wb_X11_add rm_X11_add D y [.ref (zad y (0, 0, 0)), .int a1] μ res μ0 := by
  unfold f_X11_add at h
  refine MX_of RX11 [(0, .ref (zad y (0, 0, 0))), (1, .int a1)] (by decide) rfl rfl (Nat.le_of_ble_eq_true rfl) rfl ?_
  intro p e s m args below meth c A X hex
  refine V_iload_n X 1 dX11_add_0 rfl rfl ?_
  refine V_bipush X (-9) dX11_add_1 (by decide) ?_
  refine jk0_el (P := V X μ 12 [] []) h (fun h => ?_) (fun k2 hk2 h => ?_)
  · exact V_throw X hex hlf (ik := 119) (ic := 121) 1 h (by decide +kernel) (by decide +kernel) (mB wcl_RX11_119) (mB wine_1) (mBa wx_1) wx_n1 wx_g1 dX11_add_12 dX11_add_15 dX11_add_16 dX11_add_19 (Nat.le_of_ble_eq_true rfl) (Nat.le_of_ble_eq_true rfl) (Nat.le_of_ble_eq_true rfl) (Nat.le_of_ble_eq_true rfl)
  · refine V_icmp_lt X (tgt := 12) dX11_add_3 (by decide) (fun b1 => ?_) (fun b1 => ?_)
    · replace h := (if_pos b1).symm.trans h
      refine V_sub X [] (lv' := []) rfl ?_
      exact hk2 h
    · replace h := (if_neg b1).symm.trans h
      refine V_iload_n X 1 dX11_add_6 rfl rfl ?_
      refine V_bipush X 9 dX11_add_7 (by decide) ?_
      refine V_icmp_le X (tgt := 20) dX11_add_9 (by decide) (fun b3 => ?_) (fun b3 => ?_)
      · replace h := (if_pos b3).symm.trans h
        refine V_aload_n X 0 dX11_add_20 rfl rfl ?_
        refine V_getr X (o := (0, 0, 0)) (i := (1, 0, 0)) (ci := 11) (k := 3) (N := 16) (T := TX11) (C := RX11) ⟨by decide, rfl⟩ rfl rfl rfl (by decide) (mBa inB_X11) (mB wl_RX11_77) dX11_add_21 ?_
        refine V_geti X (o := (1, 0, 0)) (ci := 7) (k := 4) (N := 11) (T := TX7) (C := RX7) ⟨(by decide), rfl⟩ rfl rfl rfl (by decide) (mBa inB_X7) (mB wl_RX11_145) dX11_add_24 ?_
        refine V_bipush X 8 dX11_add_27 (by decide) ?_
        refine V_icmp_lt X (tgt := 40) dX11_add_29 (by decide) (fun b4 => ?_) (fun b4 => ?_)
        · replace h := (if_pos b4).symm.trans h
          refine V_aload_n X 0 dX11_add_40 rfl rfl ?_
          refine V_getr X (o := (0, 0, 0)) (i := (0, 2, 0)) (ci := 11) (k := 7) (N := 16) (T := TX11) (C := RX11) ⟨by decide, rfl⟩ rfl rfl rfl (by decide) (mBa inB_X11) (mB wl_RX11_90) dX11_add_41 ?_
          refine V_aload_n X 0 dX11_add_44 rfl rfl ?_
          refine V_getr X (o := (0, 0, 0)) (i := (1, 0, 0)) (ci := 11) (k := 3) (N := 16) (T := TX11) (C := RX11) ⟨by decide, rfl⟩ rfl rfl rfl (by decide) (mBa inB_X11) (mB wl_RX11_77) dX11_add_45 ?_
          obtain ⟨μ6, c5, h⟩ := bd_some h
          refine V_callVv X (As := [.ref (zad y (1, 0, 0))]) (M_X6_remember (by decide) c5) (cwV 1 X.2.2.2.2.2.2.1 (gV wm_RX11_216 wi_X6_remember wse_X6_remember win_RX6 wc_X6_remember) rfl rfl rfl hd_X6_remember ⟨Nat.le_of_ble_eq_true rfl, Nat.le_of_ble_eq_true rfl⟩) (b := (0, 2, 0)) ⟨by decide, rfl⟩ rfl rfl rfl rfl (Nat.le_of_ble_eq_true rfl) dX11_add_48 rfl ?_
          refine V_aload_n X 0 dX11_add_51 rfl rfl ?_
          refine V_getr X (o := (0, 0, 0)) (i := (1, 0, 0)) (ci := 11) (k := 3) (N := 16) (T := TX11) (C := RX11) ⟨by decide, rfl⟩ rfl rfl rfl (by decide) (mBa inB_X11) (mB wl_RX11_77) dX11_add_52 ?_
          refine V_iload_n X 1 dX11_add_55 rfl rfl ?_
          obtain ⟨x8, μ9, c7, h⟩ := bd2_some h
          refine V_callVi X (As := [.int a1]) (M_X7_addNode (by decide) c7) (cwV 1 X.2.2.2.2.2.2.1 (gV wm_RX11_226 wi_X7_addNode wse_X7_addNode win_RX7 wc_X7_addNode) rfl rfl rfl hd_X7_addNode ⟨Nat.le_of_ble_eq_true rfl, Nat.le_of_ble_eq_true rfl⟩) (b := (1, 0, 0)) ⟨(by decide), rfl⟩ rfl rfl rfl rfl (Nat.le_of_ble_eq_true rfl) dX11_add_56 rfl ?_
          exact V_iretX X h dX11_add_59
        · replace h := (if_neg b4).symm.trans h
          exact V_throw X hex hlf (ik := 223) (ic := 225) 5 h (by decide +kernel) (by decide +kernel) (mB wcl_RX11_223) (mB wine_5) (mBa wx_5) wx_n5 wx_g5 dX11_add_32 dX11_add_35 dX11_add_36 dX11_add_39 (Nat.le_of_ble_eq_true rfl) (Nat.le_of_ble_eq_true rfl) (Nat.le_of_ble_eq_true rfl) (Nat.le_of_ble_eq_true rfl)
      · replace h := (if_neg b3).symm.trans h
        refine V_sub X [] (lv' := []) rfl ?_
        exact hk2 h

def f_X11_power (y : ZLay) (a1 : Int32) (a2 : Int32) (μ : ZMem) : Option ((Int32 ⊕ Nat) × ZMem) := bd (f_X11_isNode a1 μ) (fun (x2 : Int32) => if x2 = 0 then some (.inr 3, μ) else gd (zin a1 8) (zlt (μ (3, 0, a1.toNatClampNeg) 3) (fun (x5 : Int32) => bd (α := Int32) (jk (some 1) (fun k8 => if x5 = 1 then k8 else if x5 = 2 then k8 else some 0)) (fun (x7 : Int32) => jk (some (.inr 5, μ)) (fun k11 => jk (bd (f_X6_remember 0 μ) (fun (μ16 : ZMem) => bd (α := ZMem) (if a2 = 0 then some μ16 else bd2 (f_X3_sum y ((μ16 (1, 0, 0) 10).toNatClampNeg) 0 a1 1012 μ16) (fun (x21 : Int32) (μ22 : ZMem) => zlt (mset μ22 (3, 0, a1.toNatClampNeg) 4 (zmin 99 ((2 + a1) + x21))) (fun (μ23 : ZMem) => zlt (mset μ23 (3, 0, a1.toNatClampNeg) 6 0) (fun (μ24 : ZMem) => zlt (mset μ24 (3, 0, a1.toNatClampNeg) 7 0) (fun (μ25 : ZMem) => some μ25))))) (fun (μ18 : ZMem) => zlt (mset μ18 (3, 0, a1.toNatClampNeg) 5 0) (fun (μ26 : ZMem) => zlt (α := Int32) (if a2 = 0 then 0 else 1) (fun (x28 : Int32) => zlt (mset μ26 (3, 0, a1.toNatClampNeg) 3 x28) (fun (μ29 : ZMem) => some (.inl x5, μ29))))))) (fun k12 => if a2 = 0 then if x5 = 0 then k11 else k12 else if x7 = 0 then k12 else k11))))))
set_option maxRecDepth 100000 in
set_option maxHeartbeats 4000000 in
theorem M_X11_power {l : Launch} {D : va_G} {y : ZLay} {a1 : Int32} {a2 : Int32}  {μ : ZMem} {res : Int32 ⊕ Nat} {μ0 : ZMem} (hlf : l.stackTraces = false) (h : f_X11_power y a1 a2 μ = some (res, μ0)) : MX l yX11_power wb_X11_power rm_X11_power D y [.ref (zad y (0, 0, 0)), .int a1, .int a2] μ res μ0 := by
  unfold f_X11_power at h
  refine MX_of RX11 [(0, .ref (zad y (0, 0, 0))), (1, .int a1), (2, .int a2)] (by decide) rfl rfl (Nat.le_of_ble_eq_true rfl) rfl ?_
  intro p e s m args below meth c A X hex
  refine V_aload_n X 0 dX11_power_0 rfl rfl ?_
  refine V_iload_n X 1 dX11_power_1 rfl rfl ?_
  obtain ⟨x2, c1, h⟩ := bd_some h
  refine V_callVi X (As := [.int a1]) (M_X11_isNode c1) (cwV 1 X.2.2.2.2.2.2.1 (gV wm_RX11_148 wi_X11_isNode wse_X11_isNode win_RX11 wc_X11_isNode) rfl rfl rfl hd_X11_isNode ⟨Nat.le_of_ble_eq_true rfl, Nat.le_of_ble_eq_true rfl⟩) (b := (0, 0, 0)) ⟨by decide, rfl⟩ rfl rfl rfl rfl (Nat.le_of_ble_eq_true rfl) dX11_power_2 rfl ?_
  refine V_if_ne X (tgt := 16) dX11_power_5 (by decide) (fun b3 => ?_) (fun b3 => ?_)
  · replace h := (if_neg b3).symm.trans h
    refine V_aload_n X 0 dX11_power_16 rfl rfl ?_
    refine V_getr X (o := (0, 0, 0)) (i := (1, 0, 0)) (ci := 11) (k := 3) (N := 16) (T := TX11) (C := RX11) ⟨by decide, rfl⟩ rfl rfl rfl (by decide) (mBa inB_X11) (mB wl_RX11_77) dX11_power_17 ?_
    refine V_getr X (o := (1, 0, 0)) (i := (2, 0, 0)) (ci := 7) (k := 0) (N := 11) (T := TX7) (C := RX7) ⟨(by decide), rfl⟩ rfl rfl rfl (by decide) (mBa inB_X7) (mB wl_RX11_158) dX11_power_20 ?_
    refine V_iload_n X 1 dX11_power_23 rfl rfl ?_
    obtain ⟨g4, h⟩ := gd_some h
    refine V_aald X a1.toNatClampNeg rfl (o := (2, 0, 0)) ⟨(by decide), rfl⟩ rfl rfl rfl rfl g4 dX11_power_24 ?_
    refine V_astore_n X [(3, .ref (zad y (3, 0, a1.toNatClampNeg))), (0, .ref (zad y (0, 0, 0))), (1, .int a1), (2, .int a2)] dX11_power_25 rfl (by decide) rfl ?_
    refine V_aload_n X 0 dX11_power_26 rfl rfl ?_
    refine V_geti X (o := (3, 0, a1.toNatClampNeg)) (ci := 5) (k := 3) (N := 11) (T := TX5) (C := RX5) ⟨(by decide), zin_lt g4⟩ rfl rfl rfl (by decide) (mBa inB_X5) (mB wl_RX11_196) dX11_power_27 ?_
    refine V_istore X [(4, .int (μ (3, 0, a1.toNatClampNeg) 3)), (3, .ref (zad y (3, 0, a1.toNatClampNeg))), (0, .ref (zad y (0, 0, 0))), (1, .int a1), (2, .int a2)] dX11_power_30 (by decide) rfl ?_
    refine zlt_el (P := fun (x5 : Int32) => V X μ 32 [(4, .int x5), (3, .ref (zad y (3, 0, a1.toNatClampNeg))), (0, .ref (zad y (0, 0, 0))), (1, .int a1), (2, .int a2)] []) h (fun x5 h => ?_)
    refine V_iload X 0 dX11_power_32 rfl ?_
    refine V_iconst X 1 dX11_power_34 (by decide) ?_
    obtain ⟨x7, h1, h⟩ := bd_some h
    have hk : V X μ 49 [(0, .ref (zad y (0, 0, 0))), (1, .int a1), (2, .int a2), (3, .ref (zad y (3, 0, a1.toNatClampNeg))), (4, .int x5)] [.int x7] := by
      clear h1
      refine V_istore X [(5, .int x7), (0, .ref (zad y (0, 0, 0))), (1, .int a1), (2, .int a2), (3, .ref (zad y (3, 0, a1.toNatClampNeg))), (4, .int x5)] dX11_power_49 (by decide) rfl ?_
      refine V_iload_n X 3 dX11_power_51 rfl rfl ?_
      refine jk0_el (P := V X μ 68 [] []) h (fun h => ?_) (fun k11 hk11 h => ?_)
      · exact V_throw X hex hlf (ik := 223) (ic := 225) 5 h (by decide +kernel) (by decide +kernel) (mB wcl_RX11_223) (mB wine_5) (mBa wx_5) wx_n5 wx_g5 dX11_power_68 dX11_power_71 dX11_power_72 dX11_power_75 (Nat.le_of_ble_eq_true rfl) (Nat.le_of_ble_eq_true rfl) (Nat.le_of_ble_eq_true rfl) (Nat.le_of_ble_eq_true rfl)
      · refine jk0_el (P := V X μ 76 [(0, .ref (zad y (0, 0, 0))), (1, .int a1), (2, .int a2), (3, .ref (zad y (3, 0, a1.toNatClampNeg))), (4, .int x5)] []) h (fun h => ?_) (fun k12 hk12 h => ?_)
        · refine V_aload_n X 0 dX11_power_76 rfl rfl ?_
          refine V_getr X (o := (0, 0, 0)) (i := (0, 2, 0)) (ci := 11) (k := 7) (N := 16) (T := TX11) (C := RX11) ⟨by decide, rfl⟩ rfl rfl rfl (by decide) (mBa inB_X11) (mB wl_RX11_90) dX11_power_77 ?_
          refine V_aload_n X 0 dX11_power_80 rfl rfl ?_
          refine V_getr X (o := (0, 0, 0)) (i := (1, 0, 0)) (ci := 11) (k := 3) (N := 16) (T := TX11) (C := RX11) ⟨by decide, rfl⟩ rfl rfl rfl (by decide) (mBa inB_X11) (mB wl_RX11_77) dX11_power_81 ?_
          obtain ⟨μ16, c15, h⟩ := bd_some h
          refine V_callVv X (As := [.ref (zad y (1, 0, 0))]) (M_X6_remember (by decide) c15) (cwV 1 X.2.2.2.2.2.2.1 (gV wm_RX11_216 wi_X6_remember wse_X6_remember win_RX6 wc_X6_remember) rfl rfl rfl hd_X6_remember ⟨Nat.le_of_ble_eq_true rfl, Nat.le_of_ble_eq_true rfl⟩) (b := (0, 2, 0)) ⟨by decide, rfl⟩ rfl rfl rfl rfl (Nat.le_of_ble_eq_true rfl) dX11_power_84 rfl ?_
          refine V_iload_n X 2 dX11_power_87 rfl rfl ?_
          obtain ⟨μ18, h1, h⟩ := bd_some h
          have hk : V X μ18 132 [(2, .int a2), (3, .ref (zad y (3, 0, a1.toNatClampNeg))), (4, .int x5)] [] := by
            clear h1
            refine V_aload_n X 1 dX11_power_132 rfl rfl ?_
            refine V_iconst X 0 dX11_power_133 (by decide) ?_
            refine V_puti X tyX5 .int (o := (3, 0, a1.toNatClampNeg)) (ci := 5) (k := 5) (N := 11) (T := TX5) (C := RX5) ⟨(by decide), zin_lt g4⟩ rfl rfl rfl (by decide) (mBa inB_X5) tyX5_ok nmX5 (mB wl_RX11_244) rfl rfl rfl rfl dX11_power_134 ?_
            refine zlt_el (P := fun (μ26 : ZMem) => V X μ26 137 [(2, .int a2), (3, .ref (zad y (3, 0, a1.toNatClampNeg))), (4, .int x5)] []) h (fun μ26 h => ?_)
            refine V_aload_n X 1 dX11_power_137 rfl rfl ?_
            refine V_iload_n X 0 dX11_power_138 rfl rfl ?_
            obtain ⟨x28, h1, h⟩ := zl1_some h
            have hk : V X μ26 147 [(4, .int x5)] [.int x28, .ref (zad y (3, 0, a1.toNatClampNeg))] := by
              clear h1
              refine V_puti X tyX5 .int (o := (3, 0, a1.toNatClampNeg)) (ci := 5) (k := 3) (N := 11) (T := TX5) (C := RX5) ⟨(by decide), zin_lt g4⟩ rfl rfl rfl (by decide) (mBa inB_X5) tyX5_ok nmX5 (mB wl_RX11_196) rfl rfl rfl rfl dX11_power_147 ?_
              refine zlt_el (P := fun (μ29 : ZMem) => V X μ29 150 [(4, .int x5)] []) h (fun μ29 h => ?_)
              refine V_iload X 0 dX11_power_150 rfl ?_
              exact V_iretX X h dX11_power_152
            replace h := h1
            clear h1
            refine V_if_eq X (tgt := 146) dX11_power_139 (by decide) (fun b27 => ?_) (fun b27 => ?_)
            · replace h := (if_pos b27).symm.trans h
              refine V_iconst X 0 dX11_power_146 (by decide) ?_
              refine V_sub X [2] (lv' := [(4, .int x5)]) rfl ?_
              obtain rfl := pr1 h
              exact hk
            · replace h := (if_neg b27).symm.trans h
              refine V_iconst X 1 dX11_power_142 (by decide) ?_
              refine V_goto X (tgt := 147) dX11_power_143 (by decide) ?_
              refine V_sub X [2] (lv' := [(4, .int x5)]) rfl ?_
              obtain rfl := pr1 h
              exact hk
          replace h := h1
          clear h1
          refine V_if_eq X (tgt := 132) dX11_power_88 (by decide) (fun b17 => ?_) (fun b17 => ?_)
          · replace h := (if_pos b17).symm.trans h
            refine V_sub X [2, 3, 4] (lv' := [(2, .int a2), (3, .ref (zad y (3, 0, a1.toNatClampNeg))), (4, .int x5)]) rfl ?_
            obtain rfl := so1 h
            exact hk
          · replace h := (if_neg b17).symm.trans h
            refine V_aload_n X 3 dX11_power_91 rfl rfl ?_
            refine V_bipush X 99 dX11_power_92 (by decide) ?_
            refine V_iconst X 2 dX11_power_94 (by decide) ?_
            refine V_iload_n X 1 dX11_power_95 rfl rfl ?_
            refine V_iadd X dX11_power_96 ?_
            refine V_aload_n X 0 dX11_power_97 rfl rfl ?_
            refine V_getr X (o := (0, 0, 0)) (i := (1, 0, 0)) (ci := 11) (k := 3) (N := 16) (T := TX11) (C := RX11) ⟨by decide, rfl⟩ rfl rfl rfl (by decide) (mBa inB_X11) (mB wl_RX11_77) dX11_power_98 ?_
            refine V_getl X (by decide) (mBa inB_X7) (mB wl_RX11_138) dX11_power_101 (fun hn19 => ?_)
            refine V_aload_n X 0 dX11_power_104 rfl rfl ?_
            refine V_getr X (o := (0, 0, 0)) (i := (1, 0, 0)) (ci := 11) (k := 3) (N := 16) (T := TX11) (C := RX11) ⟨by decide, rfl⟩ rfl rfl rfl (by decide) (mBa inB_X11) (mB wl_RX11_77) dX11_power_105 ?_
            refine V_iload_n X 1 dX11_power_108 rfl rfl ?_
            refine V_sipush X 1012 dX11_power_109 (by decide) ?_
            obtain ⟨x21, μ22, c20, h⟩ := bd2_some h
            refine V_callVi X (As := [.ref (zad y (1, 0, 0)), .int a1, .int 1012]) (M_X3_sum hn19 (by decide) c20) (cwV 3 X.2.2.2.2.2.2.1 (gV wm_RX11_183 wi_X3_sum wse_X3_sum win_RX3 wc_X3_sum) rfl rfl rfl hd_X3_sum ⟨Nat.le_of_ble_eq_true rfl, Nat.le_of_ble_eq_true rfl⟩) (b := (5, (μ16 (1, 0, 0) 10).toNatClampNeg, 0)) ⟨hn19, rfl⟩ rfl rfl rfl rfl (Nat.le_of_ble_eq_true rfl) dX11_power_112 rfl ?_
            refine V_iadd X dX11_power_115 ?_
            refine V_zmin X (ix := 229) (mB wm_RX11_229) (mB wst_Math_min) (mB win_Math) (mB wc_Math_min) (Nat.le_of_ble_eq_true rfl) (Nat.le_of_ble_eq_true rfl) dX11_power_116 ?_
            refine V_puti X tyX5 .int (o := (3, 0, a1.toNatClampNeg)) (ci := 5) (k := 4) (N := 11) (T := TX5) (C := RX5) ⟨(by decide), zin_lt g4⟩ rfl rfl rfl (by decide) (mBa inB_X5) tyX5_ok nmX5 (mB wl_RX11_235) rfl rfl rfl rfl dX11_power_119 ?_
            refine zlt_el (P := fun (μ23 : ZMem) => V X μ23 122 [(0, .ref (zad y (0, 0, 0))), (1, .int a1), (2, .int a2), (3, .ref (zad y (3, 0, a1.toNatClampNeg))), (4, .int x5)] []) h (fun μ23 h => ?_)
            refine V_aload_n X 3 dX11_power_122 rfl rfl ?_
            refine V_iconst X 0 dX11_power_123 (by decide) ?_
            refine V_puti X tyX5 .int (o := (3, 0, a1.toNatClampNeg)) (ci := 5) (k := 6) (N := 11) (T := TX5) (C := RX5) ⟨(by decide), zin_lt g4⟩ rfl rfl rfl (by decide) (mBa inB_X5) tyX5_ok nmX5 (mB wl_RX11_238) rfl rfl rfl rfl dX11_power_124 ?_
            refine zlt_el (P := fun (μ24 : ZMem) => V X μ24 127 [(0, .ref (zad y (0, 0, 0))), (1, .int a1), (2, .int a2), (3, .ref (zad y (3, 0, a1.toNatClampNeg))), (4, .int x5)] []) h (fun μ24 h => ?_)
            refine V_aload_n X 3 dX11_power_127 rfl rfl ?_
            refine V_iconst X 0 dX11_power_128 (by decide) ?_
            refine V_puti X tyX5 .int (o := (3, 0, a1.toNatClampNeg)) (ci := 5) (k := 7) (N := 11) (T := TX5) (C := RX5) ⟨(by decide), zin_lt g4⟩ rfl rfl rfl (by decide) (mBa inB_X5) tyX5_ok nmX5 (mB wl_RX11_241) rfl rfl rfl rfl dX11_power_129 ?_
            refine zlt_el (P := fun (μ25 : ZMem) => V X μ25 132 [(0, .ref (zad y (0, 0, 0))), (1, .int a1), (2, .int a2), (3, .ref (zad y (3, 0, a1.toNatClampNeg))), (4, .int x5)] []) h (fun μ25 h => ?_)
            refine V_sub X [2, 3, 4] (lv' := [(2, .int a2), (3, .ref (zad y (3, 0, a1.toNatClampNeg))), (4, .int x5)]) rfl ?_
            obtain rfl := so1 h
            exact hk
        · refine V_if_eq X (tgt := 63) dX11_power_52 (by decide) (fun b10 => ?_) (fun b10 => ?_)
          · replace h := (if_pos b10).symm.trans h
            refine V_iload X 5 dX11_power_63 rfl ?_
            refine V_if_ne X (tgt := 76) dX11_power_65 (by decide) (fun b13 => ?_) (fun b13 => ?_)
            · replace h := (if_neg b13).symm.trans h
              refine V_sub X [1, 2, 3, 4, 5] (lv' := [(0, .ref (zad y (0, 0, 0))), (1, .int a1), (2, .int a2), (3, .ref (zad y (3, 0, a1.toNatClampNeg))), (4, .int x5)]) rfl ?_
              exact hk12 h
            · replace h := (if_pos b13).symm.trans h
              refine V_sub X [] (lv' := []) rfl ?_
              exact hk11 h
          · replace h := (if_neg b10).symm.trans h
            refine V_iload X 0 dX11_power_55 rfl ?_
            refine V_if_eq X (tgt := 76) dX11_power_57 (by decide) (fun b14 => ?_) (fun b14 => ?_)
            · replace h := (if_pos b14).symm.trans h
              refine V_sub X [1, 2, 3, 4, 5] (lv' := [(0, .ref (zad y (0, 0, 0))), (1, .int a1), (2, .int a2), (3, .ref (zad y (3, 0, a1.toNatClampNeg))), (4, .int x5)]) rfl ?_
              exact hk12 h
            · replace h := (if_neg b14).symm.trans h
              refine V_goto X (tgt := 68) dX11_power_60 (by decide) ?_
              refine V_sub X [] (lv' := []) rfl ?_
              exact hk11 h
    replace h := h1
    clear h1
    refine jk0_el (P := V X μ 44 [(0, .ref (zad y (0, 0, 0))), (1, .int a1), (2, .int a2), (3, .ref (zad y (3, 0, a1.toNatClampNeg))), (4, .int x5)] []) h (fun h => ?_) (fun k8 hk8 h => ?_)
    · refine V_iconst X 1 dX11_power_44 (by decide) ?_
      refine V_goto X (tgt := 49) dX11_power_45 (by decide) ?_
      obtain rfl := so1 h
      exact hk
    · refine V_icmp_eq X (tgt := 44) dX11_power_35 (by decide) (fun b6 => ?_) (fun b6 => ?_)
      · replace h := (if_pos b6).symm.trans h
        refine V_sub X [2, 3, 4, 1, 0] (lv' := [(0, .ref (zad y (0, 0, 0))), (1, .int a1), (2, .int a2), (3, .ref (zad y (3, 0, a1.toNatClampNeg))), (4, .int x5)]) rfl ?_
        exact hk8 h
      · replace h := (if_neg b6).symm.trans h
        refine V_iload X 0 dX11_power_38 rfl ?_
        refine V_iconst X 2 dX11_power_40 (by decide) ?_
        refine V_icmp_ne X (tgt := 48) dX11_power_41 (by decide) (fun b9 => ?_) (fun b9 => ?_)
        · replace h := (if_neg b9).symm.trans h
          refine V_iconst X 0 dX11_power_48 (by decide) ?_
          refine V_sub X [2, 3, 4, 1, 0] (lv' := [(0, .ref (zad y (0, 0, 0))), (1, .int a1), (2, .int a2), (3, .ref (zad y (3, 0, a1.toNatClampNeg))), (4, .int x5)]) rfl ?_
          obtain rfl := so1 h
          exact hk
        · replace h := (if_pos b9).symm.trans h
          refine V_sub X [2, 3, 4, 1, 0] (lv' := [(0, .ref (zad y (0, 0, 0))), (1, .int a1), (2, .int a2), (3, .ref (zad y (3, 0, a1.toNatClampNeg))), (4, .int x5)]) rfl ?_
          exact hk8 h
  · replace h := (if_pos b3).symm.trans h
    exact V_throw X hex hlf (ik := 152) (ic := 154) 3 h (by decide +kernel) (by decide +kernel) (mB wcl_RX11_152) (mB wine_3) (mBa wx_3) wx_n3 wx_g3 dX11_power_8 dX11_power_11 dX11_power_12 dX11_power_15 (Nat.le_of_ble_eq_true rfl) (Nat.le_of_ble_eq_true rfl) (Nat.le_of_ble_eq_true rfl) (Nat.le_of_ble_eq_true rfl)

