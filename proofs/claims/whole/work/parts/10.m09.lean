def f_X12_tells (a1 : Int32) (a2 : Int32) (a3 : Int32) (μ : ZMem) : Option (ZMem) := bd2 (f_X12_figures a2 a3 μ) (fun (x2 : Int32) (μ3 : ZMem) => bd (α := ZMem) (if (μ3 (0, 32, 0) 12) = (-1) then gd (zin a1 737) (zlt (mset μ3 (0, 33, 0) a1.toNatClampNeg x2) (fun (μ7 : ZMem) => some μ7)) else some μ3) (fun (μ5 : ZMem) => some μ5))
set_option maxRecDepth 100000 in
set_option maxHeartbeats 4000000 in
theorem M_X12_tells {l : Launch} {D : va_G} {y : ZLay} {a1 : Int32} {a2 : Int32} {a3 : Int32}  {μ : ZMem} {μ0 : ZMem} (h : f_X12_tells a1 a2 a3 μ = some μ0) : MV l yX12_tells wb_X12_tells rm_X12_tells D y [.ref (zad y (0, 32, 0)), .int a1, .int a2, .int a3] μ μ0 := by
  unfold f_X12_tells at h
  refine MV_of RX12 [(0, .ref (zad y (0, 32, 0))), (1, .int a1), (2, .int a2), (3, .int a3)] (by decide) rfl rfl (Nat.le_of_ble_eq_true rfl) rfl ?_
  intro p e s m args below meth c A X
  refine V_aload_n X 0 dX12_tells_0 rfl rfl ?_
  refine V_iload_n X 2 dX12_tells_1 rfl rfl ?_
  refine V_iload_n X 3 dX12_tells_2 rfl rfl ?_
  obtain ⟨x2, μ3, c1, h⟩ := bd2_some h
  refine V_callVi X (As := [.int a2, .int a3]) (M_X12_figures c1) (cwV 2 X.2.2.2.2.2.2.1 (gV wm_RX12_116 wi_X12_figures wse_X12_figures win_RX12 wc_X12_figures) rfl rfl rfl hd_X12_figures ⟨Nat.le_of_ble_eq_true rfl, Nat.le_of_ble_eq_true rfl⟩) (b := (0, 32, 0)) ⟨by decide, rfl⟩ rfl rfl rfl rfl (Nat.le_of_ble_eq_true rfl) dX12_tells_3 rfl ?_
  refine V_istore X [(4, .int x2), (0, .ref (zad y (0, 32, 0))), (1, .int a1), (2, .int a2), (3, .int a3)] dX12_tells_6 (by decide) rfl ?_
  refine V_aload_n X 1 dX12_tells_8 rfl rfl ?_
  refine V_geti X (o := (0, 32, 0)) (ci := 12) (k := 12) (N := 30) (T := TX12) (C := RX12) ⟨by decide, rfl⟩ rfl rfl rfl (by decide) (mBa inB_X12) (mB wl_RX12_25) dX12_tells_9 ?_
  refine V_iconst X (-1) dX12_tells_12 (by decide) ?_
  obtain ⟨μ5, h1, h⟩ := bd_some h
  have hk : V X μ5 24 [] [] := by
    clear h1
    exact V_vretW X h dX12_tells_24
  replace h := h1
  clear h1
  refine V_icmp_ne X (tgt := 24) dX12_tells_13 (by decide) (fun b4 => ?_) (fun b4 => ?_)
  · replace h := (if_neg b4).symm.trans h
    refine V_sub X [] (lv' := []) rfl ?_
    obtain rfl := so1 h
    exact hk
  · replace h := (if_pos b4).symm.trans h
    refine V_aload_n X 1 dX12_tells_16 rfl rfl ?_
    refine V_getr X (o := (0, 32, 0)) (i := (0, 33, 0)) (ci := 12) (k := 1) (N := 30) (T := TX12) (C := RX12) ⟨by decide, rfl⟩ rfl rfl rfl (by decide) (mBa inB_X12) (mB wl_RX12_7) dX12_tells_17 ?_
    refine V_iload_n X 2 dX12_tells_20 rfl rfl ?_
    refine V_iload X 0 dX12_tells_21 rfl ?_
    obtain ⟨g6, h⟩ := gd_some h
    refine V_iast X a1.toNatClampNeg rfl (o := (0, 33, 0)) (n := 737) ⟨by decide, rfl⟩ rfl rfl g6 dX12_tells_23 ?_
    refine zlt_el (P := fun (μ7 : ZMem) => V X μ7 24 [(4, .int x2), (0, .ref (zad y (0, 32, 0))), (1, .int a1), (2, .int a2), (3, .int a3)] []) h (fun μ7 h => ?_)
    refine V_sub X [] (lv' := []) rfl ?_
    obtain rfl := so1 h
    exact hk

def f_X12_clusterLine (μ : ZMem) : Option (ZMem) := bd2 (f_X12_here μ) (fun (x2 : Int32) (μ3 : ZMem) => bd2 (f_X12_has 11 μ3) (fun (x5 : Int32) (μ6 : ZMem) => bd (α := ZMem) (if x5 = 0 then bd2 (f_X12_has 12 μ6) (fun (x10 : Int32) (μ11 : ZMem) => if x10 = 0 then bd2 (f_X12_has 13 μ11) (fun (x14 : Int32) (μ15 : ZMem) => if x14 = 0 then bd2 (f_X12_has 14 μ15) (fun (x18 : Int32) (μ19 : ZMem) => if x18 = 0 then bd (f_X12_wrong (μ19 (0, 32, 0) 11) μ19) (fun (μ22 : ZMem) => some μ22) else bd (f_X12_tells 6 0 999 μ19) (fun (μ24 : ZMem) => some μ24)) else bd (f_X12_tells 5 1 999 μ15) (fun (μ26 : ZMem) => some μ26)) else bd (f_X12_tells 4 1 999 μ11) (fun (μ28 : ZMem) => some μ28)) else bd (f_X12_nodeLine x2 μ6) (fun (μ30 : ZMem) => some μ30)) (fun (μ8 : ZMem) => some μ8)))
set_option maxRecDepth 100000 in
set_option maxHeartbeats 4000000 in
theorem M_X12_clusterLine {l : Launch} {D : va_G} {y : ZLay}   {μ : ZMem} {μ0 : ZMem} (h : f_X12_clusterLine μ = some μ0) : MV l yX12_clusterLine wb_X12_clusterLine rm_X12_clusterLine D y [.ref (zad y (0, 32, 0))] μ μ0 := by
  unfold f_X12_clusterLine at h
  refine MV_of RX12 [(0, .ref (zad y (0, 32, 0)))] (by decide) rfl rfl (Nat.le_of_ble_eq_true rfl) rfl ?_
  intro p e s m args below meth c A X
  refine V_aload_n X 0 dX12_clusterLine_0 rfl rfl ?_
  obtain ⟨x2, μ3, c1, h⟩ := bd2_some h
  refine V_callVi X (As := []) (M_X12_here c1) (cwV 0 X.2.2.2.2.2.2.1 (gV wm_RX12_105 wi_X12_here wse_X12_here win_RX12 wc_X12_here) rfl rfl rfl hd_X12_here ⟨Nat.le_of_ble_eq_true rfl, Nat.le_of_ble_eq_true rfl⟩) (b := (0, 32, 0)) ⟨by decide, rfl⟩ rfl rfl rfl rfl (Nat.le_of_ble_eq_true rfl) dX12_clusterLine_1 rfl ?_
  refine V_istore_n X [(1, .int x2), (0, .ref (zad y (0, 32, 0)))] dX12_clusterLine_4 rfl (by decide) rfl ?_
  refine V_aload_n X 1 dX12_clusterLine_5 rfl rfl ?_
  refine V_ldcS X (i := 11) (ix := 150) rfl dX12_clusterLine_6 ?_
  obtain ⟨x5, μ6, c4, h⟩ := bd2_some h
  refine V_callVi X (As := [.ref (zak y 11)]) (M_X12_has (by decide) c4) (cwV 1 X.2.2.2.2.2.2.1 (gV wm_RX12_112 wi_X12_has wse_X12_has win_RX12 wc_X12_has) rfl rfl rfl hd_X12_has ⟨Nat.le_of_ble_eq_true rfl, Nat.le_of_ble_eq_true rfl⟩) (b := (0, 32, 0)) ⟨by decide, rfl⟩ rfl rfl rfl rfl (Nat.le_of_ble_eq_true rfl) dX12_clusterLine_8 rfl ?_
  obtain ⟨μ8, h1, h⟩ := bd_some h
  have hk : V X μ8 94 [] [] := by
    clear h1
    exact V_vretW X h dX12_clusterLine_94
  replace h := h1
  clear h1
  refine V_if_eq X (tgt := 22) dX12_clusterLine_11 (by decide) (fun b7 => ?_) (fun b7 => ?_)
  · replace h := (if_pos b7).symm.trans h
    refine V_aload_n X 1 dX12_clusterLine_22 rfl rfl ?_
    refine V_ldcS X (i := 12) (ix := 155) rfl dX12_clusterLine_23 ?_
    obtain ⟨x10, μ11, c9, h⟩ := bd2_some h
    refine V_callVi X (As := [.ref (zak y 12)]) (M_X12_has (by decide) c9) (cwV 1 X.2.2.2.2.2.2.1 (gV wm_RX12_112 wi_X12_has wse_X12_has win_RX12 wc_X12_has) rfl rfl rfl hd_X12_has ⟨Nat.le_of_ble_eq_true rfl, Nat.le_of_ble_eq_true rfl⟩) (b := (0, 32, 0)) ⟨by decide, rfl⟩ rfl rfl rfl rfl (Nat.le_of_ble_eq_true rfl) dX12_clusterLine_25 rfl ?_
    refine V_if_eq X (tgt := 43) dX12_clusterLine_28 (by decide) (fun b12 => ?_) (fun b12 => ?_)
    · replace h := (if_pos b12).symm.trans h
      refine V_aload_n X 1 dX12_clusterLine_43 rfl rfl ?_
      refine V_ldcS X (i := 13) (ix := 160) rfl dX12_clusterLine_44 ?_
      obtain ⟨x14, μ15, c13, h⟩ := bd2_some h
      refine V_callVi X (As := [.ref (zak y 13)]) (M_X12_has (by decide) c13) (cwV 1 X.2.2.2.2.2.2.1 (gV wm_RX12_112 wi_X12_has wse_X12_has win_RX12 wc_X12_has) rfl rfl rfl hd_X12_has ⟨Nat.le_of_ble_eq_true rfl, Nat.le_of_ble_eq_true rfl⟩) (b := (0, 32, 0)) ⟨by decide, rfl⟩ rfl rfl rfl rfl (Nat.le_of_ble_eq_true rfl) dX12_clusterLine_46 rfl ?_
      refine V_if_eq X (tgt := 64) dX12_clusterLine_49 (by decide) (fun b16 => ?_) (fun b16 => ?_)
      · replace h := (if_pos b16).symm.trans h
        refine V_aload_n X 1 dX12_clusterLine_64 rfl rfl ?_
        refine V_ldcS X (i := 14) (ix := 162) rfl dX12_clusterLine_65 ?_
        obtain ⟨x18, μ19, c17, h⟩ := bd2_some h
        refine V_callVi X (As := [.ref (zak y 14)]) (M_X12_has (by decide) c17) (cwV 1 X.2.2.2.2.2.2.1 (gV wm_RX12_112 wi_X12_has wse_X12_has win_RX12 wc_X12_has) rfl rfl rfl hd_X12_has ⟨Nat.le_of_ble_eq_true rfl, Nat.le_of_ble_eq_true rfl⟩) (b := (0, 32, 0)) ⟨by decide, rfl⟩ rfl rfl rfl rfl (Nat.le_of_ble_eq_true rfl) dX12_clusterLine_67 rfl ?_
        refine V_if_eq X (tgt := 86) dX12_clusterLine_70 (by decide) (fun b20 => ?_) (fun b20 => ?_)
        · replace h := (if_pos b20).symm.trans h
          refine V_aload_n X 1 dX12_clusterLine_86 rfl rfl ?_
          refine V_aload_n X 1 dX12_clusterLine_87 rfl rfl ?_
          refine V_geti X (o := (0, 32, 0)) (ci := 12) (k := 11) (N := 30) (T := TX12) (C := RX12) ⟨by decide, rfl⟩ rfl rfl rfl (by decide) (mBa inB_X12) (mB wl_RX12_82) dX12_clusterLine_88 ?_
          obtain ⟨μ22, c21, h⟩ := bd_some h
          refine V_callVv X (As := [.int (μ19 (0, 32, 0) 11)]) (M_X12_wrong c21) (cwV 1 X.2.2.2.2.2.2.1 (gV wm_RX12_108 wi_X12_wrong wse_X12_wrong win_RX12 wc_X12_wrong) rfl rfl rfl hd_X12_wrong ⟨Nat.le_of_ble_eq_true rfl, Nat.le_of_ble_eq_true rfl⟩) (b := (0, 32, 0)) ⟨by decide, rfl⟩ rfl rfl rfl rfl (Nat.le_of_ble_eq_true rfl) dX12_clusterLine_91 rfl ?_
          refine V_sub X [] (lv' := []) rfl ?_
          obtain rfl := so1 h
          exact hk
        · replace h := (if_neg b20).symm.trans h
          refine V_aload_n X 1 dX12_clusterLine_73 rfl rfl ?_
          refine V_bipush X 6 dX12_clusterLine_74 (by decide) ?_
          refine V_iconst X 0 dX12_clusterLine_76 (by decide) ?_
          refine V_sipush X 999 dX12_clusterLine_77 (by decide) ?_
          obtain ⟨μ24, c23, h⟩ := bd_some h
          refine V_callVv X (As := [.int 6, .int 0, .int 999]) (M_X12_tells c23) (cwV 3 X.2.2.2.2.2.2.1 (gV wm_RX12_157 wi_X12_tells wse_X12_tells win_RX12 wc_X12_tells) rfl rfl rfl hd_X12_tells ⟨Nat.le_of_ble_eq_true rfl, Nat.le_of_ble_eq_true rfl⟩) (b := (0, 32, 0)) ⟨by decide, rfl⟩ rfl rfl rfl rfl (Nat.le_of_ble_eq_true rfl) dX12_clusterLine_80 rfl ?_
          refine V_goto X (tgt := 94) dX12_clusterLine_83 (by decide) ?_
          refine V_sub X [] (lv' := []) rfl ?_
          obtain rfl := so1 h
          exact hk
      · replace h := (if_neg b16).symm.trans h
        refine V_aload_n X 1 dX12_clusterLine_52 rfl rfl ?_
        refine V_iconst X 5 dX12_clusterLine_53 (by decide) ?_
        refine V_iconst X 1 dX12_clusterLine_54 (by decide) ?_
        refine V_sipush X 999 dX12_clusterLine_55 (by decide) ?_
        obtain ⟨μ26, c25, h⟩ := bd_some h
        refine V_callVv X (As := [.int 5, .int 1, .int 999]) (M_X12_tells c25) (cwV 3 X.2.2.2.2.2.2.1 (gV wm_RX12_157 wi_X12_tells wse_X12_tells win_RX12 wc_X12_tells) rfl rfl rfl hd_X12_tells ⟨Nat.le_of_ble_eq_true rfl, Nat.le_of_ble_eq_true rfl⟩) (b := (0, 32, 0)) ⟨by decide, rfl⟩ rfl rfl rfl rfl (Nat.le_of_ble_eq_true rfl) dX12_clusterLine_58 rfl ?_
        refine V_goto X (tgt := 94) dX12_clusterLine_61 (by decide) ?_
        refine V_sub X [] (lv' := []) rfl ?_
        obtain rfl := so1 h
        exact hk
    · replace h := (if_neg b12).symm.trans h
      refine V_aload_n X 1 dX12_clusterLine_31 rfl rfl ?_
      refine V_iconst X 4 dX12_clusterLine_32 (by decide) ?_
      refine V_iconst X 1 dX12_clusterLine_33 (by decide) ?_
      refine V_sipush X 999 dX12_clusterLine_34 (by decide) ?_
      obtain ⟨μ28, c27, h⟩ := bd_some h
      refine V_callVv X (As := [.int 4, .int 1, .int 999]) (M_X12_tells c27) (cwV 3 X.2.2.2.2.2.2.1 (gV wm_RX12_157 wi_X12_tells wse_X12_tells win_RX12 wc_X12_tells) rfl rfl rfl hd_X12_tells ⟨Nat.le_of_ble_eq_true rfl, Nat.le_of_ble_eq_true rfl⟩) (b := (0, 32, 0)) ⟨by decide, rfl⟩ rfl rfl rfl rfl (Nat.le_of_ble_eq_true rfl) dX12_clusterLine_37 rfl ?_
      refine V_goto X (tgt := 94) dX12_clusterLine_40 (by decide) ?_
      refine V_sub X [] (lv' := []) rfl ?_
      obtain rfl := so1 h
      exact hk
  · replace h := (if_neg b7).symm.trans h
    refine V_aload_n X 1 dX12_clusterLine_14 rfl rfl ?_
    refine V_iload_n X 0 dX12_clusterLine_15 rfl rfl ?_
    obtain ⟨μ30, c29, h⟩ := bd_some h
    refine V_callVv X (As := [.int x2]) (M_X12_nodeLine c29) (cwV 1 X.2.2.2.2.2.2.1 (gV wm_RX12_152 wi_X12_nodeLine wse_X12_nodeLine win_RX12 wc_X12_nodeLine) rfl rfl rfl hd_X12_nodeLine ⟨Nat.le_of_ble_eq_true rfl, Nat.le_of_ble_eq_true rfl⟩) (b := (0, 32, 0)) ⟨by decide, rfl⟩ rfl rfl rfl rfl (Nat.le_of_ble_eq_true rfl) dX12_clusterLine_16 rfl ?_
    refine V_goto X (tgt := 94) dX12_clusterLine_19 (by decide) ?_
    refine V_sub X [] (lv' := []) rfl ?_
    obtain rfl := so1 h
    exact hk

def f_X12_begins (μ : ZMem) : Option (ZMem) := zlt (mset μ (0, 32, 0) 12 (-1)) (fun (μ1 : ZMem) => zlt (mset μ1 (0, 32, 0) 9 (-1)) (fun (μ2 : ZMem) => zlt (mset μ2 (0, 32, 0) 10 (μ2 (0, 32, 0) 8)) (fun (μ3 : ZMem) => zlt (mset μ3 (0, 32, 0) 8 0) (fun (μ4 : ZMem) => zlt (mset μ4 (0, 32, 0) 11 0) (fun (μ5 : ZMem) => zlt (mset μ5 (0, 32, 0) 13 0) (fun (μ6 : ZMem) => some μ6))))))
set_option maxRecDepth 100000 in
set_option maxHeartbeats 4000000 in
theorem M_X12_begins {l : Launch} {D : va_G} {y : ZLay}   {μ : ZMem} {μ0 : ZMem} (h : f_X12_begins μ = some μ0) : MV l yX12_begins wb_X12_begins rm_X12_begins D y [.ref (zad y (0, 32, 0))] μ μ0 := by
  unfold f_X12_begins at h
  refine MV_of RX12 [(0, .ref (zad y (0, 32, 0)))] (by decide) rfl rfl (Nat.le_of_ble_eq_true rfl) rfl ?_
  intro p e s m args below meth c A X
  refine V_aload_n X 0 dX12_begins_0 rfl rfl ?_
  refine V_iconst X (-1) dX12_begins_1 (by decide) ?_
  refine V_puti X tyX12 .int (o := (0, 32, 0)) (ci := 12) (k := 12) (N := 30) (T := TX12) (C := RX12) ⟨by decide, rfl⟩ rfl rfl rfl (by decide) (mBa inB_X12) tyX12_ok nmX12 (mB wl_RX12_25) rfl rfl rfl rfl dX12_begins_2 ?_
  refine zlt_el (P := fun (μ1 : ZMem) => V X μ1 5 [(0, .ref (zad y (0, 32, 0)))] []) h (fun μ1 h => ?_)
  refine V_aload_n X 0 dX12_begins_5 rfl rfl ?_
  refine V_iconst X (-1) dX12_begins_6 (by decide) ?_
  refine V_puti X tyX12 .int (o := (0, 32, 0)) (ci := 12) (k := 9) (N := 30) (T := TX12) (C := RX12) ⟨by decide, rfl⟩ rfl rfl rfl (by decide) (mBa inB_X12) tyX12_ok nmX12 (mB wl_RX12_79) rfl rfl rfl rfl dX12_begins_7 ?_
  refine zlt_el (P := fun (μ2 : ZMem) => V X μ2 10 [(0, .ref (zad y (0, 32, 0)))] []) h (fun μ2 h => ?_)
  refine V_aload_n X 0 dX12_begins_10 rfl rfl ?_
  refine V_aload_n X 0 dX12_begins_11 rfl rfl ?_
  refine V_geti X (o := (0, 32, 0)) (ci := 12) (k := 8) (N := 30) (T := TX12) (C := RX12) ⟨by decide, rfl⟩ rfl rfl rfl (by decide) (mBa inB_X12) (mB wl_RX12_76) dX12_begins_12 ?_
  refine V_puti X tyX12 .int (o := (0, 32, 0)) (ci := 12) (k := 10) (N := 30) (T := TX12) (C := RX12) ⟨by decide, rfl⟩ rfl rfl rfl (by decide) (mBa inB_X12) tyX12_ok nmX12 (mB wl_RX12_85) rfl rfl rfl rfl dX12_begins_15 ?_
  refine zlt_el (P := fun (μ3 : ZMem) => V X μ3 18 [(0, .ref (zad y (0, 32, 0)))] []) h (fun μ3 h => ?_)
  refine V_aload_n X 0 dX12_begins_18 rfl rfl ?_
  refine V_iconst X 0 dX12_begins_19 (by decide) ?_
  refine V_puti X tyX12 .int (o := (0, 32, 0)) (ci := 12) (k := 8) (N := 30) (T := TX12) (C := RX12) ⟨by decide, rfl⟩ rfl rfl rfl (by decide) (mBa inB_X12) tyX12_ok nmX12 (mB wl_RX12_76) rfl rfl rfl rfl dX12_begins_20 ?_
  refine zlt_el (P := fun (μ4 : ZMem) => V X μ4 23 [(0, .ref (zad y (0, 32, 0)))] []) h (fun μ4 h => ?_)
  refine V_aload_n X 0 dX12_begins_23 rfl rfl ?_
  refine V_iconst X 0 dX12_begins_24 (by decide) ?_
  refine V_puti X tyX12 .int (o := (0, 32, 0)) (ci := 12) (k := 11) (N := 30) (T := TX12) (C := RX12) ⟨by decide, rfl⟩ rfl rfl rfl (by decide) (mBa inB_X12) tyX12_ok nmX12 (mB wl_RX12_82) rfl rfl rfl rfl dX12_begins_25 ?_
  refine zlt_el (P := fun (μ5 : ZMem) => V X μ5 28 [(0, .ref (zad y (0, 32, 0)))] []) h (fun μ5 h => ?_)
  refine V_aload_n X 0 dX12_begins_28 rfl rfl ?_
  refine V_iconst X 0 dX12_begins_29 (by decide) ?_
  refine V_puti X tyX12 .int (o := (0, 32, 0)) (ci := 12) (k := 13) (N := 30) (T := TX12) (C := RX12) ⟨by decide, rfl⟩ rfl rfl rfl (by decide) (mBa inB_X12) tyX12_ok nmX12 (mB wl_RX12_164) rfl rfl rfl rfl dX12_begins_30 ?_
  refine zlt_el (P := fun (μ6 : ZMem) => V X μ6 33 [(0, .ref (zad y (0, 32, 0)))] []) h (fun μ6 h => ?_)
  exact V_vretW X h dX12_begins_33

def f_X12_part (μ : ZMem) : Option (Int32 × ZMem) := if (μ (0, 32, 0) 12) = (-1) then bd (f_X12_skip μ) (fun (μ3 : ZMem) => jk (bd2 (f_X12_has 11 μ3) (fun (x15 : Int32) (μ16 : ZMem) => bd2 (α := Int32) (β := ZMem) (if x15 = 0 then bd2 (f_X12_has 3 μ16) (fun (x21 : Int32) (μ22 : ZMem) => if x21 = 0 then bd2 (f_X12_has 4 μ22) (fun (x25 : Int32) (μ26 : ZMem) => if x25 = 0 then bd2 (f_X12_has 15 μ26) (fun (x29 : Int32) (μ30 : ZMem) => if x29 = 0 then bd2 (f_X12_has 16 μ30) (fun (x33 : Int32) (μ34 : ZMem) => if x33 = 0 then bd2 (f_X12_has 17 μ34) (fun (x37 : Int32) (μ38 : ZMem) => if x37 = 0 then bd2 (f_X12_has 18 μ38) (fun (x41 : Int32) (μ42 : ZMem) => if x41 = 0 then some ((-1), μ42) else some (6, μ42)) else some (5, μ38)) else some (4, μ34)) else some (3, μ30)) else some (2, μ26)) else some (1, μ22)) else some (0, μ16)) (fun (x18 : Int32) (μ19 : ZMem) => if x18 = (-1) then bd (f_X12_wrong (μ19 (0, 32, 0) 11) μ19) (fun (μ47 : ZMem) => some (0, μ47)) else gd (zin x18 7) (some ((μ19 (0, 38, 0) x18.toNatClampNeg), μ19))))) (fun k5 => if (μ3 (0, 32, 0) 10) ≤ (μ3 (0, 32, 0) 11) then k5 else bd (f_X12_letter (μ3 (0, 32, 0) 11) μ3) (fun (x7 : Int32) => bd (f_X12_isIn x7 48 57) (fun (x9 : Int32) => if x9 = 0 then k5 else bd2 (f_X12_figures 0 999 μ3) (fun (x12 : Int32) (μ13 : ZMem) => some (x12, μ13)))))) else some (0, μ)
set_option maxRecDepth 100000 in
set_option maxHeartbeats 4000000 in
theorem M_X12_part {l : Launch} {D : va_G} {y : ZLay}   {μ : ZMem} {r : Int32} {μ0 : ZMem} (h : f_X12_part μ = some (r, μ0)) : MI l yX12_part wb_X12_part rm_X12_part D y [.ref (zad y (0, 32, 0))] μ r μ0 := by
  unfold f_X12_part at h
  refine MI_of RX12 [(0, .ref (zad y (0, 32, 0)))] (by decide) rfl rfl (Nat.le_of_ble_eq_true rfl) rfl ?_
  intro p e s m args below meth c A X
  refine V_aload_n X 0 dX12_part_0 rfl rfl ?_
  refine V_geti X (o := (0, 32, 0)) (ci := 12) (k := 12) (N := 30) (T := TX12) (C := RX12) ⟨by decide, rfl⟩ rfl rfl rfl (by decide) (mBa inB_X12) (mB wl_RX12_25) dX12_part_1 ?_
  refine V_iconst X (-1) dX12_part_4 (by decide) ?_
  refine V_icmp_eq X (tgt := 10) dX12_part_5 (by decide) (fun b1 => ?_) (fun b1 => ?_)
  · replace h := (if_pos b1).symm.trans h
    refine V_aload_n X 0 dX12_part_10 rfl rfl ?_
    obtain ⟨μ3, c2, h⟩ := bd_some h
    refine V_callVv X (As := []) (M_X12_skip c2) (cwV 0 X.2.2.2.2.2.2.1 (gV wm_RX12_92 wi_X12_skip wse_X12_skip win_RX12 wc_X12_skip) rfl rfl rfl hd_X12_skip ⟨Nat.le_of_ble_eq_true rfl, Nat.le_of_ble_eq_true rfl⟩) (b := (0, 32, 0)) ⟨by decide, rfl⟩ rfl rfl rfl rfl (Nat.le_of_ble_eq_true rfl) dX12_part_11 rfl ?_
    refine V_aload_n X 0 dX12_part_14 rfl rfl ?_
    refine V_geti X (o := (0, 32, 0)) (ci := 12) (k := 11) (N := 30) (T := TX12) (C := RX12) ⟨by decide, rfl⟩ rfl rfl rfl (by decide) (mBa inB_X12) (mB wl_RX12_82) dX12_part_15 ?_
    refine V_aload_n X 0 dX12_part_18 rfl rfl ?_
    refine V_geti X (o := (0, 32, 0)) (ci := 12) (k := 10) (N := 30) (T := TX12) (C := RX12) ⟨by decide, rfl⟩ rfl rfl rfl (by decide) (mBa inB_X12) (mB wl_RX12_85) dX12_part_19 ?_
    refine jk0_el (P := V X μ3 52 [(0, .ref (zad y (0, 32, 0)))] []) h (fun h => ?_) (fun k5 hk5 h => ?_)
    · refine V_aload_n X 0 dX12_part_52 rfl rfl ?_
      refine V_ldcS X (i := 11) (ix := 150) rfl dX12_part_53 ?_
      obtain ⟨x15, μ16, c14, h⟩ := bd2_some h
      refine V_callVi X (As := [.ref (zak y 11)]) (M_X12_has (by decide) c14) (cwV 1 X.2.2.2.2.2.2.1 (gV wm_RX12_112 wi_X12_has wse_X12_has win_RX12 wc_X12_has) rfl rfl rfl hd_X12_has ⟨Nat.le_of_ble_eq_true rfl, Nat.le_of_ble_eq_true rfl⟩) (b := (0, 32, 0)) ⟨by decide, rfl⟩ rfl rfl rfl rfl (Nat.le_of_ble_eq_true rfl) dX12_part_55 rfl ?_
      obtain ⟨x18, μ19, h1, h⟩ := bd2_some h
      have hk : V X μ19 145 [(0, .ref (zad y (0, 32, 0)))] [.int x18] := by
        clear h1
        refine V_istore_n X [(1, .int x18), (0, .ref (zad y (0, 32, 0)))] dX12_part_145 rfl (by decide) rfl ?_
        refine V_iload_n X 0 dX12_part_146 rfl rfl ?_
        refine V_iconst X (-1) dX12_part_147 (by decide) ?_
        refine V_icmp_ne X (tgt := 161) dX12_part_148 (by decide) (fun b44 => ?_) (fun b44 => ?_)
        · replace h := (if_neg b44).symm.trans h
          refine V_aload_n X 1 dX12_part_161 rfl rfl ?_
          refine V_getr X (o := (0, 32, 0)) (i := (0, 38, 0)) (ci := 12) (k := 14) (N := 30) (T := TX12) (C := RX12) ⟨by decide, rfl⟩ rfl rfl rfl (by decide) (mBa inB_X12) (mB wl_RX12_29) dX12_part_162 ?_
          refine V_iload_n X 0 dX12_part_165 rfl rfl ?_
          obtain ⟨g45, h⟩ := gd_some h
          refine V_iald X x18.toNatClampNeg rfl (o := (0, 38, 0)) (n := 7) ⟨by decide, rfl⟩ rfl rfl g45 dX12_part_166 ?_
          exact V_iretW X h dX12_part_167
        · replace h := (if_pos b44).symm.trans h
          refine V_aload_n X 1 dX12_part_151 rfl rfl ?_
          refine V_aload_n X 1 dX12_part_152 rfl rfl ?_
          refine V_geti X (o := (0, 32, 0)) (ci := 12) (k := 11) (N := 30) (T := TX12) (C := RX12) ⟨by decide, rfl⟩ rfl rfl rfl (by decide) (mBa inB_X12) (mB wl_RX12_82) dX12_part_153 ?_
          obtain ⟨μ47, c46, h⟩ := bd_some h
          refine V_callVv X (As := [.int (μ19 (0, 32, 0) 11)]) (M_X12_wrong c46) (cwV 1 X.2.2.2.2.2.2.1 (gV wm_RX12_108 wi_X12_wrong wse_X12_wrong win_RX12 wc_X12_wrong) rfl rfl rfl hd_X12_wrong ⟨Nat.le_of_ble_eq_true rfl, Nat.le_of_ble_eq_true rfl⟩) (b := (0, 32, 0)) ⟨by decide, rfl⟩ rfl rfl rfl rfl (Nat.le_of_ble_eq_true rfl) dX12_part_156 rfl ?_
          refine V_iconst X 0 dX12_part_159 (by decide) ?_
          exact V_iretW X h dX12_part_160
      replace h := h1
      clear h1
      refine V_if_eq X (tgt := 65) dX12_part_58 (by decide) (fun b17 => ?_) (fun b17 => ?_)
      · replace h := (if_pos b17).symm.trans h
        refine V_aload_n X 0 dX12_part_65 rfl rfl ?_
        refine V_ldcS X (i := 3) (ix := 127) rfl dX12_part_66 ?_
        obtain ⟨x21, μ22, c20, h⟩ := bd2_some h
        refine V_callVi X (As := [.ref (zak y 3)]) (M_X12_has (by decide) c20) (cwV 1 X.2.2.2.2.2.2.1 (gV wm_RX12_112 wi_X12_has wse_X12_has win_RX12 wc_X12_has) rfl rfl rfl hd_X12_has ⟨Nat.le_of_ble_eq_true rfl, Nat.le_of_ble_eq_true rfl⟩) (b := (0, 32, 0)) ⟨by decide, rfl⟩ rfl rfl rfl rfl (Nat.le_of_ble_eq_true rfl) dX12_part_68 rfl ?_
        refine V_if_eq X (tgt := 78) dX12_part_71 (by decide) (fun b23 => ?_) (fun b23 => ?_)
        · replace h := (if_pos b23).symm.trans h
          refine V_aload_n X 0 dX12_part_78 rfl rfl ?_
          refine V_ldcS X (i := 4) (ix := 129) rfl dX12_part_79 ?_
          obtain ⟨x25, μ26, c24, h⟩ := bd2_some h
          refine V_callVi X (As := [.ref (zak y 4)]) (M_X12_has (by decide) c24) (cwV 1 X.2.2.2.2.2.2.1 (gV wm_RX12_112 wi_X12_has wse_X12_has win_RX12 wc_X12_has) rfl rfl rfl hd_X12_has ⟨Nat.le_of_ble_eq_true rfl, Nat.le_of_ble_eq_true rfl⟩) (b := (0, 32, 0)) ⟨by decide, rfl⟩ rfl rfl rfl rfl (Nat.le_of_ble_eq_true rfl) dX12_part_81 rfl ?_
          refine V_if_eq X (tgt := 91) dX12_part_84 (by decide) (fun b27 => ?_) (fun b27 => ?_)
          · replace h := (if_pos b27).symm.trans h
            refine V_aload_n X 0 dX12_part_91 rfl rfl ?_
            refine V_ldcS X (i := 15) (ix := 193) rfl dX12_part_92 ?_
            obtain ⟨x29, μ30, c28, h⟩ := bd2_some h
            refine V_callVi X (As := [.ref (zak y 15)]) (M_X12_has (by decide) c28) (cwV 1 X.2.2.2.2.2.2.1 (gV wm_RX12_112 wi_X12_has wse_X12_has win_RX12 wc_X12_has) rfl rfl rfl hd_X12_has ⟨Nat.le_of_ble_eq_true rfl, Nat.le_of_ble_eq_true rfl⟩) (b := (0, 32, 0)) ⟨by decide, rfl⟩ rfl rfl rfl rfl (Nat.le_of_ble_eq_true rfl) dX12_part_94 rfl ?_
            refine V_if_eq X (tgt := 104) dX12_part_97 (by decide) (fun b31 => ?_) (fun b31 => ?_)
            · replace h := (if_pos b31).symm.trans h
              refine V_aload_n X 0 dX12_part_104 rfl rfl ?_
              refine V_ldcS X (i := 16) (ix := 195) rfl dX12_part_105 ?_
              obtain ⟨x33, μ34, c32, h⟩ := bd2_some h
              refine V_callVi X (As := [.ref (zak y 16)]) (M_X12_has (by decide) c32) (cwV 1 X.2.2.2.2.2.2.1 (gV wm_RX12_112 wi_X12_has wse_X12_has win_RX12 wc_X12_has) rfl rfl rfl hd_X12_has ⟨Nat.le_of_ble_eq_true rfl, Nat.le_of_ble_eq_true rfl⟩) (b := (0, 32, 0)) ⟨by decide, rfl⟩ rfl rfl rfl rfl (Nat.le_of_ble_eq_true rfl) dX12_part_107 rfl ?_
              refine V_if_eq X (tgt := 117) dX12_part_110 (by decide) (fun b35 => ?_) (fun b35 => ?_)
              · replace h := (if_pos b35).symm.trans h
                refine V_aload_n X 0 dX12_part_117 rfl rfl ?_
                refine V_ldcS X (i := 17) (ix := 197) rfl dX12_part_118 ?_
                obtain ⟨x37, μ38, c36, h⟩ := bd2_some h
                refine V_callVi X (As := [.ref (zak y 17)]) (M_X12_has (by decide) c36) (cwV 1 X.2.2.2.2.2.2.1 (gV wm_RX12_112 wi_X12_has wse_X12_has win_RX12 wc_X12_has) rfl rfl rfl hd_X12_has ⟨Nat.le_of_ble_eq_true rfl, Nat.le_of_ble_eq_true rfl⟩) (b := (0, 32, 0)) ⟨by decide, rfl⟩ rfl rfl rfl rfl (Nat.le_of_ble_eq_true rfl) dX12_part_120 rfl ?_
                refine V_if_eq X (tgt := 130) dX12_part_123 (by decide) (fun b39 => ?_) (fun b39 => ?_)
                · replace h := (if_pos b39).symm.trans h
                  refine V_aload_n X 0 dX12_part_130 rfl rfl ?_
                  refine V_ldcS X (i := 18) (ix := 199) rfl dX12_part_131 ?_
                  obtain ⟨x41, μ42, c40, h⟩ := bd2_some h
                  refine V_callVi X (As := [.ref (zak y 18)]) (M_X12_has (by decide) c40) (cwV 1 X.2.2.2.2.2.2.1 (gV wm_RX12_112 wi_X12_has wse_X12_has win_RX12 wc_X12_has) rfl rfl rfl hd_X12_has ⟨Nat.le_of_ble_eq_true rfl, Nat.le_of_ble_eq_true rfl⟩) (b := (0, 32, 0)) ⟨by decide, rfl⟩ rfl rfl rfl rfl (Nat.le_of_ble_eq_true rfl) dX12_part_133 rfl ?_
                  refine V_if_eq X (tgt := 144) dX12_part_136 (by decide) (fun b43 => ?_) (fun b43 => ?_)
                  · replace h := (if_pos b43).symm.trans h
                    refine V_iconst X (-1) dX12_part_144 (by decide) ?_
                    obtain ⟨rfl, rfl⟩ := so2 h
                    exact hk
                  · replace h := (if_neg b43).symm.trans h
                    refine V_bipush X 6 dX12_part_139 (by decide) ?_
                    refine V_goto X (tgt := 145) dX12_part_141 (by decide) ?_
                    obtain ⟨rfl, rfl⟩ := so2 h
                    exact hk
                · replace h := (if_neg b39).symm.trans h
                  refine V_iconst X 5 dX12_part_126 (by decide) ?_
                  refine V_goto X (tgt := 145) dX12_part_127 (by decide) ?_
                  obtain ⟨rfl, rfl⟩ := so2 h
                  exact hk
              · replace h := (if_neg b35).symm.trans h
                refine V_iconst X 4 dX12_part_113 (by decide) ?_
                refine V_goto X (tgt := 145) dX12_part_114 (by decide) ?_
                obtain ⟨rfl, rfl⟩ := so2 h
                exact hk
            · replace h := (if_neg b31).symm.trans h
              refine V_iconst X 3 dX12_part_100 (by decide) ?_
              refine V_goto X (tgt := 145) dX12_part_101 (by decide) ?_
              obtain ⟨rfl, rfl⟩ := so2 h
              exact hk
          · replace h := (if_neg b27).symm.trans h
            refine V_iconst X 2 dX12_part_87 (by decide) ?_
            refine V_goto X (tgt := 145) dX12_part_88 (by decide) ?_
            obtain ⟨rfl, rfl⟩ := so2 h
            exact hk
        · replace h := (if_neg b23).symm.trans h
          refine V_iconst X 1 dX12_part_74 (by decide) ?_
          refine V_goto X (tgt := 145) dX12_part_75 (by decide) ?_
          obtain ⟨rfl, rfl⟩ := so2 h
          exact hk
      · replace h := (if_neg b17).symm.trans h
        refine V_iconst X 0 dX12_part_61 (by decide) ?_
        refine V_goto X (tgt := 145) dX12_part_62 (by decide) ?_
        obtain ⟨rfl, rfl⟩ := so2 h
        exact hk
    · refine V_icmp_ge X (tgt := 52) dX12_part_22 (by decide) (fun b4 => ?_) (fun b4 => ?_)
      · replace h := (if_pos b4).symm.trans h
        exact hk5 h
      · replace h := (if_neg b4).symm.trans h
        refine V_aload_n X 0 dX12_part_25 rfl rfl ?_
        refine V_aload_n X 0 dX12_part_26 rfl rfl ?_
        refine V_geti X (o := (0, 32, 0)) (ci := 12) (k := 11) (N := 30) (T := TX12) (C := RX12) ⟨by decide, rfl⟩ rfl rfl rfl (by decide) (mBa inB_X12) (mB wl_RX12_82) dX12_part_27 ?_
        obtain ⟨x7, c6, h⟩ := bd_some h
        refine V_callVi X (As := [.int (μ3 (0, 32, 0) 11)]) (M_X12_letter c6) (cwV 1 X.2.2.2.2.2.2.1 (gV wm_RX12_88 wi_X12_letter wse_X12_letter win_RX12 wc_X12_letter) rfl rfl rfl hd_X12_letter ⟨Nat.le_of_ble_eq_true rfl, Nat.le_of_ble_eq_true rfl⟩) (b := (0, 32, 0)) ⟨by decide, rfl⟩ rfl rfl rfl rfl (Nat.le_of_ble_eq_true rfl) dX12_part_30 rfl ?_
        refine V_bipush X 48 dX12_part_33 (by decide) ?_
        refine V_bipush X 57 dX12_part_35 (by decide) ?_
        obtain ⟨x9, c8, h⟩ := bd_some h
        refine V_callSi X (As := [.int x7, .int 48, .int 57]) (M_X12_isIn c8) (va_cwS 3 X.2.2.2.2.2.2.1 (gS wm_RX12_62 wst_X12_isIn win_RX12 wc_X12_isIn) rfl rfl rfl hd_X12_isIn.2 ⟨Nat.le_of_ble_eq_true rfl, Nat.le_of_ble_eq_true rfl⟩) rfl (Nat.le_of_ble_eq_true rfl) dX12_part_37 rfl ?_
        refine V_if_eq X (tgt := 52) dX12_part_40 (by decide) (fun b10 => ?_) (fun b10 => ?_)
        · replace h := (if_pos b10).symm.trans h
          exact hk5 h
        · replace h := (if_neg b10).symm.trans h
          refine V_aload_n X 0 dX12_part_43 rfl rfl ?_
          refine V_iconst X 0 dX12_part_44 (by decide) ?_
          refine V_sipush X 999 dX12_part_45 (by decide) ?_
          obtain ⟨x12, μ13, c11, h⟩ := bd2_some h
          refine V_callVi X (As := [.int 0, .int 999]) (M_X12_figures c11) (cwV 2 X.2.2.2.2.2.2.1 (gV wm_RX12_116 wi_X12_figures wse_X12_figures win_RX12 wc_X12_figures) rfl rfl rfl hd_X12_figures ⟨Nat.le_of_ble_eq_true rfl, Nat.le_of_ble_eq_true rfl⟩) (b := (0, 32, 0)) ⟨by decide, rfl⟩ rfl rfl rfl rfl (Nat.le_of_ble_eq_true rfl) dX12_part_48 rfl ?_
          exact V_iretW X h dX12_part_51
  · replace h := (if_neg b1).symm.trans h
    refine V_iconst X 0 dX12_part_8 (by decide) ?_
    exact V_iretW X h dX12_part_9

def f_X12_sum (μ : ZMem) : Option (Int32 × ZMem) := bd2 (f_X12_part μ) (fun (x2 : Int32) (μ3 : ZMem) => bd2 (lp (σ := Int32 × ZMem) (fun q => un2 q (fun (x4 : Int32) (μ5 : ZMem) => if (μ5 (0, 32, 0) 12) = (-1) then bd2 (f_X12_isSign 43 μ5) (fun (x10 : Int32) (μ11 : ZMem) => if x10 = 0 then some (.inr (x4, μ11)) else zlt (mset μ11 (0, 32, 0) 11 ((μ11 (0, 32, 0) 11) + 1)) (fun (μ13 : ZMem) => bd2 (f_X12_part μ13) (fun (x15 : Int32) (μ16 : ZMem) => zlt (x4 + x15) (fun (x17 : Int32) => some (.inl (x17, μ16)))))) else some (.inr (x4, μ5)))) FU (x2, μ3)) (fun (x6 : Int32) (μ7 : ZMem) => some (x6, μ7)))
set_option maxRecDepth 100000 in
set_option maxHeartbeats 4000000 in
theorem M_X12_sum {l : Launch} {D : va_G} {y : ZLay}   {μ : ZMem} {r : Int32} {μ0 : ZMem} (h : f_X12_sum μ = some (r, μ0)) : MI l yX12_sum wb_X12_sum rm_X12_sum D y [.ref (zad y (0, 32, 0))] μ r μ0 := by
  unfold f_X12_sum at h
  refine MI_of RX12 [(0, .ref (zad y (0, 32, 0)))] (by decide) rfl rfl (Nat.le_of_ble_eq_true rfl) rfl ?_
  intro p e s m args below meth c A X
  refine V_aload_n X 0 dX12_sum_0 rfl rfl ?_
  obtain ⟨x2, μ3, c1, h⟩ := bd2_some h
  refine V_callVi X (As := []) (M_X12_part c1) (cwV 0 X.2.2.2.2.2.2.1 (gV wm_RX12_201 wi_X12_part wse_X12_part win_RX12 wc_X12_part) rfl rfl rfl hd_X12_part ⟨Nat.le_of_ble_eq_true rfl, Nat.le_of_ble_eq_true rfl⟩) (b := (0, 32, 0)) ⟨by decide, rfl⟩ rfl rfl rfl rfl (Nat.le_of_ble_eq_true rfl) dX12_sum_1 rfl ?_
  refine V_istore_n X [(1, .int x2), (0, .ref (zad y (0, 32, 0)))] dX12_sum_4 rfl (by decide) rfl ?_
  refine V_sub X [1, 0] (lv' := [(0, .ref (zad y (0, 32, 0))), (1, .int x2)]) rfl ?_
  obtain ⟨x6, μ7, hl, h⟩ := bd2_some h
  have hk : V X μ7 42 [(1, .int x6)] [] := by
    clear hl
    refine V_iload_n X 0 dX12_sum_42 rfl rfl ?_
    exact V_iretW X h dX12_sum_43
  refine lp_ind (P := fun q => V X q.2 5 [(0, .ref (zad y (0, 32, 0))), (1, .int q.1)] []) (fun q z h hz => ?_) hl
  obtain ⟨x4, μ5⟩ := q
  replace h := un2_eq h
  show V X μ5 5 [(0, .ref (zad y (0, 32, 0))), (1, .int x4)] []
  refine V_aload_n X 0 dX12_sum_5 rfl rfl ?_
  refine V_geti X (o := (0, 32, 0)) (ci := 12) (k := 12) (N := 30) (T := TX12) (C := RX12) ⟨by decide, rfl⟩ rfl rfl rfl (by decide) (mBa inB_X12) (mB wl_RX12_25) dX12_sum_6 ?_
  refine V_iconst X (-1) dX12_sum_9 (by decide) ?_
  refine V_icmp_ne X (tgt := 42) dX12_sum_10 (by decide) (fun b8 => ?_) (fun b8 => ?_)
  · replace h := (if_neg b8).symm.trans h
    refine V_sub X [1] (lv' := [(1, .int x4)]) rfl ?_
    cases h
    obtain ⟨rfl, rfl⟩ := pr2 hz
    exact hk
  · replace h := (if_pos b8).symm.trans h
    refine V_aload_n X 0 dX12_sum_13 rfl rfl ?_
    refine V_bipush X 43 dX12_sum_14 (by decide) ?_
    obtain ⟨x10, μ11, c9, h⟩ := bd2_some h
    refine V_callVi X (As := [.int 43]) (M_X12_isSign c9) (cwV 1 X.2.2.2.2.2.2.1 (gV wm_RX12_173 wi_X12_isSign wse_X12_isSign win_RX12 wc_X12_isSign) rfl rfl rfl hd_X12_isSign ⟨Nat.le_of_ble_eq_true rfl, Nat.le_of_ble_eq_true rfl⟩) (b := (0, 32, 0)) ⟨by decide, rfl⟩ rfl rfl rfl rfl (Nat.le_of_ble_eq_true rfl) dX12_sum_16 rfl ?_
    refine V_if_eq X (tgt := 42) dX12_sum_19 (by decide) (fun b12 => ?_) (fun b12 => ?_)
    · replace h := (if_pos b12).symm.trans h
      refine V_sub X [1] (lv' := [(1, .int x4)]) rfl ?_
      cases h
      obtain ⟨rfl, rfl⟩ := pr2 hz
      exact hk
    · replace h := (if_neg b12).symm.trans h
      refine V_aload_n X 0 dX12_sum_22 rfl rfl ?_
      refine V_dup X dX12_sum_23 rfl ?_
      refine V_geti X (o := (0, 32, 0)) (ci := 12) (k := 11) (N := 30) (T := TX12) (C := RX12) ⟨by decide, rfl⟩ rfl rfl rfl (by decide) (mBa inB_X12) (mB wl_RX12_82) dX12_sum_24 ?_
      refine V_iconst X 1 dX12_sum_27 (by decide) ?_
      refine V_iadd X dX12_sum_28 ?_
      refine V_puti X tyX12 .int (o := (0, 32, 0)) (ci := 12) (k := 11) (N := 30) (T := TX12) (C := RX12) ⟨by decide, rfl⟩ rfl rfl rfl (by decide) (mBa inB_X12) tyX12_ok nmX12 (mB wl_RX12_82) rfl rfl rfl rfl dX12_sum_29 ?_
      refine zlt_el (P := fun (μ13 : ZMem) => V X μ13 32 [(0, .ref (zad y (0, 32, 0))), (1, .int x4)] []) h (fun μ13 h => ?_)
      refine V_iload_n X 1 dX12_sum_32 rfl rfl ?_
      refine V_aload_n X 0 dX12_sum_33 rfl rfl ?_
      obtain ⟨x15, μ16, c14, h⟩ := bd2_some h
      refine V_callVi X (As := []) (M_X12_part c14) (cwV 0 X.2.2.2.2.2.2.1 (gV wm_RX12_201 wi_X12_part wse_X12_part win_RX12 wc_X12_part) rfl rfl rfl hd_X12_part ⟨Nat.le_of_ble_eq_true rfl, Nat.le_of_ble_eq_true rfl⟩) (b := (0, 32, 0)) ⟨by decide, rfl⟩ rfl rfl rfl rfl (Nat.le_of_ble_eq_true rfl) dX12_sum_34 rfl ?_
      refine V_iadd X dX12_sum_37 ?_
      refine V_istore_n X [(1, .int (x4 + x15)), (0, .ref (zad y (0, 32, 0)))] dX12_sum_38 rfl (by decide) rfl ?_
      refine zlt_el (P := fun (x17 : Int32) => V X μ16 39 [(1, .int x17), (0, .ref (zad y (0, 32, 0)))] []) h (fun x17 h => ?_)
      refine V_goto X (tgt := 5) dX12_sum_39 (by decide) ?_
      refine V_sub X [1, 0] (lv' := [(0, .ref (zad y (0, 32, 0))), (1, .int x17)]) rfl ?_
      cases h
      exact hz

def f_X12_plain (μ : ZMem) : Option (Int32 × ZMem) := bd2 (f_X12_has 19 μ) (fun (x2 : Int32) (μ3 : ZMem) => if x2 = 0 then bd2 (f_X12_has 20 μ3) (fun (x6 : Int32) (μ7 : ZMem) => if x6 = 0 then bd2 (f_X12_has 5 μ7) (fun (x10 : Int32) (μ11 : ZMem) => if x10 = 0 then bd2 (f_X12_sum μ11) (fun (x14 : Int32) (μ15 : ZMem) => if (μ15 (0, 32, 0) 12) = (-1) then bd2 (f_X12_isSign 60 μ15) (fun (x18 : Int32) (μ19 : ZMem) => jk (fun (μ21 : ZMem) => zlt (mset μ21 (0, 32, 0) 11 ((μ21 (0, 32, 0) 11) + 1)) (fun (μ29 : ZMem) => bd2 (f_X12_sum μ29) (fun (x31 : Int32) (μ32 : ZMem) => zlt (α := Int32) (if x18 = 0 then if x14 ≤ x31 then 0 else 1 else if x31 ≤ x14 then 0 else 1) (fun (x34 : Int32) => gd (zbo x34) (some (x34, μ32)))))) (fun k22 => if x18 = 0 then bd2 (f_X12_isSign 62 μ19) (fun (x24 : Int32) (μ25 : ZMem) => if x24 = 0 then bd (f_X12_wrong (μ25 (0, 32, 0) 11) μ25) (fun (μ28 : ZMem) => some (0, μ28)) else k22 μ25) else k22 μ19)) else some (0, μ15)) else bd (f_X12_of (μ11 (0, 38, 0) 0) 8 μ11) (fun (x38 : Int32) => zlt (α := Int32) (if x38 ≤ 0 then 0 else 1) (fun (x40 : Int32) => gd (zbo x40) (some (x40, μ11))))) else gd (zbo (μ7 (0, 32, 0) 15)) (some ((μ7 (0, 32, 0) 15), μ7))) else zlt (α := Int32) (if (zrem (μ3 (0, 33, 0) 6) 2) = 0 then 1 else 0) (fun (x42 : Int32) => gd (zbo x42) (some (x42, μ3))))
set_option maxRecDepth 100000 in
set_option maxHeartbeats 4000000 in
theorem M_X12_plain {l : Launch} {D : va_G} {y : ZLay}   {μ : ZMem} {r : Int32} {μ0 : ZMem} (h : f_X12_plain μ = some (r, μ0)) : MI l yX12_plain wb_X12_plain rm_X12_plain D y [.ref (zad y (0, 32, 0))] μ r μ0 := by
  unfold f_X12_plain at h
  refine MI_of RX12 [(0, .ref (zad y (0, 32, 0)))] (by decide) rfl rfl (Nat.le_of_ble_eq_true rfl) rfl ?_
  intro p e s m args below meth c A X
  refine V_aload_n X 0 dX12_plain_0 rfl rfl ?_
  refine V_ldcS X (i := 19) (ix := 204) rfl dX12_plain_1 ?_
  obtain ⟨x2, μ3, c1, h⟩ := bd2_some h
  refine V_callVi X (As := [.ref (zak y 19)]) (M_X12_has (by decide) c1) (cwV 1 X.2.2.2.2.2.2.1 (gV wm_RX12_112 wi_X12_has wse_X12_has win_RX12 wc_X12_has) rfl rfl rfl hd_X12_has ⟨Nat.le_of_ble_eq_true rfl, Nat.le_of_ble_eq_true rfl⟩) (b := (0, 32, 0)) ⟨by decide, rfl⟩ rfl rfl rfl rfl (Nat.le_of_ble_eq_true rfl) dX12_plain_3 rfl ?_
  refine V_if_eq X (tgt := 27) dX12_plain_6 (by decide) (fun b4 => ?_) (fun b4 => ?_)
  · replace h := (if_pos b4).symm.trans h
    refine V_aload_n X 0 dX12_plain_27 rfl rfl ?_
    refine V_ldcS X (i := 20) (ix := 206) rfl dX12_plain_28 ?_
    obtain ⟨x6, μ7, c5, h⟩ := bd2_some h
    refine V_callVi X (As := [.ref (zak y 20)]) (M_X12_has (by decide) c5) (cwV 1 X.2.2.2.2.2.2.1 (gV wm_RX12_112 wi_X12_has wse_X12_has win_RX12 wc_X12_has) rfl rfl rfl hd_X12_has ⟨Nat.le_of_ble_eq_true rfl, Nat.le_of_ble_eq_true rfl⟩) (b := (0, 32, 0)) ⟨by decide, rfl⟩ rfl rfl rfl rfl (Nat.le_of_ble_eq_true rfl) dX12_plain_30 rfl ?_
    refine V_if_eq X (tgt := 41) dX12_plain_33 (by decide) (fun b8 => ?_) (fun b8 => ?_)
    · replace h := (if_pos b8).symm.trans h
      refine V_aload_n X 0 dX12_plain_41 rfl rfl ?_
      refine V_ldcS X (i := 5) (ix := 131) rfl dX12_plain_42 ?_
      obtain ⟨x10, μ11, c9, h⟩ := bd2_some h
      refine V_callVi X (As := [.ref (zak y 5)]) (M_X12_has (by decide) c9) (cwV 1 X.2.2.2.2.2.2.1 (gV wm_RX12_112 wi_X12_has wse_X12_has win_RX12 wc_X12_has) rfl rfl rfl hd_X12_has ⟨Nat.le_of_ble_eq_true rfl, Nat.le_of_ble_eq_true rfl⟩) (b := (0, 32, 0)) ⟨by decide, rfl⟩ rfl rfl rfl rfl (Nat.le_of_ble_eq_true rfl) dX12_plain_44 rfl ?_
      refine V_if_eq X (tgt := 71) dX12_plain_47 (by decide) (fun b12 => ?_) (fun b12 => ?_)
      · replace h := (if_pos b12).symm.trans h
        refine V_aload_n X 0 dX12_plain_71 rfl rfl ?_
        obtain ⟨x14, μ15, c13, h⟩ := bd2_some h
        refine V_callVi X (As := []) (M_X12_sum c13) (cwV 0 X.2.2.2.2.2.2.1 (gV wm_RX12_212 wi_X12_sum wse_X12_sum win_RX12 wc_X12_sum) rfl rfl rfl hd_X12_sum ⟨Nat.le_of_ble_eq_true rfl, Nat.le_of_ble_eq_true rfl⟩) (b := (0, 32, 0)) ⟨by decide, rfl⟩ rfl rfl rfl rfl (Nat.le_of_ble_eq_true rfl) dX12_plain_72 rfl ?_
        refine V_istore_n X [(1, .int x14), (0, .ref (zad y (0, 32, 0)))] dX12_plain_75 rfl (by decide) rfl ?_
        refine V_aload_n X 1 dX12_plain_76 rfl rfl ?_
        refine V_geti X (o := (0, 32, 0)) (ci := 12) (k := 12) (N := 30) (T := TX12) (C := RX12) ⟨by decide, rfl⟩ rfl rfl rfl (by decide) (mBa inB_X12) (mB wl_RX12_25) dX12_plain_77 ?_
        refine V_iconst X (-1) dX12_plain_80 (by decide) ?_
        refine V_icmp_eq X (tgt := 86) dX12_plain_81 (by decide) (fun b16 => ?_) (fun b16 => ?_)
        · replace h := (if_pos b16).symm.trans h
          refine V_aload_n X 1 dX12_plain_86 rfl rfl ?_
          refine V_bipush X 60 dX12_plain_87 (by decide) ?_
          obtain ⟨x18, μ19, c17, h⟩ := bd2_some h
          refine V_callVi X (As := [.int 60]) (M_X12_isSign c17) (cwV 1 X.2.2.2.2.2.2.1 (gV wm_RX12_173 wi_X12_isSign wse_X12_isSign win_RX12 wc_X12_isSign) rfl rfl rfl hd_X12_isSign ⟨Nat.le_of_ble_eq_true rfl, Nat.le_of_ble_eq_true rfl⟩) (b := (0, 32, 0)) ⟨by decide, rfl⟩ rfl rfl rfl rfl (Nat.le_of_ble_eq_true rfl) dX12_plain_89 rfl ?_
          refine V_istore_n X [(2, .int x18), (1, .int x14), (0, .ref (zad y (0, 32, 0)))] dX12_plain_92 rfl (by decide) rfl ?_
          refine V_iload_n X 0 dX12_plain_93 rfl rfl ?_
          refine jk1_el (P := fun (μ21 : ZMem) => V X μ21 116 [(0, .ref (zad y (0, 32, 0))), (1, .int x14), (2, .int x18)] []) h (fun μ21 h => ?_) (fun k22 hk22 h => ?_)
          · refine V_aload_n X 0 dX12_plain_116 rfl rfl ?_
            refine V_dup X dX12_plain_117 rfl ?_
            refine V_geti X (o := (0, 32, 0)) (ci := 12) (k := 11) (N := 30) (T := TX12) (C := RX12) ⟨by decide, rfl⟩ rfl rfl rfl (by decide) (mBa inB_X12) (mB wl_RX12_82) dX12_plain_118 ?_
            refine V_iconst X 1 dX12_plain_121 (by decide) ?_
            refine V_iadd X dX12_plain_122 ?_
            refine V_puti X tyX12 .int (o := (0, 32, 0)) (ci := 12) (k := 11) (N := 30) (T := TX12) (C := RX12) ⟨by decide, rfl⟩ rfl rfl rfl (by decide) (mBa inB_X12) tyX12_ok nmX12 (mB wl_RX12_82) rfl rfl rfl rfl dX12_plain_123 ?_
            refine zlt_el (P := fun (μ29 : ZMem) => V X μ29 126 [(0, .ref (zad y (0, 32, 0))), (1, .int x14), (2, .int x18)] []) h (fun μ29 h => ?_)
            refine V_aload_n X 0 dX12_plain_126 rfl rfl ?_
            obtain ⟨x31, μ32, c30, h⟩ := bd2_some h
            refine V_callVi X (As := []) (M_X12_sum c30) (cwV 0 X.2.2.2.2.2.2.1 (gV wm_RX12_212 wi_X12_sum wse_X12_sum win_RX12 wc_X12_sum) rfl rfl rfl hd_X12_sum ⟨Nat.le_of_ble_eq_true rfl, Nat.le_of_ble_eq_true rfl⟩) (b := (0, 32, 0)) ⟨by decide, rfl⟩ rfl rfl rfl rfl (Nat.le_of_ble_eq_true rfl) dX12_plain_127 rfl ?_
            refine V_istore_n X [(3, .int x31), (0, .ref (zad y (0, 32, 0))), (1, .int x14), (2, .int x18)] dX12_plain_130 rfl (by decide) rfl ?_
            refine V_iload_n X 3 dX12_plain_131 rfl rfl ?_
            obtain ⟨x34, h1, h⟩ := zl1_some h
            have hk : V X μ32 158 [] [.int x34] := by
              clear h1
              obtain ⟨hzb, h⟩ := gd_some h
              exact V_zretW X h hzb dX12_plain_158
            replace h := h1
            clear h1
            refine V_if_eq X (tgt := 148) dX12_plain_132 (by decide) (fun b33 => ?_) (fun b33 => ?_)
            · replace h := (if_pos b33).symm.trans h
              refine V_iload_n X 2 dX12_plain_148 rfl rfl ?_
              refine V_iload_n X 0 dX12_plain_149 rfl rfl ?_
              refine V_icmp_le X (tgt := 157) dX12_plain_150 (by decide) (fun b35 => ?_) (fun b35 => ?_)
              · replace h := (if_pos b35).symm.trans h
                refine V_iconst X 0 dX12_plain_157 (by decide) ?_
                refine V_sub X [] (lv' := []) rfl ?_
                obtain rfl := pr1 h
                exact hk
              · replace h := (if_neg b35).symm.trans h
                refine V_iconst X 1 dX12_plain_153 (by decide) ?_
                refine V_goto X (tgt := 158) dX12_plain_154 (by decide) ?_
                refine V_sub X [] (lv' := []) rfl ?_
                obtain rfl := pr1 h
                exact hk
            · replace h := (if_neg b33).symm.trans h
              refine V_iload_n X 2 dX12_plain_135 rfl rfl ?_
              refine V_iload_n X 0 dX12_plain_136 rfl rfl ?_
              refine V_icmp_ge X (tgt := 144) dX12_plain_137 (by decide) (fun b36 => ?_) (fun b36 => ?_)
              · replace h := (if_pos b36).symm.trans h
                refine V_iconst X 0 dX12_plain_144 (by decide) ?_
                refine V_goto X (tgt := 158) dX12_plain_145 (by decide) ?_
                refine V_sub X [] (lv' := []) rfl ?_
                obtain rfl := pr1 h
                exact hk
              · replace h := (if_neg b36).symm.trans h
                refine V_iconst X 1 dX12_plain_140 (by decide) ?_
                refine V_goto X (tgt := 158) dX12_plain_141 (by decide) ?_
                refine V_sub X [] (lv' := []) rfl ?_
                obtain rfl := pr1 h
                exact hk
          · refine V_if_ne X (tgt := 116) dX12_plain_94 (by decide) (fun b20 => ?_) (fun b20 => ?_)
            · replace h := (if_neg b20).symm.trans h
              refine V_sub X [2, 1, 0] (lv' := [(0, .ref (zad y (0, 32, 0))), (1, .int x14), (2, .int x18)]) rfl ?_
              exact hk22 _ h
            · replace h := (if_pos b20).symm.trans h
              refine V_aload_n X 2 dX12_plain_97 rfl rfl ?_
              refine V_bipush X 62 dX12_plain_98 (by decide) ?_
              obtain ⟨x24, μ25, c23, h⟩ := bd2_some h
              refine V_callVi X (As := [.int 62]) (M_X12_isSign c23) (cwV 1 X.2.2.2.2.2.2.1 (gV wm_RX12_173 wi_X12_isSign wse_X12_isSign win_RX12 wc_X12_isSign) rfl rfl rfl hd_X12_isSign ⟨Nat.le_of_ble_eq_true rfl, Nat.le_of_ble_eq_true rfl⟩) (b := (0, 32, 0)) ⟨by decide, rfl⟩ rfl rfl rfl rfl (Nat.le_of_ble_eq_true rfl) dX12_plain_100 rfl ?_
              refine V_if_ne X (tgt := 116) dX12_plain_103 (by decide) (fun b26 => ?_) (fun b26 => ?_)
              · replace h := (if_neg b26).symm.trans h
                refine V_sub X [2, 1, 0] (lv' := [(0, .ref (zad y (0, 32, 0))), (1, .int x14), (2, .int x18)]) rfl ?_
                exact hk22 _ h
              · replace h := (if_pos b26).symm.trans h
                refine V_aload_n X 2 dX12_plain_106 rfl rfl ?_
                refine V_aload_n X 2 dX12_plain_107 rfl rfl ?_
                refine V_geti X (o := (0, 32, 0)) (ci := 12) (k := 11) (N := 30) (T := TX12) (C := RX12) ⟨by decide, rfl⟩ rfl rfl rfl (by decide) (mBa inB_X12) (mB wl_RX12_82) dX12_plain_108 ?_
                obtain ⟨μ28, c27, h⟩ := bd_some h
                refine V_callVv X (As := [.int (μ25 (0, 32, 0) 11)]) (M_X12_wrong c27) (cwV 1 X.2.2.2.2.2.2.1 (gV wm_RX12_108 wi_X12_wrong wse_X12_wrong win_RX12 wc_X12_wrong) rfl rfl rfl hd_X12_wrong ⟨Nat.le_of_ble_eq_true rfl, Nat.le_of_ble_eq_true rfl⟩) (b := (0, 32, 0)) ⟨by decide, rfl⟩ rfl rfl rfl rfl (Nat.le_of_ble_eq_true rfl) dX12_plain_111 rfl ?_
                refine V_iconst X 0 dX12_plain_114 (by decide) ?_
                exact V_zretW X h (by decide) dX12_plain_115
        · replace h := (if_neg b16).symm.trans h
          refine V_iconst X 0 dX12_plain_84 (by decide) ?_
          exact V_zretW X h (by decide) dX12_plain_85
      · replace h := (if_neg b12).symm.trans h
        refine V_aload_n X 0 dX12_plain_50 rfl rfl ?_
        refine V_aload_n X 0 dX12_plain_51 rfl rfl ?_
        refine V_getr X (o := (0, 32, 0)) (i := (0, 38, 0)) (ci := 12) (k := 14) (N := 30) (T := TX12) (C := RX12) ⟨by decide, rfl⟩ rfl rfl rfl (by decide) (mBa inB_X12) (mB wl_RX12_29) dX12_plain_52 ?_
        refine V_iconst X 0 dX12_plain_55 (by decide) ?_
        refine V_iald X 0 (by decide) (o := (0, 38, 0)) (n := 7) ⟨by decide, rfl⟩ rfl rfl (by decide) dX12_plain_56 ?_
        refine V_bipush X 8 dX12_plain_57 (by decide) ?_
        obtain ⟨x38, c37, h⟩ := bd_some h
        refine V_callVi X (As := [.int (μ11 (0, 38, 0) 0), .int 8]) (M_X12_of c37) (cwV 2 X.2.2.2.2.2.2.1 (gV wm_RX12_66 wi_X12_of wse_X12_of win_RX12 wc_X12_of) rfl rfl rfl hd_X12_of ⟨Nat.le_of_ble_eq_true rfl, Nat.le_of_ble_eq_true rfl⟩) (b := (0, 32, 0)) ⟨by decide, rfl⟩ rfl rfl rfl rfl (Nat.le_of_ble_eq_true rfl) dX12_plain_59 rfl ?_
        obtain ⟨x40, h1, h⟩ := zl1_some h
        have hk : V X μ11 70 [] [.int x40] := by
          clear h1
          obtain ⟨hzb, h⟩ := gd_some h
          exact V_zretW X h hzb dX12_plain_70
        replace h := h1
        clear h1
        refine V_if_le X (tgt := 69) dX12_plain_62 (by decide) (fun b39 => ?_) (fun b39 => ?_)
        · replace h := (if_pos b39).symm.trans h
          refine V_iconst X 0 dX12_plain_69 (by decide) ?_
          refine V_sub X [] (lv' := []) rfl ?_
          obtain rfl := pr1 h
          exact hk
        · replace h := (if_neg b39).symm.trans h
          refine V_iconst X 1 dX12_plain_65 (by decide) ?_
          refine V_goto X (tgt := 70) dX12_plain_66 (by decide) ?_
          refine V_sub X [] (lv' := []) rfl ?_
          obtain rfl := pr1 h
          exact hk
    · replace h := (if_neg b8).symm.trans h
      refine V_aload_n X 0 dX12_plain_36 rfl rfl ?_
      refine V_geti X (o := (0, 32, 0)) (ci := 12) (k := 15) (N := 30) (T := TX12) (C := RX12) ⟨by decide, rfl⟩ rfl rfl rfl (by decide) (mBa inB_X12) (mB wl_RX12_208) dX12_plain_37 ?_
      obtain ⟨hzb, h⟩ := gd_some h
      exact V_zretW X h hzb dX12_plain_40
  · replace h := (if_neg b4).symm.trans h
    refine V_aload_n X 0 dX12_plain_9 rfl rfl ?_
    refine V_getr X (o := (0, 32, 0)) (i := (0, 33, 0)) (ci := 12) (k := 1) (N := 30) (T := TX12) (C := RX12) ⟨by decide, rfl⟩ rfl rfl rfl (by decide) (mBa inB_X12) (mB wl_RX12_7) dX12_plain_10 ?_
    refine V_bipush X 6 dX12_plain_13 (by decide) ?_
    refine V_iald X 6 (by decide) (o := (0, 33, 0)) (n := 737) ⟨by decide, rfl⟩ rfl rfl (by decide) dX12_plain_15 ?_
    refine V_iconst X 2 dX12_plain_16 (by decide) ?_
    refine V_rem X dX12_plain_17 (by decide) ?_
    obtain ⟨x42, h1, h⟩ := zl1_some h
    have hk : V X μ3 26 [] [.int x42] := by
      clear h1
      obtain ⟨hzb, h⟩ := gd_some h
      exact V_zretW X h hzb dX12_plain_26
    replace h := h1
    clear h1
    refine V_if_ne X (tgt := 25) dX12_plain_18 (by decide) (fun b41 => ?_) (fun b41 => ?_)
    · replace h := (if_neg b41).symm.trans h
      refine V_iconst X 0 dX12_plain_25 (by decide) ?_
      refine V_sub X [] (lv' := []) rfl ?_
      obtain rfl := pr1 h
      exact hk
    · replace h := (if_pos b41).symm.trans h
      refine V_iconst X 1 dX12_plain_21 (by decide) ?_
      refine V_goto X (tgt := 26) dX12_plain_22 (by decide) ?_
      refine V_sub X [] (lv' := []) rfl ?_
      obtain rfl := pr1 h
      exact hk

def g_X12_atom (rec_X12_atom : ZMem → Option (Int32 × ZMem)) (rec_X12_some : ZMem → Option (Int32 × ZMem)) (μ : ZMem) : Option (Int32 × ZMem) := if (μ (0, 32, 0) 12) = (-1) then bd2 (f_X12_here μ) (fun (x3 : Int32) (μ4 : ZMem) => bd2 (f_X12_has 21 μ4) (fun (x6 : Int32) (μ7 : ZMem) => jk (fun (μ9 : ZMem) => if (μ9 (0, 32, 0) 13) = 6 then bd (f_X12_wrong x3 μ9) (fun (μ43 : ZMem) => some (0, μ43)) else zlt (mset μ9 (0, 32, 0) 13 ((μ9 (0, 32, 0) 13) + 1)) (fun (μ19 : ZMem) => bd2 (α := Int32) (β := ZMem) (if x6 = 0 then zlt (mset μ19 (0, 32, 0) 11 ((μ19 (0, 32, 0) 11) + 1)) (fun (μ23 : ZMem) => bd2 (rec_X12_some μ23) (fun (x25 : Int32) (μ26 : ZMem) => bd (α := ZMem) (if (μ26 (0, 32, 0) 12) = (-1) then bd2 (f_X12_isSign 41 μ26) (fun (x30 : Int32) (μ31 : ZMem) => if x30 = 0 then bd (f_X12_wrong (μ31 (0, 32, 0) 11) μ31) (fun (μ34 : ZMem) => some μ34) else some μ31) else some μ26) (fun (μ28 : ZMem) => zlt (mset μ28 (0, 32, 0) 11 ((μ28 (0, 32, 0) 11) + 1)) (fun (μ35 : ZMem) => some (x25, μ35))))) else bd2 (rec_X12_atom μ19) (fun (x37 : Int32) (μ38 : ZMem) => zlt (α := Int32) (if x37 = 0 then 1 else 0) (fun (x40 : Int32) => some (x40, μ38)))) (fun (x21 : Int32) (μ22 : ZMem) => zlt (mset μ22 (0, 32, 0) 13 ((μ22 (0, 32, 0) 13) - 1)) (fun (μ41 : ZMem) => gd (zbo x21) (some (x21, μ41)))))) (fun k10 => if x6 = 0 then bd2 (f_X12_isSign 40 μ7) (fun (x12 : Int32) (μ13 : ZMem) => if x12 = 0 then bd2 (f_X12_plain μ13) (fun (x16 : Int32) (μ17 : ZMem) => gd (zbo x16) (some (x16, μ17))) else k10 μ13) else k10 μ7))) else some (0, μ)
set_option maxRecDepth 100000 in
set_option maxHeartbeats 4000000 in
theorem MG_X12_atom {l : Launch} {D : va_G} {y : ZLay} {F : Nat} (hF : 20 ≤ F) {F_X12_atom : Nat} (hF_X12_atom : F_X12_atom + 1 ≤ F) {rec_X12_atom : ZMem → Option (Int32 × ZMem)} (hr_X12_atom : ∀  {μ : ZMem} {r : Int32} {μ0 : ZMem}, rec_X12_atom μ = some (r, μ0) → MI l yX12_atom wb_X12_atom (rmq F_X12_atom) D y [.ref (zad y (0, 32, 0))] μ r μ0) {F_X12_some : Nat} (hF_X12_some : F_X12_some + 1 ≤ F) {rec_X12_some : ZMem → Option (Int32 × ZMem)} (hr_X12_some : ∀  {μ : ZMem} {r : Int32} {μ0 : ZMem}, rec_X12_some μ = some (r, μ0) → MI l yX12_some wb_X12_some (rmq F_X12_some) D y [.ref (zad y (0, 32, 0))] μ r μ0)   {μ : ZMem} {r : Int32} {μ0 : ZMem} (h : g_X12_atom rec_X12_atom rec_X12_some μ = some (r, μ0)) : MI l yX12_atom wb_X12_atom (rmq F) D y [.ref (zad y (0, 32, 0))] μ r μ0 := by
  unfold g_X12_atom at h
  refine MI_of RX12 [(0, .ref (zad y (0, 32, 0)))] (by decide) rfl rfl (Nat.le_of_ble_eq_true rfl) rfl ?_
  intro p e s m args below meth c A X
  refine V_aload_n X 0 dX12_atom_0 rfl rfl ?_
  refine V_geti X (o := (0, 32, 0)) (ci := 12) (k := 12) (N := 30) (T := TX12) (C := RX12) ⟨by decide, rfl⟩ rfl rfl rfl (by decide) (mBa inB_X12) (mB wl_RX12_25) dX12_atom_1 ?_
  refine V_iconst X (-1) dX12_atom_4 (by decide) ?_
  refine V_icmp_eq X (tgt := 10) dX12_atom_5 (by decide) (fun b1 => ?_) (fun b1 => ?_)
  · replace h := (if_pos b1).symm.trans h
    refine V_aload_n X 0 dX12_atom_10 rfl rfl ?_
    obtain ⟨x3, μ4, c2, h⟩ := bd2_some h
    refine V_callVi X (As := []) (M_X12_here c2) (cwV 0 X.2.2.2.2.2.2.1 (gV wm_RX12_105 wi_X12_here wse_X12_here win_RX12 wc_X12_here) rfl rfl rfl hd_X12_here ⟨Nat.le_trans (Nat.le_of_ble_eq_true rfl : (rm_X12_here).frames + 1 ≤ 20) hF, Nat.le_trans (Nat.le_of_ble_eq_true rfl : 8 + (1 + 11) + (rm_X12_here).locals ≤ 1000) (by show 1000 ≤ 40 * F + 200; omega)⟩) (b := (0, 32, 0)) ⟨by decide, rfl⟩ rfl rfl rfl rfl (Nat.le_of_ble_eq_true rfl) dX12_atom_11 rfl ?_
    refine V_istore_n X [(1, .int x3), (0, .ref (zad y (0, 32, 0)))] dX12_atom_14 rfl (by decide) rfl ?_
    refine V_aload_n X 1 dX12_atom_15 rfl rfl ?_
    refine V_ldcS X (i := 21) (ix := 215) rfl dX12_atom_16 ?_
    obtain ⟨x6, μ7, c5, h⟩ := bd2_some h
    refine V_callVi X (As := [.ref (zak y 21)]) (M_X12_has (by decide) c5) (cwV 1 X.2.2.2.2.2.2.1 (gV wm_RX12_112 wi_X12_has wse_X12_has win_RX12 wc_X12_has) rfl rfl rfl hd_X12_has ⟨Nat.le_trans (Nat.le_of_ble_eq_true rfl : (rm_X12_has).frames + 1 ≤ 20) hF, Nat.le_trans (Nat.le_of_ble_eq_true rfl : 8 + (4 + 11) + (rm_X12_has).locals ≤ 1000) (by show 1000 ≤ 40 * F + 200; omega)⟩) (b := (0, 32, 0)) ⟨by decide, rfl⟩ rfl rfl rfl rfl (Nat.le_of_ble_eq_true rfl) dX12_atom_18 rfl ?_
    refine V_istore_n X [(2, .int x6), (1, .int x3), (0, .ref (zad y (0, 32, 0)))] dX12_atom_21 rfl (by decide) rfl ?_
    refine V_iload_n X 0 dX12_atom_22 rfl rfl ?_
    refine jk1_el (P := fun (μ9 : ZMem) => V X μ9 40 [(0, .ref (zad y (0, 32, 0))), (1, .int x3), (2, .int x6)] []) h (fun μ9 h => ?_) (fun k10 hk10 h => ?_)
    · refine V_aload_n X 0 dX12_atom_40 rfl rfl ?_
      refine V_geti X (o := (0, 32, 0)) (ci := 12) (k := 13) (N := 30) (T := TX12) (C := RX12) ⟨by decide, rfl⟩ rfl rfl rfl (by decide) (mBa inB_X12) (mB wl_RX12_164) dX12_atom_41 ?_
      refine V_bipush X 6 dX12_atom_44 (by decide) ?_
      refine V_icmp_ne X (tgt := 56) dX12_atom_46 (by decide) (fun b18 => ?_) (fun b18 => ?_)
      · replace h := (if_neg b18).symm.trans h
        refine V_aload_n X 0 dX12_atom_56 rfl rfl ?_
        refine V_dup X dX12_atom_57 rfl ?_
        refine V_geti X (o := (0, 32, 0)) (ci := 12) (k := 13) (N := 30) (T := TX12) (C := RX12) ⟨by decide, rfl⟩ rfl rfl rfl (by decide) (mBa inB_X12) (mB wl_RX12_164) dX12_atom_58 ?_
        refine V_iconst X 1 dX12_atom_61 (by decide) ?_
        refine V_iadd X dX12_atom_62 ?_
        refine V_puti X tyX12 .int (o := (0, 32, 0)) (ci := 12) (k := 13) (N := 30) (T := TX12) (C := RX12) ⟨by decide, rfl⟩ rfl rfl rfl (by decide) (mBa inB_X12) tyX12_ok nmX12 (mB wl_RX12_164) rfl rfl rfl rfl dX12_atom_63 ?_
        refine zlt_el (P := fun (μ19 : ZMem) => V X μ19 66 [(0, .ref (zad y (0, 32, 0))), (1, .int x3), (2, .int x6)] []) h (fun μ19 h => ?_)
        refine V_iconst X 0 dX12_atom_66 (by decide) ?_
        refine V_istore_n X [(3, .int 0), (0, .ref (zad y (0, 32, 0))), (1, .int x3), (2, .int x6)] dX12_atom_67 rfl (by decide) rfl ?_
        refine V_iload_n X 3 dX12_atom_68 rfl rfl ?_
        obtain ⟨x21, μ22, h1, h⟩ := bd2_some h
        have hk : V X μ22 138 [(0, .ref (zad y (0, 32, 0))), (3, .int x21)] [] := by
          clear h1
          refine V_aload_n X 0 dX12_atom_138 rfl rfl ?_
          refine V_dup X dX12_atom_139 rfl ?_
          refine V_geti X (o := (0, 32, 0)) (ci := 12) (k := 13) (N := 30) (T := TX12) (C := RX12) ⟨by decide, rfl⟩ rfl rfl rfl (by decide) (mBa inB_X12) (mB wl_RX12_164) dX12_atom_140 ?_
          refine V_iconst X 1 dX12_atom_143 (by decide) ?_
          refine V_isub X dX12_atom_144 ?_
          refine V_puti X tyX12 .int (o := (0, 32, 0)) (ci := 12) (k := 13) (N := 30) (T := TX12) (C := RX12) ⟨by decide, rfl⟩ rfl rfl rfl (by decide) (mBa inB_X12) tyX12_ok nmX12 (mB wl_RX12_164) rfl rfl rfl rfl dX12_atom_145 ?_
          refine zlt_el (P := fun (μ41 : ZMem) => V X μ41 148 [(0, .ref (zad y (0, 32, 0))), (3, .int x21)] []) h (fun μ41 h => ?_)
          refine V_iload_n X 1 dX12_atom_148 rfl rfl ?_
          obtain ⟨hzb, h⟩ := gd_some h
          exact V_zretW X h hzb dX12_atom_149
        replace h := h1
        clear h1
        refine V_if_eq X (tgt := 88) dX12_atom_69 (by decide) (fun b20 => ?_) (fun b20 => ?_)
        · replace h := (if_pos b20).symm.trans h
          refine V_aload_n X 1 dX12_atom_88 rfl rfl ?_
          refine V_dup X dX12_atom_89 rfl ?_
          refine V_geti X (o := (0, 32, 0)) (ci := 12) (k := 11) (N := 30) (T := TX12) (C := RX12) ⟨by decide, rfl⟩ rfl rfl rfl (by decide) (mBa inB_X12) (mB wl_RX12_82) dX12_atom_90 ?_
          refine V_iconst X 1 dX12_atom_93 (by decide) ?_
          refine V_iadd X dX12_atom_94 ?_
          refine V_puti X tyX12 .int (o := (0, 32, 0)) (ci := 12) (k := 11) (N := 30) (T := TX12) (C := RX12) ⟨by decide, rfl⟩ rfl rfl rfl (by decide) (mBa inB_X12) tyX12_ok nmX12 (mB wl_RX12_82) rfl rfl rfl rfl dX12_atom_95 ?_
          refine zlt_el (P := fun (μ23 : ZMem) => V X μ23 98 [(3, .int 0), (0, .ref (zad y (0, 32, 0))), (1, .int x3), (2, .int x6)] []) h (fun μ23 h => ?_)
          refine V_aload_n X 1 dX12_atom_98 rfl rfl ?_
          obtain ⟨x25, μ26, c24, h⟩ := bd2_some h
          refine V_callVi X (As := []) (hr_X12_some c24) (cwV 0 X.2.2.2.2.2.2.1 (gV wm_RX12_224 wi_X12_some wse_X12_some win_RX12 wc_X12_some) rfl rfl rfl hd_X12_some ⟨hF_X12_some, by show 8 + (3 + 11) + (40 * F_X12_some + 200) ≤ 40 * F + 200; have := hF_X12_some; omega⟩) (b := (0, 32, 0)) ⟨by decide, rfl⟩ rfl rfl rfl rfl (Nat.le_of_ble_eq_true rfl) dX12_atom_99 rfl ?_
          refine V_istore_n X [(3, .int x25), (0, .ref (zad y (0, 32, 0))), (1, .int x3), (2, .int x6)] dX12_atom_102 rfl (by decide) rfl ?_
          refine V_aload_n X 1 dX12_atom_103 rfl rfl ?_
          refine V_geti X (o := (0, 32, 0)) (ci := 12) (k := 12) (N := 30) (T := TX12) (C := RX12) ⟨by decide, rfl⟩ rfl rfl rfl (by decide) (mBa inB_X12) (mB wl_RX12_25) dX12_atom_104 ?_
          refine V_iconst X (-1) dX12_atom_107 (by decide) ?_
          obtain ⟨μ28, h1, h⟩ := bd_some h
          have hk : V X μ28 128 [(0, .ref (zad y (0, 32, 0))), (3, .int x25)] [] := by
            clear h1
            refine V_aload_n X 0 dX12_atom_128 rfl rfl ?_
            refine V_dup X dX12_atom_129 rfl ?_
            refine V_geti X (o := (0, 32, 0)) (ci := 12) (k := 11) (N := 30) (T := TX12) (C := RX12) ⟨by decide, rfl⟩ rfl rfl rfl (by decide) (mBa inB_X12) (mB wl_RX12_82) dX12_atom_130 ?_
            refine V_iconst X 1 dX12_atom_133 (by decide) ?_
            refine V_iadd X dX12_atom_134 ?_
            refine V_puti X tyX12 .int (o := (0, 32, 0)) (ci := 12) (k := 11) (N := 30) (T := TX12) (C := RX12) ⟨by decide, rfl⟩ rfl rfl rfl (by decide) (mBa inB_X12) tyX12_ok nmX12 (mB wl_RX12_82) rfl rfl rfl rfl dX12_atom_135 ?_
            refine zlt_el (P := fun (μ35 : ZMem) => V X μ35 138 [(0, .ref (zad y (0, 32, 0))), (3, .int x25)] []) h (fun μ35 h => ?_)
            obtain ⟨rfl, rfl⟩ := so2 h
            exact hk
          replace h := h1
          clear h1
          refine V_icmp_ne X (tgt := 128) dX12_atom_108 (by decide) (fun b27 => ?_) (fun b27 => ?_)
          · replace h := (if_neg b27).symm.trans h
            refine V_sub X [1, 0] (lv' := [(0, .ref (zad y (0, 32, 0))), (3, .int x25)]) rfl ?_
            obtain rfl := so1 h
            exact hk
          · replace h := (if_pos b27).symm.trans h
            refine V_aload_n X 1 dX12_atom_111 rfl rfl ?_
            refine V_bipush X 41 dX12_atom_112 (by decide) ?_
            obtain ⟨x30, μ31, c29, h⟩ := bd2_some h
            refine V_callVi X (As := [.int 41]) (M_X12_isSign c29) (cwV 1 X.2.2.2.2.2.2.1 (gV wm_RX12_173 wi_X12_isSign wse_X12_isSign win_RX12 wc_X12_isSign) rfl rfl rfl hd_X12_isSign ⟨Nat.le_trans (Nat.le_of_ble_eq_true rfl : (rm_X12_isSign).frames + 1 ≤ 20) hF, Nat.le_trans (Nat.le_of_ble_eq_true rfl : 8 + (2 + 11) + (rm_X12_isSign).locals ≤ 1000) (by show 1000 ≤ 40 * F + 200; omega)⟩) (b := (0, 32, 0)) ⟨by decide, rfl⟩ rfl rfl rfl rfl (Nat.le_of_ble_eq_true rfl) dX12_atom_114 rfl ?_
            refine V_if_ne X (tgt := 128) dX12_atom_117 (by decide) (fun b32 => ?_) (fun b32 => ?_)
            · replace h := (if_neg b32).symm.trans h
              refine V_sub X [1, 0] (lv' := [(0, .ref (zad y (0, 32, 0))), (3, .int x25)]) rfl ?_
              obtain rfl := so1 h
              exact hk
            · replace h := (if_pos b32).symm.trans h
              refine V_aload_n X 1 dX12_atom_120 rfl rfl ?_
              refine V_aload_n X 1 dX12_atom_121 rfl rfl ?_
              refine V_geti X (o := (0, 32, 0)) (ci := 12) (k := 11) (N := 30) (T := TX12) (C := RX12) ⟨by decide, rfl⟩ rfl rfl rfl (by decide) (mBa inB_X12) (mB wl_RX12_82) dX12_atom_122 ?_
              obtain ⟨μ34, c33, h⟩ := bd_some h
              refine V_callVv X (As := [.int (μ31 (0, 32, 0) 11)]) (M_X12_wrong c33) (cwV 1 X.2.2.2.2.2.2.1 (gV wm_RX12_108 wi_X12_wrong wse_X12_wrong win_RX12 wc_X12_wrong) rfl rfl rfl hd_X12_wrong ⟨Nat.le_trans (Nat.le_of_ble_eq_true rfl : (rm_X12_wrong).frames + 1 ≤ 20) hF, Nat.le_trans (Nat.le_of_ble_eq_true rfl : 8 + (2 + 11) + (rm_X12_wrong).locals ≤ 1000) (by show 1000 ≤ 40 * F + 200; omega)⟩) (b := (0, 32, 0)) ⟨by decide, rfl⟩ rfl rfl rfl rfl (Nat.le_of_ble_eq_true rfl) dX12_atom_125 rfl ?_
              refine V_sub X [1, 0] (lv' := [(0, .ref (zad y (0, 32, 0))), (3, .int x25)]) rfl ?_
              obtain rfl := so1 h
              exact hk
        · replace h := (if_neg b20).symm.trans h
          refine V_aload_n X 1 dX12_atom_72 rfl rfl ?_
          obtain ⟨x37, μ38, c36, h⟩ := bd2_some h
          refine V_callVi X (As := []) (hr_X12_atom c36) (cwV 0 X.2.2.2.2.2.2.1 (gV wm_RX12_221 wi_X12_atom wse_X12_atom win_RX12 wc_X12_atom) rfl rfl rfl hd_X12_atom ⟨hF_X12_atom, by show 8 + (4 + 11) + (40 * F_X12_atom + 200) ≤ 40 * F + 200; have := hF_X12_atom; omega⟩) (b := (0, 32, 0)) ⟨by decide, rfl⟩ rfl rfl rfl rfl (Nat.le_of_ble_eq_true rfl) dX12_atom_73 rfl ?_
          obtain ⟨x40, h1, h⟩ := zl1_some h
          have hk : V X μ38 84 [(0, .ref (zad y (0, 32, 0)))] [.int x40] := by
            clear h1
            refine V_istore_n X [(3, .int x40), (0, .ref (zad y (0, 32, 0)))] dX12_atom_84 rfl (by decide) rfl ?_
            refine V_goto X (tgt := 138) dX12_atom_85 (by decide) ?_
            refine V_sub X [1, 0] (lv' := [(0, .ref (zad y (0, 32, 0))), (3, .int x40)]) rfl ?_
            obtain ⟨rfl, rfl⟩ := so2 h
            exact hk
          replace h := h1
          clear h1
          refine V_if_ne X (tgt := 83) dX12_atom_76 (by decide) (fun b39 => ?_) (fun b39 => ?_)
          · replace h := (if_neg b39).symm.trans h
            refine V_iconst X 0 dX12_atom_83 (by decide) ?_
            refine V_sub X [1] (lv' := [(0, .ref (zad y (0, 32, 0)))]) rfl ?_
            obtain rfl := pr1 h
            exact hk
          · replace h := (if_pos b39).symm.trans h
            refine V_iconst X 1 dX12_atom_79 (by decide) ?_
            refine V_goto X (tgt := 84) dX12_atom_80 (by decide) ?_
            refine V_sub X [1] (lv' := [(0, .ref (zad y (0, 32, 0)))]) rfl ?_
            obtain rfl := pr1 h
            exact hk
      · replace h := (if_pos b18).symm.trans h
        refine V_aload_n X 0 dX12_atom_49 rfl rfl ?_
        refine V_iload_n X 1 dX12_atom_50 rfl rfl ?_
        obtain ⟨μ43, c42, h⟩ := bd_some h
        refine V_callVv X (As := [.int x3]) (M_X12_wrong c42) (cwV 1 X.2.2.2.2.2.2.1 (gV wm_RX12_108 wi_X12_wrong wse_X12_wrong win_RX12 wc_X12_wrong) rfl rfl rfl hd_X12_wrong ⟨Nat.le_trans (Nat.le_of_ble_eq_true rfl : (rm_X12_wrong).frames + 1 ≤ 20) hF, Nat.le_trans (Nat.le_of_ble_eq_true rfl : 8 + (2 + 11) + (rm_X12_wrong).locals ≤ 1000) (by show 1000 ≤ 40 * F + 200; omega)⟩) (b := (0, 32, 0)) ⟨by decide, rfl⟩ rfl rfl rfl rfl (Nat.le_of_ble_eq_true rfl) dX12_atom_51 rfl ?_
        refine V_iconst X 0 dX12_atom_54 (by decide) ?_
        exact V_zretW X h (by decide) dX12_atom_55
    · refine V_if_ne X (tgt := 40) dX12_atom_23 (by decide) (fun b8 => ?_) (fun b8 => ?_)
      · replace h := (if_neg b8).symm.trans h
        refine V_sub X [2, 1, 0] (lv' := [(0, .ref (zad y (0, 32, 0))), (1, .int x3), (2, .int x6)]) rfl ?_
        exact hk10 _ h
      · replace h := (if_pos b8).symm.trans h
        refine V_aload_n X 2 dX12_atom_26 rfl rfl ?_
        refine V_bipush X 40 dX12_atom_27 (by decide) ?_
        obtain ⟨x12, μ13, c11, h⟩ := bd2_some h
        refine V_callVi X (As := [.int 40]) (M_X12_isSign c11) (cwV 1 X.2.2.2.2.2.2.1 (gV wm_RX12_173 wi_X12_isSign wse_X12_isSign win_RX12 wc_X12_isSign) rfl rfl rfl hd_X12_isSign ⟨Nat.le_trans (Nat.le_of_ble_eq_true rfl : (rm_X12_isSign).frames + 1 ≤ 20) hF, Nat.le_trans (Nat.le_of_ble_eq_true rfl : 8 + (2 + 11) + (rm_X12_isSign).locals ≤ 1000) (by show 1000 ≤ 40 * F + 200; omega)⟩) (b := (0, 32, 0)) ⟨by decide, rfl⟩ rfl rfl rfl rfl (Nat.le_of_ble_eq_true rfl) dX12_atom_29 rfl ?_
        refine V_if_ne X (tgt := 40) dX12_atom_32 (by decide) (fun b14 => ?_) (fun b14 => ?_)
        · replace h := (if_neg b14).symm.trans h
          refine V_sub X [2, 1, 0] (lv' := [(0, .ref (zad y (0, 32, 0))), (1, .int x3), (2, .int x6)]) rfl ?_
          exact hk10 _ h
        · replace h := (if_pos b14).symm.trans h
          refine V_aload_n X 2 dX12_atom_35 rfl rfl ?_
          obtain ⟨x16, μ17, c15, h⟩ := bd2_some h
          refine V_callVi X (As := []) (M_X12_plain c15) (cwV 0 X.2.2.2.2.2.2.1 (gV wm_RX12_217 wi_X12_plain wse_X12_plain win_RX12 wc_X12_plain) rfl rfl rfl hd_X12_plain ⟨Nat.le_trans (Nat.le_of_ble_eq_true rfl : (rm_X12_plain).frames + 1 ≤ 20) hF, Nat.le_trans (Nat.le_of_ble_eq_true rfl : 8 + (4 + 11) + (rm_X12_plain).locals ≤ 1000) (by show 1000 ≤ 40 * F + 200; omega)⟩) (b := (0, 32, 0)) ⟨by decide, rfl⟩ rfl rfl rfl rfl (Nat.le_of_ble_eq_true rfl) dX12_atom_36 rfl ?_
          obtain ⟨hzb, h⟩ := gd_some h
          exact V_zretW X h hzb dX12_atom_39
  · replace h := (if_neg b1).symm.trans h
    refine V_iconst X 0 dX12_atom_8 (by decide) ?_
    exact V_zretW X h (by decide) dX12_atom_9

def g_X12_every (rec_X12_atom : ZMem → Option (Int32 × ZMem)) (μ : ZMem) : Option (Int32 × ZMem) := bd2 (rec_X12_atom μ) (fun (x2 : Int32) (μ3 : ZMem) => bd2 (lp (σ := Int32 × ZMem) (fun q => un2 q (fun (x4 : Int32) (μ5 : ZMem) => if (μ5 (0, 32, 0) 12) = (-1) then bd2 (f_X12_has 22 μ5) (fun (x10 : Int32) (μ11 : ZMem) => if x10 = 0 then some (.inr (x4, μ11)) else bd2 (rec_X12_atom μ11) (fun (x14 : Int32) (μ15 : ZMem) => bd (α := Int32) (jk (some 0) (fun k18 => if x4 = 0 then k18 else if x14 = 0 then k18 else some 1)) (fun (x17 : Int32) => some (.inl (x17, μ15))))) else some (.inr (x4, μ5)))) FU (x2, μ3)) (fun (x6 : Int32) (μ7 : ZMem) => gd (zbo x6) (some (x6, μ7))))
set_option maxRecDepth 100000 in
set_option maxHeartbeats 4000000 in
theorem MG_X12_every {l : Launch} {D : va_G} {y : ZLay} {F : Nat} (hF : 20 ≤ F) {F_X12_atom : Nat} (hF_X12_atom : F_X12_atom + 1 ≤ F) {rec_X12_atom : ZMem → Option (Int32 × ZMem)} (hr_X12_atom : ∀  {μ : ZMem} {r : Int32} {μ0 : ZMem}, rec_X12_atom μ = some (r, μ0) → MI l yX12_atom wb_X12_atom (rmq F_X12_atom) D y [.ref (zad y (0, 32, 0))] μ r μ0)   {μ : ZMem} {r : Int32} {μ0 : ZMem} (h : g_X12_every rec_X12_atom μ = some (r, μ0)) : MI l yX12_every wb_X12_every (rmq F) D y [.ref (zad y (0, 32, 0))] μ r μ0 := by
  unfold g_X12_every at h
  refine MI_of RX12 [(0, .ref (zad y (0, 32, 0)))] (by decide) rfl rfl (Nat.le_of_ble_eq_true rfl) rfl ?_
  intro p e s m args below meth c A X
  refine V_aload_n X 0 dX12_every_0 rfl rfl ?_
  obtain ⟨x2, μ3, c1, h⟩ := bd2_some h
  refine V_callVi X (As := []) (hr_X12_atom c1) (cwV 0 X.2.2.2.2.2.2.1 (gV wm_RX12_221 wi_X12_atom wse_X12_atom win_RX12 wc_X12_atom) rfl rfl rfl hd_X12_atom ⟨hF_X12_atom, by show 8 + (4 + 11) + (40 * F_X12_atom + 200) ≤ 40 * F + 200; have := hF_X12_atom; omega⟩) (b := (0, 32, 0)) ⟨by decide, rfl⟩ rfl rfl rfl rfl (Nat.le_of_ble_eq_true rfl) dX12_every_1 rfl ?_
  refine V_istore_n X [(1, .int x2), (0, .ref (zad y (0, 32, 0)))] dX12_every_4 rfl (by decide) rfl ?_
  refine V_sub X [1, 0] (lv' := [(0, .ref (zad y (0, 32, 0))), (1, .int x2)]) rfl ?_
  obtain ⟨x6, μ7, hl, h⟩ := bd2_some h
  have hk : V X μ7 44 [(1, .int x6)] [] := by
    clear hl
    refine V_iload_n X 0 dX12_every_44 rfl rfl ?_
    obtain ⟨hzb, h⟩ := gd_some h
    exact V_zretW X h hzb dX12_every_45
  refine lp_ind (P := fun q => V X q.2 5 [(0, .ref (zad y (0, 32, 0))), (1, .int q.1)] []) (fun q z h hz => ?_) hl
  obtain ⟨x4, μ5⟩ := q
  replace h := un2_eq h
  show V X μ5 5 [(0, .ref (zad y (0, 32, 0))), (1, .int x4)] []
  refine V_aload_n X 0 dX12_every_5 rfl rfl ?_
  refine V_geti X (o := (0, 32, 0)) (ci := 12) (k := 12) (N := 30) (T := TX12) (C := RX12) ⟨by decide, rfl⟩ rfl rfl rfl (by decide) (mBa inB_X12) (mB wl_RX12_25) dX12_every_6 ?_
  refine V_iconst X (-1) dX12_every_9 (by decide) ?_
  refine V_icmp_ne X (tgt := 44) dX12_every_10 (by decide) (fun b8 => ?_) (fun b8 => ?_)
  · replace h := (if_neg b8).symm.trans h
    refine V_sub X [1] (lv' := [(1, .int x4)]) rfl ?_
    cases h
    obtain ⟨rfl, rfl⟩ := pr2 hz
    exact hk
  · replace h := (if_pos b8).symm.trans h
    refine V_aload_n X 0 dX12_every_13 rfl rfl ?_
    refine V_ldcS X (i := 22) (ix := 227) rfl dX12_every_14 ?_
    obtain ⟨x10, μ11, c9, h⟩ := bd2_some h
    refine V_callVi X (As := [.ref (zak y 22)]) (M_X12_has (by decide) c9) (cwV 1 X.2.2.2.2.2.2.1 (gV wm_RX12_112 wi_X12_has wse_X12_has win_RX12 wc_X12_has) rfl rfl rfl hd_X12_has ⟨Nat.le_trans (Nat.le_of_ble_eq_true rfl : (rm_X12_has).frames + 1 ≤ 20) hF, Nat.le_trans (Nat.le_of_ble_eq_true rfl : 8 + (4 + 11) + (rm_X12_has).locals ≤ 1000) (by show 1000 ≤ 40 * F + 200; omega)⟩) (b := (0, 32, 0)) ⟨by decide, rfl⟩ rfl rfl rfl rfl (Nat.le_of_ble_eq_true rfl) dX12_every_16 rfl ?_
    refine V_if_eq X (tgt := 44) dX12_every_19 (by decide) (fun b12 => ?_) (fun b12 => ?_)
    · replace h := (if_pos b12).symm.trans h
      refine V_sub X [1] (lv' := [(1, .int x4)]) rfl ?_
      cases h
      obtain ⟨rfl, rfl⟩ := pr2 hz
      exact hk
    · replace h := (if_neg b12).symm.trans h
      refine V_aload_n X 0 dX12_every_22 rfl rfl ?_
      obtain ⟨x14, μ15, c13, h⟩ := bd2_some h
      refine V_callVi X (As := []) (hr_X12_atom c13) (cwV 0 X.2.2.2.2.2.2.1 (gV wm_RX12_221 wi_X12_atom wse_X12_atom win_RX12 wc_X12_atom) rfl rfl rfl hd_X12_atom ⟨hF_X12_atom, by show 8 + (4 + 11) + (40 * F_X12_atom + 200) ≤ 40 * F + 200; have := hF_X12_atom; omega⟩) (b := (0, 32, 0)) ⟨by decide, rfl⟩ rfl rfl rfl rfl (Nat.le_of_ble_eq_true rfl) dX12_every_23 rfl ?_
      refine V_istore_n X [(2, .int x14), (0, .ref (zad y (0, 32, 0))), (1, .int x4)] dX12_every_26 rfl (by decide) rfl ?_
      refine V_iload_n X 2 dX12_every_27 rfl rfl ?_
      obtain ⟨x17, h1, h⟩ := bd_some h
      have hk : V X μ15 40 [(0, .ref (zad y (0, 32, 0)))] [.int x17] := by
        clear h1
        refine V_istore_n X [(1, .int x17), (0, .ref (zad y (0, 32, 0)))] dX12_every_40 rfl (by decide) rfl ?_
        refine V_goto X (tgt := 5) dX12_every_41 (by decide) ?_
        refine V_sub X [1, 0] (lv' := [(0, .ref (zad y (0, 32, 0))), (1, .int x17)]) rfl ?_
        cases h
        exact hz
      replace h := h1
      clear h1
      refine jk0_el (P := V X μ15 39 [(0, .ref (zad y (0, 32, 0)))] []) h (fun h => ?_) (fun k18 hk18 h => ?_)
      · refine V_iconst X 0 dX12_every_39 (by decide) ?_
        obtain rfl := so1 h
        exact hk
      · refine V_if_eq X (tgt := 39) dX12_every_28 (by decide) (fun b16 => ?_) (fun b16 => ?_)
        · replace h := (if_pos b16).symm.trans h
          refine V_sub X [1] (lv' := [(0, .ref (zad y (0, 32, 0)))]) rfl ?_
          exact hk18 h
        · replace h := (if_neg b16).symm.trans h
          refine V_iload_n X 0 dX12_every_31 rfl rfl ?_
          refine V_if_eq X (tgt := 39) dX12_every_32 (by decide) (fun b19 => ?_) (fun b19 => ?_)
          · replace h := (if_pos b19).symm.trans h
            refine V_sub X [1] (lv' := [(0, .ref (zad y (0, 32, 0)))]) rfl ?_
            exact hk18 h
          · replace h := (if_neg b19).symm.trans h
            refine V_iconst X 1 dX12_every_35 (by decide) ?_
            refine V_goto X (tgt := 40) dX12_every_36 (by decide) ?_
            refine V_sub X [1] (lv' := [(0, .ref (zad y (0, 32, 0)))]) rfl ?_
            obtain rfl := so1 h
            exact hk

def g_X12_some (rec_X12_every : ZMem → Option (Int32 × ZMem)) (μ : ZMem) : Option (Int32 × ZMem) := bd2 (rec_X12_every μ) (fun (x2 : Int32) (μ3 : ZMem) => bd2 (lp (σ := Int32 × ZMem) (fun q => un2 q (fun (x4 : Int32) (μ5 : ZMem) => if (μ5 (0, 32, 0) 12) = (-1) then bd2 (f_X12_has 23 μ5) (fun (x10 : Int32) (μ11 : ZMem) => if x10 = 0 then some (.inr (x4, μ11)) else bd2 (rec_X12_every μ11) (fun (x14 : Int32) (μ15 : ZMem) => bd (α := Int32) (jk (some 1) (fun k18 => if x4 = 0 then if x14 = 0 then some 0 else k18 else k18)) (fun (x17 : Int32) => some (.inl (x17, μ15))))) else some (.inr (x4, μ5)))) FU (x2, μ3)) (fun (x6 : Int32) (μ7 : ZMem) => gd (zbo x6) (some (x6, μ7))))
set_option maxRecDepth 100000 in
set_option maxHeartbeats 4000000 in
theorem MG_X12_some {l : Launch} {D : va_G} {y : ZLay} {F : Nat} (hF : 20 ≤ F) {F_X12_every : Nat} (hF_X12_every : F_X12_every + 1 ≤ F) {rec_X12_every : ZMem → Option (Int32 × ZMem)} (hr_X12_every : ∀  {μ : ZMem} {r : Int32} {μ0 : ZMem}, rec_X12_every μ = some (r, μ0) → MI l yX12_every wb_X12_every (rmq F_X12_every) D y [.ref (zad y (0, 32, 0))] μ r μ0)   {μ : ZMem} {r : Int32} {μ0 : ZMem} (h : g_X12_some rec_X12_every μ = some (r, μ0)) : MI l yX12_some wb_X12_some (rmq F) D y [.ref (zad y (0, 32, 0))] μ r μ0 := by
  unfold g_X12_some at h
  refine MI_of RX12 [(0, .ref (zad y (0, 32, 0)))] (by decide) rfl rfl (Nat.le_of_ble_eq_true rfl) rfl ?_
  intro p e s m args below meth c A X
  refine V_aload_n X 0 dX12_some_0 rfl rfl ?_
  obtain ⟨x2, μ3, c1, h⟩ := bd2_some h
  refine V_callVi X (As := []) (hr_X12_every c1) (cwV 0 X.2.2.2.2.2.2.1 (gV wm_RX12_229 wi_X12_every wse_X12_every win_RX12 wc_X12_every) rfl rfl rfl hd_X12_every ⟨hF_X12_every, by show 8 + (3 + 11) + (40 * F_X12_every + 200) ≤ 40 * F + 200; have := hF_X12_every; omega⟩) (b := (0, 32, 0)) ⟨by decide, rfl⟩ rfl rfl rfl rfl (Nat.le_of_ble_eq_true rfl) dX12_some_1 rfl ?_
  refine V_istore_n X [(1, .int x2), (0, .ref (zad y (0, 32, 0)))] dX12_some_4 rfl (by decide) rfl ?_
  refine V_sub X [1, 0] (lv' := [(0, .ref (zad y (0, 32, 0))), (1, .int x2)]) rfl ?_
  obtain ⟨x6, μ7, hl, h⟩ := bd2_some h
  have hk : V X μ7 44 [(1, .int x6)] [] := by
    clear hl
    refine V_iload_n X 0 dX12_some_44 rfl rfl ?_
    obtain ⟨hzb, h⟩ := gd_some h
    exact V_zretW X h hzb dX12_some_45
  refine lp_ind (P := fun q => V X q.2 5 [(0, .ref (zad y (0, 32, 0))), (1, .int q.1)] []) (fun q z h hz => ?_) hl
  obtain ⟨x4, μ5⟩ := q
  replace h := un2_eq h
  show V X μ5 5 [(0, .ref (zad y (0, 32, 0))), (1, .int x4)] []
  refine V_aload_n X 0 dX12_some_5 rfl rfl ?_
  refine V_geti X (o := (0, 32, 0)) (ci := 12) (k := 12) (N := 30) (T := TX12) (C := RX12) ⟨by decide, rfl⟩ rfl rfl rfl (by decide) (mBa inB_X12) (mB wl_RX12_25) dX12_some_6 ?_
  refine V_iconst X (-1) dX12_some_9 (by decide) ?_
  refine V_icmp_ne X (tgt := 44) dX12_some_10 (by decide) (fun b8 => ?_) (fun b8 => ?_)
  · replace h := (if_neg b8).symm.trans h
    refine V_sub X [1] (lv' := [(1, .int x4)]) rfl ?_
    cases h
    obtain ⟨rfl, rfl⟩ := pr2 hz
    exact hk
  · replace h := (if_pos b8).symm.trans h
    refine V_aload_n X 0 dX12_some_13 rfl rfl ?_
    refine V_ldcS X (i := 23) (ix := 232) rfl dX12_some_14 ?_
    obtain ⟨x10, μ11, c9, h⟩ := bd2_some h
    refine V_callVi X (As := [.ref (zak y 23)]) (M_X12_has (by decide) c9) (cwV 1 X.2.2.2.2.2.2.1 (gV wm_RX12_112 wi_X12_has wse_X12_has win_RX12 wc_X12_has) rfl rfl rfl hd_X12_has ⟨Nat.le_trans (Nat.le_of_ble_eq_true rfl : (rm_X12_has).frames + 1 ≤ 20) hF, Nat.le_trans (Nat.le_of_ble_eq_true rfl : 8 + (4 + 11) + (rm_X12_has).locals ≤ 1000) (by show 1000 ≤ 40 * F + 200; omega)⟩) (b := (0, 32, 0)) ⟨by decide, rfl⟩ rfl rfl rfl rfl (Nat.le_of_ble_eq_true rfl) dX12_some_16 rfl ?_
    refine V_if_eq X (tgt := 44) dX12_some_19 (by decide) (fun b12 => ?_) (fun b12 => ?_)
    · replace h := (if_pos b12).symm.trans h
      refine V_sub X [1] (lv' := [(1, .int x4)]) rfl ?_
      cases h
      obtain ⟨rfl, rfl⟩ := pr2 hz
      exact hk
    · replace h := (if_neg b12).symm.trans h
      refine V_aload_n X 0 dX12_some_22 rfl rfl ?_
      obtain ⟨x14, μ15, c13, h⟩ := bd2_some h
      refine V_callVi X (As := []) (hr_X12_every c13) (cwV 0 X.2.2.2.2.2.2.1 (gV wm_RX12_229 wi_X12_every wse_X12_every win_RX12 wc_X12_every) rfl rfl rfl hd_X12_every ⟨hF_X12_every, by show 8 + (3 + 11) + (40 * F_X12_every + 200) ≤ 40 * F + 200; have := hF_X12_every; omega⟩) (b := (0, 32, 0)) ⟨by decide, rfl⟩ rfl rfl rfl rfl (Nat.le_of_ble_eq_true rfl) dX12_some_23 rfl ?_
      refine V_istore_n X [(2, .int x14), (0, .ref (zad y (0, 32, 0))), (1, .int x4)] dX12_some_26 rfl (by decide) rfl ?_
      refine V_iload_n X 2 dX12_some_27 rfl rfl ?_
      obtain ⟨x17, h1, h⟩ := bd_some h
      have hk : V X μ15 40 [(0, .ref (zad y (0, 32, 0)))] [.int x17] := by
        clear h1
        refine V_istore_n X [(1, .int x17), (0, .ref (zad y (0, 32, 0)))] dX12_some_40 rfl (by decide) rfl ?_
        refine V_goto X (tgt := 5) dX12_some_41 (by decide) ?_
        refine V_sub X [1, 0] (lv' := [(0, .ref (zad y (0, 32, 0))), (1, .int x17)]) rfl ?_
        cases h
        exact hz
      replace h := h1
      clear h1
      refine jk0_el (P := V X μ15 35 [(0, .ref (zad y (0, 32, 0)))] []) h (fun h => ?_) (fun k18 hk18 h => ?_)
      · refine V_iconst X 1 dX12_some_35 (by decide) ?_
        refine V_goto X (tgt := 40) dX12_some_36 (by decide) ?_
        obtain rfl := so1 h
        exact hk
      · refine V_if_ne X (tgt := 35) dX12_some_28 (by decide) (fun b16 => ?_) (fun b16 => ?_)
        · replace h := (if_neg b16).symm.trans h
          refine V_sub X [1] (lv' := [(0, .ref (zad y (0, 32, 0)))]) rfl ?_
          exact hk18 h
        · replace h := (if_pos b16).symm.trans h
          refine V_iload_n X 0 dX12_some_31 rfl rfl ?_
          refine V_if_eq X (tgt := 39) dX12_some_32 (by decide) (fun b19 => ?_) (fun b19 => ?_)
          · replace h := (if_pos b19).symm.trans h
            refine V_iconst X 0 dX12_some_39 (by decide) ?_
            refine V_sub X [1] (lv' := [(0, .ref (zad y (0, 32, 0)))]) rfl ?_
            obtain rfl := so1 h
            exact hk
          · replace h := (if_neg b19).symm.trans h
            refine V_sub X [1] (lv' := [(0, .ref (zad y (0, 32, 0)))]) rfl ?_
            exact hk18 h

def f_X12_atomN : Nat → ZMem → Option (Int32 × ZMem)
  | 0, _ => none
  | n + 1, μ => g_X12_atom (f_X12_atomN n) (g_X12_some (g_X12_every (f_X12_atomN n))) μ
def f_X12_some (μ : ZMem) : Option (Int32 × ZMem) := g_X12_some (g_X12_every (f_X12_atomN 8)) μ
abbrev rm_X12_some : Room := rmq 53
theorem M_X12_atomN {l : Launch} {D : va_G} {y : ZLay} : ∀ (n : Nat) {μ : ZMem} {r : Int32} {μ0 : ZMem}, f_X12_atomN n μ = some (r, μ0) → MI l yX12_atom wb_X12_atom (rmq (3 * n + 27)) D y [.ref (zad y (0, 32, 0))] μ r μ0
  | 0, _, _, _, h => by cases h
  | n + 1, _, _, _, h => MG_X12_atom (F := 3 * n + 30) (by omega) (F_X12_atom := 3 * n + 27) (by omega) (fun h => M_X12_atomN n h) (F_X12_some := 3 * n + 29) (by omega) (fun h => MG_X12_some (F := 3 * n + 29) (by omega) (F_X12_every := 3 * n + 28) (by omega) (fun h => MG_X12_every (F := 3 * n + 28) (by omega) (F_X12_atom := 3 * n + 27) (by omega) (fun h => M_X12_atomN n h) h) h) h
theorem M_X12_some {l : Launch} {D : va_G} {y : ZLay} {μ : ZMem} {r : Int32} {μ0 : ZMem} (h : f_X12_some μ = some (r, μ0)) : MI l yX12_some wb_X12_some rm_X12_some D y [.ref (zad y (0, 32, 0))] μ r μ0 :=
  MG_X12_some (F := 53) (by omega) (F_X12_every := 52) (by omega) (fun h => MG_X12_every (F := 52) (by omega) (F_X12_atom := 51) (by omega) (fun h => M_X12_atomN 8 h) h) h

def f_X12_lawLine (μ : ZMem) : Option (ZMem) := bd2 (f_X12_has 6 μ) (fun (x2 : Int32) (μ3 : ZMem) => bd2 (α := Int32) (β := ZMem) (if x2 = 0 then bd2 (f_X12_has 24 μ3) (fun (x8 : Int32) (μ9 : ZMem) => if x8 = 0 then bd2 (f_X12_has 25 μ9) (fun (x12 : Int32) (μ13 : ZMem) => if x12 = 0 then some ((-1), μ13) else some (2, μ13)) else some (1, μ9)) else some (0, μ3)) (fun (x5 : Int32) (μ6 : ZMem) => if x5 = (-1) then bd (f_X12_wrong (μ6 (0, 32, 0) 11) μ6) (fun (μ45 : ZMem) => some μ45) else bd2 (f_X12_figures 0 99 μ6) (fun (x17 : Int32) (μ18 : ZMem) => if (μ18 (0, 32, 0) 12) = (-1) then bd2 (f_X12_has 26 μ18) (fun (x21 : Int32) (μ22 : ZMem) => bd2 (α := Int32) (β := ZMem) (jk (fun (μ26 : ZMem) => some (1, μ26)) (fun k27 => if x21 = 0 then k27 μ22 else bd2 (f_X12_some μ22) (fun (x29 : Int32) (μ30 : ZMem) => if x29 = 0 then some (0, μ30) else k27 μ30))) (fun (x24 : Int32) (μ25 : ZMem) => jk (some μ25) (fun k33 => if (μ25 (0, 32, 0) 12) = (-1) then if x24 = 0 then k33 else zlt (α := Int32) (if x5 = 0 then x17 else 0) (fun (x36 : Int32) => zlt (mset μ25 (0, 32, 0) 16 ((μ25 (0, 32, 0) 16) + x36)) (fun (μ37 : ZMem) => zlt (α := Int32) (if x5 = 1 then x17 else 0) (fun (x39 : Int32) => zlt (mset μ37 (0, 32, 0) 17 ((μ37 (0, 32, 0) 17) + x39)) (fun (μ40 : ZMem) => zlt (α := Int32) (if x5 = 2 then x17 else 0) (fun (x42 : Int32) => zlt (mset μ40 (0, 32, 0) 18 ((μ40 (0, 32, 0) 18) + x42)) (fun (μ43 : ZMem) => some μ43)))))) else k33))) else some μ18)))
set_option maxRecDepth 100000 in
set_option maxHeartbeats 4000000 in
theorem M_X12_lawLine {l : Launch} {D : va_G} {y : ZLay}   {μ : ZMem} {μ0 : ZMem} (h : f_X12_lawLine μ = some μ0) : MV l yX12_lawLine wb_X12_lawLine rm_X12_lawLine D y [.ref (zad y (0, 32, 0))] μ μ0 := by
  unfold f_X12_lawLine at h
  refine MV_of RX12 [(0, .ref (zad y (0, 32, 0)))] (by decide) rfl rfl (Nat.le_of_ble_eq_true rfl) rfl ?_
  intro p e s m args below meth c A X
  refine V_aload_n X 0 dX12_lawLine_0 rfl rfl ?_
  refine V_ldcS X (i := 6) (ix := 133) rfl dX12_lawLine_1 ?_
  obtain ⟨x2, μ3, c1, h⟩ := bd2_some h
  refine V_callVi X (As := [.ref (zak y 6)]) (M_X12_has (by decide) c1) (cwV 1 X.2.2.2.2.2.2.1 (gV wm_RX12_112 wi_X12_has wse_X12_has win_RX12 wc_X12_has) rfl rfl rfl hd_X12_has ⟨Nat.le_of_ble_eq_true rfl, Nat.le_of_ble_eq_true rfl⟩) (b := (0, 32, 0)) ⟨by decide, rfl⟩ rfl rfl rfl rfl (Nat.le_of_ble_eq_true rfl) dX12_lawLine_3 rfl ?_
  obtain ⟨x5, μ6, h1, h⟩ := bd2_some h
  have hk : V X μ6 40 [(0, .ref (zad y (0, 32, 0)))] [.int x5] := by
    clear h1
    refine V_istore_n X [(1, .int x5), (0, .ref (zad y (0, 32, 0)))] dX12_lawLine_40 rfl (by decide) rfl ?_
    refine V_iload_n X 0 dX12_lawLine_41 rfl rfl ?_
    refine V_iconst X (-1) dX12_lawLine_42 (by decide) ?_
    refine V_icmp_ne X (tgt := 55) dX12_lawLine_43 (by decide) (fun b15 => ?_) (fun b15 => ?_)
    · replace h := (if_neg b15).symm.trans h
      refine V_aload_n X 1 dX12_lawLine_55 rfl rfl ?_
      refine V_iconst X 0 dX12_lawLine_56 (by decide) ?_
      refine V_bipush X 99 dX12_lawLine_57 (by decide) ?_
      obtain ⟨x17, μ18, c16, h⟩ := bd2_some h
      refine V_callVi X (As := [.int 0, .int 99]) (M_X12_figures c16) (cwV 2 X.2.2.2.2.2.2.1 (gV wm_RX12_116 wi_X12_figures wse_X12_figures win_RX12 wc_X12_figures) rfl rfl rfl hd_X12_figures ⟨Nat.le_of_ble_eq_true rfl, Nat.le_of_ble_eq_true rfl⟩) (b := (0, 32, 0)) ⟨by decide, rfl⟩ rfl rfl rfl rfl (Nat.le_of_ble_eq_true rfl) dX12_lawLine_59 rfl ?_
      refine V_istore_n X [(2, .int x17), (1, .int x5), (0, .ref (zad y (0, 32, 0)))] dX12_lawLine_62 rfl (by decide) rfl ?_
      refine V_aload_n X 2 dX12_lawLine_63 rfl rfl ?_
      refine V_geti X (o := (0, 32, 0)) (ci := 12) (k := 12) (N := 30) (T := TX12) (C := RX12) ⟨by decide, rfl⟩ rfl rfl rfl (by decide) (mBa inB_X12) (mB wl_RX12_25) dX12_lawLine_64 ?_
      refine V_iconst X (-1) dX12_lawLine_67 (by decide) ?_
      refine V_icmp_eq X (tgt := 72) dX12_lawLine_68 (by decide) (fun b19 => ?_) (fun b19 => ?_)
      · replace h := (if_pos b19).symm.trans h
        refine V_aload_n X 2 dX12_lawLine_72 rfl rfl ?_
        refine V_ldcS X (i := 26) (ix := 238) rfl dX12_lawLine_73 ?_
        obtain ⟨x21, μ22, c20, h⟩ := bd2_some h
        refine V_callVi X (As := [.ref (zak y 26)]) (M_X12_has (by decide) c20) (cwV 1 X.2.2.2.2.2.2.1 (gV wm_RX12_112 wi_X12_has wse_X12_has win_RX12 wc_X12_has) rfl rfl rfl hd_X12_has ⟨Nat.le_of_ble_eq_true rfl, Nat.le_of_ble_eq_true rfl⟩) (b := (0, 32, 0)) ⟨by decide, rfl⟩ rfl rfl rfl rfl (Nat.le_of_ble_eq_true rfl) dX12_lawLine_75 rfl ?_
        obtain ⟨x24, μ25, h1, h⟩ := bd2_some h
        have hk : V X μ25 93 [(0, .ref (zad y (0, 32, 0))), (1, .int x5), (2, .int x17)] [.int x24] := by
          clear h1
          refine V_istore_n X [(3, .int x24), (0, .ref (zad y (0, 32, 0))), (1, .int x5), (2, .int x17)] dX12_lawLine_93 rfl (by decide) rfl ?_
          refine V_aload_n X 1 dX12_lawLine_94 rfl rfl ?_
          refine V_geti X (o := (0, 32, 0)) (ci := 12) (k := 12) (N := 30) (T := TX12) (C := RX12) ⟨by decide, rfl⟩ rfl rfl rfl (by decide) (mBa inB_X12) (mB wl_RX12_25) dX12_lawLine_95 ?_
          refine V_iconst X (-1) dX12_lawLine_98 (by decide) ?_
          refine jk0_el (P := V X μ25 106 [] []) h (fun h => ?_) (fun k33 hk33 h => ?_)
          · exact V_vretW X h dX12_lawLine_106
          · refine V_icmp_ne X (tgt := 106) dX12_lawLine_99 (by decide) (fun b32 => ?_) (fun b32 => ?_)
            · replace h := (if_neg b32).symm.trans h
              refine V_sub X [] (lv' := []) rfl ?_
              exact hk33 h
            · replace h := (if_pos b32).symm.trans h
              refine V_iload_n X 0 dX12_lawLine_102 rfl rfl ?_
              refine V_if_ne X (tgt := 107) dX12_lawLine_103 (by decide) (fun b34 => ?_) (fun b34 => ?_)
              · replace h := (if_neg b34).symm.trans h
                refine V_aload_n X 1 dX12_lawLine_107 rfl rfl ?_
                refine V_dup X dX12_lawLine_108 rfl ?_
                refine V_geti X (o := (0, 32, 0)) (ci := 12) (k := 16) (N := 30) (T := TX12) (C := RX12) ⟨by decide, rfl⟩ rfl rfl rfl (by decide) (mBa inB_X12) (mB wl_RX12_240) dX12_lawLine_109 ?_
                refine V_iload_n X 2 dX12_lawLine_112 rfl rfl ?_
                obtain ⟨x36, h1, h⟩ := zl1_some h
                have hk : V X μ25 121 [(0, .ref (zad y (0, 32, 0))), (1, .int x5), (2, .int x17)] [.int x36, .int (μ25 (0, 32, 0) 16), .ref (zad y (0, 32, 0))] := by
                  clear h1
                  refine V_iadd X dX12_lawLine_121 ?_
                  refine V_puti X tyX12 .int (o := (0, 32, 0)) (ci := 12) (k := 16) (N := 30) (T := TX12) (C := RX12) ⟨by decide, rfl⟩ rfl rfl rfl (by decide) (mBa inB_X12) tyX12_ok nmX12 (mB wl_RX12_240) rfl rfl rfl rfl dX12_lawLine_122 ?_
                  refine zlt_el (P := fun (μ37 : ZMem) => V X μ37 125 [(0, .ref (zad y (0, 32, 0))), (1, .int x5), (2, .int x17)] []) h (fun μ37 h => ?_)
                  refine V_aload_n X 0 dX12_lawLine_125 rfl rfl ?_
                  refine V_dup X dX12_lawLine_126 rfl ?_
                  refine V_geti X (o := (0, 32, 0)) (ci := 12) (k := 17) (N := 30) (T := TX12) (C := RX12) ⟨by decide, rfl⟩ rfl rfl rfl (by decide) (mBa inB_X12) (mB wl_RX12_242) dX12_lawLine_127 ?_
                  refine V_iload_n X 1 dX12_lawLine_130 rfl rfl ?_
                  refine V_iconst X 1 dX12_lawLine_131 (by decide) ?_
                  obtain ⟨x39, h1, h⟩ := zl1_some h
                  have hk : V X μ37 140 [(0, .ref (zad y (0, 32, 0))), (1, .int x5), (2, .int x17)] [.int x39, .int (μ37 (0, 32, 0) 17), .ref (zad y (0, 32, 0))] := by
                    clear h1
                    refine V_iadd X dX12_lawLine_140 ?_
                    refine V_puti X tyX12 .int (o := (0, 32, 0)) (ci := 12) (k := 17) (N := 30) (T := TX12) (C := RX12) ⟨by decide, rfl⟩ rfl rfl rfl (by decide) (mBa inB_X12) tyX12_ok nmX12 (mB wl_RX12_242) rfl rfl rfl rfl dX12_lawLine_141 ?_
                    refine zlt_el (P := fun (μ40 : ZMem) => V X μ40 144 [(0, .ref (zad y (0, 32, 0))), (1, .int x5), (2, .int x17)] []) h (fun μ40 h => ?_)
                    refine V_aload_n X 0 dX12_lawLine_144 rfl rfl ?_
                    refine V_dup X dX12_lawLine_145 rfl ?_
                    refine V_geti X (o := (0, 32, 0)) (ci := 12) (k := 18) (N := 30) (T := TX12) (C := RX12) ⟨by decide, rfl⟩ rfl rfl rfl (by decide) (mBa inB_X12) (mB wl_RX12_245) dX12_lawLine_146 ?_
                    refine V_iload_n X 1 dX12_lawLine_149 rfl rfl ?_
                    refine V_iconst X 2 dX12_lawLine_150 (by decide) ?_
                    obtain ⟨x42, h1, h⟩ := zl1_some h
                    have hk : V X μ40 159 [] [.int x42, .int (μ40 (0, 32, 0) 18), .ref (zad y (0, 32, 0))] := by
                      clear h1
                      refine V_iadd X dX12_lawLine_159 ?_
                      refine V_puti X tyX12 .int (o := (0, 32, 0)) (ci := 12) (k := 18) (N := 30) (T := TX12) (C := RX12) ⟨by decide, rfl⟩ rfl rfl rfl (by decide) (mBa inB_X12) tyX12_ok nmX12 (mB wl_RX12_245) rfl rfl rfl rfl dX12_lawLine_160 ?_
                      refine zlt_el (P := fun (μ43 : ZMem) => V X μ43 163 [] []) h (fun μ43 h => ?_)
                      exact V_vretW X h dX12_lawLine_163
                    replace h := h1
                    clear h1
                    refine V_icmp_ne X (tgt := 158) dX12_lawLine_151 (by decide) (fun b41 => ?_) (fun b41 => ?_)
                    · replace h := (if_neg b41).symm.trans h
                      refine V_iconst X 0 dX12_lawLine_158 (by decide) ?_
                      refine V_sub X [] (lv' := []) rfl ?_
                      obtain rfl := pr1 h
                      exact hk
                    · replace h := (if_pos b41).symm.trans h
                      refine V_iload_n X 2 dX12_lawLine_154 rfl rfl ?_
                      refine V_goto X (tgt := 159) dX12_lawLine_155 (by decide) ?_
                      refine V_sub X [] (lv' := []) rfl ?_
                      obtain rfl := pr1 h
                      exact hk
                  replace h := h1
                  clear h1
                  refine V_icmp_ne X (tgt := 139) dX12_lawLine_132 (by decide) (fun b38 => ?_) (fun b38 => ?_)
                  · replace h := (if_neg b38).symm.trans h
                    refine V_iconst X 0 dX12_lawLine_139 (by decide) ?_
                    obtain rfl := pr1 h
                    exact hk
                  · replace h := (if_pos b38).symm.trans h
                    refine V_iload_n X 2 dX12_lawLine_135 rfl rfl ?_
                    refine V_goto X (tgt := 140) dX12_lawLine_136 (by decide) ?_
                    obtain rfl := pr1 h
                    exact hk
                replace h := h1
                clear h1
                refine V_if_ne X (tgt := 120) dX12_lawLine_113 (by decide) (fun b35 => ?_) (fun b35 => ?_)
                · replace h := (if_neg b35).symm.trans h
                  refine V_iconst X 0 dX12_lawLine_120 (by decide) ?_
                  refine V_sub X [1, 2, 3] (lv' := [(0, .ref (zad y (0, 32, 0))), (1, .int x5), (2, .int x17)]) rfl ?_
                  obtain rfl := pr1 h
                  exact hk
                · replace h := (if_pos b35).symm.trans h
                  refine V_iload_n X 3 dX12_lawLine_116 rfl rfl ?_
                  refine V_goto X (tgt := 121) dX12_lawLine_117 (by decide) ?_
                  refine V_sub X [1, 2, 3] (lv' := [(0, .ref (zad y (0, 32, 0))), (1, .int x5), (2, .int x17)]) rfl ?_
                  obtain rfl := pr1 h
                  exact hk
              · replace h := (if_pos b34).symm.trans h
                refine V_sub X [] (lv' := []) rfl ?_
                exact hk33 h
        replace h := h1
        clear h1
        refine jk1_el (P := fun (μ26 : ZMem) => V X μ26 88 [(0, .ref (zad y (0, 32, 0))), (1, .int x5), (2, .int x17)] []) h (fun μ26 h => ?_) (fun k27 hk27 h => ?_)
        · refine V_iconst X 1 dX12_lawLine_88 (by decide) ?_
          refine V_goto X (tgt := 93) dX12_lawLine_89 (by decide) ?_
          obtain ⟨rfl, rfl⟩ := so2 h
          exact hk
        · refine V_if_eq X (tgt := 88) dX12_lawLine_78 (by decide) (fun b23 => ?_) (fun b23 => ?_)
          · replace h := (if_pos b23).symm.trans h
            refine V_sub X [2, 1, 0] (lv' := [(0, .ref (zad y (0, 32, 0))), (1, .int x5), (2, .int x17)]) rfl ?_
            exact hk27 _ h
          · replace h := (if_neg b23).symm.trans h
            refine V_aload_n X 2 dX12_lawLine_81 rfl rfl ?_
            obtain ⟨x29, μ30, c28, h⟩ := bd2_some h
            refine V_callVi X (As := []) (M_X12_some c28) (cwV 0 X.2.2.2.2.2.2.1 (gV wm_RX12_224 wi_X12_some wse_X12_some win_RX12 wc_X12_some) rfl rfl rfl hd_X12_some ⟨Nat.le_of_ble_eq_true rfl, Nat.le_of_ble_eq_true rfl⟩) (b := (0, 32, 0)) ⟨by decide, rfl⟩ rfl rfl rfl rfl (Nat.le_of_ble_eq_true rfl) dX12_lawLine_82 rfl ?_
            refine V_if_eq X (tgt := 92) dX12_lawLine_85 (by decide) (fun b31 => ?_) (fun b31 => ?_)
            · replace h := (if_pos b31).symm.trans h
              refine V_iconst X 0 dX12_lawLine_92 (by decide) ?_
              refine V_sub X [2, 1, 0] (lv' := [(0, .ref (zad y (0, 32, 0))), (1, .int x5), (2, .int x17)]) rfl ?_
              obtain ⟨rfl, rfl⟩ := so2 h
              exact hk
            · replace h := (if_neg b31).symm.trans h
              refine V_sub X [2, 1, 0] (lv' := [(0, .ref (zad y (0, 32, 0))), (1, .int x5), (2, .int x17)]) rfl ?_
              exact hk27 _ h
      · replace h := (if_neg b19).symm.trans h
        exact V_vretW X h dX12_lawLine_71
    · replace h := (if_pos b15).symm.trans h
      refine V_aload_n X 1 dX12_lawLine_46 rfl rfl ?_
      refine V_aload_n X 1 dX12_lawLine_47 rfl rfl ?_
      refine V_geti X (o := (0, 32, 0)) (ci := 12) (k := 11) (N := 30) (T := TX12) (C := RX12) ⟨by decide, rfl⟩ rfl rfl rfl (by decide) (mBa inB_X12) (mB wl_RX12_82) dX12_lawLine_48 ?_
      obtain ⟨μ45, c44, h⟩ := bd_some h
      refine V_callVv X (As := [.int (μ6 (0, 32, 0) 11)]) (M_X12_wrong c44) (cwV 1 X.2.2.2.2.2.2.1 (gV wm_RX12_108 wi_X12_wrong wse_X12_wrong win_RX12 wc_X12_wrong) rfl rfl rfl hd_X12_wrong ⟨Nat.le_of_ble_eq_true rfl, Nat.le_of_ble_eq_true rfl⟩) (b := (0, 32, 0)) ⟨by decide, rfl⟩ rfl rfl rfl rfl (Nat.le_of_ble_eq_true rfl) dX12_lawLine_51 rfl ?_
      exact V_vretW X h dX12_lawLine_54
  replace h := h1
  clear h1
  refine V_if_eq X (tgt := 13) dX12_lawLine_6 (by decide) (fun b4 => ?_) (fun b4 => ?_)
  · replace h := (if_pos b4).symm.trans h
    refine V_aload_n X 0 dX12_lawLine_13 rfl rfl ?_
    refine V_ldcS X (i := 24) (ix := 234) rfl dX12_lawLine_14 ?_
    obtain ⟨x8, μ9, c7, h⟩ := bd2_some h
    refine V_callVi X (As := [.ref (zak y 24)]) (M_X12_has (by decide) c7) (cwV 1 X.2.2.2.2.2.2.1 (gV wm_RX12_112 wi_X12_has wse_X12_has win_RX12 wc_X12_has) rfl rfl rfl hd_X12_has ⟨Nat.le_of_ble_eq_true rfl, Nat.le_of_ble_eq_true rfl⟩) (b := (0, 32, 0)) ⟨by decide, rfl⟩ rfl rfl rfl rfl (Nat.le_of_ble_eq_true rfl) dX12_lawLine_16 rfl ?_
    refine V_if_eq X (tgt := 26) dX12_lawLine_19 (by decide) (fun b10 => ?_) (fun b10 => ?_)
    · replace h := (if_pos b10).symm.trans h
      refine V_aload_n X 0 dX12_lawLine_26 rfl rfl ?_
      refine V_ldcS X (i := 25) (ix := 236) rfl dX12_lawLine_27 ?_
      obtain ⟨x12, μ13, c11, h⟩ := bd2_some h
      refine V_callVi X (As := [.ref (zak y 25)]) (M_X12_has (by decide) c11) (cwV 1 X.2.2.2.2.2.2.1 (gV wm_RX12_112 wi_X12_has wse_X12_has win_RX12 wc_X12_has) rfl rfl rfl hd_X12_has ⟨Nat.le_of_ble_eq_true rfl, Nat.le_of_ble_eq_true rfl⟩) (b := (0, 32, 0)) ⟨by decide, rfl⟩ rfl rfl rfl rfl (Nat.le_of_ble_eq_true rfl) dX12_lawLine_29 rfl ?_
      refine V_if_eq X (tgt := 39) dX12_lawLine_32 (by decide) (fun b14 => ?_) (fun b14 => ?_)
      · replace h := (if_pos b14).symm.trans h
        refine V_iconst X (-1) dX12_lawLine_39 (by decide) ?_
        obtain ⟨rfl, rfl⟩ := so2 h
        exact hk
      · replace h := (if_neg b14).symm.trans h
        refine V_iconst X 2 dX12_lawLine_35 (by decide) ?_
        refine V_goto X (tgt := 40) dX12_lawLine_36 (by decide) ?_
        obtain ⟨rfl, rfl⟩ := so2 h
        exact hk
    · replace h := (if_neg b10).symm.trans h
      refine V_iconst X 1 dX12_lawLine_22 (by decide) ?_
      refine V_goto X (tgt := 40) dX12_lawLine_23 (by decide) ?_
      obtain ⟨rfl, rfl⟩ := so2 h
      exact hk
  · replace h := (if_neg b4).symm.trans h
    refine V_iconst X 0 dX12_lawLine_9 (by decide) ?_
    refine V_goto X (tgt := 40) dX12_lawLine_10 (by decide) ?_
    obtain ⟨rfl, rfl⟩ := so2 h
    exact hk

def f_X12_reads (a1 : Int32) (μ : ZMem) : Option (Int32 × ZMem) := bd (f_X12_skip μ) (fun (μ2 : ZMem) => zlt (α := Int32) (if (μ2 (0, 32, 0) 10) ≤ (μ2 (0, 32, 0) 11) then 0 else 1) (fun (x4 : Int32) => bd2 (lp (σ := Int32 × Int32 × ZMem) (fun q => un3 q (fun (x5 : Int32) (x6 : Int32) (μ7 : ZMem) => if x5 = 0 then some (.inr (x6, μ7)) else if (μ7 (0, 32, 0) 12) = (-1) then bd (f_X12_skip μ7) (fun (μ13 : ZMem) => zlt (α := Int32) (if a1 = 0 then 14 else 12) (fun (x15 : Int32) => bd (α := ZMem) (if x6 = x15 then bd (f_X12_wrong (μ13 (0, 32, 0) 11) μ13) (fun (μ24 : ZMem) => some μ24) else if a1 = 0 then bd (f_X12_clusterLine μ13) (fun (μ20 : ZMem) => some μ20) else bd (f_X12_lawLine μ13) (fun (μ22 : ZMem) => some μ22)) (fun (μ17 : ZMem) => bd (f_X12_skip μ17) (fun (μ26 : ZMem) => jk (some (.inl (0, (x6 + 1), μ26))) (fun k28 => if (μ26 (0, 32, 0) 12) = (-1) then if (μ26 (0, 32, 0) 11) = (μ26 (0, 32, 0) 10) then k28 else bd2 (f_X12_isSign 59 μ26) (fun (x31 : Int32) (μ32 : ZMem) => if x31 = 0 then bd (f_X12_wrong (μ32 (0, 32, 0) 11) μ32) (fun (μ35 : ZMem) => some (.inl (x5, (x6 + 1), μ35))) else zlt (mset μ32 (0, 32, 0) 11 ((μ32 (0, 32, 0) 11) + 1)) (fun (μ36 : ZMem) => some (.inl (x5, (x6 + 1), μ36)))) else k28))))) else some (.inr (x6, μ7)))) FU (x4, 0, μ2)) (fun (x8 : Int32) (μ9 : ZMem) => some (x8, μ9))))
set_option maxRecDepth 100000 in
set_option maxHeartbeats 4000000 in
theorem M_X12_reads {l : Launch} {D : va_G} {y : ZLay} {a1 : Int32}  {μ : ZMem} {r : Int32} {μ0 : ZMem} (h : f_X12_reads a1 μ = some (r, μ0)) : MI l yX12_reads wb_X12_reads rm_X12_reads D y [.ref (zad y (0, 32, 0)), .int a1] μ r μ0 := by
  unfold f_X12_reads at h
  refine MI_of RX12 [(0, .ref (zad y (0, 32, 0))), (1, .int a1)] (by decide) rfl rfl (Nat.le_of_ble_eq_true rfl) rfl ?_
  intro p e s m args below meth c A X
  refine V_aload_n X 0 dX12_reads_0 rfl rfl ?_
  obtain ⟨μ2, c1, h⟩ := bd_some h
  refine V_callVv X (As := []) (M_X12_skip c1) (cwV 0 X.2.2.2.2.2.2.1 (gV wm_RX12_92 wi_X12_skip wse_X12_skip win_RX12 wc_X12_skip) rfl rfl rfl hd_X12_skip ⟨Nat.le_of_ble_eq_true rfl, Nat.le_of_ble_eq_true rfl⟩) (b := (0, 32, 0)) ⟨by decide, rfl⟩ rfl rfl rfl rfl (Nat.le_of_ble_eq_true rfl) dX12_reads_1 rfl ?_
  refine V_aload_n X 0 dX12_reads_4 rfl rfl ?_
  refine V_geti X (o := (0, 32, 0)) (ci := 12) (k := 11) (N := 30) (T := TX12) (C := RX12) ⟨by decide, rfl⟩ rfl rfl rfl (by decide) (mBa inB_X12) (mB wl_RX12_82) dX12_reads_5 ?_
  refine V_aload_n X 0 dX12_reads_8 rfl rfl ?_
  refine V_geti X (o := (0, 32, 0)) (ci := 12) (k := 10) (N := 30) (T := TX12) (C := RX12) ⟨by decide, rfl⟩ rfl rfl rfl (by decide) (mBa inB_X12) (mB wl_RX12_85) dX12_reads_9 ?_
  obtain ⟨x4, h1, h⟩ := zl1_some h
  have hk : V X μ2 20 [(0, .ref (zad y (0, 32, 0))), (1, .int a1)] [.int x4] := by
    clear h1
    refine V_istore_n X [(2, .int x4), (0, .ref (zad y (0, 32, 0))), (1, .int a1)] dX12_reads_20 rfl (by decide) rfl ?_
    refine V_iconst X 0 dX12_reads_21 (by decide) ?_
    refine V_istore_n X [(3, .int 0), (2, .int x4), (0, .ref (zad y (0, 32, 0))), (1, .int a1)] dX12_reads_22 rfl (by decide) rfl ?_
    refine V_sub X [2, 3, 1, 0] (lv' := [(0, .ref (zad y (0, 32, 0))), (1, .int a1), (2, .int x4), (3, .int 0)]) rfl ?_
    obtain ⟨x8, μ9, hl, h⟩ := bd2_some h
    have hk : V X μ9 144 [(3, .int x8)] [] := by
      clear hl
      refine V_iload_n X 0 dX12_reads_144 rfl rfl ?_
      exact V_iretW X h dX12_reads_145
    refine lp_ind (P := fun q => V X q.2.2 23 [(0, .ref (zad y (0, 32, 0))), (1, .int a1), (2, .int q.1), (3, .int q.2.1)] []) (fun q z h hz => ?_) hl
    obtain ⟨x5, x6, μ7⟩ := q
    replace h := un3_eq h
    show V X μ7 23 [(0, .ref (zad y (0, 32, 0))), (1, .int a1), (2, .int x5), (3, .int x6)] []
    refine V_iload_n X 2 dX12_reads_23 rfl rfl ?_
    refine V_if_eq X (tgt := 144) dX12_reads_24 (by decide) (fun b10 => ?_) (fun b10 => ?_)
    · replace h := (if_pos b10).symm.trans h
      refine V_sub X [3] (lv' := [(3, .int x6)]) rfl ?_
      cases h
      obtain ⟨rfl, rfl⟩ := pr2 hz
      exact hk
    · replace h := (if_neg b10).symm.trans h
      refine V_aload_n X 0 dX12_reads_27 rfl rfl ?_
      refine V_geti X (o := (0, 32, 0)) (ci := 12) (k := 12) (N := 30) (T := TX12) (C := RX12) ⟨by decide, rfl⟩ rfl rfl rfl (by decide) (mBa inB_X12) (mB wl_RX12_25) dX12_reads_28 ?_
      refine V_iconst X (-1) dX12_reads_31 (by decide) ?_
      refine V_icmp_ne X (tgt := 144) dX12_reads_32 (by decide) (fun b11 => ?_) (fun b11 => ?_)
      · replace h := (if_neg b11).symm.trans h
        refine V_sub X [3] (lv' := [(3, .int x6)]) rfl ?_
        cases h
        obtain ⟨rfl, rfl⟩ := pr2 hz
        exact hk
      · replace h := (if_pos b11).symm.trans h
        refine V_aload_n X 0 dX12_reads_35 rfl rfl ?_
        obtain ⟨μ13, c12, h⟩ := bd_some h
        refine V_callVv X (As := []) (M_X12_skip c12) (cwV 0 X.2.2.2.2.2.2.1 (gV wm_RX12_92 wi_X12_skip wse_X12_skip win_RX12 wc_X12_skip) rfl rfl rfl hd_X12_skip ⟨Nat.le_of_ble_eq_true rfl, Nat.le_of_ble_eq_true rfl⟩) (b := (0, 32, 0)) ⟨by decide, rfl⟩ rfl rfl rfl rfl (Nat.le_of_ble_eq_true rfl) dX12_reads_36 rfl ?_
        refine V_iload_n X 3 dX12_reads_39 rfl rfl ?_
        refine V_iload_n X 1 dX12_reads_40 rfl rfl ?_
        obtain ⟨x15, h1, h⟩ := zl1_some h
        have hk : V X μ13 51 [(0, .ref (zad y (0, 32, 0))), (1, .int a1), (2, .int x5), (3, .int x6)] [.int x15, .int x6] := by
          clear h1
          obtain ⟨μ17, h1, h⟩ := bd_some h
          have hk : V X μ17 80 [(0, .ref (zad y (0, 32, 0))), (1, .int a1), (2, .int x5), (3, .int x6)] [] := by
            clear h1
            refine V_inc X 3 1 [(3, .int (x6 + 1)), (0, .ref (zad y (0, 32, 0))), (1, .int a1), (2, .int x5)] dX12_reads_80 rfl (by decide) (by decide) rfl ?_
            refine V_aload_n X 1 dX12_reads_83 rfl rfl ?_
            obtain ⟨μ26, c25, h⟩ := bd_some h
            refine V_callVv X (As := []) (M_X12_skip c25) (cwV 0 X.2.2.2.2.2.2.1 (gV wm_RX12_92 wi_X12_skip wse_X12_skip win_RX12 wc_X12_skip) rfl rfl rfl hd_X12_skip ⟨Nat.le_of_ble_eq_true rfl, Nat.le_of_ble_eq_true rfl⟩) (b := (0, 32, 0)) ⟨by decide, rfl⟩ rfl rfl rfl rfl (Nat.le_of_ble_eq_true rfl) dX12_reads_84 rfl ?_
            refine V_aload_n X 1 dX12_reads_87 rfl rfl ?_
            refine V_geti X (o := (0, 32, 0)) (ci := 12) (k := 12) (N := 30) (T := TX12) (C := RX12) ⟨by decide, rfl⟩ rfl rfl rfl (by decide) (mBa inB_X12) (mB wl_RX12_25) dX12_reads_88 ?_
            refine V_iconst X (-1) dX12_reads_91 (by decide) ?_
            refine jk0_el (P := V X μ26 106 [(0, .ref (zad y (0, 32, 0))), (1, .int a1), (3, .int (x6 + 1))] []) h (fun h => ?_) (fun k28 hk28 h => ?_)
            · refine V_iconst X 0 dX12_reads_106 (by decide) ?_
              refine V_istore_n X [(2, .int 0), (0, .ref (zad y (0, 32, 0))), (1, .int a1), (3, .int (x6 + 1))] dX12_reads_107 rfl (by decide) rfl ?_
              refine V_goto X (tgt := 23) dX12_reads_108 (by decide) ?_
              refine V_sub X [1, 2, 0, 3] (lv' := [(0, .ref (zad y (0, 32, 0))), (1, .int a1), (2, .int 0), (3, .int (x6 + 1))]) rfl ?_
              cases h
              exact hz
            · refine V_icmp_ne X (tgt := 106) dX12_reads_92 (by decide) (fun b27 => ?_) (fun b27 => ?_)
              · replace h := (if_neg b27).symm.trans h
                refine V_sub X [1, 2, 0] (lv' := [(0, .ref (zad y (0, 32, 0))), (1, .int a1), (3, .int (x6 + 1))]) rfl ?_
                exact hk28 h
              · replace h := (if_pos b27).symm.trans h
                refine V_aload_n X 1 dX12_reads_95 rfl rfl ?_
                refine V_geti X (o := (0, 32, 0)) (ci := 12) (k := 11) (N := 30) (T := TX12) (C := RX12) ⟨by decide, rfl⟩ rfl rfl rfl (by decide) (mBa inB_X12) (mB wl_RX12_82) dX12_reads_96 ?_
                refine V_aload_n X 1 dX12_reads_99 rfl rfl ?_
                refine V_geti X (o := (0, 32, 0)) (ci := 12) (k := 10) (N := 30) (T := TX12) (C := RX12) ⟨by decide, rfl⟩ rfl rfl rfl (by decide) (mBa inB_X12) (mB wl_RX12_85) dX12_reads_100 ?_
                refine V_icmp_ne X (tgt := 111) dX12_reads_103 (by decide) (fun b29 => ?_) (fun b29 => ?_)
                · replace h := (if_neg b29).symm.trans h
                  refine V_aload_n X 1 dX12_reads_111 rfl rfl ?_
                  refine V_bipush X 59 dX12_reads_112 (by decide) ?_
                  obtain ⟨x31, μ32, c30, h⟩ := bd2_some h
                  refine V_callVi X (As := [.int 59]) (M_X12_isSign c30) (cwV 1 X.2.2.2.2.2.2.1 (gV wm_RX12_173 wi_X12_isSign wse_X12_isSign win_RX12 wc_X12_isSign) rfl rfl rfl hd_X12_isSign ⟨Nat.le_of_ble_eq_true rfl, Nat.le_of_ble_eq_true rfl⟩) (b := (0, 32, 0)) ⟨by decide, rfl⟩ rfl rfl rfl rfl (Nat.le_of_ble_eq_true rfl) dX12_reads_114 rfl ?_
                  refine V_if_eq X (tgt := 133) dX12_reads_117 (by decide) (fun b33 => ?_) (fun b33 => ?_)
                  · replace h := (if_pos b33).symm.trans h
                    refine V_aload_n X 1 dX12_reads_133 rfl rfl ?_
                    refine V_aload_n X 1 dX12_reads_134 rfl rfl ?_
                    refine V_geti X (o := (0, 32, 0)) (ci := 12) (k := 11) (N := 30) (T := TX12) (C := RX12) ⟨by decide, rfl⟩ rfl rfl rfl (by decide) (mBa inB_X12) (mB wl_RX12_82) dX12_reads_135 ?_
                    obtain ⟨μ35, c34, h⟩ := bd_some h
                    refine V_callVv X (As := [.int (μ32 (0, 32, 0) 11)]) (M_X12_wrong c34) (cwV 1 X.2.2.2.2.2.2.1 (gV wm_RX12_108 wi_X12_wrong wse_X12_wrong win_RX12 wc_X12_wrong) rfl rfl rfl hd_X12_wrong ⟨Nat.le_of_ble_eq_true rfl, Nat.le_of_ble_eq_true rfl⟩) (b := (0, 32, 0)) ⟨by decide, rfl⟩ rfl rfl rfl rfl (Nat.le_of_ble_eq_true rfl) dX12_reads_138 rfl ?_
                    refine V_goto X (tgt := 23) dX12_reads_141 (by decide) ?_
                    refine V_sub X [1, 2, 3, 0] (lv' := [(0, .ref (zad y (0, 32, 0))), (1, .int a1), (2, .int x5), (3, .int (x6 + 1))]) rfl ?_
                    cases h
                    exact hz
                  · replace h := (if_neg b33).symm.trans h
                    refine V_aload_n X 1 dX12_reads_120 rfl rfl ?_
                    refine V_dup X dX12_reads_121 rfl ?_
                    refine V_geti X (o := (0, 32, 0)) (ci := 12) (k := 11) (N := 30) (T := TX12) (C := RX12) ⟨by decide, rfl⟩ rfl rfl rfl (by decide) (mBa inB_X12) (mB wl_RX12_82) dX12_reads_122 ?_
                    refine V_iconst X 1 dX12_reads_125 (by decide) ?_
                    refine V_iadd X dX12_reads_126 ?_
                    refine V_puti X tyX12 .int (o := (0, 32, 0)) (ci := 12) (k := 11) (N := 30) (T := TX12) (C := RX12) ⟨by decide, rfl⟩ rfl rfl rfl (by decide) (mBa inB_X12) tyX12_ok nmX12 (mB wl_RX12_82) rfl rfl rfl rfl dX12_reads_127 ?_
                    refine zlt_el (P := fun (μ36 : ZMem) => V X μ36 130 [(3, .int (x6 + 1)), (0, .ref (zad y (0, 32, 0))), (1, .int a1), (2, .int x5)] []) h (fun μ36 h => ?_)
                    refine V_goto X (tgt := 23) dX12_reads_130 (by decide) ?_
                    refine V_sub X [1, 2, 3, 0] (lv' := [(0, .ref (zad y (0, 32, 0))), (1, .int a1), (2, .int x5), (3, .int (x6 + 1))]) rfl ?_
                    cases h
                    exact hz
                · replace h := (if_pos b29).symm.trans h
                  refine V_sub X [1, 2, 0] (lv' := [(0, .ref (zad y (0, 32, 0))), (1, .int a1), (3, .int (x6 + 1))]) rfl ?_
                  exact hk28 h
          replace h := h1
          clear h1
          refine V_icmp_ne X (tgt := 65) dX12_reads_51 (by decide) (fun b16 => ?_) (fun b16 => ?_)
          · replace h := (if_neg b16).symm.trans h
            refine V_iload_n X 1 dX12_reads_65 rfl rfl ?_
            refine V_if_eq X (tgt := 76) dX12_reads_66 (by decide) (fun b18 => ?_) (fun b18 => ?_)
            · replace h := (if_pos b18).symm.trans h
              refine V_aload_n X 0 dX12_reads_76 rfl rfl ?_
              obtain ⟨μ20, c19, h⟩ := bd_some h
              refine V_callVv X (As := []) (M_X12_clusterLine c19) (cwV 0 X.2.2.2.2.2.2.1 (gV wm_RX12_170 wi_X12_clusterLine wse_X12_clusterLine win_RX12 wc_X12_clusterLine) rfl rfl rfl hd_X12_clusterLine ⟨Nat.le_of_ble_eq_true rfl, Nat.le_of_ble_eq_true rfl⟩) (b := (0, 32, 0)) ⟨by decide, rfl⟩ rfl rfl rfl rfl (Nat.le_of_ble_eq_true rfl) dX12_reads_77 rfl ?_
              obtain rfl := so1 h
              exact hk
            · replace h := (if_neg b18).symm.trans h
              refine V_aload_n X 0 dX12_reads_69 rfl rfl ?_
              obtain ⟨μ22, c21, h⟩ := bd_some h
              refine V_callVv X (As := []) (M_X12_lawLine c21) (cwV 0 X.2.2.2.2.2.2.1 (gV wm_RX12_167 wi_X12_lawLine wse_X12_lawLine win_RX12 wc_X12_lawLine) rfl rfl rfl hd_X12_lawLine ⟨Nat.le_of_ble_eq_true rfl, Nat.le_of_ble_eq_true rfl⟩) (b := (0, 32, 0)) ⟨by decide, rfl⟩ rfl rfl rfl rfl (Nat.le_of_ble_eq_true rfl) dX12_reads_70 rfl ?_
              refine V_goto X (tgt := 80) dX12_reads_73 (by decide) ?_
              obtain rfl := so1 h
              exact hk
          · replace h := (if_pos b16).symm.trans h
            refine V_aload_n X 0 dX12_reads_54 rfl rfl ?_
            refine V_aload_n X 0 dX12_reads_55 rfl rfl ?_
            refine V_geti X (o := (0, 32, 0)) (ci := 12) (k := 11) (N := 30) (T := TX12) (C := RX12) ⟨by decide, rfl⟩ rfl rfl rfl (by decide) (mBa inB_X12) (mB wl_RX12_82) dX12_reads_56 ?_
            obtain ⟨μ24, c23, h⟩ := bd_some h
            refine V_callVv X (As := [.int (μ13 (0, 32, 0) 11)]) (M_X12_wrong c23) (cwV 1 X.2.2.2.2.2.2.1 (gV wm_RX12_108 wi_X12_wrong wse_X12_wrong win_RX12 wc_X12_wrong) rfl rfl rfl hd_X12_wrong ⟨Nat.le_of_ble_eq_true rfl, Nat.le_of_ble_eq_true rfl⟩) (b := (0, 32, 0)) ⟨by decide, rfl⟩ rfl rfl rfl rfl (Nat.le_of_ble_eq_true rfl) dX12_reads_59 rfl ?_
            refine V_goto X (tgt := 80) dX12_reads_62 (by decide) ?_
            obtain rfl := so1 h
            exact hk
        replace h := h1
        clear h1
        refine V_if_eq X (tgt := 49) dX12_reads_41 (by decide) (fun b14 => ?_) (fun b14 => ?_)
        · replace h := (if_pos b14).symm.trans h
          refine V_bipush X 14 dX12_reads_49 (by decide) ?_
          obtain rfl := pr1 h
          exact hk
        · replace h := (if_neg b14).symm.trans h
          refine V_bipush X 12 dX12_reads_44 (by decide) ?_
          refine V_goto X (tgt := 51) dX12_reads_46 (by decide) ?_
          obtain rfl := pr1 h
          exact hk
  replace h := h1
  clear h1
  refine V_icmp_ge X (tgt := 19) dX12_reads_12 (by decide) (fun b3 => ?_) (fun b3 => ?_)
  · replace h := (if_pos b3).symm.trans h
    refine V_iconst X 0 dX12_reads_19 (by decide) ?_
    obtain rfl := pr1 h
    exact hk
  · replace h := (if_neg b3).symm.trans h
    refine V_iconst X 1 dX12_reads_15 (by decide) ?_
    refine V_goto X (tgt := 20) dX12_reads_16 (by decide) ?_
    obtain rfl := pr1 h
    exact hk

def f_X12_putsAside (μ : ZMem) : Option (ZMem) := bd (lp (σ := Int32 × ZMem) (fun q => un2 q (fun (x1 : Int32) (μ2 : ZMem) => if 337 ≤ x1 then some (.inr μ2) else gd (zin x1 737) (gd (zin x1 337) (zlt (mset μ2 (0, 35, 0) x1.toNatClampNeg (μ2 (0, 33, 0) x1.toNatClampNeg)) (fun (μ7 : ZMem) => some (.inl ((x1 + 1), μ7))))))) FU (0, μ)) (fun (μ3 : ZMem) => some μ3)
set_option maxRecDepth 100000 in
set_option maxHeartbeats 4000000 in
theorem M_X12_putsAside {l : Launch} {D : va_G} {y : ZLay}   {μ : ZMem} {μ0 : ZMem} (h : f_X12_putsAside μ = some μ0) : MV l yX12_putsAside wb_X12_putsAside rm_X12_putsAside D y [.ref (zad y (0, 32, 0))] μ μ0 := by
  unfold f_X12_putsAside at h
  refine MV_of RX12 [(0, .ref (zad y (0, 32, 0)))] (by decide) rfl rfl (Nat.le_of_ble_eq_true rfl) rfl ?_
  intro p e s m args below meth c A X
  refine V_iconst X 0 dX12_putsAside_0 (by decide) ?_
  refine V_istore_n X [(1, .int 0), (0, .ref (zad y (0, 32, 0)))] dX12_putsAside_1 rfl (by decide) rfl ?_
  refine V_sub X [1, 0] (lv' := [(0, .ref (zad y (0, 32, 0))), (1, .int 0)]) rfl ?_
  obtain ⟨μ3, hl, h⟩ := bd_some h
  have hk : V X μ3 27 [] [] := by
    clear hl
    exact V_vretW X h dX12_putsAside_27
  refine lp_ind (P := fun q => V X q.2 2 [(0, .ref (zad y (0, 32, 0))), (1, .int q.1)] []) (fun q z h hz => ?_) hl
  obtain ⟨x1, μ2⟩ := q
  replace h := un2_eq h
  show V X μ2 2 [(0, .ref (zad y (0, 32, 0))), (1, .int x1)] []
  refine V_iload_n X 1 dX12_putsAside_2 rfl rfl ?_
  refine V_sipush X 337 dX12_putsAside_3 (by decide) ?_
  refine V_icmp_ge X (tgt := 27) dX12_putsAside_6 (by decide) (fun b4 => ?_) (fun b4 => ?_)
  · replace h := (if_pos b4).symm.trans h
    refine V_sub X [] (lv' := []) rfl ?_
    cases h
    obtain rfl := pr1 hz
    exact hk
  · replace h := (if_neg b4).symm.trans h
    refine V_aload_n X 0 dX12_putsAside_9 rfl rfl ?_
    refine V_getr X (o := (0, 32, 0)) (i := (0, 35, 0)) (ci := 12) (k := 4) (N := 30) (T := TX12) (C := RX12) ⟨by decide, rfl⟩ rfl rfl rfl (by decide) (mBa inB_X12) (mB wl_RX12_16) dX12_putsAside_10 ?_
    refine V_iload_n X 1 dX12_putsAside_13 rfl rfl ?_
    refine V_aload_n X 0 dX12_putsAside_14 rfl rfl ?_
    refine V_getr X (o := (0, 32, 0)) (i := (0, 33, 0)) (ci := 12) (k := 1) (N := 30) (T := TX12) (C := RX12) ⟨by decide, rfl⟩ rfl rfl rfl (by decide) (mBa inB_X12) (mB wl_RX12_7) dX12_putsAside_15 ?_
    refine V_iload_n X 1 dX12_putsAside_18 rfl rfl ?_
    obtain ⟨g5, h⟩ := gd_some h
    refine V_iald X x1.toNatClampNeg rfl (o := (0, 33, 0)) (n := 737) ⟨by decide, rfl⟩ rfl rfl g5 dX12_putsAside_19 ?_
    obtain ⟨g6, h⟩ := gd_some h
    refine V_iast X x1.toNatClampNeg rfl (o := (0, 35, 0)) (n := 337) ⟨by decide, rfl⟩ rfl rfl g6 dX12_putsAside_20 ?_
    refine zlt_el (P := fun (μ7 : ZMem) => V X μ7 21 [(0, .ref (zad y (0, 32, 0))), (1, .int x1)] []) h (fun μ7 h => ?_)
    refine V_inc X 1 1 [(1, .int (x1 + 1)), (0, .ref (zad y (0, 32, 0)))] dX12_putsAside_21 rfl (by decide) (by decide) rfl ?_
    refine V_goto X (tgt := 2) dX12_putsAside_24 (by decide) ?_
    refine V_sub X [1, 0] (lv' := [(0, .ref (zad y (0, 32, 0))), (1, .int (x1 + 1))]) rfl ?_
    cases h
    exact hz

def f_X12_comesBack (μ : ZMem) : Option (ZMem) := bd (lp (σ := Int32 × ZMem) (fun q => un2 q (fun (x1 : Int32) (μ2 : ZMem) => if 337 ≤ x1 then some (.inr μ2) else gd (zin x1 337) (gd (zin x1 737) (zlt (mset μ2 (0, 33, 0) x1.toNatClampNeg (μ2 (0, 35, 0) x1.toNatClampNeg)) (fun (μ7 : ZMem) => some (.inl ((x1 + 1), μ7))))))) FU (0, μ)) (fun (μ3 : ZMem) => some μ3)
set_option maxRecDepth 100000 in
set_option maxHeartbeats 4000000 in
theorem M_X12_comesBack {l : Launch} {D : va_G} {y : ZLay}   {μ : ZMem} {μ0 : ZMem} (h : f_X12_comesBack μ = some μ0) : MV l yX12_comesBack wb_X12_comesBack rm_X12_comesBack D y [.ref (zad y (0, 32, 0))] μ μ0 := by
  unfold f_X12_comesBack at h
  refine MV_of RX12 [(0, .ref (zad y (0, 32, 0)))] (by decide) rfl rfl (Nat.le_of_ble_eq_true rfl) rfl ?_
  intro p e s m args below meth c A X
  refine V_iconst X 0 dX12_comesBack_0 (by decide) ?_
  refine V_istore_n X [(1, .int 0), (0, .ref (zad y (0, 32, 0)))] dX12_comesBack_1 rfl (by decide) rfl ?_
  refine V_sub X [1, 0] (lv' := [(0, .ref (zad y (0, 32, 0))), (1, .int 0)]) rfl ?_
  obtain ⟨μ3, hl, h⟩ := bd_some h
  have hk : V X μ3 27 [] [] := by
    clear hl
    exact V_vretW X h dX12_comesBack_27
  refine lp_ind (P := fun q => V X q.2 2 [(0, .ref (zad y (0, 32, 0))), (1, .int q.1)] []) (fun q z h hz => ?_) hl
  obtain ⟨x1, μ2⟩ := q
  replace h := un2_eq h
  show V X μ2 2 [(0, .ref (zad y (0, 32, 0))), (1, .int x1)] []
  refine V_iload_n X 1 dX12_comesBack_2 rfl rfl ?_
  refine V_sipush X 337 dX12_comesBack_3 (by decide) ?_
  refine V_icmp_ge X (tgt := 27) dX12_comesBack_6 (by decide) (fun b4 => ?_) (fun b4 => ?_)
  · replace h := (if_pos b4).symm.trans h
    refine V_sub X [] (lv' := []) rfl ?_
    cases h
    obtain rfl := pr1 hz
    exact hk
  · replace h := (if_neg b4).symm.trans h
    refine V_aload_n X 0 dX12_comesBack_9 rfl rfl ?_
    refine V_getr X (o := (0, 32, 0)) (i := (0, 33, 0)) (ci := 12) (k := 1) (N := 30) (T := TX12) (C := RX12) ⟨by decide, rfl⟩ rfl rfl rfl (by decide) (mBa inB_X12) (mB wl_RX12_7) dX12_comesBack_10 ?_
    refine V_iload_n X 1 dX12_comesBack_13 rfl rfl ?_
    refine V_aload_n X 0 dX12_comesBack_14 rfl rfl ?_
    refine V_getr X (o := (0, 32, 0)) (i := (0, 35, 0)) (ci := 12) (k := 4) (N := 30) (T := TX12) (C := RX12) ⟨by decide, rfl⟩ rfl rfl rfl (by decide) (mBa inB_X12) (mB wl_RX12_16) dX12_comesBack_15 ?_
    refine V_iload_n X 1 dX12_comesBack_18 rfl rfl ?_
    obtain ⟨g5, h⟩ := gd_some h
    refine V_iald X x1.toNatClampNeg rfl (o := (0, 35, 0)) (n := 337) ⟨by decide, rfl⟩ rfl rfl g5 dX12_comesBack_19 ?_
    obtain ⟨g6, h⟩ := gd_some h
    refine V_iast X x1.toNatClampNeg rfl (o := (0, 33, 0)) (n := 737) ⟨by decide, rfl⟩ rfl rfl g6 dX12_comesBack_20 ?_
    refine zlt_el (P := fun (μ7 : ZMem) => V X μ7 21 [(0, .ref (zad y (0, 32, 0))), (1, .int x1)] []) h (fun μ7 h => ?_)
    refine V_inc X 1 1 [(1, .int (x1 + 1)), (0, .ref (zad y (0, 32, 0)))] dX12_comesBack_21 rfl (by decide) (by decide) rfl ?_
    refine V_goto X (tgt := 2) dX12_comesBack_24 (by decide) ?_
    refine V_sub X [1, 0] (lv' := [(0, .ref (zad y (0, 32, 0))), (1, .int (x1 + 1))]) rfl ?_
    cases h
    exact hz

def f_X12_cluster (μ : ZMem) : Option (Int32 × ZMem) := bd (f_X12_putsAside μ) (fun (μ2 : ZMem) => bd (f_X12_begins μ2) (fun (μ4 : ZMem) => bd2 (f_X12_reads 0 μ4) (fun (x6 : Int32) (μ7 : ZMem) => zlt (α := Int32) (if (μ7 (0, 32, 0) 12) = (-1) then if (μ7 (0, 33, 0) 0) = 12 then 2 else 0 else 1) (fun (x9 : Int32) => zlt (mset μ7 (0, 32, 0) 0 x9) (fun (μ11 : ZMem) => if (μ11 (0, 32, 0) 0) ≤ 0 then zlt (mset μ11 (0, 33, 0) 0 ((μ11 (0, 33, 0) 0) + 1)) (fun (μ13 : ZMem) => zlt (mset μ13 (0, 32, 0) 6 0) (fun (μ14 : ZMem) => some ((μ14 (0, 33, 0) 0), μ14))) else bd (f_X12_comesBack μ11) (fun (μ16 : ZMem) => some (0, μ16)))))))
set_option maxRecDepth 100000 in
set_option maxHeartbeats 4000000 in
theorem M_X12_cluster {l : Launch} {D : va_G} {y : ZLay}   {μ : ZMem} {r : Int32} {μ0 : ZMem} (h : f_X12_cluster μ = some (r, μ0)) : MI l yX12_cluster wb_X12_cluster rm_X12_cluster D y [.ref (zad y (0, 32, 0))] μ r μ0 := by
  unfold f_X12_cluster at h
  refine MI_of RX12 [(0, .ref (zad y (0, 32, 0)))] (by decide) rfl rfl (Nat.le_of_ble_eq_true rfl) rfl ?_
  intro p e s m args below meth c A X
  refine V_aload_n X 0 dX12_cluster_0 rfl rfl ?_
  obtain ⟨μ2, c1, h⟩ := bd_some h
  refine V_callVv X (As := []) (M_X12_putsAside c1) (cwV 0 X.2.2.2.2.2.2.1 (gV wm_RX12_177 wi_X12_putsAside wse_X12_putsAside win_RX12 wc_X12_putsAside) rfl rfl rfl hd_X12_putsAside ⟨Nat.le_of_ble_eq_true rfl, Nat.le_of_ble_eq_true rfl⟩) (b := (0, 32, 0)) ⟨by decide, rfl⟩ rfl rfl rfl rfl (Nat.le_of_ble_eq_true rfl) dX12_cluster_1 rfl ?_
  refine V_aload_n X 0 dX12_cluster_4 rfl rfl ?_
  obtain ⟨μ4, c3, h⟩ := bd_some h
  refine V_callVv X (As := []) (M_X12_begins c3) (cwV 0 X.2.2.2.2.2.2.1 (gV wm_RX12_180 wi_X12_begins wse_X12_begins win_RX12 wc_X12_begins) rfl rfl rfl hd_X12_begins ⟨Nat.le_of_ble_eq_true rfl, Nat.le_of_ble_eq_true rfl⟩) (b := (0, 32, 0)) ⟨by decide, rfl⟩ rfl rfl rfl rfl (Nat.le_of_ble_eq_true rfl) dX12_cluster_5 rfl ?_
  refine V_aload_n X 0 dX12_cluster_8 rfl rfl ?_
  refine V_iconst X 0 dX12_cluster_9 (by decide) ?_
  obtain ⟨x6, μ7, c5, h⟩ := bd2_some h
  refine V_callVi X (As := [.int 0]) (M_X12_reads c5) (cwV 1 X.2.2.2.2.2.2.1 (gV wm_RX12_183 wi_X12_reads wse_X12_reads win_RX12 wc_X12_reads) rfl rfl rfl hd_X12_reads ⟨Nat.le_of_ble_eq_true rfl, Nat.le_of_ble_eq_true rfl⟩) (b := (0, 32, 0)) ⟨by decide, rfl⟩ rfl rfl rfl rfl (Nat.le_of_ble_eq_true rfl) dX12_cluster_10 rfl ?_
  refine V_istore_n X [(1, .int x6), (0, .ref (zad y (0, 32, 0)))] dX12_cluster_13 rfl (by decide) rfl ?_
  refine V_aload_n X 1 dX12_cluster_14 rfl rfl ?_
  refine V_aload_n X 1 dX12_cluster_15 rfl rfl ?_
  refine V_geti X (o := (0, 32, 0)) (ci := 12) (k := 12) (N := 30) (T := TX12) (C := RX12) ⟨by decide, rfl⟩ rfl rfl rfl (by decide) (mBa inB_X12) (mB wl_RX12_25) dX12_cluster_16 ?_
  refine V_iconst X (-1) dX12_cluster_19 (by decide) ?_
  obtain ⟨x9, h1, h⟩ := zl1_some h
  have hk : V X μ7 43 [(0, .ref (zad y (0, 32, 0)))] [.int x9, .ref (zad y (0, 32, 0))] := by
    clear h1
    refine V_puti X tyX12 .int (o := (0, 32, 0)) (ci := 12) (k := 0) (N := 30) (T := TX12) (C := RX12) ⟨by decide, rfl⟩ rfl rfl rfl (by decide) (mBa inB_X12) tyX12_ok nmX12 (mB wl_RX12_59) rfl rfl rfl rfl dX12_cluster_43 ?_
    refine zlt_el (P := fun (μ11 : ZMem) => V X μ11 46 [(0, .ref (zad y (0, 32, 0)))] []) h (fun μ11 h => ?_)
    refine V_aload_n X 0 dX12_cluster_46 rfl rfl ?_
    refine V_geti X (o := (0, 32, 0)) (ci := 12) (k := 0) (N := 30) (T := TX12) (C := RX12) ⟨by decide, rfl⟩ rfl rfl rfl (by decide) (mBa inB_X12) (mB wl_RX12_59) dX12_cluster_47 ?_
    refine V_if_le X (tgt := 59) dX12_cluster_50 (by decide) (fun b12 => ?_) (fun b12 => ?_)
    · replace h := (if_pos b12).symm.trans h
      refine V_aload_n X 0 dX12_cluster_59 rfl rfl ?_
      refine V_getr X (o := (0, 32, 0)) (i := (0, 33, 0)) (ci := 12) (k := 1) (N := 30) (T := TX12) (C := RX12) ⟨by decide, rfl⟩ rfl rfl rfl (by decide) (mBa inB_X12) (mB wl_RX12_7) dX12_cluster_60 ?_
      refine V_iconst X 0 dX12_cluster_63 (by decide) ?_
      refine V_dup2 X dX12_cluster_64 rfl rfl ?_
      refine V_iald X 0 (by decide) (o := (0, 33, 0)) (n := 737) ⟨by decide, rfl⟩ rfl rfl (by decide) dX12_cluster_65 ?_
      refine V_iconst X 1 dX12_cluster_66 (by decide) ?_
      refine V_iadd X dX12_cluster_67 ?_
      refine V_iast X 0 (by decide) (o := (0, 33, 0)) (n := 737) ⟨by decide, rfl⟩ rfl rfl (by decide) dX12_cluster_68 ?_
      refine zlt_el (P := fun (μ13 : ZMem) => V X μ13 69 [(0, .ref (zad y (0, 32, 0)))] []) h (fun μ13 h => ?_)
      refine V_aload_n X 0 dX12_cluster_69 rfl rfl ?_
      refine V_iconst X 0 dX12_cluster_70 (by decide) ?_
      refine V_puti X tyX12 .int (o := (0, 32, 0)) (ci := 12) (k := 6) (N := 30) (T := TX12) (C := RX12) ⟨by decide, rfl⟩ rfl rfl rfl (by decide) (mBa inB_X12) tyX12_ok nmX12 (mB wl_RX12_190) rfl rfl rfl rfl dX12_cluster_71 ?_
      refine zlt_el (P := fun (μ14 : ZMem) => V X μ14 74 [(0, .ref (zad y (0, 32, 0)))] []) h (fun μ14 h => ?_)
      refine V_aload_n X 0 dX12_cluster_74 rfl rfl ?_
      refine V_getr X (o := (0, 32, 0)) (i := (0, 33, 0)) (ci := 12) (k := 1) (N := 30) (T := TX12) (C := RX12) ⟨by decide, rfl⟩ rfl rfl rfl (by decide) (mBa inB_X12) (mB wl_RX12_7) dX12_cluster_75 ?_
      refine V_iconst X 0 dX12_cluster_78 (by decide) ?_
      refine V_iald X 0 (by decide) (o := (0, 33, 0)) (n := 737) ⟨by decide, rfl⟩ rfl rfl (by decide) dX12_cluster_79 ?_
      exact V_iretW X h dX12_cluster_80
    · replace h := (if_neg b12).symm.trans h
      refine V_aload_n X 0 dX12_cluster_53 rfl rfl ?_
      obtain ⟨μ16, c15, h⟩ := bd_some h
      refine V_callVv X (As := []) (M_X12_comesBack c15) (cwV 0 X.2.2.2.2.2.2.1 (gV wm_RX12_187 wi_X12_comesBack wse_X12_comesBack win_RX12 wc_X12_comesBack) rfl rfl rfl hd_X12_comesBack ⟨Nat.le_of_ble_eq_true rfl, Nat.le_of_ble_eq_true rfl⟩) (b := (0, 32, 0)) ⟨by decide, rfl⟩ rfl rfl rfl rfl (Nat.le_of_ble_eq_true rfl) dX12_cluster_54 rfl ?_
      refine V_iconst X 0 dX12_cluster_57 (by decide) ?_
      exact V_iretW X h dX12_cluster_58
  replace h := h1
  clear h1
  refine V_icmp_eq X (tgt := 27) dX12_cluster_20 (by decide) (fun b8 => ?_) (fun b8 => ?_)
  · replace h := (if_pos b8).symm.trans h
    refine V_aload_n X 1 dX12_cluster_27 rfl rfl ?_
    refine V_getr X (o := (0, 32, 0)) (i := (0, 33, 0)) (ci := 12) (k := 1) (N := 30) (T := TX12) (C := RX12) ⟨by decide, rfl⟩ rfl rfl rfl (by decide) (mBa inB_X12) (mB wl_RX12_7) dX12_cluster_28 ?_
    refine V_iconst X 0 dX12_cluster_31 (by decide) ?_
    refine V_iald X 0 (by decide) (o := (0, 33, 0)) (n := 737) ⟨by decide, rfl⟩ rfl rfl (by decide) dX12_cluster_32 ?_
    refine V_bipush X 12 dX12_cluster_33 (by decide) ?_
    refine V_icmp_ne X (tgt := 42) dX12_cluster_35 (by decide) (fun b10 => ?_) (fun b10 => ?_)
    · replace h := (if_neg b10).symm.trans h
      refine V_iconst X 0 dX12_cluster_42 (by decide) ?_
      refine V_sub X [1] (lv' := [(0, .ref (zad y (0, 32, 0)))]) rfl ?_
      obtain rfl := pr1 h
      exact hk
    · replace h := (if_pos b10).symm.trans h
      refine V_iconst X 2 dX12_cluster_38 (by decide) ?_
      refine V_goto X (tgt := 43) dX12_cluster_39 (by decide) ?_
      refine V_sub X [1] (lv' := [(0, .ref (zad y (0, 32, 0)))]) rfl ?_
      obtain rfl := pr1 h
      exact hk
  · replace h := (if_neg b8).symm.trans h
    refine V_iconst X 1 dX12_cluster_23 (by decide) ?_
    refine V_goto X (tgt := 43) dX12_cluster_24 (by decide) ?_
    refine V_sub X [1] (lv' := [(0, .ref (zad y (0, 32, 0)))]) rfl ?_
    obtain rfl := pr1 h
    exact hk

