def f_X12_node (a1 : Int32) (a2 : Int32) (μ : ZMem) : Option (Int32 × ZMem) := bd (f_X12_isNode a1 μ) (fun (x2 : Int32) => bd (α := Int32) (if x2 = 0 then some 1 else bd (f_X12_isIn a2 0 17) (fun (x6 : Int32) => if x6 = 0 then some 2 else some 0)) (fun (x4 : Int32) => zlt (mset μ (0, 32, 0) 0 x4) (fun (μ8 : ZMem) => if (μ8 (0, 32, 0) 0) ≤ 0 then if 11 ≤ a2 then if a2 = 14 then bd2 (f_X12_isPassing a1 μ8) (fun (x29 : Int32) (μ30 : ZMem) => zlt (α := Int32) (if x29 = 0 then 0 else 1) (fun (x32 : Int32) => some (x32, μ30))) else if a2 = 15 then bd2 (f_X12_cliqueOf a1 μ8) (fun (x26 : Int32) (μ27 : ZMem) => some (x26, μ27)) else if a2 = 16 then bd2 (f_X12_middleNow a1 μ8) (fun (x23 : Int32) (μ24 : ZMem) => some (x23, μ24)) else if a2 = 17 then bd (f_X12_knownOf a1 μ8) (fun (x21 : Int32) => some (x21, μ8)) else bd (f_X12_asks a1 μ8) (fun (μ16 : ZMem) => zlt (α := Int32) (if a2 = 11 then (μ16 (0, 32, 0) 16) else if a2 = 12 then (μ16 (0, 32, 0) 17) else (μ16 (0, 32, 0) 18)) (fun (x18 : Int32) => some (x18, μ16))) else bd (f_X12_of a1 a2 μ8) (fun (x34 : Int32) => some (x34, μ8)) else some (0, μ8))))
set_option maxRecDepth 100000 in
set_option maxHeartbeats 4000000 in
theorem M_X12_node {l : Launch} {D : va_G} {y : ZLay} {a1 : Int32} {a2 : Int32}  {μ : ZMem} {r : Int32} {μ0 : ZMem} (h : f_X12_node a1 a2 μ = some (r, μ0)) : MI l yX12_node wb_X12_node rm_X12_node D y [.ref (zad y (0, 32, 0)), .int a1, .int a2] μ r μ0 := by
  unfold f_X12_node at h
  refine MI_of RX12 [(0, .ref (zad y (0, 32, 0))), (1, .int a1), (2, .int a2)] (by decide) rfl rfl (Nat.le_of_ble_eq_true rfl) rfl ?_
  intro p e s m args below meth c A X
  refine V_aload_n X 0 dX12_node_0 rfl rfl ?_
  refine V_aload_n X 0 dX12_node_1 rfl rfl ?_
  refine V_iload_n X 1 dX12_node_2 rfl rfl ?_
  obtain ⟨x2, c1, h⟩ := bd_some h
  refine V_callVi X (As := [.int a1]) (M_X12_isNode c1) (cwV 1 X.2.2.2.2.2.2.1 (gV wm_RX12_347 wi_X12_isNode wse_X12_isNode win_RX12 wc_X12_isNode) rfl rfl rfl hd_X12_isNode ⟨Nat.le_of_ble_eq_true rfl, Nat.le_of_ble_eq_true rfl⟩) (b := (0, 32, 0)) ⟨by decide, rfl⟩ rfl rfl rfl rfl (Nat.le_of_ble_eq_true rfl) dX12_node_3 rfl ?_
  obtain ⟨x4, h1, h⟩ := bd_some h
  have hk : V X μ 28 [(0, .ref (zad y (0, 32, 0))), (1, .int a1), (2, .int a2)] [.int x4, .ref (zad y (0, 32, 0))] := by
    clear h1
    refine V_puti X tyX12 .int (o := (0, 32, 0)) (ci := 12) (k := 0) (N := 30) (T := TX12) (C := RX12) ⟨by decide, rfl⟩ rfl rfl rfl (by decide) (mBa inB_X12) tyX12_ok nmX12 (mB wl_RX12_59) rfl rfl rfl rfl dX12_node_28 ?_
    refine zlt_el (P := fun (μ8 : ZMem) => V X μ8 31 [(0, .ref (zad y (0, 32, 0))), (1, .int a1), (2, .int a2)] []) h (fun μ8 h => ?_)
    refine V_aload_n X 0 dX12_node_31 rfl rfl ?_
    refine V_geti X (o := (0, 32, 0)) (ci := 12) (k := 0) (N := 30) (T := TX12) (C := RX12) ⟨by decide, rfl⟩ rfl rfl rfl (by decide) (mBa inB_X12) (mB wl_RX12_59) dX12_node_32 ?_
    refine V_if_le X (tgt := 40) dX12_node_35 (by decide) (fun b9 => ?_) (fun b9 => ?_)
    · replace h := (if_pos b9).symm.trans h
      refine V_iload_n X 2 dX12_node_40 rfl rfl ?_
      refine V_bipush X 11 dX12_node_41 (by decide) ?_
      refine V_icmp_ge X (tgt := 53) dX12_node_43 (by decide) (fun b10 => ?_) (fun b10 => ?_)
      · replace h := (if_pos b10).symm.trans h
        refine V_iload_n X 2 dX12_node_53 rfl rfl ?_
        refine V_bipush X 14 dX12_node_54 (by decide) ?_
        refine V_icmp_ne X (tgt := 73) dX12_node_56 (by decide) (fun b11 => ?_) (fun b11 => ?_)
        · replace h := (if_neg b11).symm.trans h
          refine V_iload_n X 2 dX12_node_73 rfl rfl ?_
          refine V_bipush X 15 dX12_node_74 (by decide) ?_
          refine V_icmp_ne X (tgt := 85) dX12_node_76 (by decide) (fun b12 => ?_) (fun b12 => ?_)
          · replace h := (if_neg b12).symm.trans h
            refine V_iload_n X 2 dX12_node_85 rfl rfl ?_
            refine V_bipush X 16 dX12_node_86 (by decide) ?_
            refine V_icmp_ne X (tgt := 97) dX12_node_88 (by decide) (fun b13 => ?_) (fun b13 => ?_)
            · replace h := (if_neg b13).symm.trans h
              refine V_iload_n X 2 dX12_node_97 rfl rfl ?_
              refine V_bipush X 17 dX12_node_98 (by decide) ?_
              refine V_icmp_ne X (tgt := 109) dX12_node_100 (by decide) (fun b14 => ?_) (fun b14 => ?_)
              · replace h := (if_neg b14).symm.trans h
                refine V_aload_n X 0 dX12_node_109 rfl rfl ?_
                refine V_iload_n X 1 dX12_node_110 rfl rfl ?_
                obtain ⟨μ16, c15, h⟩ := bd_some h
                refine V_callVv X (As := [.int a1]) (M_X12_asks c15) (cwV 1 X.2.2.2.2.2.2.1 (gV wm_RX12_253 wi_X12_asks wse_X12_asks win_RX12 wc_X12_asks) rfl rfl rfl hd_X12_asks ⟨Nat.le_of_ble_eq_true rfl, Nat.le_of_ble_eq_true rfl⟩) (b := (0, 32, 0)) ⟨by decide, rfl⟩ rfl rfl rfl rfl (Nat.le_of_ble_eq_true rfl) dX12_node_111 rfl ?_
                refine V_iload_n X 2 dX12_node_114 rfl rfl ?_
                refine V_bipush X 11 dX12_node_115 (by decide) ?_
                obtain ⟨x18, h1, h⟩ := zl1_some h
                have hk : V X μ16 144 [] [.int x18] := by
                  clear h1
                  exact V_iretW X h dX12_node_144
                replace h := h1
                clear h1
                refine V_icmp_ne X (tgt := 127) dX12_node_117 (by decide) (fun b17 => ?_) (fun b17 => ?_)
                · replace h := (if_neg b17).symm.trans h
                  refine V_iload_n X 2 dX12_node_127 rfl rfl ?_
                  refine V_bipush X 12 dX12_node_128 (by decide) ?_
                  refine V_icmp_ne X (tgt := 140) dX12_node_130 (by decide) (fun b19 => ?_) (fun b19 => ?_)
                  · replace h := (if_neg b19).symm.trans h
                    refine V_aload_n X 0 dX12_node_140 rfl rfl ?_
                    refine V_geti X (o := (0, 32, 0)) (ci := 12) (k := 18) (N := 30) (T := TX12) (C := RX12) ⟨by decide, rfl⟩ rfl rfl rfl (by decide) (mBa inB_X12) (mB wl_RX12_245) dX12_node_141 ?_
                    refine V_sub X [] (lv' := []) rfl ?_
                    obtain rfl := pr1 h
                    exact hk
                  · replace h := (if_pos b19).symm.trans h
                    refine V_aload_n X 0 dX12_node_133 rfl rfl ?_
                    refine V_geti X (o := (0, 32, 0)) (ci := 12) (k := 17) (N := 30) (T := TX12) (C := RX12) ⟨by decide, rfl⟩ rfl rfl rfl (by decide) (mBa inB_X12) (mB wl_RX12_242) dX12_node_134 ?_
                    refine V_goto X (tgt := 144) dX12_node_137 (by decide) ?_
                    refine V_sub X [] (lv' := []) rfl ?_
                    obtain rfl := pr1 h
                    exact hk
                · replace h := (if_pos b17).symm.trans h
                  refine V_aload_n X 0 dX12_node_120 rfl rfl ?_
                  refine V_geti X (o := (0, 32, 0)) (ci := 12) (k := 16) (N := 30) (T := TX12) (C := RX12) ⟨by decide, rfl⟩ rfl rfl rfl (by decide) (mBa inB_X12) (mB wl_RX12_240) dX12_node_121 ?_
                  refine V_goto X (tgt := 144) dX12_node_124 (by decide) ?_
                  refine V_sub X [] (lv' := []) rfl ?_
                  obtain rfl := pr1 h
                  exact hk
              · replace h := (if_pos b14).symm.trans h
                refine V_aload_n X 0 dX12_node_103 rfl rfl ?_
                refine V_iload_n X 1 dX12_node_104 rfl rfl ?_
                obtain ⟨x21, c20, h⟩ := bd_some h
                refine V_callVi X (As := [.int a1]) (M_X12_knownOf c20) (cwV 1 X.2.2.2.2.2.2.1 (gV wm_RX12_356 wi_X12_knownOf wse_X12_knownOf win_RX12 wc_X12_knownOf) rfl rfl rfl hd_X12_knownOf ⟨Nat.le_of_ble_eq_true rfl, Nat.le_of_ble_eq_true rfl⟩) (b := (0, 32, 0)) ⟨by decide, rfl⟩ rfl rfl rfl rfl (Nat.le_of_ble_eq_true rfl) dX12_node_105 rfl ?_
                exact V_iretW X h dX12_node_108
            · replace h := (if_pos b13).symm.trans h
              refine V_aload_n X 0 dX12_node_91 rfl rfl ?_
              refine V_iload_n X 1 dX12_node_92 rfl rfl ?_
              obtain ⟨x23, μ24, c22, h⟩ := bd2_some h
              refine V_callVi X (As := [.int a1]) (M_X12_middleNow c22) (cwV 1 X.2.2.2.2.2.2.1 (gV wm_RX12_353 wi_X12_middleNow wse_X12_middleNow win_RX12 wc_X12_middleNow) rfl rfl rfl hd_X12_middleNow ⟨Nat.le_of_ble_eq_true rfl, Nat.le_of_ble_eq_true rfl⟩) (b := (0, 32, 0)) ⟨by decide, rfl⟩ rfl rfl rfl rfl (Nat.le_of_ble_eq_true rfl) dX12_node_93 rfl ?_
              exact V_iretW X h dX12_node_96
          · replace h := (if_pos b12).symm.trans h
            refine V_aload_n X 0 dX12_node_79 rfl rfl ?_
            refine V_iload_n X 1 dX12_node_80 rfl rfl ?_
            obtain ⟨x26, μ27, c25, h⟩ := bd2_some h
            refine V_callVi X (As := [.int a1]) (M_X12_cliqueOf c25) (cwV 1 X.2.2.2.2.2.2.1 (gV wm_RX12_350 wi_X12_cliqueOf wse_X12_cliqueOf win_RX12 wc_X12_cliqueOf) rfl rfl rfl hd_X12_cliqueOf ⟨Nat.le_of_ble_eq_true rfl, Nat.le_of_ble_eq_true rfl⟩) (b := (0, 32, 0)) ⟨by decide, rfl⟩ rfl rfl rfl rfl (Nat.le_of_ble_eq_true rfl) dX12_node_81 rfl ?_
            exact V_iretW X h dX12_node_84
        · replace h := (if_pos b11).symm.trans h
          refine V_aload_n X 0 dX12_node_59 rfl rfl ?_
          refine V_iload_n X 1 dX12_node_60 rfl rfl ?_
          obtain ⟨x29, μ30, c28, h⟩ := bd2_some h
          refine V_callVi X (As := [.int a1]) (M_X12_isPassing c28) (cwV 1 X.2.2.2.2.2.2.1 (gV wm_RX12_271 wi_X12_isPassing wse_X12_isPassing win_RX12 wc_X12_isPassing) rfl rfl rfl hd_X12_isPassing ⟨Nat.le_of_ble_eq_true rfl, Nat.le_of_ble_eq_true rfl⟩) (b := (0, 32, 0)) ⟨by decide, rfl⟩ rfl rfl rfl rfl (Nat.le_of_ble_eq_true rfl) dX12_node_61 rfl ?_
          obtain ⟨x32, h1, h⟩ := zl1_some h
          have hk : V X μ30 72 [] [.int x32] := by
            clear h1
            exact V_iretW X h dX12_node_72
          replace h := h1
          clear h1
          refine V_if_eq X (tgt := 71) dX12_node_64 (by decide) (fun b31 => ?_) (fun b31 => ?_)
          · replace h := (if_pos b31).symm.trans h
            refine V_iconst X 0 dX12_node_71 (by decide) ?_
            refine V_sub X [] (lv' := []) rfl ?_
            obtain rfl := pr1 h
            exact hk
          · replace h := (if_neg b31).symm.trans h
            refine V_iconst X 1 dX12_node_67 (by decide) ?_
            refine V_goto X (tgt := 72) dX12_node_68 (by decide) ?_
            refine V_sub X [] (lv' := []) rfl ?_
            obtain rfl := pr1 h
            exact hk
      · replace h := (if_neg b10).symm.trans h
        refine V_aload_n X 0 dX12_node_46 rfl rfl ?_
        refine V_iload_n X 1 dX12_node_47 rfl rfl ?_
        refine V_iload_n X 2 dX12_node_48 rfl rfl ?_
        obtain ⟨x34, c33, h⟩ := bd_some h
        refine V_callVi X (As := [.int a1, .int a2]) (M_X12_of c33) (cwV 2 X.2.2.2.2.2.2.1 (gV wm_RX12_66 wi_X12_of wse_X12_of win_RX12 wc_X12_of) rfl rfl rfl hd_X12_of ⟨Nat.le_of_ble_eq_true rfl, Nat.le_of_ble_eq_true rfl⟩) (b := (0, 32, 0)) ⟨by decide, rfl⟩ rfl rfl rfl rfl (Nat.le_of_ble_eq_true rfl) dX12_node_49 rfl ?_
        exact V_iretW X h dX12_node_52
    · replace h := (if_neg b9).symm.trans h
      refine V_iconst X 0 dX12_node_38 (by decide) ?_
      exact V_iretW X h dX12_node_39
  replace h := h1
  clear h1
  refine V_if_ne X (tgt := 13) dX12_node_6 (by decide) (fun b3 => ?_) (fun b3 => ?_)
  · replace h := (if_neg b3).symm.trans h
    refine V_iload_n X 2 dX12_node_13 rfl rfl ?_
    refine V_iconst X 0 dX12_node_14 (by decide) ?_
    refine V_bipush X 17 dX12_node_15 (by decide) ?_
    obtain ⟨x6, c5, h⟩ := bd_some h
    refine V_callSi X (As := [.int a2, .int 0, .int 17]) (M_X12_isIn c5) (va_cwS 3 X.2.2.2.2.2.2.1 (gS wm_RX12_62 wst_X12_isIn win_RX12 wc_X12_isIn) rfl rfl rfl hd_X12_isIn.2 ⟨Nat.le_of_ble_eq_true rfl, Nat.le_of_ble_eq_true rfl⟩) rfl (Nat.le_of_ble_eq_true rfl) dX12_node_17 rfl ?_
    refine V_if_ne X (tgt := 27) dX12_node_20 (by decide) (fun b7 => ?_) (fun b7 => ?_)
    · replace h := (if_neg b7).symm.trans h
      refine V_iconst X 0 dX12_node_27 (by decide) ?_
      obtain rfl := so1 h
      exact hk
    · replace h := (if_pos b7).symm.trans h
      refine V_iconst X 2 dX12_node_23 (by decide) ?_
      refine V_goto X (tgt := 28) dX12_node_24 (by decide) ?_
      obtain rfl := so1 h
      exact hk
  · replace h := (if_pos b3).symm.trans h
    refine V_iconst X 1 dX12_node_9 (by decide) ?_
    refine V_goto X (tgt := 28) dX12_node_10 (by decide) ?_
    obtain rfl := so1 h
    exact hk

def f_X12_areTwo (a1 : Int32) (a2 : Int32) (μ : ZMem) : Option (ZMem) := bd (f_X12_isNode a1 μ) (fun (x2 : Int32) => bd (α := Int32) (jk (some 1) (fun k5 => if x2 = 0 then k5 else bd (f_X12_isNode a2 μ) (fun (x7 : Int32) => if x7 = 0 then k5 else if a1 = a2 then some 2 else some 0))) (fun (x4 : Int32) => zlt (mset μ (0, 32, 0) 0 x4) (fun (μ10 : ZMem) => some μ10)))
set_option maxRecDepth 100000 in
set_option maxHeartbeats 4000000 in
theorem M_X12_areTwo {l : Launch} {D : va_G} {y : ZLay} {a1 : Int32} {a2 : Int32}  {μ : ZMem} {μ0 : ZMem} (h : f_X12_areTwo a1 a2 μ = some μ0) : MV l yX12_areTwo wb_X12_areTwo rm_X12_areTwo D y [.ref (zad y (0, 32, 0)), .int a1, .int a2] μ μ0 := by
  unfold f_X12_areTwo at h
  refine MV_of RX12 [(0, .ref (zad y (0, 32, 0))), (1, .int a1), (2, .int a2)] (by decide) rfl rfl (Nat.le_of_ble_eq_true rfl) rfl ?_
  intro p e s m args below meth c A X
  refine V_aload_n X 0 dX12_areTwo_0 rfl rfl ?_
  refine V_aload_n X 0 dX12_areTwo_1 rfl rfl ?_
  refine V_iload_n X 1 dX12_areTwo_2 rfl rfl ?_
  obtain ⟨x2, c1, h⟩ := bd_some h
  refine V_callVi X (As := [.int a1]) (M_X12_isNode c1) (cwV 1 X.2.2.2.2.2.2.1 (gV wm_RX12_347 wi_X12_isNode wse_X12_isNode win_RX12 wc_X12_isNode) rfl rfl rfl hd_X12_isNode ⟨Nat.le_of_ble_eq_true rfl, Nat.le_of_ble_eq_true rfl⟩) (b := (0, 32, 0)) ⟨by decide, rfl⟩ rfl rfl rfl rfl (Nat.le_of_ble_eq_true rfl) dX12_areTwo_3 rfl ?_
  obtain ⟨x4, h1, h⟩ := bd_some h
  have hk : V X μ 31 [] [.int x4, .ref (zad y (0, 32, 0))] := by
    clear h1
    refine V_puti X tyX12 .int (o := (0, 32, 0)) (ci := 12) (k := 0) (N := 30) (T := TX12) (C := RX12) ⟨by decide, rfl⟩ rfl rfl rfl (by decide) (mBa inB_X12) tyX12_ok nmX12 (mB wl_RX12_59) rfl rfl rfl rfl dX12_areTwo_31 ?_
    refine zlt_el (P := fun (μ10 : ZMem) => V X μ10 34 [] []) h (fun μ10 h => ?_)
    exact V_vretW X h dX12_areTwo_34
  replace h := h1
  clear h1
  refine jk0_el (P := V X μ 17 [] [.ref (zad y (0, 32, 0))]) h (fun h => ?_) (fun k5 hk5 h => ?_)
  · refine V_iconst X 1 dX12_areTwo_17 (by decide) ?_
    refine V_goto X (tgt := 31) dX12_areTwo_18 (by decide) ?_
    obtain rfl := so1 h
    exact hk
  · refine V_if_eq X (tgt := 17) dX12_areTwo_6 (by decide) (fun b3 => ?_) (fun b3 => ?_)
    · replace h := (if_pos b3).symm.trans h
      refine V_sub X [] (lv' := []) rfl ?_
      exact hk5 h
    · replace h := (if_neg b3).symm.trans h
      refine V_aload_n X 0 dX12_areTwo_9 rfl rfl ?_
      refine V_iload_n X 2 dX12_areTwo_10 rfl rfl ?_
      obtain ⟨x7, c6, h⟩ := bd_some h
      refine V_callVi X (As := [.int a2]) (M_X12_isNode c6) (cwV 1 X.2.2.2.2.2.2.1 (gV wm_RX12_347 wi_X12_isNode wse_X12_isNode win_RX12 wc_X12_isNode) rfl rfl rfl hd_X12_isNode ⟨Nat.le_of_ble_eq_true rfl, Nat.le_of_ble_eq_true rfl⟩) (b := (0, 32, 0)) ⟨by decide, rfl⟩ rfl rfl rfl rfl (Nat.le_of_ble_eq_true rfl) dX12_areTwo_11 rfl ?_
      refine V_if_ne X (tgt := 21) dX12_areTwo_14 (by decide) (fun b8 => ?_) (fun b8 => ?_)
      · replace h := (if_neg b8).symm.trans h
        refine V_iload_n X 1 dX12_areTwo_21 rfl rfl ?_
        refine V_iload_n X 2 dX12_areTwo_22 rfl rfl ?_
        refine V_icmp_ne X (tgt := 30) dX12_areTwo_23 (by decide) (fun b9 => ?_) (fun b9 => ?_)
        · replace h := (if_neg b9).symm.trans h
          refine V_iconst X 0 dX12_areTwo_30 (by decide) ?_
          refine V_sub X [] (lv' := []) rfl ?_
          obtain rfl := so1 h
          exact hk
        · replace h := (if_pos b9).symm.trans h
          refine V_iconst X 2 dX12_areTwo_26 (by decide) ?_
          refine V_goto X (tgt := 31) dX12_areTwo_27 (by decide) ?_
          refine V_sub X [] (lv' := []) rfl ?_
          obtain rfl := so1 h
          exact hk
      · replace h := (if_pos b8).symm.trans h
        refine V_sub X [] (lv' := []) rfl ?_
        exact hk5 h

def f_X12_shift (a1 : Int32) (a2 : Int32) (μ : ZMem) : Option (Int32 × ZMem) := bd (f_X12_areTwo a1 a2 μ) (fun (μ2 : ZMem) => bd2 (α := Int32) (β := ZMem) (if (μ2 (0, 32, 0) 0) ≤ 0 then bd2 (f_X12_shiftOf a1 a2 μ2) (fun (x7 : Int32) (μ8 : ZMem) => some (x7, μ8)) else some (0, μ2)) (fun (x4 : Int32) (μ5 : ZMem) => some (x4, μ5)))
set_option maxRecDepth 100000 in
set_option maxHeartbeats 4000000 in
theorem M_X12_shift {l : Launch} {D : va_G} {y : ZLay} {a1 : Int32} {a2 : Int32}  {μ : ZMem} {r : Int32} {μ0 : ZMem} (h : f_X12_shift a1 a2 μ = some (r, μ0)) : MI l yX12_shift wb_X12_shift rm_X12_shift D y [.ref (zad y (0, 32, 0)), .int a1, .int a2] μ r μ0 := by
  unfold f_X12_shift at h
  refine MI_of RX12 [(0, .ref (zad y (0, 32, 0))), (1, .int a1), (2, .int a2)] (by decide) rfl rfl (Nat.le_of_ble_eq_true rfl) rfl ?_
  intro p e s m args below meth c A X
  refine V_aload_n X 0 dX12_shift_0 rfl rfl ?_
  refine V_iload_n X 1 dX12_shift_1 rfl rfl ?_
  refine V_iload_n X 2 dX12_shift_2 rfl rfl ?_
  obtain ⟨μ2, c1, h⟩ := bd_some h
  refine V_callVv X (As := [.int a1, .int a2]) (M_X12_areTwo c1) (cwV 2 X.2.2.2.2.2.2.1 (gV wm_RX12_359 wi_X12_areTwo wse_X12_areTwo win_RX12 wc_X12_areTwo) rfl rfl rfl hd_X12_areTwo ⟨Nat.le_of_ble_eq_true rfl, Nat.le_of_ble_eq_true rfl⟩) (b := (0, 32, 0)) ⟨by decide, rfl⟩ rfl rfl rfl rfl (Nat.le_of_ble_eq_true rfl) dX12_shift_3 rfl ?_
  refine V_aload_n X 0 dX12_shift_6 rfl rfl ?_
  refine V_geti X (o := (0, 32, 0)) (ci := 12) (k := 0) (N := 30) (T := TX12) (C := RX12) ⟨by decide, rfl⟩ rfl rfl rfl (by decide) (mBa inB_X12) (mB wl_RX12_59) dX12_shift_7 ?_
  obtain ⟨x4, μ5, h1, h⟩ := bd2_some h
  have hk : V X μ5 23 [] [.int x4] := by
    clear h1
    exact V_iretW X h dX12_shift_23
  replace h := h1
  clear h1
  refine V_if_le X (tgt := 17) dX12_shift_10 (by decide) (fun b3 => ?_) (fun b3 => ?_)
  · replace h := (if_pos b3).symm.trans h
    refine V_aload_n X 0 dX12_shift_17 rfl rfl ?_
    refine V_iload_n X 1 dX12_shift_18 rfl rfl ?_
    refine V_iload_n X 2 dX12_shift_19 rfl rfl ?_
    obtain ⟨x7, μ8, c6, h⟩ := bd2_some h
    refine V_callVi X (As := [.int a1, .int a2]) (M_X12_shiftOf c6) (cwV 2 X.2.2.2.2.2.2.1 (gV wm_RX12_265 wi_X12_shiftOf wse_X12_shiftOf win_RX12 wc_X12_shiftOf) rfl rfl rfl hd_X12_shiftOf ⟨Nat.le_of_ble_eq_true rfl, Nat.le_of_ble_eq_true rfl⟩) (b := (0, 32, 0)) ⟨by decide, rfl⟩ rfl rfl rfl rfl (Nat.le_of_ble_eq_true rfl) dX12_shift_20 rfl ?_
    refine V_sub X [] (lv' := []) rfl ?_
    obtain ⟨rfl, rfl⟩ := so2 h
    exact hk
  · replace h := (if_neg b3).symm.trans h
    refine V_iconst X 0 dX12_shift_13 (by decide) ?_
    refine V_goto X (tgt := 23) dX12_shift_14 (by decide) ?_
    refine V_sub X [] (lv' := []) rfl ?_
    obtain ⟨rfl, rfl⟩ := so2 h
    exact hk

def f_X12_hears (a1 : Int32) (a2 : Int32) (μ : ZMem) : Option (Int32 × ZMem) := bd (f_X12_areTwo a1 a2 μ) (fun (μ2 : ZMem) => bd2 (α := Int32) (β := ZMem) (jk (fun (μ6 : ZMem) => some (0, μ6)) (fun k7 => if (μ2 (0, 32, 0) 0) = 0 then bd2 (f_X12_isHeard a1 a2 μ2) (fun (x9 : Int32) (μ10 : ZMem) => if x9 = 0 then k7 μ10 else some (1, μ10)) else k7 μ2)) (fun (x4 : Int32) (μ5 : ZMem) => gd (zbo x4) (some (x4, μ5))))
set_option maxRecDepth 100000 in
set_option maxHeartbeats 4000000 in
theorem M_X12_hears {l : Launch} {D : va_G} {y : ZLay} {a1 : Int32} {a2 : Int32}  {μ : ZMem} {r : Int32} {μ0 : ZMem} (h : f_X12_hears a1 a2 μ = some (r, μ0)) : MI l yX12_hears wb_X12_hears rm_X12_hears D y [.ref (zad y (0, 32, 0)), .int a1, .int a2] μ r μ0 := by
  unfold f_X12_hears at h
  refine MI_of RX12 [(0, .ref (zad y (0, 32, 0))), (1, .int a1), (2, .int a2)] (by decide) rfl rfl (Nat.le_of_ble_eq_true rfl) rfl ?_
  intro p e s m args below meth c A X
  refine V_aload_n X 0 dX12_hears_0 rfl rfl ?_
  refine V_iload_n X 1 dX12_hears_1 rfl rfl ?_
  refine V_iload_n X 2 dX12_hears_2 rfl rfl ?_
  obtain ⟨μ2, c1, h⟩ := bd_some h
  refine V_callVv X (As := [.int a1, .int a2]) (M_X12_areTwo c1) (cwV 2 X.2.2.2.2.2.2.1 (gV wm_RX12_359 wi_X12_areTwo wse_X12_areTwo win_RX12 wc_X12_areTwo) rfl rfl rfl hd_X12_areTwo ⟨Nat.le_of_ble_eq_true rfl, Nat.le_of_ble_eq_true rfl⟩) (b := (0, 32, 0)) ⟨by decide, rfl⟩ rfl rfl rfl rfl (Nat.le_of_ble_eq_true rfl) dX12_hears_3 rfl ?_
  refine V_aload_n X 0 dX12_hears_6 rfl rfl ?_
  refine V_geti X (o := (0, 32, 0)) (ci := 12) (k := 0) (N := 30) (T := TX12) (C := RX12) ⟨by decide, rfl⟩ rfl rfl rfl (by decide) (mBa inB_X12) (mB wl_RX12_59) dX12_hears_7 ?_
  obtain ⟨x4, μ5, h1, h⟩ := bd2_some h
  have hk : V X μ5 27 [] [.int x4] := by
    clear h1
    obtain ⟨hzb, h⟩ := gd_some h
    exact V_zretW X h hzb dX12_hears_27
  replace h := h1
  clear h1
  refine jk1_el (P := fun (μ6 : ZMem) => V X μ6 26 [] []) h (fun μ6 h => ?_) (fun k7 hk7 h => ?_)
  · refine V_iconst X 0 dX12_hears_26 (by decide) ?_
    obtain ⟨rfl, rfl⟩ := so2 h
    exact hk
  · refine V_if_ne X (tgt := 26) dX12_hears_10 (by decide) (fun b3 => ?_) (fun b3 => ?_)
    · replace h := (if_neg b3).symm.trans h
      refine V_sub X [] (lv' := []) rfl ?_
      exact hk7 _ h
    · replace h := (if_pos b3).symm.trans h
      refine V_aload_n X 0 dX12_hears_13 rfl rfl ?_
      refine V_iload_n X 1 dX12_hears_14 rfl rfl ?_
      refine V_iload_n X 2 dX12_hears_15 rfl rfl ?_
      obtain ⟨x9, μ10, c8, h⟩ := bd2_some h
      refine V_callVi X (As := [.int a1, .int a2]) (M_X12_isHeard c8) (cwV 2 X.2.2.2.2.2.2.1 (gV wm_RX12_341 wi_X12_isHeard wse_X12_isHeard win_RX12 wc_X12_isHeard) rfl rfl rfl hd_X12_isHeard ⟨Nat.le_of_ble_eq_true rfl, Nat.le_of_ble_eq_true rfl⟩) (b := (0, 32, 0)) ⟨by decide, rfl⟩ rfl rfl rfl rfl (Nat.le_of_ble_eq_true rfl) dX12_hears_16 rfl ?_
      refine V_if_eq X (tgt := 26) dX12_hears_19 (by decide) (fun b11 => ?_) (fun b11 => ?_)
      · replace h := (if_pos b11).symm.trans h
        refine V_sub X [] (lv' := []) rfl ?_
        exact hk7 _ h
      · replace h := (if_neg b11).symm.trans h
        refine V_iconst X 1 dX12_hears_22 (by decide) ?_
        refine V_goto X (tgt := 27) dX12_hears_23 (by decide) ?_
        refine V_sub X [] (lv' := []) rfl ?_
        obtain ⟨rfl, rfl⟩ := so2 h
        exact hk

def f_X12_remembers (μ : ZMem) : Option (ZMem) := bd (α := ZMem) (if (μ (0, 32, 0) 6) = 12 then bd (lp (σ := Int32 × ZMem) (fun q => un2 q (fun (x3 : Int32) (μ4 : ZMem) => if 3707 ≤ x3 then some (.inr μ4) else gd (zin (x3 + 337) 4044) (gd (zin x3 4044) (zlt (mset μ4 (0, 36, 0) x3.toNatClampNeg (μ4 (0, 36, 0) (x3 + 337).toNatClampNeg)) (fun (μ9 : ZMem) => some (.inl ((x3 + 1), μ9))))))) FU (0, μ)) (fun (μ5 : ZMem) => zlt (mset μ5 (0, 32, 0) 6 ((μ5 (0, 32, 0) 6) - 1)) (fun (μ10 : ZMem) => some μ10)) else some μ) (fun (μ2 : ZMem) => bd (lp (σ := Int32 × ZMem) (fun q => un2 q (fun (x11 : Int32) (μ12 : ZMem) => if 337 ≤ x11 then some (.inr μ12) else gd (zin x11 737) (gd (zin ((337 * (μ12 (0, 32, 0) 6)) + x11) 4044) (zlt (mset μ12 (0, 36, 0) ((337 * (μ12 (0, 32, 0) 6)) + x11).toNatClampNeg (μ12 (0, 33, 0) x11.toNatClampNeg)) (fun (μ17 : ZMem) => some (.inl ((x11 + 1), μ17))))))) FU (0, μ2)) (fun (μ13 : ZMem) => zlt (mset μ13 (0, 32, 0) 6 ((μ13 (0, 32, 0) 6) + 1)) (fun (μ18 : ZMem) => some μ18)))
set_option maxRecDepth 100000 in
set_option maxHeartbeats 4000000 in
theorem M_X12_remembers {l : Launch} {D : va_G} {y : ZLay}   {μ : ZMem} {μ0 : ZMem} (h : f_X12_remembers μ = some μ0) : MV l yX12_remembers wb_X12_remembers rm_X12_remembers D y [.ref (zad y (0, 32, 0))] μ μ0 := by
  unfold f_X12_remembers at h
  refine MV_of RX12 [(0, .ref (zad y (0, 32, 0)))] (by decide) rfl rfl (Nat.le_of_ble_eq_true rfl) rfl ?_
  intro p e s m args below meth c A X
  refine V_aload_n X 0 dX12_remembers_0 rfl rfl ?_
  refine V_geti X (o := (0, 32, 0)) (ci := 12) (k := 6) (N := 30) (T := TX12) (C := RX12) ⟨by decide, rfl⟩ rfl rfl rfl (by decide) (mBa inB_X12) (mB wl_RX12_190) dX12_remembers_1 ?_
  refine V_bipush X 12 dX12_remembers_4 (by decide) ?_
  obtain ⟨μ2, h1, h⟩ := bd_some h
  have hk : V X μ2 50 [(0, .ref (zad y (0, 32, 0)))] [] := by
    clear h1
    refine V_iconst X 0 dX12_remembers_50 (by decide) ?_
    refine V_istore_n X [(1, .int 0), (0, .ref (zad y (0, 32, 0)))] dX12_remembers_51 rfl (by decide) rfl ?_
    refine V_sub X [1, 0] (lv' := [(0, .ref (zad y (0, 32, 0))), (1, .int 0)]) rfl ?_
    obtain ⟨μ13, hl, h⟩ := bd_some h
    have hk : V X μ13 86 [(0, .ref (zad y (0, 32, 0)))] [] := by
      clear hl
      refine V_aload_n X 0 dX12_remembers_86 rfl rfl ?_
      refine V_dup X dX12_remembers_87 rfl ?_
      refine V_geti X (o := (0, 32, 0)) (ci := 12) (k := 6) (N := 30) (T := TX12) (C := RX12) ⟨by decide, rfl⟩ rfl rfl rfl (by decide) (mBa inB_X12) (mB wl_RX12_190) dX12_remembers_88 ?_
      refine V_iconst X 1 dX12_remembers_91 (by decide) ?_
      refine V_iadd X dX12_remembers_92 ?_
      refine V_puti X tyX12 .int (o := (0, 32, 0)) (ci := 12) (k := 6) (N := 30) (T := TX12) (C := RX12) ⟨by decide, rfl⟩ rfl rfl rfl (by decide) (mBa inB_X12) tyX12_ok nmX12 (mB wl_RX12_190) rfl rfl rfl rfl dX12_remembers_93 ?_
      refine zlt_el (P := fun (μ18 : ZMem) => V X μ18 96 [(0, .ref (zad y (0, 32, 0)))] []) h (fun μ18 h => ?_)
      exact V_vretW X h dX12_remembers_96
    refine lp_ind (P := fun q => V X q.2 52 [(0, .ref (zad y (0, 32, 0))), (1, .int q.1)] []) (fun q z h hz => ?_) hl
    obtain ⟨x11, μ12⟩ := q
    replace h := un2_eq h
    show V X μ12 52 [(0, .ref (zad y (0, 32, 0))), (1, .int x11)] []
    refine V_iload_n X 1 dX12_remembers_52 rfl rfl ?_
    refine V_sipush X 337 dX12_remembers_53 (by decide) ?_
    refine V_icmp_ge X (tgt := 86) dX12_remembers_56 (by decide) (fun b14 => ?_) (fun b14 => ?_)
    · replace h := (if_pos b14).symm.trans h
      refine V_sub X [0] (lv' := [(0, .ref (zad y (0, 32, 0)))]) rfl ?_
      cases h
      obtain rfl := pr1 hz
      exact hk
    · replace h := (if_neg b14).symm.trans h
      refine V_aload_n X 0 dX12_remembers_59 rfl rfl ?_
      refine V_getr X (o := (0, 32, 0)) (i := (0, 36, 0)) (ci := 12) (k := 5) (N := 30) (T := TX12) (C := RX12) ⟨by decide, rfl⟩ rfl rfl rfl (by decide) (mBa inB_X12) (mB wl_RX12_19) dX12_remembers_60 ?_
      refine V_sipush X 337 dX12_remembers_63 (by decide) ?_
      refine V_aload_n X 0 dX12_remembers_66 rfl rfl ?_
      refine V_geti X (o := (0, 32, 0)) (ci := 12) (k := 6) (N := 30) (T := TX12) (C := RX12) ⟨by decide, rfl⟩ rfl rfl rfl (by decide) (mBa inB_X12) (mB wl_RX12_190) dX12_remembers_67 ?_
      refine V_imul X dX12_remembers_70 ?_
      refine V_iload_n X 1 dX12_remembers_71 rfl rfl ?_
      refine V_iadd X dX12_remembers_72 ?_
      refine V_aload_n X 0 dX12_remembers_73 rfl rfl ?_
      refine V_getr X (o := (0, 32, 0)) (i := (0, 33, 0)) (ci := 12) (k := 1) (N := 30) (T := TX12) (C := RX12) ⟨by decide, rfl⟩ rfl rfl rfl (by decide) (mBa inB_X12) (mB wl_RX12_7) dX12_remembers_74 ?_
      refine V_iload_n X 1 dX12_remembers_77 rfl rfl ?_
      obtain ⟨g15, h⟩ := gd_some h
      refine V_iald X x11.toNatClampNeg rfl (o := (0, 33, 0)) (n := 737) ⟨by decide, rfl⟩ rfl rfl g15 dX12_remembers_78 ?_
      obtain ⟨g16, h⟩ := gd_some h
      refine V_iast X ((337 * (μ12 (0, 32, 0) 6)) + x11).toNatClampNeg rfl (o := (0, 36, 0)) (n := 4044) ⟨by decide, rfl⟩ rfl rfl g16 dX12_remembers_79 ?_
      refine zlt_el (P := fun (μ17 : ZMem) => V X μ17 80 [(0, .ref (zad y (0, 32, 0))), (1, .int x11)] []) h (fun μ17 h => ?_)
      refine V_inc X 1 1 [(1, .int (x11 + 1)), (0, .ref (zad y (0, 32, 0)))] dX12_remembers_80 rfl (by decide) (by decide) rfl ?_
      refine V_goto X (tgt := 52) dX12_remembers_83 (by decide) ?_
      refine V_sub X [1, 0] (lv' := [(0, .ref (zad y (0, 32, 0))), (1, .int (x11 + 1))]) rfl ?_
      cases h
      exact hz
  replace h := h1
  clear h1
  refine V_icmp_ne X (tgt := 50) dX12_remembers_6 (by decide) (fun b1 => ?_) (fun b1 => ?_)
  · replace h := (if_neg b1).symm.trans h
    obtain rfl := so1 h
    exact hk
  · replace h := (if_pos b1).symm.trans h
    refine V_iconst X 0 dX12_remembers_9 (by decide) ?_
    refine V_istore_n X [(1, .int 0), (0, .ref (zad y (0, 32, 0)))] dX12_remembers_10 rfl (by decide) rfl ?_
    refine V_sub X [1, 0] (lv' := [(0, .ref (zad y (0, 32, 0))), (1, .int 0)]) rfl ?_
    obtain ⟨μ5, hl, h⟩ := bd_some h
    have hk : V X μ5 40 [(0, .ref (zad y (0, 32, 0)))] [] := by
      clear hl
      refine V_aload_n X 0 dX12_remembers_40 rfl rfl ?_
      refine V_dup X dX12_remembers_41 rfl ?_
      refine V_geti X (o := (0, 32, 0)) (ci := 12) (k := 6) (N := 30) (T := TX12) (C := RX12) ⟨by decide, rfl⟩ rfl rfl rfl (by decide) (mBa inB_X12) (mB wl_RX12_190) dX12_remembers_42 ?_
      refine V_iconst X 1 dX12_remembers_45 (by decide) ?_
      refine V_isub X dX12_remembers_46 ?_
      refine V_puti X tyX12 .int (o := (0, 32, 0)) (ci := 12) (k := 6) (N := 30) (T := TX12) (C := RX12) ⟨by decide, rfl⟩ rfl rfl rfl (by decide) (mBa inB_X12) tyX12_ok nmX12 (mB wl_RX12_190) rfl rfl rfl rfl dX12_remembers_47 ?_
      refine zlt_el (P := fun (μ10 : ZMem) => V X μ10 50 [(0, .ref (zad y (0, 32, 0)))] []) h (fun μ10 h => ?_)
      obtain rfl := so1 h
      exact hk
    refine lp_ind (P := fun q => V X q.2 11 [(0, .ref (zad y (0, 32, 0))), (1, .int q.1)] []) (fun q z h hz => ?_) hl
    obtain ⟨x3, μ4⟩ := q
    replace h := un2_eq h
    show V X μ4 11 [(0, .ref (zad y (0, 32, 0))), (1, .int x3)] []
    refine V_iload_n X 1 dX12_remembers_11 rfl rfl ?_
    refine V_sipush X 3707 dX12_remembers_12 (by decide) ?_
    refine V_icmp_ge X (tgt := 40) dX12_remembers_15 (by decide) (fun b6 => ?_) (fun b6 => ?_)
    · replace h := (if_pos b6).symm.trans h
      refine V_sub X [0] (lv' := [(0, .ref (zad y (0, 32, 0)))]) rfl ?_
      cases h
      obtain rfl := pr1 hz
      exact hk
    · replace h := (if_neg b6).symm.trans h
      refine V_aload_n X 0 dX12_remembers_18 rfl rfl ?_
      refine V_getr X (o := (0, 32, 0)) (i := (0, 36, 0)) (ci := 12) (k := 5) (N := 30) (T := TX12) (C := RX12) ⟨by decide, rfl⟩ rfl rfl rfl (by decide) (mBa inB_X12) (mB wl_RX12_19) dX12_remembers_19 ?_
      refine V_iload_n X 1 dX12_remembers_22 rfl rfl ?_
      refine V_aload_n X 0 dX12_remembers_23 rfl rfl ?_
      refine V_getr X (o := (0, 32, 0)) (i := (0, 36, 0)) (ci := 12) (k := 5) (N := 30) (T := TX12) (C := RX12) ⟨by decide, rfl⟩ rfl rfl rfl (by decide) (mBa inB_X12) (mB wl_RX12_19) dX12_remembers_24 ?_
      refine V_iload_n X 1 dX12_remembers_27 rfl rfl ?_
      refine V_sipush X 337 dX12_remembers_28 (by decide) ?_
      refine V_iadd X dX12_remembers_31 ?_
      obtain ⟨g7, h⟩ := gd_some h
      refine V_iald X (x3 + 337).toNatClampNeg rfl (o := (0, 36, 0)) (n := 4044) ⟨by decide, rfl⟩ rfl rfl g7 dX12_remembers_32 ?_
      obtain ⟨g8, h⟩ := gd_some h
      refine V_iast X x3.toNatClampNeg rfl (o := (0, 36, 0)) (n := 4044) ⟨by decide, rfl⟩ rfl rfl g8 dX12_remembers_33 ?_
      refine zlt_el (P := fun (μ9 : ZMem) => V X μ9 34 [(0, .ref (zad y (0, 32, 0))), (1, .int x3)] []) h (fun μ9 h => ?_)
      refine V_inc X 1 1 [(1, .int (x3 + 1)), (0, .ref (zad y (0, 32, 0)))] dX12_remembers_34 rfl (by decide) (by decide) rfl ?_
      refine V_goto X (tgt := 11) dX12_remembers_37 (by decide) ?_
      refine V_sub X [1, 0] (lv' := [(0, .ref (zad y (0, 32, 0))), (1, .int (x3 + 1))]) rfl ?_
      cases h
      exact hz

def f_X12_sets (a1 : Int32) (a2 : Int32) (μ : ZMem) : Option (Int32 × ZMem) := bd (f_X12_remembers μ) (fun (μ2 : ZMem) => gd (zin a1 737) (zlt (μ2 (0, 33, 0) a1.toNatClampNeg) (fun (x4 : Int32) => zlt (mset μ2 (0, 33, 0) a1.toNatClampNeg a2) (fun (μ5 : ZMem) => some (x4, μ5)))))
set_option maxRecDepth 100000 in
set_option maxHeartbeats 4000000 in
theorem M_X12_sets {l : Launch} {D : va_G} {y : ZLay} {a1 : Int32} {a2 : Int32}  {μ : ZMem} {r : Int32} {μ0 : ZMem} (h : f_X12_sets a1 a2 μ = some (r, μ0)) : MI l yX12_sets wb_X12_sets rm_X12_sets D y [.ref (zad y (0, 32, 0)), .int a1, .int a2] μ r μ0 := by
  unfold f_X12_sets at h
  refine MI_of RX12 [(0, .ref (zad y (0, 32, 0))), (1, .int a1), (2, .int a2)] (by decide) rfl rfl (Nat.le_of_ble_eq_true rfl) rfl ?_
  intro p e s m args below meth c A X
  refine V_aload_n X 0 dX12_sets_0 rfl rfl ?_
  obtain ⟨μ2, c1, h⟩ := bd_some h
  refine V_callVv X (As := []) (M_X12_remembers c1) (cwV 0 X.2.2.2.2.2.2.1 (gV wm_RX12_362 wi_X12_remembers wse_X12_remembers win_RX12 wc_X12_remembers) rfl rfl rfl hd_X12_remembers ⟨Nat.le_of_ble_eq_true rfl, Nat.le_of_ble_eq_true rfl⟩) (b := (0, 32, 0)) ⟨by decide, rfl⟩ rfl rfl rfl rfl (Nat.le_of_ble_eq_true rfl) dX12_sets_1 rfl ?_
  refine V_aload_n X 0 dX12_sets_4 rfl rfl ?_
  refine V_getr X (o := (0, 32, 0)) (i := (0, 33, 0)) (ci := 12) (k := 1) (N := 30) (T := TX12) (C := RX12) ⟨by decide, rfl⟩ rfl rfl rfl (by decide) (mBa inB_X12) (mB wl_RX12_7) dX12_sets_5 ?_
  refine V_iload_n X 1 dX12_sets_8 rfl rfl ?_
  obtain ⟨g3, h⟩ := gd_some h
  refine V_iald X a1.toNatClampNeg rfl (o := (0, 33, 0)) (n := 737) ⟨by decide, rfl⟩ rfl rfl g3 dX12_sets_9 ?_
  refine V_istore_n X [(3, .int (μ2 (0, 33, 0) a1.toNatClampNeg)), (0, .ref (zad y (0, 32, 0))), (1, .int a1), (2, .int a2)] dX12_sets_10 rfl (by decide) rfl ?_
  refine zlt_el (P := fun (x4 : Int32) => V X μ2 11 [(3, .int x4), (0, .ref (zad y (0, 32, 0))), (1, .int a1), (2, .int a2)] []) h (fun x4 h => ?_)
  refine V_aload_n X 1 dX12_sets_11 rfl rfl ?_
  refine V_getr X (o := (0, 32, 0)) (i := (0, 33, 0)) (ci := 12) (k := 1) (N := 30) (T := TX12) (C := RX12) ⟨by decide, rfl⟩ rfl rfl rfl (by decide) (mBa inB_X12) (mB wl_RX12_7) dX12_sets_12 ?_
  refine V_iload_n X 2 dX12_sets_15 rfl rfl ?_
  refine V_iload_n X 3 dX12_sets_16 rfl rfl ?_
  refine V_iast X a1.toNatClampNeg rfl (o := (0, 33, 0)) (n := 737) ⟨by decide, rfl⟩ rfl rfl g3 dX12_sets_17 ?_
  refine zlt_el (P := fun (μ5 : ZMem) => V X μ5 18 [(3, .int x4), (0, .ref (zad y (0, 32, 0))), (1, .int a1), (2, .int a2)] []) h (fun μ5 h => ?_)
  refine V_iload_n X 0 dX12_sets_18 rfl rfl ?_
  exact V_iretW X h dX12_sets_19

def f_X12_rounds (a1 : Int32) (μ : ZMem) : Option (Int32 × ZMem) := bd (f_X12_isIn a1 1 60) (fun (x2 : Int32) => zlt (α := Int32) (if x2 = 0 then 1 else 0) (fun (x4 : Int32) => zlt (mset μ (0, 32, 0) 0 x4) (fun (μ5 : ZMem) => if (μ5 (0, 32, 0) 0) ≤ 0 then bd (f_X12_remembers μ5) (fun (μ8 : ZMem) => bd2 (f_X12_goes a1 1 μ8) (fun (x10 : Int32) (μ11 : ZMem) => some (x10, μ11))) else some (0, μ5))))
set_option maxRecDepth 100000 in
set_option maxHeartbeats 4000000 in
theorem M_X12_rounds {l : Launch} {D : va_G} {y : ZLay} {a1 : Int32}  {μ : ZMem} {r : Int32} {μ0 : ZMem} (h : f_X12_rounds a1 μ = some (r, μ0)) : MI l yX12_rounds wb_X12_rounds rm_X12_rounds D y [.ref (zad y (0, 32, 0)), .int a1] μ r μ0 := by
  unfold f_X12_rounds at h
  refine MI_of RX12 [(0, .ref (zad y (0, 32, 0))), (1, .int a1)] (by decide) rfl rfl (Nat.le_of_ble_eq_true rfl) rfl ?_
  intro p e s m args below meth c A X
  refine V_aload_n X 0 dX12_rounds_0 rfl rfl ?_
  refine V_iload_n X 1 dX12_rounds_1 rfl rfl ?_
  refine V_iconst X 1 dX12_rounds_2 (by decide) ?_
  refine V_bipush X 60 dX12_rounds_3 (by decide) ?_
  obtain ⟨x2, c1, h⟩ := bd_some h
  refine V_callSi X (As := [.int a1, .int 1, .int 60]) (M_X12_isIn c1) (va_cwS 3 X.2.2.2.2.2.2.1 (gS wm_RX12_62 wst_X12_isIn win_RX12 wc_X12_isIn) rfl rfl rfl hd_X12_isIn.2 ⟨Nat.le_of_ble_eq_true rfl, Nat.le_of_ble_eq_true rfl⟩) rfl (Nat.le_of_ble_eq_true rfl) dX12_rounds_5 rfl ?_
  obtain ⟨x4, h1, h⟩ := zl1_some h
  have hk : V X μ 16 [(0, .ref (zad y (0, 32, 0))), (1, .int a1)] [.int x4, .ref (zad y (0, 32, 0))] := by
    clear h1
    refine V_puti X tyX12 .int (o := (0, 32, 0)) (ci := 12) (k := 0) (N := 30) (T := TX12) (C := RX12) ⟨by decide, rfl⟩ rfl rfl rfl (by decide) (mBa inB_X12) tyX12_ok nmX12 (mB wl_RX12_59) rfl rfl rfl rfl dX12_rounds_16 ?_
    refine zlt_el (P := fun (μ5 : ZMem) => V X μ5 19 [(0, .ref (zad y (0, 32, 0))), (1, .int a1)] []) h (fun μ5 h => ?_)
    refine V_aload_n X 0 dX12_rounds_19 rfl rfl ?_
    refine V_geti X (o := (0, 32, 0)) (ci := 12) (k := 0) (N := 30) (T := TX12) (C := RX12) ⟨by decide, rfl⟩ rfl rfl rfl (by decide) (mBa inB_X12) (mB wl_RX12_59) dX12_rounds_20 ?_
    refine V_if_le X (tgt := 28) dX12_rounds_23 (by decide) (fun b6 => ?_) (fun b6 => ?_)
    · replace h := (if_pos b6).symm.trans h
      refine V_aload_n X 0 dX12_rounds_28 rfl rfl ?_
      obtain ⟨μ8, c7, h⟩ := bd_some h
      refine V_callVv X (As := []) (M_X12_remembers c7) (cwV 0 X.2.2.2.2.2.2.1 (gV wm_RX12_362 wi_X12_remembers wse_X12_remembers win_RX12 wc_X12_remembers) rfl rfl rfl hd_X12_remembers ⟨Nat.le_of_ble_eq_true rfl, Nat.le_of_ble_eq_true rfl⟩) (b := (0, 32, 0)) ⟨by decide, rfl⟩ rfl rfl rfl rfl (Nat.le_of_ble_eq_true rfl) dX12_rounds_29 rfl ?_
      refine V_aload_n X 0 dX12_rounds_32 rfl rfl ?_
      refine V_iload_n X 1 dX12_rounds_33 rfl rfl ?_
      refine V_iconst X 1 dX12_rounds_34 (by decide) ?_
      obtain ⟨x10, μ11, c9, h⟩ := bd2_some h
      refine V_callVi X (As := [.int a1, .int 1]) (M_X12_goes c9) (cwV 2 X.2.2.2.2.2.2.1 (gV wm_RX12_365 wi_X12_goes wse_X12_goes win_RX12 wc_X12_goes) rfl rfl rfl hd_X12_goes ⟨Nat.le_of_ble_eq_true rfl, Nat.le_of_ble_eq_true rfl⟩) (b := (0, 32, 0)) ⟨by decide, rfl⟩ rfl rfl rfl rfl (Nat.le_of_ble_eq_true rfl) dX12_rounds_35 rfl ?_
      exact V_iretW X h dX12_rounds_38
    · replace h := (if_neg b6).symm.trans h
      refine V_iconst X 0 dX12_rounds_26 (by decide) ?_
      exact V_iretW X h dX12_rounds_27
  replace h := h1
  clear h1
  refine V_if_ne X (tgt := 15) dX12_rounds_8 (by decide) (fun b3 => ?_) (fun b3 => ?_)
  · replace h := (if_neg b3).symm.trans h
    refine V_iconst X 0 dX12_rounds_15 (by decide) ?_
    obtain rfl := pr1 h
    exact hk
  · replace h := (if_pos b3).symm.trans h
    refine V_iconst X 1 dX12_rounds_11 (by decide) ?_
    refine V_goto X (tgt := 16) dX12_rounds_12 (by decide) ?_
    obtain rfl := pr1 h
    exact hk

def f_X12_add (a1 : Int32) (μ : ZMem) : Option (Int32 × ZMem) := bd (f_X12_isIn a1 (-9) 9) (fun (x2 : Int32) => zlt (α := Int32) (if x2 = 0 then 1 else if (μ (0, 33, 0) 3) = 8 then 2 else 0) (fun (x4 : Int32) => zlt (mset μ (0, 32, 0) 0 x4) (fun (μ6 : ZMem) => if (μ6 (0, 32, 0) 0) ≤ 0 then bd (f_X12_remembers μ6) (fun (μ9 : ZMem) => bd (f_X12_joins a1 μ9) (fun (μ11 : ZMem) => some (((μ11 (0, 33, 0) 3) - 1), μ11))) else some (0, μ6))))
set_option maxRecDepth 100000 in
set_option maxHeartbeats 4000000 in
theorem M_X12_add {l : Launch} {D : va_G} {y : ZLay} {a1 : Int32}  {μ : ZMem} {r : Int32} {μ0 : ZMem} (h : f_X12_add a1 μ = some (r, μ0)) : MI l yX12_add wb_X12_add rm_X12_add D y [.ref (zad y (0, 32, 0)), .int a1] μ r μ0 := by
  unfold f_X12_add at h
  refine MI_of RX12 [(0, .ref (zad y (0, 32, 0))), (1, .int a1)] (by decide) rfl rfl (Nat.le_of_ble_eq_true rfl) rfl ?_
  intro p e s m args below meth c A X
  refine V_aload_n X 0 dX12_add_0 rfl rfl ?_
  refine V_iload_n X 1 dX12_add_1 rfl rfl ?_
  refine V_bipush X (-9) dX12_add_2 (by decide) ?_
  refine V_bipush X 9 dX12_add_4 (by decide) ?_
  obtain ⟨x2, c1, h⟩ := bd_some h
  refine V_callSi X (As := [.int a1, .int (-9), .int 9]) (M_X12_isIn c1) (va_cwS 3 X.2.2.2.2.2.2.1 (gS wm_RX12_62 wst_X12_isIn win_RX12 wc_X12_isIn) rfl rfl rfl hd_X12_isIn.2 ⟨Nat.le_of_ble_eq_true rfl, Nat.le_of_ble_eq_true rfl⟩) rfl (Nat.le_of_ble_eq_true rfl) dX12_add_6 rfl ?_
  obtain ⟨x4, h1, h⟩ := zl1_some h
  have hk : V X μ 32 [(0, .ref (zad y (0, 32, 0))), (1, .int a1)] [.int x4, .ref (zad y (0, 32, 0))] := by
    clear h1
    refine V_puti X tyX12 .int (o := (0, 32, 0)) (ci := 12) (k := 0) (N := 30) (T := TX12) (C := RX12) ⟨by decide, rfl⟩ rfl rfl rfl (by decide) (mBa inB_X12) tyX12_ok nmX12 (mB wl_RX12_59) rfl rfl rfl rfl dX12_add_32 ?_
    refine zlt_el (P := fun (μ6 : ZMem) => V X μ6 35 [(0, .ref (zad y (0, 32, 0))), (1, .int a1)] []) h (fun μ6 h => ?_)
    refine V_aload_n X 0 dX12_add_35 rfl rfl ?_
    refine V_geti X (o := (0, 32, 0)) (ci := 12) (k := 0) (N := 30) (T := TX12) (C := RX12) ⟨by decide, rfl⟩ rfl rfl rfl (by decide) (mBa inB_X12) (mB wl_RX12_59) dX12_add_36 ?_
    refine V_if_le X (tgt := 44) dX12_add_39 (by decide) (fun b7 => ?_) (fun b7 => ?_)
    · replace h := (if_pos b7).symm.trans h
      refine V_aload_n X 0 dX12_add_44 rfl rfl ?_
      obtain ⟨μ9, c8, h⟩ := bd_some h
      refine V_callVv X (As := []) (M_X12_remembers c8) (cwV 0 X.2.2.2.2.2.2.1 (gV wm_RX12_362 wi_X12_remembers wse_X12_remembers win_RX12 wc_X12_remembers) rfl rfl rfl hd_X12_remembers ⟨Nat.le_of_ble_eq_true rfl, Nat.le_of_ble_eq_true rfl⟩) (b := (0, 32, 0)) ⟨by decide, rfl⟩ rfl rfl rfl rfl (Nat.le_of_ble_eq_true rfl) dX12_add_45 rfl ?_
      refine V_aload_n X 0 dX12_add_48 rfl rfl ?_
      refine V_iload_n X 1 dX12_add_49 rfl rfl ?_
      obtain ⟨μ11, c10, h⟩ := bd_some h
      refine V_callVv X (As := [.int a1]) (M_X12_joins c10) (cwV 1 X.2.2.2.2.2.2.1 (gV wm_RX12_143 wi_X12_joins wse_X12_joins win_RX12 wc_X12_joins) rfl rfl rfl hd_X12_joins ⟨Nat.le_of_ble_eq_true rfl, Nat.le_of_ble_eq_true rfl⟩) (b := (0, 32, 0)) ⟨by decide, rfl⟩ rfl rfl rfl rfl (Nat.le_of_ble_eq_true rfl) dX12_add_50 rfl ?_
      refine V_aload_n X 0 dX12_add_53 rfl rfl ?_
      refine V_getr X (o := (0, 32, 0)) (i := (0, 33, 0)) (ci := 12) (k := 1) (N := 30) (T := TX12) (C := RX12) ⟨by decide, rfl⟩ rfl rfl rfl (by decide) (mBa inB_X12) (mB wl_RX12_7) dX12_add_54 ?_
      refine V_iconst X 3 dX12_add_57 (by decide) ?_
      refine V_iald X 3 (by decide) (o := (0, 33, 0)) (n := 737) ⟨by decide, rfl⟩ rfl rfl (by decide) dX12_add_58 ?_
      refine V_iconst X 1 dX12_add_59 (by decide) ?_
      refine V_isub X dX12_add_60 ?_
      exact V_iretW X h dX12_add_61
    · replace h := (if_neg b7).symm.trans h
      refine V_iconst X 0 dX12_add_42 (by decide) ?_
      exact V_iretW X h dX12_add_43
  replace h := h1
  clear h1
  refine V_if_ne X (tgt := 16) dX12_add_9 (by decide) (fun b3 => ?_) (fun b3 => ?_)
  · replace h := (if_neg b3).symm.trans h
    refine V_aload_n X 0 dX12_add_16 rfl rfl ?_
    refine V_getr X (o := (0, 32, 0)) (i := (0, 33, 0)) (ci := 12) (k := 1) (N := 30) (T := TX12) (C := RX12) ⟨by decide, rfl⟩ rfl rfl rfl (by decide) (mBa inB_X12) (mB wl_RX12_7) dX12_add_17 ?_
    refine V_iconst X 3 dX12_add_20 (by decide) ?_
    refine V_iald X 3 (by decide) (o := (0, 33, 0)) (n := 737) ⟨by decide, rfl⟩ rfl rfl (by decide) dX12_add_21 ?_
    refine V_bipush X 8 dX12_add_22 (by decide) ?_
    refine V_icmp_ne X (tgt := 31) dX12_add_24 (by decide) (fun b5 => ?_) (fun b5 => ?_)
    · replace h := (if_neg b5).symm.trans h
      refine V_iconst X 0 dX12_add_31 (by decide) ?_
      obtain rfl := pr1 h
      exact hk
    · replace h := (if_pos b5).symm.trans h
      refine V_iconst X 2 dX12_add_27 (by decide) ?_
      refine V_goto X (tgt := 32) dX12_add_28 (by decide) ?_
      obtain rfl := pr1 h
      exact hk
  · replace h := (if_pos b3).symm.trans h
    refine V_iconst X 1 dX12_add_12 (by decide) ?_
    refine V_goto X (tgt := 32) dX12_add_13 (by decide) ?_
    obtain rfl := pr1 h
    exact hk

def f_X12_power (a1 : Int32) (a2 : Int32) (μ : ZMem) : Option (Int32 × ZMem) := bd (f_X12_isNode a1 μ) (fun (x2 : Int32) => zlt (α := Int32) (if x2 = 0 then 1 else 0) (fun (x4 : Int32) => zlt (mset μ (0, 32, 0) 0 x4) (fun (μ5 : ZMem) => if (μ5 (0, 32, 0) 0) ≤ 0 then bd (f_X12_of a1 3 μ5) (fun (x8 : Int32) => bd (α := Int32) (jk (some 2) (fun k11 => jk (jk (some 0) (fun k16 => if a2 = 0 then if x8 = 0 then k11 else k16 else k16)) (fun k12 => if a2 = 0 then k12 else if x8 = 1 then k11 else if x8 = 2 then k11 else k12))) (fun (x10 : Int32) => zlt (mset μ5 (0, 32, 0) 0 x10) (fun (μ18 : ZMem) => if (μ18 (0, 32, 0) 0) ≤ 0 then bd (f_X12_remembers μ18) (fun (μ21 : ZMem) => bd (f_X12_asks a1 μ21) (fun (μ23 : ZMem) => bd (f_X12_lays a1 5 0 μ23) (fun (μ25 : ZMem) => zlt (α := Int32) (if a2 = 0 then 0 else 1) (fun (x27 : Int32) => bd (f_X12_lays a1 3 x27 μ25) (fun (μ29 : ZMem) => if a2 = 0 then some (x8, μ29) else bd (f_X12_lays a1 4 (f_X12_lesser 99 ((2 + a1) + (μ29 (0, 32, 0) 18))) μ29) (fun (μ32 : ZMem) => bd (f_X12_lays a1 6 0 μ32) (fun (μ34 : ZMem) => bd (f_X12_lays a1 7 0 μ34) (fun (μ36 : ZMem) => some (x8, μ36))))))))) else some (0, μ18)))) else some (0, μ5))))
set_option maxRecDepth 100000 in
set_option maxHeartbeats 4000000 in
theorem M_X12_power {l : Launch} {D : va_G} {y : ZLay} {a1 : Int32} {a2 : Int32}  {μ : ZMem} {r : Int32} {μ0 : ZMem} (h : f_X12_power a1 a2 μ = some (r, μ0)) : MI l yX12_power wb_X12_power rm_X12_power D y [.ref (zad y (0, 32, 0)), .int a1, .int a2] μ r μ0 := by
  unfold f_X12_power at h
  refine MI_of RX12 [(0, .ref (zad y (0, 32, 0))), (1, .int a1), (2, .int a2)] (by decide) rfl rfl (Nat.le_of_ble_eq_true rfl) rfl ?_
  intro p e s m args below meth c A X
  refine V_aload_n X 0 dX12_power_0 rfl rfl ?_
  refine V_aload_n X 0 dX12_power_1 rfl rfl ?_
  refine V_iload_n X 1 dX12_power_2 rfl rfl ?_
  obtain ⟨x2, c1, h⟩ := bd_some h
  refine V_callVi X (As := [.int a1]) (M_X12_isNode c1) (cwV 1 X.2.2.2.2.2.2.1 (gV wm_RX12_347 wi_X12_isNode wse_X12_isNode win_RX12 wc_X12_isNode) rfl rfl rfl hd_X12_isNode ⟨Nat.le_of_ble_eq_true rfl, Nat.le_of_ble_eq_true rfl⟩) (b := (0, 32, 0)) ⟨by decide, rfl⟩ rfl rfl rfl rfl (Nat.le_of_ble_eq_true rfl) dX12_power_3 rfl ?_
  obtain ⟨x4, h1, h⟩ := zl1_some h
  have hk : V X μ 14 [(0, .ref (zad y (0, 32, 0))), (1, .int a1), (2, .int a2)] [.int x4, .ref (zad y (0, 32, 0))] := by
    clear h1
    refine V_puti X tyX12 .int (o := (0, 32, 0)) (ci := 12) (k := 0) (N := 30) (T := TX12) (C := RX12) ⟨by decide, rfl⟩ rfl rfl rfl (by decide) (mBa inB_X12) tyX12_ok nmX12 (mB wl_RX12_59) rfl rfl rfl rfl dX12_power_14 ?_
    refine zlt_el (P := fun (μ5 : ZMem) => V X μ5 17 [(0, .ref (zad y (0, 32, 0))), (1, .int a1), (2, .int a2)] []) h (fun μ5 h => ?_)
    refine V_aload_n X 0 dX12_power_17 rfl rfl ?_
    refine V_geti X (o := (0, 32, 0)) (ci := 12) (k := 0) (N := 30) (T := TX12) (C := RX12) ⟨by decide, rfl⟩ rfl rfl rfl (by decide) (mBa inB_X12) (mB wl_RX12_59) dX12_power_18 ?_
    refine V_if_le X (tgt := 26) dX12_power_21 (by decide) (fun b6 => ?_) (fun b6 => ?_)
    · replace h := (if_pos b6).symm.trans h
      refine V_aload_n X 0 dX12_power_26 rfl rfl ?_
      refine V_iload_n X 1 dX12_power_27 rfl rfl ?_
      refine V_iconst X 3 dX12_power_28 (by decide) ?_
      obtain ⟨x8, c7, h⟩ := bd_some h
      refine V_callVi X (As := [.int a1, .int 3]) (M_X12_of c7) (cwV 2 X.2.2.2.2.2.2.1 (gV wm_RX12_66 wi_X12_of wse_X12_of win_RX12 wc_X12_of) rfl rfl rfl hd_X12_of ⟨Nat.le_of_ble_eq_true rfl, Nat.le_of_ble_eq_true rfl⟩) (b := (0, 32, 0)) ⟨by decide, rfl⟩ rfl rfl rfl rfl (Nat.le_of_ble_eq_true rfl) dX12_power_29 rfl ?_
      refine V_istore_n X [(3, .int x8), (0, .ref (zad y (0, 32, 0))), (1, .int a1), (2, .int a2)] dX12_power_32 rfl (by decide) rfl ?_
      refine V_aload_n X 1 dX12_power_33 rfl rfl ?_
      refine V_iload_n X 3 dX12_power_34 rfl rfl ?_
      obtain ⟨x10, h1, h⟩ := bd_some h
      have hk : V X μ5 61 [(0, .ref (zad y (0, 32, 0))), (1, .int a1), (2, .int a2), (3, .int x8)] [.int x10, .ref (zad y (0, 32, 0))] := by
        clear h1
        refine V_puti X tyX12 .int (o := (0, 32, 0)) (ci := 12) (k := 0) (N := 30) (T := TX12) (C := RX12) ⟨by decide, rfl⟩ rfl rfl rfl (by decide) (mBa inB_X12) tyX12_ok nmX12 (mB wl_RX12_59) rfl rfl rfl rfl dX12_power_61 ?_
        refine zlt_el (P := fun (μ18 : ZMem) => V X μ18 64 [(0, .ref (zad y (0, 32, 0))), (1, .int a1), (2, .int a2), (3, .int x8)] []) h (fun μ18 h => ?_)
        refine V_aload_n X 0 dX12_power_64 rfl rfl ?_
        refine V_geti X (o := (0, 32, 0)) (ci := 12) (k := 0) (N := 30) (T := TX12) (C := RX12) ⟨by decide, rfl⟩ rfl rfl rfl (by decide) (mBa inB_X12) (mB wl_RX12_59) dX12_power_65 ?_
        refine V_if_le X (tgt := 73) dX12_power_68 (by decide) (fun b19 => ?_) (fun b19 => ?_)
        · replace h := (if_pos b19).symm.trans h
          refine V_aload_n X 0 dX12_power_73 rfl rfl ?_
          obtain ⟨μ21, c20, h⟩ := bd_some h
          refine V_callVv X (As := []) (M_X12_remembers c20) (cwV 0 X.2.2.2.2.2.2.1 (gV wm_RX12_362 wi_X12_remembers wse_X12_remembers win_RX12 wc_X12_remembers) rfl rfl rfl hd_X12_remembers ⟨Nat.le_of_ble_eq_true rfl, Nat.le_of_ble_eq_true rfl⟩) (b := (0, 32, 0)) ⟨by decide, rfl⟩ rfl rfl rfl rfl (Nat.le_of_ble_eq_true rfl) dX12_power_74 rfl ?_
          refine V_aload_n X 0 dX12_power_77 rfl rfl ?_
          refine V_iload_n X 1 dX12_power_78 rfl rfl ?_
          obtain ⟨μ23, c22, h⟩ := bd_some h
          refine V_callVv X (As := [.int a1]) (M_X12_asks c22) (cwV 1 X.2.2.2.2.2.2.1 (gV wm_RX12_253 wi_X12_asks wse_X12_asks win_RX12 wc_X12_asks) rfl rfl rfl hd_X12_asks ⟨Nat.le_of_ble_eq_true rfl, Nat.le_of_ble_eq_true rfl⟩) (b := (0, 32, 0)) ⟨by decide, rfl⟩ rfl rfl rfl rfl (Nat.le_of_ble_eq_true rfl) dX12_power_79 rfl ?_
          refine V_aload_n X 0 dX12_power_82 rfl rfl ?_
          refine V_iload_n X 1 dX12_power_83 rfl rfl ?_
          refine V_iconst X 5 dX12_power_84 (by decide) ?_
          refine V_iconst X 0 dX12_power_85 (by decide) ?_
          obtain ⟨μ25, c24, h⟩ := bd_some h
          refine V_callVv X (As := [.int a1, .int 5, .int 0]) (M_X12_lays c24) (cwV 3 X.2.2.2.2.2.2.1 (gV wm_RX12_146 wi_X12_lays wse_X12_lays win_RX12 wc_X12_lays) rfl rfl rfl hd_X12_lays ⟨Nat.le_of_ble_eq_true rfl, Nat.le_of_ble_eq_true rfl⟩) (b := (0, 32, 0)) ⟨by decide, rfl⟩ rfl rfl rfl rfl (Nat.le_of_ble_eq_true rfl) dX12_power_86 rfl ?_
          refine V_aload_n X 0 dX12_power_89 rfl rfl ?_
          refine V_iload_n X 1 dX12_power_90 rfl rfl ?_
          refine V_iconst X 3 dX12_power_91 (by decide) ?_
          refine V_iload_n X 2 dX12_power_92 rfl rfl ?_
          obtain ⟨x27, h1, h⟩ := zl1_some h
          have hk : V X μ25 101 [(0, .ref (zad y (0, 32, 0))), (1, .int a1), (2, .int a2), (3, .int x8)] [.int x27, .int 3, .int a1, .ref (zad y (0, 32, 0))] := by
            clear h1
            obtain ⟨μ29, c28, h⟩ := bd_some h
            refine V_callVv X (As := [.int a1, .int 3, .int x27]) (M_X12_lays c28) (cwV 3 X.2.2.2.2.2.2.1 (gV wm_RX12_146 wi_X12_lays wse_X12_lays win_RX12 wc_X12_lays) rfl rfl rfl hd_X12_lays ⟨Nat.le_of_ble_eq_true rfl, Nat.le_of_ble_eq_true rfl⟩) (b := (0, 32, 0)) ⟨by decide, rfl⟩ rfl rfl rfl rfl (Nat.le_of_ble_eq_true rfl) dX12_power_101 rfl ?_
            refine V_iload_n X 2 dX12_power_104 rfl rfl ?_
            refine V_if_ne X (tgt := 110) dX12_power_105 (by decide) (fun b30 => ?_) (fun b30 => ?_)
            · replace h := (if_neg b30).symm.trans h
              refine V_aload_n X 0 dX12_power_110 rfl rfl ?_
              refine V_iload_n X 1 dX12_power_111 rfl rfl ?_
              refine V_iconst X 4 dX12_power_112 (by decide) ?_
              refine V_bipush X 99 dX12_power_113 (by decide) ?_
              refine V_iconst X 2 dX12_power_115 (by decide) ?_
              refine V_iload_n X 1 dX12_power_116 rfl rfl ?_
              refine V_iadd X dX12_power_117 ?_
              refine V_aload_n X 0 dX12_power_118 rfl rfl ?_
              refine V_geti X (o := (0, 32, 0)) (ci := 12) (k := 18) (N := 30) (T := TX12) (C := RX12) ⟨by decide, rfl⟩ rfl rfl rfl (by decide) (mBa inB_X12) (mB wl_RX12_245) dX12_power_119 ?_
              refine V_iadd X dX12_power_122 ?_
              refine V_callSi X (As := [.int 99, .int ((2 + a1) + (μ29 (0, 32, 0) 18))]) (M_X12_lesser) (va_cwS 2 X.2.2.2.2.2.2.1 (gS wm_RX12_70 wst_X12_lesser win_RX12 wc_X12_lesser) rfl rfl rfl hd_X12_lesser.2 ⟨Nat.le_of_ble_eq_true rfl, Nat.le_of_ble_eq_true rfl⟩) rfl (Nat.le_of_ble_eq_true rfl) dX12_power_123 rfl ?_
              obtain ⟨μ32, c31, h⟩ := bd_some h
              refine V_callVv X (As := [.int a1, .int 4, .int (f_X12_lesser 99 ((2 + a1) + (μ29 (0, 32, 0) 18)))]) (M_X12_lays c31) (cwV 3 X.2.2.2.2.2.2.1 (gV wm_RX12_146 wi_X12_lays wse_X12_lays win_RX12 wc_X12_lays) rfl rfl rfl hd_X12_lays ⟨Nat.le_of_ble_eq_true rfl, Nat.le_of_ble_eq_true rfl⟩) (b := (0, 32, 0)) ⟨by decide, rfl⟩ rfl rfl rfl rfl (Nat.le_of_ble_eq_true rfl) dX12_power_126 rfl ?_
              refine V_aload_n X 0 dX12_power_129 rfl rfl ?_
              refine V_iload_n X 1 dX12_power_130 rfl rfl ?_
              refine V_bipush X 6 dX12_power_131 (by decide) ?_
              refine V_iconst X 0 dX12_power_133 (by decide) ?_
              obtain ⟨μ34, c33, h⟩ := bd_some h
              refine V_callVv X (As := [.int a1, .int 6, .int 0]) (M_X12_lays c33) (cwV 3 X.2.2.2.2.2.2.1 (gV wm_RX12_146 wi_X12_lays wse_X12_lays win_RX12 wc_X12_lays) rfl rfl rfl hd_X12_lays ⟨Nat.le_of_ble_eq_true rfl, Nat.le_of_ble_eq_true rfl⟩) (b := (0, 32, 0)) ⟨by decide, rfl⟩ rfl rfl rfl rfl (Nat.le_of_ble_eq_true rfl) dX12_power_134 rfl ?_
              refine V_aload_n X 0 dX12_power_137 rfl rfl ?_
              refine V_iload_n X 1 dX12_power_138 rfl rfl ?_
              refine V_bipush X 7 dX12_power_139 (by decide) ?_
              refine V_iconst X 0 dX12_power_141 (by decide) ?_
              obtain ⟨μ36, c35, h⟩ := bd_some h
              refine V_callVv X (As := [.int a1, .int 7, .int 0]) (M_X12_lays c35) (cwV 3 X.2.2.2.2.2.2.1 (gV wm_RX12_146 wi_X12_lays wse_X12_lays win_RX12 wc_X12_lays) rfl rfl rfl hd_X12_lays ⟨Nat.le_of_ble_eq_true rfl, Nat.le_of_ble_eq_true rfl⟩) (b := (0, 32, 0)) ⟨by decide, rfl⟩ rfl rfl rfl rfl (Nat.le_of_ble_eq_true rfl) dX12_power_142 rfl ?_
              refine V_iload_n X 3 dX12_power_145 rfl rfl ?_
              exact V_iretW X h dX12_power_146
            · replace h := (if_pos b30).symm.trans h
              refine V_iload_n X 3 dX12_power_108 rfl rfl ?_
              exact V_iretW X h dX12_power_109
          replace h := h1
          clear h1
          refine V_if_eq X (tgt := 100) dX12_power_93 (by decide) (fun b26 => ?_) (fun b26 => ?_)
          · replace h := (if_pos b26).symm.trans h
            refine V_iconst X 0 dX12_power_100 (by decide) ?_
            obtain rfl := pr1 h
            exact hk
          · replace h := (if_neg b26).symm.trans h
            refine V_iconst X 1 dX12_power_96 (by decide) ?_
            refine V_goto X (tgt := 101) dX12_power_97 (by decide) ?_
            obtain rfl := pr1 h
            exact hk
        · replace h := (if_neg b19).symm.trans h
          refine V_iconst X 0 dX12_power_71 (by decide) ?_
          exact V_iretW X h dX12_power_72
      replace h := h1
      clear h1
      refine jk0_el (P := V X μ5 56 [(0, .ref (zad y (0, 32, 0))), (1, .int a1), (2, .int a2), (3, .int x8)] [.ref (zad y (0, 32, 0))]) h (fun h => ?_) (fun k11 hk11 h => ?_)
      · refine V_iconst X 2 dX12_power_56 (by decide) ?_
        refine V_goto X (tgt := 61) dX12_power_57 (by decide) ?_
        obtain rfl := so1 h
        exact hk
      · refine jk0_el (P := V X μ5 48 [(0, .ref (zad y (0, 32, 0))), (1, .int a1), (2, .int a2), (3, .int x8)] [.ref (zad y (0, 32, 0))]) h (fun h => ?_) (fun k12 hk12 h => ?_)
        · refine V_iload_n X 2 dX12_power_48 rfl rfl ?_
          refine jk0_el (P := V X μ5 60 [(0, .ref (zad y (0, 32, 0))), (1, .int a1), (2, .int a2), (3, .int x8)] [.ref (zad y (0, 32, 0))]) h (fun h => ?_) (fun k16 hk16 h => ?_)
          · refine V_iconst X 0 dX12_power_60 (by decide) ?_
            obtain rfl := so1 h
            exact hk
          · refine V_if_ne X (tgt := 60) dX12_power_49 (by decide) (fun b15 => ?_) (fun b15 => ?_)
            · replace h := (if_neg b15).symm.trans h
              exact hk16 h
            · replace h := (if_pos b15).symm.trans h
              refine V_iload_n X 3 dX12_power_52 rfl rfl ?_
              refine V_if_ne X (tgt := 60) dX12_power_53 (by decide) (fun b17 => ?_) (fun b17 => ?_)
              · replace h := (if_neg b17).symm.trans h
                exact hk16 h
              · replace h := (if_pos b17).symm.trans h
                exact hk11 h
        · refine V_if_eq X (tgt := 48) dX12_power_35 (by decide) (fun b9 => ?_) (fun b9 => ?_)
          · replace h := (if_pos b9).symm.trans h
            refine V_sub X [1, 2, 3, 0] (lv' := [(0, .ref (zad y (0, 32, 0))), (1, .int a1), (2, .int a2), (3, .int x8)]) rfl ?_
            exact hk12 h
          · replace h := (if_neg b9).symm.trans h
            refine V_iload_n X 0 dX12_power_38 rfl rfl ?_
            refine V_iconst X 1 dX12_power_39 (by decide) ?_
            refine V_icmp_eq X (tgt := 56) dX12_power_40 (by decide) (fun b13 => ?_) (fun b13 => ?_)
            · replace h := (if_pos b13).symm.trans h
              refine V_sub X [1, 2, 3, 0] (lv' := [(0, .ref (zad y (0, 32, 0))), (1, .int a1), (2, .int a2), (3, .int x8)]) rfl ?_
              exact hk11 h
            · replace h := (if_neg b13).symm.trans h
              refine V_iload_n X 0 dX12_power_43 rfl rfl ?_
              refine V_iconst X 2 dX12_power_44 (by decide) ?_
              refine V_icmp_eq X (tgt := 56) dX12_power_45 (by decide) (fun b14 => ?_) (fun b14 => ?_)
              · replace h := (if_pos b14).symm.trans h
                refine V_sub X [1, 2, 3, 0] (lv' := [(0, .ref (zad y (0, 32, 0))), (1, .int a1), (2, .int a2), (3, .int x8)]) rfl ?_
                exact hk11 h
              · replace h := (if_neg b14).symm.trans h
                refine V_sub X [1, 2, 3, 0] (lv' := [(0, .ref (zad y (0, 32, 0))), (1, .int a1), (2, .int a2), (3, .int x8)]) rfl ?_
                exact hk12 h
    · replace h := (if_neg b6).symm.trans h
      refine V_iconst X 0 dX12_power_24 (by decide) ?_
      exact V_iretW X h dX12_power_25
  replace h := h1
  clear h1
  refine V_if_ne X (tgt := 13) dX12_power_6 (by decide) (fun b3 => ?_) (fun b3 => ?_)
  · replace h := (if_neg b3).symm.trans h
    refine V_iconst X 0 dX12_power_13 (by decide) ?_
    obtain rfl := pr1 h
    exact hk
  · replace h := (if_pos b3).symm.trans h
    refine V_iconst X 1 dX12_power_9 (by decide) ?_
    refine V_goto X (tgt := 14) dX12_power_10 (by decide) ?_
    obtain rfl := pr1 h
    exact hk

def f_X12_spoil (a1 : Int32) (a2 : Int32) (a3 : Int32) (μ : ZMem) : Option (Int32 × ZMem) := bd (f_X12_isNode a1 μ) (fun (x2 : Int32) => bd (α := Int32) (if x2 = 0 then some 1 else bd (f_X12_isIn a2 0 3) (fun (x6 : Int32) => jk (some 2) (fun k8 => if x6 = 0 then k8 else jk (some 0) (fun k10 => jk (bd (f_X12_isIn a3 0 99) (fun (x14 : Int32) => if x14 = 0 then k8 else k10)) (fun k11 => if a2 = 1 then k11 else if a2 = 3 then k11 else k10))))) (fun (x4 : Int32) => zlt (mset μ (0, 32, 0) 0 x4) (fun (μ16 : ZMem) => if (μ16 (0, 32, 0) 0) ≤ 0 then bd2 (f_X12_sets ((9 + (11 * a1)) + 9) a2 μ16) (fun (x19 : Int32) (μ20 : ZMem) => bd (α := Int32) (jk (some a3) (fun k23 => if a2 = 1 then k23 else if a2 = 3 then k23 else some 0)) (fun (x22 : Int32) => bd (f_X12_lays a1 10 x22 μ20) (fun (μ26 : ZMem) => some (x19, μ26)))) else some (0, μ16))))
set_option maxRecDepth 100000 in
set_option maxHeartbeats 4000000 in
theorem M_X12_spoil {l : Launch} {D : va_G} {y : ZLay} {a1 : Int32} {a2 : Int32} {a3 : Int32}  {μ : ZMem} {r : Int32} {μ0 : ZMem} (h : f_X12_spoil a1 a2 a3 μ = some (r, μ0)) : MI l yX12_spoil wb_X12_spoil rm_X12_spoil D y [.ref (zad y (0, 32, 0)), .int a1, .int a2, .int a3] μ r μ0 := by
  unfold f_X12_spoil at h
  refine MI_of RX12 [(0, .ref (zad y (0, 32, 0))), (1, .int a1), (2, .int a2), (3, .int a3)] (by decide) rfl rfl (Nat.le_of_ble_eq_true rfl) rfl ?_
  intro p e s m args below meth c A X
  refine V_aload_n X 0 dX12_spoil_0 rfl rfl ?_
  refine V_aload_n X 0 dX12_spoil_1 rfl rfl ?_
  refine V_iload_n X 1 dX12_spoil_2 rfl rfl ?_
  obtain ⟨x2, c1, h⟩ := bd_some h
  refine V_callVi X (As := [.int a1]) (M_X12_isNode c1) (cwV 1 X.2.2.2.2.2.2.1 (gV wm_RX12_347 wi_X12_isNode wse_X12_isNode win_RX12 wc_X12_isNode) rfl rfl rfl hd_X12_isNode ⟨Nat.le_of_ble_eq_true rfl, Nat.le_of_ble_eq_true rfl⟩) (b := (0, 32, 0)) ⟨by decide, rfl⟩ rfl rfl rfl rfl (Nat.le_of_ble_eq_true rfl) dX12_spoil_3 rfl ?_
  obtain ⟨x4, h1, h⟩ := bd_some h
  have hk : V X μ 47 [(0, .ref (zad y (0, 32, 0))), (1, .int a1), (2, .int a2), (3, .int a3)] [.int x4, .ref (zad y (0, 32, 0))] := by
    clear h1
    refine V_puti X tyX12 .int (o := (0, 32, 0)) (ci := 12) (k := 0) (N := 30) (T := TX12) (C := RX12) ⟨by decide, rfl⟩ rfl rfl rfl (by decide) (mBa inB_X12) tyX12_ok nmX12 (mB wl_RX12_59) rfl rfl rfl rfl dX12_spoil_47 ?_
    refine zlt_el (P := fun (μ16 : ZMem) => V X μ16 50 [(0, .ref (zad y (0, 32, 0))), (1, .int a1), (2, .int a2), (3, .int a3)] []) h (fun μ16 h => ?_)
    refine V_aload_n X 0 dX12_spoil_50 rfl rfl ?_
    refine V_geti X (o := (0, 32, 0)) (ci := 12) (k := 0) (N := 30) (T := TX12) (C := RX12) ⟨by decide, rfl⟩ rfl rfl rfl (by decide) (mBa inB_X12) (mB wl_RX12_59) dX12_spoil_51 ?_
    refine V_if_le X (tgt := 59) dX12_spoil_54 (by decide) (fun b17 => ?_) (fun b17 => ?_)
    · replace h := (if_pos b17).symm.trans h
      refine V_aload_n X 0 dX12_spoil_59 rfl rfl ?_
      refine V_bipush X 9 dX12_spoil_60 (by decide) ?_
      refine V_bipush X 11 dX12_spoil_62 (by decide) ?_
      refine V_iload_n X 1 dX12_spoil_64 rfl rfl ?_
      refine V_imul X dX12_spoil_65 ?_
      refine V_iadd X dX12_spoil_66 ?_
      refine V_bipush X 9 dX12_spoil_67 (by decide) ?_
      refine V_iadd X dX12_spoil_69 ?_
      refine V_iload_n X 2 dX12_spoil_70 rfl rfl ?_
      obtain ⟨x19, μ20, c18, h⟩ := bd2_some h
      refine V_callVi X (As := [.int ((9 + (11 * a1)) + 9), .int a2]) (M_X12_sets c18) (cwV 2 X.2.2.2.2.2.2.1 (gV wm_RX12_368 wi_X12_sets wse_X12_sets win_RX12 wc_X12_sets) rfl rfl rfl hd_X12_sets ⟨Nat.le_of_ble_eq_true rfl, Nat.le_of_ble_eq_true rfl⟩) (b := (0, 32, 0)) ⟨by decide, rfl⟩ rfl rfl rfl rfl (Nat.le_of_ble_eq_true rfl) dX12_spoil_71 rfl ?_
      refine V_istore X [(4, .int x19), (0, .ref (zad y (0, 32, 0))), (1, .int a1), (2, .int a2), (3, .int a3)] dX12_spoil_74 (by decide) rfl ?_
      refine V_aload_n X 1 dX12_spoil_76 rfl rfl ?_
      refine V_iload_n X 2 dX12_spoil_77 rfl rfl ?_
      refine V_bipush X 10 dX12_spoil_78 (by decide) ?_
      refine V_iload_n X 3 dX12_spoil_80 rfl rfl ?_
      refine V_iconst X 1 dX12_spoil_81 (by decide) ?_
      obtain ⟨x22, h1, h⟩ := bd_some h
      have hk : V X μ20 95 [(4, .int x19)] [.int x22, .int 10, .int a1, .ref (zad y (0, 32, 0))] := by
        clear h1
        obtain ⟨μ26, c25, h⟩ := bd_some h
        refine V_callVv X (As := [.int a1, .int 10, .int x22]) (M_X12_lays c25) (cwV 3 X.2.2.2.2.2.2.1 (gV wm_RX12_146 wi_X12_lays wse_X12_lays win_RX12 wc_X12_lays) rfl rfl rfl hd_X12_lays ⟨Nat.le_of_ble_eq_true rfl, Nat.le_of_ble_eq_true rfl⟩) (b := (0, 32, 0)) ⟨by decide, rfl⟩ rfl rfl rfl rfl (Nat.le_of_ble_eq_true rfl) dX12_spoil_95 rfl ?_
        refine V_iload X 0 dX12_spoil_98 rfl ?_
        exact V_iretW X h dX12_spoil_100
      replace h := h1
      clear h1
      refine jk0_el (P := V X μ20 90 [(3, .int a3), (4, .int x19)] [.int 10, .int a1, .ref (zad y (0, 32, 0))]) h (fun h => ?_) (fun k23 hk23 h => ?_)
      · refine V_iload_n X 0 dX12_spoil_90 rfl rfl ?_
        refine V_goto X (tgt := 95) dX12_spoil_91 (by decide) ?_
        refine V_sub X [1] (lv' := [(4, .int x19)]) rfl ?_
        obtain rfl := so1 h
        exact hk
      · refine V_icmp_eq X (tgt := 90) dX12_spoil_82 (by decide) (fun b21 => ?_) (fun b21 => ?_)
        · replace h := (if_pos b21).symm.trans h
          refine V_sub X [4, 0] (lv' := [(3, .int a3), (4, .int x19)]) rfl ?_
          exact hk23 h
        · replace h := (if_neg b21).symm.trans h
          refine V_iload_n X 3 dX12_spoil_85 rfl rfl ?_
          refine V_iconst X 3 dX12_spoil_86 (by decide) ?_
          refine V_icmp_ne X (tgt := 94) dX12_spoil_87 (by decide) (fun b24 => ?_) (fun b24 => ?_)
          · replace h := (if_neg b24).symm.trans h
            refine V_iconst X 0 dX12_spoil_94 (by decide) ?_
            refine V_sub X [0] (lv' := [(4, .int x19)]) rfl ?_
            obtain rfl := so1 h
            exact hk
          · replace h := (if_pos b24).symm.trans h
            refine V_sub X [4, 0] (lv' := [(3, .int a3), (4, .int x19)]) rfl ?_
            exact hk23 h
    · replace h := (if_neg b17).symm.trans h
      refine V_iconst X 0 dX12_spoil_57 (by decide) ?_
      exact V_iretW X h dX12_spoil_58
  replace h := h1
  clear h1
  refine V_if_ne X (tgt := 13) dX12_spoil_6 (by decide) (fun b3 => ?_) (fun b3 => ?_)
  · replace h := (if_neg b3).symm.trans h
    refine V_iload_n X 2 dX12_spoil_13 rfl rfl ?_
    refine V_iconst X 0 dX12_spoil_14 (by decide) ?_
    refine V_iconst X 3 dX12_spoil_15 (by decide) ?_
    obtain ⟨x6, c5, h⟩ := bd_some h
    refine V_callSi X (As := [.int a2, .int 0, .int 3]) (M_X12_isIn c5) (va_cwS 3 X.2.2.2.2.2.2.1 (gS wm_RX12_62 wst_X12_isIn win_RX12 wc_X12_isIn) rfl rfl rfl hd_X12_isIn.2 ⟨Nat.le_of_ble_eq_true rfl, Nat.le_of_ble_eq_true rfl⟩) rfl (Nat.le_of_ble_eq_true rfl) dX12_spoil_16 rfl ?_
    refine jk0_el (P := V X μ 42 [(0, .ref (zad y (0, 32, 0))), (1, .int a1), (2, .int a2), (3, .int a3)] [.ref (zad y (0, 32, 0))]) h (fun h => ?_) (fun k8 hk8 h => ?_)
    · refine V_iconst X 2 dX12_spoil_42 (by decide) ?_
      refine V_goto X (tgt := 47) dX12_spoil_43 (by decide) ?_
      obtain rfl := so1 h
      exact hk
    · refine V_if_eq X (tgt := 42) dX12_spoil_19 (by decide) (fun b7 => ?_) (fun b7 => ?_)
      · replace h := (if_pos b7).symm.trans h
        exact hk8 h
      · replace h := (if_neg b7).symm.trans h
        refine V_iload_n X 2 dX12_spoil_22 rfl rfl ?_
        refine V_iconst X 1 dX12_spoil_23 (by decide) ?_
        refine jk0_el (P := V X μ 46 [(0, .ref (zad y (0, 32, 0))), (1, .int a1), (2, .int a2), (3, .int a3)] [.ref (zad y (0, 32, 0))]) h (fun h => ?_) (fun k10 hk10 h => ?_)
        · refine V_iconst X 0 dX12_spoil_46 (by decide) ?_
          obtain rfl := so1 h
          exact hk
        · refine jk0_el (P := V X μ 32 [(0, .ref (zad y (0, 32, 0))), (1, .int a1), (2, .int a2), (3, .int a3)] [.ref (zad y (0, 32, 0))]) h (fun h => ?_) (fun k11 hk11 h => ?_)
          · refine V_iload_n X 3 dX12_spoil_32 rfl rfl ?_
            refine V_iconst X 0 dX12_spoil_33 (by decide) ?_
            refine V_bipush X 99 dX12_spoil_34 (by decide) ?_
            obtain ⟨x14, c13, h⟩ := bd_some h
            refine V_callSi X (As := [.int a3, .int 0, .int 99]) (M_X12_isIn c13) (va_cwS 3 X.2.2.2.2.2.2.1 (gS wm_RX12_62 wst_X12_isIn win_RX12 wc_X12_isIn) rfl rfl rfl hd_X12_isIn.2 ⟨Nat.le_of_ble_eq_true rfl, Nat.le_of_ble_eq_true rfl⟩) rfl (Nat.le_of_ble_eq_true rfl) dX12_spoil_36 rfl ?_
            refine V_if_ne X (tgt := 46) dX12_spoil_39 (by decide) (fun b15 => ?_) (fun b15 => ?_)
            · replace h := (if_neg b15).symm.trans h
              exact hk10 h
            · replace h := (if_pos b15).symm.trans h
              exact hk8 h
          · refine V_icmp_eq X (tgt := 32) dX12_spoil_24 (by decide) (fun b9 => ?_) (fun b9 => ?_)
            · replace h := (if_pos b9).symm.trans h
              exact hk11 h
            · replace h := (if_neg b9).symm.trans h
              refine V_iload_n X 2 dX12_spoil_27 rfl rfl ?_
              refine V_iconst X 3 dX12_spoil_28 (by decide) ?_
              refine V_icmp_ne X (tgt := 46) dX12_spoil_29 (by decide) (fun b12 => ?_) (fun b12 => ?_)
              · replace h := (if_neg b12).symm.trans h
                exact hk10 h
              · replace h := (if_pos b12).symm.trans h
                exact hk11 h
  · replace h := (if_pos b3).symm.trans h
    refine V_iconst X 1 dX12_spoil_9 (by decide) ?_
    refine V_goto X (tgt := 47) dX12_spoil_10 (by decide) ?_
    obtain rfl := so1 h
    exact hk

def f_X12_set (a1 : Int32) (a2 : Int32) (μ : ZMem) : Option (Int32 × ZMem) := bd (f_X12_isNode a1 μ) (fun (x2 : Int32) => bd (α := Int32) (if x2 = 0 then some 1 else bd (f_X12_isIn a2 (-999) 999) (fun (x6 : Int32) => if x6 = 0 then some 2 else some 0)) (fun (x4 : Int32) => zlt (mset μ (0, 32, 0) 0 x4) (fun (μ8 : ZMem) => bd2 (α := Int32) (β := ZMem) (if (μ8 (0, 32, 0) 0) ≤ 0 then bd2 (f_X12_sets ((9 + (11 * a1)) + 0) a2 μ8) (fun (x13 : Int32) (μ14 : ZMem) => some (x13, μ14)) else some (0, μ8)) (fun (x10 : Int32) (μ11 : ZMem) => some (x10, μ11)))))
set_option maxRecDepth 100000 in
set_option maxHeartbeats 4000000 in
theorem M_X12_set {l : Launch} {D : va_G} {y : ZLay} {a1 : Int32} {a2 : Int32}  {μ : ZMem} {r : Int32} {μ0 : ZMem} (h : f_X12_set a1 a2 μ = some (r, μ0)) : MI l yX12_set wb_X12_set rm_X12_set D y [.ref (zad y (0, 32, 0)), .int a1, .int a2] μ r μ0 := by
  unfold f_X12_set at h
  refine MI_of RX12 [(0, .ref (zad y (0, 32, 0))), (1, .int a1), (2, .int a2)] (by decide) rfl rfl (Nat.le_of_ble_eq_true rfl) rfl ?_
  intro p e s m args below meth c A X
  refine V_aload_n X 0 dX12_set_0 rfl rfl ?_
  refine V_aload_n X 0 dX12_set_1 rfl rfl ?_
  refine V_iload_n X 1 dX12_set_2 rfl rfl ?_
  obtain ⟨x2, c1, h⟩ := bd_some h
  refine V_callVi X (As := [.int a1]) (M_X12_isNode c1) (cwV 1 X.2.2.2.2.2.2.1 (gV wm_RX12_347 wi_X12_isNode wse_X12_isNode win_RX12 wc_X12_isNode) rfl rfl rfl hd_X12_isNode ⟨Nat.le_of_ble_eq_true rfl, Nat.le_of_ble_eq_true rfl⟩) (b := (0, 32, 0)) ⟨by decide, rfl⟩ rfl rfl rfl rfl (Nat.le_of_ble_eq_true rfl) dX12_set_3 rfl ?_
  obtain ⟨x4, h1, h⟩ := bd_some h
  have hk : V X μ 31 [(0, .ref (zad y (0, 32, 0))), (1, .int a1), (2, .int a2)] [.int x4, .ref (zad y (0, 32, 0))] := by
    clear h1
    refine V_puti X tyX12 .int (o := (0, 32, 0)) (ci := 12) (k := 0) (N := 30) (T := TX12) (C := RX12) ⟨by decide, rfl⟩ rfl rfl rfl (by decide) (mBa inB_X12) tyX12_ok nmX12 (mB wl_RX12_59) rfl rfl rfl rfl dX12_set_31 ?_
    refine zlt_el (P := fun (μ8 : ZMem) => V X μ8 34 [(0, .ref (zad y (0, 32, 0))), (1, .int a1), (2, .int a2)] []) h (fun μ8 h => ?_)
    refine V_aload_n X 0 dX12_set_34 rfl rfl ?_
    refine V_geti X (o := (0, 32, 0)) (ci := 12) (k := 0) (N := 30) (T := TX12) (C := RX12) ⟨by decide, rfl⟩ rfl rfl rfl (by decide) (mBa inB_X12) (mB wl_RX12_59) dX12_set_35 ?_
    obtain ⟨x10, μ11, h1, h⟩ := bd2_some h
    have hk : V X μ11 59 [] [.int x10] := by
      clear h1
      exact V_iretW X h dX12_set_59
    replace h := h1
    clear h1
    refine V_if_le X (tgt := 45) dX12_set_38 (by decide) (fun b9 => ?_) (fun b9 => ?_)
    · replace h := (if_pos b9).symm.trans h
      refine V_aload_n X 0 dX12_set_45 rfl rfl ?_
      refine V_bipush X 9 dX12_set_46 (by decide) ?_
      refine V_bipush X 11 dX12_set_48 (by decide) ?_
      refine V_iload_n X 1 dX12_set_50 rfl rfl ?_
      refine V_imul X dX12_set_51 ?_
      refine V_iadd X dX12_set_52 ?_
      refine V_iconst X 0 dX12_set_53 (by decide) ?_
      refine V_iadd X dX12_set_54 ?_
      refine V_iload_n X 2 dX12_set_55 rfl rfl ?_
      obtain ⟨x13, μ14, c12, h⟩ := bd2_some h
      refine V_callVi X (As := [.int ((9 + (11 * a1)) + 0), .int a2]) (M_X12_sets c12) (cwV 2 X.2.2.2.2.2.2.1 (gV wm_RX12_368 wi_X12_sets wse_X12_sets win_RX12 wc_X12_sets) rfl rfl rfl hd_X12_sets ⟨Nat.le_of_ble_eq_true rfl, Nat.le_of_ble_eq_true rfl⟩) (b := (0, 32, 0)) ⟨by decide, rfl⟩ rfl rfl rfl rfl (Nat.le_of_ble_eq_true rfl) dX12_set_56 rfl ?_
      refine V_sub X [] (lv' := []) rfl ?_
      obtain ⟨rfl, rfl⟩ := so2 h
      exact hk
    · replace h := (if_neg b9).symm.trans h
      refine V_iconst X 0 dX12_set_41 (by decide) ?_
      refine V_goto X (tgt := 59) dX12_set_42 (by decide) ?_
      refine V_sub X [] (lv' := []) rfl ?_
      obtain ⟨rfl, rfl⟩ := so2 h
      exact hk
  replace h := h1
  clear h1
  refine V_if_ne X (tgt := 13) dX12_set_6 (by decide) (fun b3 => ?_) (fun b3 => ?_)
  · replace h := (if_neg b3).symm.trans h
    refine V_iload_n X 2 dX12_set_13 rfl rfl ?_
    refine V_sipush X (-999) dX12_set_14 (by decide) ?_
    refine V_sipush X 999 dX12_set_17 (by decide) ?_
    obtain ⟨x6, c5, h⟩ := bd_some h
    refine V_callSi X (As := [.int a2, .int (-999), .int 999]) (M_X12_isIn c5) (va_cwS 3 X.2.2.2.2.2.2.1 (gS wm_RX12_62 wst_X12_isIn win_RX12 wc_X12_isIn) rfl rfl rfl hd_X12_isIn.2 ⟨Nat.le_of_ble_eq_true rfl, Nat.le_of_ble_eq_true rfl⟩) rfl (Nat.le_of_ble_eq_true rfl) dX12_set_20 rfl ?_
    refine V_if_ne X (tgt := 30) dX12_set_23 (by decide) (fun b7 => ?_) (fun b7 => ?_)
    · replace h := (if_neg b7).symm.trans h
      refine V_iconst X 0 dX12_set_30 (by decide) ?_
      obtain rfl := so1 h
      exact hk
    · replace h := (if_pos b7).symm.trans h
      refine V_iconst X 2 dX12_set_26 (by decide) ?_
      refine V_goto X (tgt := 31) dX12_set_27 (by decide) ?_
      obtain rfl := so1 h
      exact hk
  · replace h := (if_pos b3).symm.trans h
    refine V_iconst X 1 dX12_set_9 (by decide) ?_
    refine V_goto X (tgt := 31) dX12_set_10 (by decide) ?_
    obtain rfl := so1 h
    exact hk

def f_X12_tune (a1 : Int32) (a2 : Int32) (μ : ZMem) : Option (Int32 × ZMem) := bd (f_X12_isIn a2 1 999) (fun (x2 : Int32) => zlt (α := Int32) (if x2 = 0 then 1 else 0) (fun (x4 : Int32) => zlt (mset μ (0, 32, 0) 0 x4) (fun (μ5 : ZMem) => bd2 (α := Int32) (β := ZMem) (if (μ5 (0, 32, 0) 0) ≤ 0 then zlt (α := Int32) (if a1 = 0 then 4 else 5) (fun (x10 : Int32) => bd2 (f_X12_sets x10 a2 μ5) (fun (x12 : Int32) (μ13 : ZMem) => some (x12, μ13))) else some (0, μ5)) (fun (x7 : Int32) (μ8 : ZMem) => some (x7, μ8)))))
set_option maxRecDepth 100000 in
set_option maxHeartbeats 4000000 in
theorem M_X12_tune {l : Launch} {D : va_G} {y : ZLay} {a1 : Int32} {a2 : Int32}  {μ : ZMem} {r : Int32} {μ0 : ZMem} (h : f_X12_tune a1 a2 μ = some (r, μ0)) : MI l yX12_tune wb_X12_tune rm_X12_tune D y [.ref (zad y (0, 32, 0)), .int a1, .int a2] μ r μ0 := by
  unfold f_X12_tune at h
  refine MI_of RX12 [(0, .ref (zad y (0, 32, 0))), (1, .int a1), (2, .int a2)] (by decide) rfl rfl (Nat.le_of_ble_eq_true rfl) rfl ?_
  intro p e s m args below meth c A X
  refine V_aload_n X 0 dX12_tune_0 rfl rfl ?_
  refine V_iload_n X 2 dX12_tune_1 rfl rfl ?_
  refine V_iconst X 1 dX12_tune_2 (by decide) ?_
  refine V_sipush X 999 dX12_tune_3 (by decide) ?_
  obtain ⟨x2, c1, h⟩ := bd_some h
  refine V_callSi X (As := [.int a2, .int 1, .int 999]) (M_X12_isIn c1) (va_cwS 3 X.2.2.2.2.2.2.1 (gS wm_RX12_62 wst_X12_isIn win_RX12 wc_X12_isIn) rfl rfl rfl hd_X12_isIn.2 ⟨Nat.le_of_ble_eq_true rfl, Nat.le_of_ble_eq_true rfl⟩) rfl (Nat.le_of_ble_eq_true rfl) dX12_tune_6 rfl ?_
  obtain ⟨x4, h1, h⟩ := zl1_some h
  have hk : V X μ 17 [(0, .ref (zad y (0, 32, 0))), (1, .int a1), (2, .int a2)] [.int x4, .ref (zad y (0, 32, 0))] := by
    clear h1
    refine V_puti X tyX12 .int (o := (0, 32, 0)) (ci := 12) (k := 0) (N := 30) (T := TX12) (C := RX12) ⟨by decide, rfl⟩ rfl rfl rfl (by decide) (mBa inB_X12) tyX12_ok nmX12 (mB wl_RX12_59) rfl rfl rfl rfl dX12_tune_17 ?_
    refine zlt_el (P := fun (μ5 : ZMem) => V X μ5 20 [(0, .ref (zad y (0, 32, 0))), (1, .int a1), (2, .int a2)] []) h (fun μ5 h => ?_)
    refine V_aload_n X 0 dX12_tune_20 rfl rfl ?_
    refine V_geti X (o := (0, 32, 0)) (ci := 12) (k := 0) (N := 30) (T := TX12) (C := RX12) ⟨by decide, rfl⟩ rfl rfl rfl (by decide) (mBa inB_X12) (mB wl_RX12_59) dX12_tune_21 ?_
    obtain ⟨x7, μ8, h1, h⟩ := bd2_some h
    have hk : V X μ8 45 [] [.int x7] := by
      clear h1
      exact V_iretW X h dX12_tune_45
    replace h := h1
    clear h1
    refine V_if_le X (tgt := 31) dX12_tune_24 (by decide) (fun b6 => ?_) (fun b6 => ?_)
    · replace h := (if_pos b6).symm.trans h
      refine V_aload_n X 0 dX12_tune_31 rfl rfl ?_
      refine V_iload_n X 1 dX12_tune_32 rfl rfl ?_
      obtain ⟨x10, h1, h⟩ := zl1_some h
      have hk : V X μ5 41 [(2, .int a2)] [.int x10, .ref (zad y (0, 32, 0))] := by
        clear h1
        refine V_iload_n X 0 dX12_tune_41 rfl rfl ?_
        obtain ⟨x12, μ13, c11, h⟩ := bd2_some h
        refine V_callVi X (As := [.int x10, .int a2]) (M_X12_sets c11) (cwV 2 X.2.2.2.2.2.2.1 (gV wm_RX12_368 wi_X12_sets wse_X12_sets win_RX12 wc_X12_sets) rfl rfl rfl hd_X12_sets ⟨Nat.le_of_ble_eq_true rfl, Nat.le_of_ble_eq_true rfl⟩) (b := (0, 32, 0)) ⟨by decide, rfl⟩ rfl rfl rfl rfl (Nat.le_of_ble_eq_true rfl) dX12_tune_42 rfl ?_
        refine V_sub X [] (lv' := []) rfl ?_
        obtain ⟨rfl, rfl⟩ := so2 h
        exact hk
      replace h := h1
      clear h1
      refine V_if_eq X (tgt := 40) dX12_tune_33 (by decide) (fun b9 => ?_) (fun b9 => ?_)
      · replace h := (if_pos b9).symm.trans h
        refine V_iconst X 4 dX12_tune_40 (by decide) ?_
        refine V_sub X [2] (lv' := [(2, .int a2)]) rfl ?_
        obtain rfl := pr1 h
        exact hk
      · replace h := (if_neg b9).symm.trans h
        refine V_iconst X 5 dX12_tune_36 (by decide) ?_
        refine V_goto X (tgt := 41) dX12_tune_37 (by decide) ?_
        refine V_sub X [2] (lv' := [(2, .int a2)]) rfl ?_
        obtain rfl := pr1 h
        exact hk
    · replace h := (if_neg b6).symm.trans h
      refine V_iconst X 0 dX12_tune_27 (by decide) ?_
      refine V_goto X (tgt := 45) dX12_tune_28 (by decide) ?_
      refine V_sub X [] (lv' := []) rfl ?_
      obtain ⟨rfl, rfl⟩ := so2 h
      exact hk
  replace h := h1
  clear h1
  refine V_if_ne X (tgt := 16) dX12_tune_9 (by decide) (fun b3 => ?_) (fun b3 => ?_)
  · replace h := (if_neg b3).symm.trans h
    refine V_iconst X 0 dX12_tune_16 (by decide) ?_
    obtain rfl := pr1 h
    exact hk
  · replace h := (if_pos b3).symm.trans h
    refine V_iconst X 1 dX12_tune_12 (by decide) ?_
    refine V_goto X (tgt := 17) dX12_tune_13 (by decide) ?_
    obtain rfl := pr1 h
    exact hk

def f_X12_mid (μ : ZMem) : Option (Int32 × ZMem) := zlt (μ (0, 32, 0) 8) (fun (x1 : Int32) => zlt (mset μ (0, 32, 0) 8 0) (fun (μ2 : ZMem) => zlt (α := Int32) (if x1 ≤ 20 then 0 else 1) (fun (x4 : Int32) => zlt (mset μ2 (0, 32, 0) 0 x4) (fun (μ5 : ZMem) => if (μ5 (0, 32, 0) 0) ≤ 0 then bd (lp (σ := Int32 × ZMem) (fun q => un2 q (fun (x7 : Int32) (μ8 : ZMem) => if x1 ≤ x7 then some (.inr μ8) else gd (zin x7 400) (gd (zin x7 21) (zlt (mset μ8 (0, 42, 0) x7.toNatClampNeg ((μ8 (0, 37, 0) x7.toNatClampNeg) - 128)) (fun (μ13 : ZMem) => some (.inl ((x7 + 1), μ13))))))) FU (0, μ5)) (fun (μ9 : ZMem) => bd2 (f_X12_middle x1 μ9) (fun (x15 : Int32) (μ16 : ZMem) => some (x15, μ16))) else some (0, μ5)))))
set_option maxRecDepth 100000 in
set_option maxHeartbeats 4000000 in
theorem M_X12_mid {l : Launch} {D : va_G} {y : ZLay}   {μ : ZMem} {r : Int32} {μ0 : ZMem} (h : f_X12_mid μ = some (r, μ0)) : MI l yX12_mid wb_X12_mid rm_X12_mid D y [.ref (zad y (0, 32, 0))] μ r μ0 := by
  unfold f_X12_mid at h
  refine MI_of RX12 [(0, .ref (zad y (0, 32, 0)))] (by decide) rfl rfl (Nat.le_of_ble_eq_true rfl) rfl ?_
  intro p e s m args below meth c A X
  refine V_aload_n X 0 dX12_mid_0 rfl rfl ?_
  refine V_geti X (o := (0, 32, 0)) (ci := 12) (k := 8) (N := 30) (T := TX12) (C := RX12) ⟨by decide, rfl⟩ rfl rfl rfl (by decide) (mBa inB_X12) (mB wl_RX12_76) dX12_mid_1 ?_
  refine V_istore_n X [(1, .int (μ (0, 32, 0) 8)), (0, .ref (zad y (0, 32, 0)))] dX12_mid_4 rfl (by decide) rfl ?_
  refine zlt_el (P := fun (x1 : Int32) => V X μ 5 [(1, .int x1), (0, .ref (zad y (0, 32, 0)))] []) h (fun x1 h => ?_)
  refine V_aload_n X 1 dX12_mid_5 rfl rfl ?_
  refine V_iconst X 0 dX12_mid_6 (by decide) ?_
  refine V_puti X tyX12 .int (o := (0, 32, 0)) (ci := 12) (k := 8) (N := 30) (T := TX12) (C := RX12) ⟨by decide, rfl⟩ rfl rfl rfl (by decide) (mBa inB_X12) tyX12_ok nmX12 (mB wl_RX12_76) rfl rfl rfl rfl dX12_mid_7 ?_
  refine zlt_el (P := fun (μ2 : ZMem) => V X μ2 10 [(1, .int x1), (0, .ref (zad y (0, 32, 0)))] []) h (fun μ2 h => ?_)
  refine V_aload_n X 1 dX12_mid_10 rfl rfl ?_
  refine V_iload_n X 0 dX12_mid_11 rfl rfl ?_
  refine V_bipush X 20 dX12_mid_12 (by decide) ?_
  obtain ⟨x4, h1, h⟩ := zl1_some h
  have hk : V X μ2 22 [(0, .ref (zad y (0, 32, 0))), (1, .int x1)] [.int x4, .ref (zad y (0, 32, 0))] := by
    clear h1
    refine V_puti X tyX12 .int (o := (0, 32, 0)) (ci := 12) (k := 0) (N := 30) (T := TX12) (C := RX12) ⟨by decide, rfl⟩ rfl rfl rfl (by decide) (mBa inB_X12) tyX12_ok nmX12 (mB wl_RX12_59) rfl rfl rfl rfl dX12_mid_22 ?_
    refine zlt_el (P := fun (μ5 : ZMem) => V X μ5 25 [(0, .ref (zad y (0, 32, 0))), (1, .int x1)] []) h (fun μ5 h => ?_)
    refine V_aload_n X 0 dX12_mid_25 rfl rfl ?_
    refine V_geti X (o := (0, 32, 0)) (ci := 12) (k := 0) (N := 30) (T := TX12) (C := RX12) ⟨by decide, rfl⟩ rfl rfl rfl (by decide) (mBa inB_X12) (mB wl_RX12_59) dX12_mid_26 ?_
    refine V_if_le X (tgt := 34) dX12_mid_29 (by decide) (fun b6 => ?_) (fun b6 => ?_)
    · replace h := (if_pos b6).symm.trans h
      refine V_iconst X 0 dX12_mid_34 (by decide) ?_
      refine V_istore_n X [(2, .int 0), (0, .ref (zad y (0, 32, 0))), (1, .int x1)] dX12_mid_35 rfl (by decide) rfl ?_
      refine V_sub X [1, 2, 0] (lv' := [(0, .ref (zad y (0, 32, 0))), (1, .int x1), (2, .int 0)]) rfl ?_
      obtain ⟨μ9, hl, h⟩ := bd_some h
      have hk : V X μ9 63 [(0, .ref (zad y (0, 32, 0))), (1, .int x1)] [] := by
        clear hl
        refine V_aload_n X 0 dX12_mid_63 rfl rfl ?_
        refine V_iload_n X 1 dX12_mid_64 rfl rfl ?_
        obtain ⟨x15, μ16, c14, h⟩ := bd2_some h
        refine V_callVi X (As := [.int x1]) (M_X12_middle c14) (cwV 1 X.2.2.2.2.2.2.1 (gV wm_RX12_278 wi_X12_middle wse_X12_middle win_RX12 wc_X12_middle) rfl rfl rfl hd_X12_middle ⟨Nat.le_of_ble_eq_true rfl, Nat.le_of_ble_eq_true rfl⟩) (b := (0, 32, 0)) ⟨by decide, rfl⟩ rfl rfl rfl rfl (Nat.le_of_ble_eq_true rfl) dX12_mid_65 rfl ?_
        exact V_iretW X h dX12_mid_68
      refine lp_ind (P := fun q => V X q.2 36 [(0, .ref (zad y (0, 32, 0))), (1, .int x1), (2, .int q.1)] []) (fun q z h hz => ?_) hl
      obtain ⟨x7, μ8⟩ := q
      replace h := un2_eq h
      show V X μ8 36 [(0, .ref (zad y (0, 32, 0))), (1, .int x1), (2, .int x7)] []
      refine V_iload_n X 2 dX12_mid_36 rfl rfl ?_
      refine V_iload_n X 1 dX12_mid_37 rfl rfl ?_
      refine V_icmp_ge X (tgt := 63) dX12_mid_38 (by decide) (fun b10 => ?_) (fun b10 => ?_)
      · replace h := (if_pos b10).symm.trans h
        refine V_sub X [0, 1] (lv' := [(0, .ref (zad y (0, 32, 0))), (1, .int x1)]) rfl ?_
        cases h
        obtain rfl := pr1 hz
        exact hk
      · replace h := (if_neg b10).symm.trans h
        refine V_aload_n X 0 dX12_mid_41 rfl rfl ?_
        refine V_getr X (o := (0, 32, 0)) (i := (0, 42, 0)) (ci := 12) (k := 22) (N := 30) (T := TX12) (C := RX12) ⟨by decide, rfl⟩ rfl rfl rfl (by decide) (mBa inB_X12) (mB wl_RX12_41) dX12_mid_42 ?_
        refine V_iload_n X 2 dX12_mid_45 rfl rfl ?_
        refine V_aload_n X 0 dX12_mid_46 rfl rfl ?_
        refine V_getr X (o := (0, 32, 0)) (i := (0, 37, 0)) (ci := 12) (k := 7) (N := 30) (T := TX12) (C := RX12) ⟨by decide, rfl⟩ rfl rfl rfl (by decide) (mBa inB_X12) (mB wl_RX12_22) dX12_mid_47 ?_
        refine V_iload_n X 2 dX12_mid_50 rfl rfl ?_
        obtain ⟨g11, h⟩ := gd_some h
        refine V_iald X x7.toNatClampNeg rfl (o := (0, 37, 0)) (n := 400) ⟨by decide, rfl⟩ rfl rfl g11 dX12_mid_51 ?_
        refine V_sipush X 128 dX12_mid_52 (by decide) ?_
        refine V_isub X dX12_mid_55 ?_
        obtain ⟨g12, h⟩ := gd_some h
        refine V_iast X x7.toNatClampNeg rfl (o := (0, 42, 0)) (n := 21) ⟨by decide, rfl⟩ rfl rfl g12 dX12_mid_56 ?_
        refine zlt_el (P := fun (μ13 : ZMem) => V X μ13 57 [(0, .ref (zad y (0, 32, 0))), (1, .int x1), (2, .int x7)] []) h (fun μ13 h => ?_)
        refine V_inc X 2 1 [(2, .int (x7 + 1)), (0, .ref (zad y (0, 32, 0))), (1, .int x1)] dX12_mid_57 rfl (by decide) (by decide) rfl ?_
        refine V_goto X (tgt := 36) dX12_mid_60 (by decide) ?_
        refine V_sub X [1, 2, 0] (lv' := [(0, .ref (zad y (0, 32, 0))), (1, .int x1), (2, .int (x7 + 1))]) rfl ?_
        cases h
        exact hz
    · replace h := (if_neg b6).symm.trans h
      refine V_iconst X 0 dX12_mid_32 (by decide) ?_
      exact V_iretW X h dX12_mid_33
  replace h := h1
  clear h1
  refine V_icmp_le X (tgt := 21) dX12_mid_14 (by decide) (fun b3 => ?_) (fun b3 => ?_)
  · replace h := (if_pos b3).symm.trans h
    refine V_iconst X 0 dX12_mid_21 (by decide) ?_
    refine V_sub X [1, 0] (lv' := [(0, .ref (zad y (0, 32, 0))), (1, .int x1)]) rfl ?_
    obtain rfl := pr1 h
    exact hk
  · replace h := (if_neg b3).symm.trans h
    refine V_iconst X 1 dX12_mid_17 (by decide) ?_
    refine V_goto X (tgt := 22) dX12_mid_18 (by decide) ?_
    refine V_sub X [1, 0] (lv' := [(0, .ref (zad y (0, 32, 0))), (1, .int x1)]) rfl ?_
    obtain rfl := pr1 h
    exact hk

def f_X12_spread (μ : ZMem) : Option (Int32 × ZMem) := zlt (mset μ (0, 32, 0) 0 0) (fun (μ1 : ZMem) => bd (f_X12_spreadNow μ1) (fun (x3 : Int32) => some (x3, μ1)))
set_option maxRecDepth 100000 in
set_option maxHeartbeats 4000000 in
theorem M_X12_spread {l : Launch} {D : va_G} {y : ZLay}   {μ : ZMem} {r : Int32} {μ0 : ZMem} (h : f_X12_spread μ = some (r, μ0)) : MI l yX12_spread wb_X12_spread rm_X12_spread D y [.ref (zad y (0, 32, 0))] μ r μ0 := by
  unfold f_X12_spread at h
  refine MI_of RX12 [(0, .ref (zad y (0, 32, 0)))] (by decide) rfl rfl (Nat.le_of_ble_eq_true rfl) rfl ?_
  intro p e s m args below meth c A X
  refine V_aload_n X 0 dX12_spread_0 rfl rfl ?_
  refine V_iconst X 0 dX12_spread_1 (by decide) ?_
  refine V_puti X tyX12 .int (o := (0, 32, 0)) (ci := 12) (k := 0) (N := 30) (T := TX12) (C := RX12) ⟨by decide, rfl⟩ rfl rfl rfl (by decide) (mBa inB_X12) tyX12_ok nmX12 (mB wl_RX12_59) rfl rfl rfl rfl dX12_spread_2 ?_
  refine zlt_el (P := fun (μ1 : ZMem) => V X μ1 5 [(0, .ref (zad y (0, 32, 0)))] []) h (fun μ1 h => ?_)
  refine V_aload_n X 0 dX12_spread_5 rfl rfl ?_
  obtain ⟨x3, c2, h⟩ := bd_some h
  refine V_callVi X (As := []) (M_X12_spreadNow c2) (cwV 0 X.2.2.2.2.2.2.1 (gV wm_RX12_371 wi_X12_spreadNow wse_X12_spreadNow win_RX12 wc_X12_spreadNow) rfl rfl rfl hd_X12_spreadNow ⟨Nat.le_of_ble_eq_true rfl, Nat.le_of_ble_eq_true rfl⟩) (b := (0, 32, 0)) ⟨by decide, rfl⟩ rfl rfl rfl rfl (Nat.le_of_ble_eq_true rfl) dX12_spread_6 rfl ?_
  exact V_iretW X h dX12_spread_9

def f_X12_agreed (μ : ZMem) : Option (Int32 × ZMem) := zlt (mset μ (0, 32, 0) 0 0) (fun (μ1 : ZMem) => bd (lp (σ := Int32 × Int32) (fun q => un2 q (fun (x2 : Int32) (x3 : Int32) => if (μ1 (0, 33, 0) 3) ≤ x3 then some (.inr x2) else bd (lp (σ := Int32 × Int32) (fun q => un2 q (fun (x6 : Int32) (x7 : Int32) => if x3 ≤ x7 then some (.inr x6) else bd (α := Int32) (jk (some 0) (fun k12 => if x6 = 0 then k12 else bd (f_X12_isActive x3 μ1) (fun (x14 : Int32) => jk (some 1) (fun k16 => if x14 = 0 then k16 else bd (f_X12_isActive x7 μ1) (fun (x18 : Int32) => if x18 = 0 then k16 else bd (f_X12_of x3 5 μ1) (fun (x21 : Int32) => bd (f_X12_of x7 5 μ1) (fun (x23 : Int32) => if x21 = x23 then k16 else k12))))))) (fun (x11 : Int32) => some (.inl (x11, (x7 + 1)))))) FU (x2, 0)) (fun (x8 : Int32) => some (.inl (x8, (x3 + 1)))))) FU (1, 0)) (fun (x4 : Int32) => gd (zbo x4) (some (x4, μ1))))
set_option maxRecDepth 100000 in
set_option maxHeartbeats 4000000 in
theorem M_X12_agreed {l : Launch} {D : va_G} {y : ZLay}   {μ : ZMem} {r : Int32} {μ0 : ZMem} (h : f_X12_agreed μ = some (r, μ0)) : MI l yX12_agreed wb_X12_agreed rm_X12_agreed D y [.ref (zad y (0, 32, 0))] μ r μ0 := by
  unfold f_X12_agreed at h
  refine MI_of RX12 [(0, .ref (zad y (0, 32, 0)))] (by decide) rfl rfl (Nat.le_of_ble_eq_true rfl) rfl ?_
  intro p e s m args below meth c A X
  refine V_aload_n X 0 dX12_agreed_0 rfl rfl ?_
  refine V_iconst X 0 dX12_agreed_1 (by decide) ?_
  refine V_puti X tyX12 .int (o := (0, 32, 0)) (ci := 12) (k := 0) (N := 30) (T := TX12) (C := RX12) ⟨by decide, rfl⟩ rfl rfl rfl (by decide) (mBa inB_X12) tyX12_ok nmX12 (mB wl_RX12_59) rfl rfl rfl rfl dX12_agreed_2 ?_
  refine zlt_el (P := fun (μ1 : ZMem) => V X μ1 5 [(0, .ref (zad y (0, 32, 0)))] []) h (fun μ1 h => ?_)
  refine V_iconst X 1 dX12_agreed_5 (by decide) ?_
  refine V_istore_n X [(1, .int 1), (0, .ref (zad y (0, 32, 0)))] dX12_agreed_6 rfl (by decide) rfl ?_
  refine V_iconst X 0 dX12_agreed_7 (by decide) ?_
  refine V_istore_n X [(2, .int 0), (1, .int 1), (0, .ref (zad y (0, 32, 0)))] dX12_agreed_8 rfl (by decide) rfl ?_
  refine V_sub X [2, 1, 0] (lv' := [(0, .ref (zad y (0, 32, 0))), (1, .int 1), (2, .int 0)]) rfl ?_
  obtain ⟨x4, hl, h⟩ := bd_some h
  have hk : V X μ1 79 [(1, .int x4)] [] := by
    clear hl
    refine V_iload_n X 0 dX12_agreed_79 rfl rfl ?_
    obtain ⟨hzb, h⟩ := gd_some h
    exact V_zretW X h hzb dX12_agreed_80
  refine lp_ind (P := fun q => V X μ1 9 [(0, .ref (zad y (0, 32, 0))), (1, .int q.1), (2, .int q.2)] []) (fun q z h hz => ?_) hl
  obtain ⟨x2, x3⟩ := q
  replace h := un2_eq h
  show V X μ1 9 [(0, .ref (zad y (0, 32, 0))), (1, .int x2), (2, .int x3)] []
  refine V_iload_n X 2 dX12_agreed_9 rfl rfl ?_
  refine V_aload_n X 0 dX12_agreed_10 rfl rfl ?_
  refine V_getr X (o := (0, 32, 0)) (i := (0, 33, 0)) (ci := 12) (k := 1) (N := 30) (T := TX12) (C := RX12) ⟨by decide, rfl⟩ rfl rfl rfl (by decide) (mBa inB_X12) (mB wl_RX12_7) dX12_agreed_11 ?_
  refine V_iconst X 3 dX12_agreed_14 (by decide) ?_
  refine V_iald X 3 (by decide) (o := (0, 33, 0)) (n := 737) ⟨by decide, rfl⟩ rfl rfl (by decide) dX12_agreed_15 ?_
  refine V_icmp_ge X (tgt := 79) dX12_agreed_16 (by decide) (fun b5 => ?_) (fun b5 => ?_)
  · replace h := (if_pos b5).symm.trans h
    refine V_sub X [1] (lv' := [(1, .int x2)]) rfl ?_
    cases h
    obtain rfl := pr1 hz
    exact hk
  · replace h := (if_neg b5).symm.trans h
    refine V_iconst X 0 dX12_agreed_19 (by decide) ?_
    refine V_istore_n X [(3, .int 0), (0, .ref (zad y (0, 32, 0))), (1, .int x2), (2, .int x3)] dX12_agreed_20 rfl (by decide) rfl ?_
    refine V_sub X [1, 2, 3, 0] (lv' := [(0, .ref (zad y (0, 32, 0))), (1, .int x2), (2, .int x3), (3, .int 0)]) rfl ?_
    obtain ⟨x8, hl, h⟩ := bd_some h
    have hk : V X μ1 73 [(0, .ref (zad y (0, 32, 0))), (1, .int x8), (2, .int x3)] [] := by
      clear hl
      refine V_inc X 2 1 [(2, .int (x3 + 1)), (0, .ref (zad y (0, 32, 0))), (1, .int x8)] dX12_agreed_73 rfl (by decide) (by decide) rfl ?_
      refine V_goto X (tgt := 9) dX12_agreed_76 (by decide) ?_
      refine V_sub X [1, 2, 0] (lv' := [(0, .ref (zad y (0, 32, 0))), (1, .int x8), (2, .int (x3 + 1))]) rfl ?_
      cases h
      exact hz
    refine lp_ind (P := fun q => V X μ1 21 [(0, .ref (zad y (0, 32, 0))), (1, .int q.1), (2, .int x3), (3, .int q.2)] []) (fun q z h hz => ?_) hl
    obtain ⟨x6, x7⟩ := q
    replace h := un2_eq h
    show V X μ1 21 [(0, .ref (zad y (0, 32, 0))), (1, .int x6), (2, .int x3), (3, .int x7)] []
    refine V_iload_n X 3 dX12_agreed_21 rfl rfl ?_
    refine V_iload_n X 2 dX12_agreed_22 rfl rfl ?_
    refine V_icmp_ge X (tgt := 73) dX12_agreed_23 (by decide) (fun b9 => ?_) (fun b9 => ?_)
    · replace h := (if_pos b9).symm.trans h
      refine V_sub X [0, 1, 2] (lv' := [(0, .ref (zad y (0, 32, 0))), (1, .int x6), (2, .int x3)]) rfl ?_
      cases h
      obtain rfl := pr1 hz
      exact hk
    · replace h := (if_neg b9).symm.trans h
      refine V_iload_n X 1 dX12_agreed_26 rfl rfl ?_
      obtain ⟨x11, h1, h⟩ := bd_some h
      have hk : V X μ1 66 [(0, .ref (zad y (0, 32, 0))), (2, .int x3), (3, .int x7)] [.int x11] := by
        clear h1
        refine V_istore_n X [(1, .int x11), (0, .ref (zad y (0, 32, 0))), (2, .int x3), (3, .int x7)] dX12_agreed_66 rfl (by decide) rfl ?_
        refine V_inc X 3 1 [(3, .int (x7 + 1)), (1, .int x11), (0, .ref (zad y (0, 32, 0))), (2, .int x3)] dX12_agreed_67 rfl (by decide) (by decide) rfl ?_
        refine V_goto X (tgt := 21) dX12_agreed_70 (by decide) ?_
        refine V_sub X [2, 1, 3, 0] (lv' := [(0, .ref (zad y (0, 32, 0))), (1, .int x11), (2, .int x3), (3, .int (x7 + 1))]) rfl ?_
        cases h
        exact hz
      replace h := h1
      clear h1
      refine jk0_el (P := V X μ1 65 [(0, .ref (zad y (0, 32, 0))), (2, .int x3), (3, .int x7)] []) h (fun h => ?_) (fun k12 hk12 h => ?_)
      · refine V_iconst X 0 dX12_agreed_65 (by decide) ?_
        obtain rfl := so1 h
        exact hk
      · refine V_if_eq X (tgt := 65) dX12_agreed_27 (by decide) (fun b10 => ?_) (fun b10 => ?_)
        · replace h := (if_pos b10).symm.trans h
          refine V_sub X [0, 2, 3] (lv' := [(0, .ref (zad y (0, 32, 0))), (2, .int x3), (3, .int x7)]) rfl ?_
          exact hk12 h
        · replace h := (if_neg b10).symm.trans h
          refine V_aload_n X 0 dX12_agreed_30 rfl rfl ?_
          refine V_iload_n X 2 dX12_agreed_31 rfl rfl ?_
          obtain ⟨x14, c13, h⟩ := bd_some h
          refine V_callVi X (As := [.int x3]) (M_X12_isActive c13) (cwV 1 X.2.2.2.2.2.2.1 (gV wm_RX12_262 wi_X12_isActive wse_X12_isActive win_RX12 wc_X12_isActive) rfl rfl rfl hd_X12_isActive ⟨Nat.le_of_ble_eq_true rfl, Nat.le_of_ble_eq_true rfl⟩) (b := (0, 32, 0)) ⟨by decide, rfl⟩ rfl rfl rfl rfl (Nat.le_of_ble_eq_true rfl) dX12_agreed_32 rfl ?_
          refine jk0_el (P := V X μ1 61 [(0, .ref (zad y (0, 32, 0))), (2, .int x3), (3, .int x7)] []) h (fun h => ?_) (fun k16 hk16 h => ?_)
          · refine V_iconst X 1 dX12_agreed_61 (by decide) ?_
            refine V_goto X (tgt := 66) dX12_agreed_62 (by decide) ?_
            obtain rfl := so1 h
            exact hk
          · refine V_if_eq X (tgt := 61) dX12_agreed_35 (by decide) (fun b15 => ?_) (fun b15 => ?_)
            · replace h := (if_pos b15).symm.trans h
              refine V_sub X [0, 2, 3] (lv' := [(0, .ref (zad y (0, 32, 0))), (2, .int x3), (3, .int x7)]) rfl ?_
              exact hk16 h
            · replace h := (if_neg b15).symm.trans h
              refine V_aload_n X 0 dX12_agreed_38 rfl rfl ?_
              refine V_iload_n X 3 dX12_agreed_39 rfl rfl ?_
              obtain ⟨x18, c17, h⟩ := bd_some h
              refine V_callVi X (As := [.int x7]) (M_X12_isActive c17) (cwV 1 X.2.2.2.2.2.2.1 (gV wm_RX12_262 wi_X12_isActive wse_X12_isActive win_RX12 wc_X12_isActive) rfl rfl rfl hd_X12_isActive ⟨Nat.le_of_ble_eq_true rfl, Nat.le_of_ble_eq_true rfl⟩) (b := (0, 32, 0)) ⟨by decide, rfl⟩ rfl rfl rfl rfl (Nat.le_of_ble_eq_true rfl) dX12_agreed_40 rfl ?_
              refine V_if_eq X (tgt := 61) dX12_agreed_43 (by decide) (fun b19 => ?_) (fun b19 => ?_)
              · replace h := (if_pos b19).symm.trans h
                refine V_sub X [0, 2, 3] (lv' := [(0, .ref (zad y (0, 32, 0))), (2, .int x3), (3, .int x7)]) rfl ?_
                exact hk16 h
              · replace h := (if_neg b19).symm.trans h
                refine V_aload_n X 0 dX12_agreed_46 rfl rfl ?_
                refine V_iload_n X 2 dX12_agreed_47 rfl rfl ?_
                refine V_iconst X 5 dX12_agreed_48 (by decide) ?_
                obtain ⟨x21, c20, h⟩ := bd_some h
                refine V_callVi X (As := [.int x3, .int 5]) (M_X12_of c20) (cwV 2 X.2.2.2.2.2.2.1 (gV wm_RX12_66 wi_X12_of wse_X12_of win_RX12 wc_X12_of) rfl rfl rfl hd_X12_of ⟨Nat.le_of_ble_eq_true rfl, Nat.le_of_ble_eq_true rfl⟩) (b := (0, 32, 0)) ⟨by decide, rfl⟩ rfl rfl rfl rfl (Nat.le_of_ble_eq_true rfl) dX12_agreed_49 rfl ?_
                refine V_aload_n X 0 dX12_agreed_52 rfl rfl ?_
                refine V_iload_n X 3 dX12_agreed_53 rfl rfl ?_
                refine V_iconst X 5 dX12_agreed_54 (by decide) ?_
                obtain ⟨x23, c22, h⟩ := bd_some h
                refine V_callVi X (As := [.int x7, .int 5]) (M_X12_of c22) (cwV 2 X.2.2.2.2.2.2.1 (gV wm_RX12_66 wi_X12_of wse_X12_of win_RX12 wc_X12_of) rfl rfl rfl hd_X12_of ⟨Nat.le_of_ble_eq_true rfl, Nat.le_of_ble_eq_true rfl⟩) (b := (0, 32, 0)) ⟨by decide, rfl⟩ rfl rfl rfl rfl (Nat.le_of_ble_eq_true rfl) dX12_agreed_55 rfl ?_
                refine V_icmp_ne X (tgt := 65) dX12_agreed_58 (by decide) (fun b24 => ?_) (fun b24 => ?_)
                · replace h := (if_neg b24).symm.trans h
                  refine V_sub X [0, 2, 3] (lv' := [(0, .ref (zad y (0, 32, 0))), (2, .int x3), (3, .int x7)]) rfl ?_
                  exact hk12 h
                · replace h := (if_pos b24).symm.trans h
                  refine V_sub X [0, 2, 3] (lv' := [(0, .ref (zad y (0, 32, 0))), (2, .int x3), (3, .int x7)]) rfl ?_
                  exact hk16 h

def f_X12_cliques (μ : ZMem) : Option (Int32 × ZMem) := zlt (mset μ (0, 32, 0) 0 0) (fun (μ1 : ZMem) => bd (f_X12_inState 2 μ1) (fun (x3 : Int32) => bd2 (lp (σ := Int32 × Int32 × Int32 × ZMem) (fun q => un4 q (fun (x4 : Int32) (x5 : Int32) (x6 : Int32) (μ7 : ZMem) => if (μ7 (0, 33, 0) 3) ≤ x6 then some (.inr (x5, μ7)) else bd (f_X12_isOf x4 x6) (fun (x12 : Int32) => bd3 (α := Int32) (β := Int32) (γ := ZMem) (if x12 = 0 then some (x4, x5, μ7) else bd2 (f_X12_cliqueOf x6 μ7) (fun (x18 : Int32) (μ19 : ZMem) => zlt (x4 &&& (x18 ^^^ (-1))) (fun (x20 : Int32) => some (x20, (x5 + 1), μ19)))) (fun (x14 : Int32) (x15 : Int32) (μ16 : ZMem) => some (.inl (x14, x15, (x6 + 1), μ16)))))) FU (x3, 0, 0, μ1)) (fun (x8 : Int32) (μ9 : ZMem) => some (x8, μ9))))
set_option maxRecDepth 100000 in
set_option maxHeartbeats 4000000 in
theorem M_X12_cliques {l : Launch} {D : va_G} {y : ZLay}   {μ : ZMem} {r : Int32} {μ0 : ZMem} (h : f_X12_cliques μ = some (r, μ0)) : MI l yX12_cliques wb_X12_cliques rm_X12_cliques D y [.ref (zad y (0, 32, 0))] μ r μ0 := by
  unfold f_X12_cliques at h
  refine MI_of RX12 [(0, .ref (zad y (0, 32, 0)))] (by decide) rfl rfl (Nat.le_of_ble_eq_true rfl) rfl ?_
  intro p e s m args below meth c A X
  refine V_aload_n X 0 dX12_cliques_0 rfl rfl ?_
  refine V_iconst X 0 dX12_cliques_1 (by decide) ?_
  refine V_puti X tyX12 .int (o := (0, 32, 0)) (ci := 12) (k := 0) (N := 30) (T := TX12) (C := RX12) ⟨by decide, rfl⟩ rfl rfl rfl (by decide) (mBa inB_X12) tyX12_ok nmX12 (mB wl_RX12_59) rfl rfl rfl rfl dX12_cliques_2 ?_
  refine zlt_el (P := fun (μ1 : ZMem) => V X μ1 5 [(0, .ref (zad y (0, 32, 0)))] []) h (fun μ1 h => ?_)
  refine V_aload_n X 0 dX12_cliques_5 rfl rfl ?_
  refine V_iconst X 2 dX12_cliques_6 (by decide) ?_
  obtain ⟨x3, c2, h⟩ := bd_some h
  refine V_callVi X (As := [.int 2]) (M_X12_inState c2) (cwV 1 X.2.2.2.2.2.2.1 (gV wm_RX12_250 wi_X12_inState wse_X12_inState win_RX12 wc_X12_inState) rfl rfl rfl hd_X12_inState ⟨Nat.le_of_ble_eq_true rfl, Nat.le_of_ble_eq_true rfl⟩) (b := (0, 32, 0)) ⟨by decide, rfl⟩ rfl rfl rfl rfl (Nat.le_of_ble_eq_true rfl) dX12_cliques_7 rfl ?_
  refine V_istore_n X [(1, .int x3), (0, .ref (zad y (0, 32, 0)))] dX12_cliques_10 rfl (by decide) rfl ?_
  refine V_iconst X 0 dX12_cliques_11 (by decide) ?_
  refine V_istore_n X [(2, .int 0), (1, .int x3), (0, .ref (zad y (0, 32, 0)))] dX12_cliques_12 rfl (by decide) rfl ?_
  refine V_iconst X 0 dX12_cliques_13 (by decide) ?_
  refine V_istore_n X [(3, .int 0), (2, .int 0), (1, .int x3), (0, .ref (zad y (0, 32, 0)))] dX12_cliques_14 rfl (by decide) rfl ?_
  refine V_sub X [3, 2, 1, 0] (lv' := [(0, .ref (zad y (0, 32, 0))), (1, .int x3), (2, .int 0), (3, .int 0)]) rfl ?_
  obtain ⟨x8, μ9, hl, h⟩ := bd2_some h
  have hk : V X μ9 55 [(2, .int x8)] [] := by
    clear hl
    refine V_iload_n X 0 dX12_cliques_55 rfl rfl ?_
    exact V_iretW X h dX12_cliques_56
  refine lp_ind (P := fun q => V X q.2.2.2 15 [(0, .ref (zad y (0, 32, 0))), (1, .int q.1), (2, .int q.2.1), (3, .int q.2.2.1)] []) (fun q z h hz => ?_) hl
  obtain ⟨x4, x5, x6, μ7⟩ := q
  replace h := un4_eq h
  show V X μ7 15 [(0, .ref (zad y (0, 32, 0))), (1, .int x4), (2, .int x5), (3, .int x6)] []
  refine V_iload_n X 3 dX12_cliques_15 rfl rfl ?_
  refine V_aload_n X 0 dX12_cliques_16 rfl rfl ?_
  refine V_getr X (o := (0, 32, 0)) (i := (0, 33, 0)) (ci := 12) (k := 1) (N := 30) (T := TX12) (C := RX12) ⟨by decide, rfl⟩ rfl rfl rfl (by decide) (mBa inB_X12) (mB wl_RX12_7) dX12_cliques_17 ?_
  refine V_iconst X 3 dX12_cliques_20 (by decide) ?_
  refine V_iald X 3 (by decide) (o := (0, 33, 0)) (n := 737) ⟨by decide, rfl⟩ rfl rfl (by decide) dX12_cliques_21 ?_
  refine V_icmp_ge X (tgt := 55) dX12_cliques_22 (by decide) (fun b10 => ?_) (fun b10 => ?_)
  · replace h := (if_pos b10).symm.trans h
    refine V_sub X [2] (lv' := [(2, .int x5)]) rfl ?_
    cases h
    obtain ⟨rfl, rfl⟩ := pr2 hz
    exact hk
  · replace h := (if_neg b10).symm.trans h
    refine V_iload_n X 1 dX12_cliques_25 rfl rfl ?_
    refine V_iload_n X 3 dX12_cliques_26 rfl rfl ?_
    obtain ⟨x12, c11, h⟩ := bd_some h
    refine V_callSi X (As := [.int x4, .int x6]) (M_X12_isOf c11) (va_cwS 2 X.2.2.2.2.2.2.1 (gS wm_RX12_274 wst_X12_isOf win_RX12 wc_X12_isOf) rfl rfl rfl hd_X12_isOf.2 ⟨Nat.le_of_ble_eq_true rfl, Nat.le_of_ble_eq_true rfl⟩) rfl (Nat.le_of_ble_eq_true rfl) dX12_cliques_27 rfl ?_
    obtain ⟨x14, x15, μ16, h1, h⟩ := bd3_some h
    have hk : V X μ16 49 [(0, .ref (zad y (0, 32, 0))), (1, .int x14), (2, .int x15), (3, .int x6)] [] := by
      clear h1
      refine V_inc X 3 1 [(3, .int (x6 + 1)), (0, .ref (zad y (0, 32, 0))), (1, .int x14), (2, .int x15)] dX12_cliques_49 rfl (by decide) (by decide) rfl ?_
      refine V_goto X (tgt := 15) dX12_cliques_52 (by decide) ?_
      refine V_sub X [1, 2, 3, 0] (lv' := [(0, .ref (zad y (0, 32, 0))), (1, .int x14), (2, .int x15), (3, .int (x6 + 1))]) rfl ?_
      cases h
      exact hz
    replace h := h1
    clear h1
    refine V_if_ne X (tgt := 36) dX12_cliques_30 (by decide) (fun b13 => ?_) (fun b13 => ?_)
    · replace h := (if_neg b13).symm.trans h
      refine V_iload_n X 1 dX12_cliques_36 rfl rfl ?_
      refine V_aload_n X 0 dX12_cliques_37 rfl rfl ?_
      refine V_iload_n X 3 dX12_cliques_38 rfl rfl ?_
      obtain ⟨x18, μ19, c17, h⟩ := bd2_some h
      refine V_callVi X (As := [.int x6]) (M_X12_cliqueOf c17) (cwV 1 X.2.2.2.2.2.2.1 (gV wm_RX12_350 wi_X12_cliqueOf wse_X12_cliqueOf win_RX12 wc_X12_cliqueOf) rfl rfl rfl hd_X12_cliqueOf ⟨Nat.le_of_ble_eq_true rfl, Nat.le_of_ble_eq_true rfl⟩) (b := (0, 32, 0)) ⟨by decide, rfl⟩ rfl rfl rfl rfl (Nat.le_of_ble_eq_true rfl) dX12_cliques_39 rfl ?_
      refine V_iconst X (-1) dX12_cliques_42 (by decide) ?_
      refine V_ixor X dX12_cliques_43 ?_
      refine V_iand X dX12_cliques_44 ?_
      refine V_istore_n X [(1, .int (x4 &&& (x18 ^^^ (-1)))), (0, .ref (zad y (0, 32, 0))), (2, .int x5), (3, .int x6)] dX12_cliques_45 rfl (by decide) rfl ?_
      refine zlt_el (P := fun (x20 : Int32) => V X μ19 46 [(1, .int x20), (0, .ref (zad y (0, 32, 0))), (2, .int x5), (3, .int x6)] []) h (fun x20 h => ?_)
      refine V_inc X 2 1 [(2, .int (x5 + 1)), (1, .int x20), (0, .ref (zad y (0, 32, 0))), (3, .int x6)] dX12_cliques_46 rfl (by decide) (by decide) rfl ?_
      refine V_sub X [2, 1, 0, 3] (lv' := [(0, .ref (zad y (0, 32, 0))), (1, .int x20), (2, .int (x5 + 1)), (3, .int x6)]) rfl ?_
      obtain ⟨rfl, rfl, rfl⟩ := so3 h
      exact hk
    · replace h := (if_pos b13).symm.trans h
      refine V_goto X (tgt := 49) dX12_cliques_33 (by decide) ?_
      obtain ⟨rfl, rfl, rfl⟩ := so3 h
      exact hk

def f_X12_settles (a1 : Int32) (μ : ZMem) : Option (Int32 × ZMem) := bd (f_X12_isIn a1 0 999) (fun (x2 : Int32) => zlt (α := Int32) (if x2 = 0 then 1 else 0) (fun (x4 : Int32) => zlt (mset μ (0, 32, 0) 0 x4) (fun (μ5 : ZMem) => if (μ5 (0, 32, 0) 0) ≤ 0 then bd (f_X12_putsAside μ5) (fun (μ8 : ZMem) => bd2 (lp (σ := Int32 × Int32 × ZMem) (fun q => un3 q (fun (x9 : Int32) (x10 : Int32) (μ11 : ZMem) => if 60 < x10 then some (.inr (x9, μ11)) else if x9 = (-1) then bd (f_X12_inState 2 μ11) (fun (x17 : Int32) => bd (f_X12_bits x17) (fun (x19 : Int32) => bd (α := Int32) (if x19 ≤ 1 then some x9 else bd (f_X12_spreadNow μ11) (fun (x23 : Int32) => if a1 < x23 then some x9 else some x10)) (fun (x21 : Int32) => bd (f_X12_passes 0 μ11) (fun (μ26 : ZMem) => some (.inl (x21, (x10 + 1), μ26)))))) else some (.inr (x9, μ11)))) FU ((-1), 0, μ8)) (fun (x12 : Int32) (μ13 : ZMem) => bd (f_X12_comesBack μ13) (fun (μ28 : ZMem) => some (x12, μ28)))) else some (0, μ5))))
set_option maxRecDepth 100000 in
set_option maxHeartbeats 4000000 in
theorem M_X12_settles {l : Launch} {D : va_G} {y : ZLay} {a1 : Int32}  {μ : ZMem} {r : Int32} {μ0 : ZMem} (h : f_X12_settles a1 μ = some (r, μ0)) : MI l yX12_settles wb_X12_settles rm_X12_settles D y [.ref (zad y (0, 32, 0)), .int a1] μ r μ0 := by
  unfold f_X12_settles at h
  refine MI_of RX12 [(0, .ref (zad y (0, 32, 0))), (1, .int a1)] (by decide) rfl rfl (Nat.le_of_ble_eq_true rfl) rfl ?_
  intro p e s m args below meth c A X
  refine V_aload_n X 0 dX12_settles_0 rfl rfl ?_
  refine V_iload_n X 1 dX12_settles_1 rfl rfl ?_
  refine V_iconst X 0 dX12_settles_2 (by decide) ?_
  refine V_sipush X 999 dX12_settles_3 (by decide) ?_
  obtain ⟨x2, c1, h⟩ := bd_some h
  refine V_callSi X (As := [.int a1, .int 0, .int 999]) (M_X12_isIn c1) (va_cwS 3 X.2.2.2.2.2.2.1 (gS wm_RX12_62 wst_X12_isIn win_RX12 wc_X12_isIn) rfl rfl rfl hd_X12_isIn.2 ⟨Nat.le_of_ble_eq_true rfl, Nat.le_of_ble_eq_true rfl⟩) rfl (Nat.le_of_ble_eq_true rfl) dX12_settles_6 rfl ?_
  obtain ⟨x4, h1, h⟩ := zl1_some h
  have hk : V X μ 17 [(0, .ref (zad y (0, 32, 0))), (1, .int a1)] [.int x4, .ref (zad y (0, 32, 0))] := by
    clear h1
    refine V_puti X tyX12 .int (o := (0, 32, 0)) (ci := 12) (k := 0) (N := 30) (T := TX12) (C := RX12) ⟨by decide, rfl⟩ rfl rfl rfl (by decide) (mBa inB_X12) tyX12_ok nmX12 (mB wl_RX12_59) rfl rfl rfl rfl dX12_settles_17 ?_
    refine zlt_el (P := fun (μ5 : ZMem) => V X μ5 20 [(0, .ref (zad y (0, 32, 0))), (1, .int a1)] []) h (fun μ5 h => ?_)
    refine V_aload_n X 0 dX12_settles_20 rfl rfl ?_
    refine V_geti X (o := (0, 32, 0)) (ci := 12) (k := 0) (N := 30) (T := TX12) (C := RX12) ⟨by decide, rfl⟩ rfl rfl rfl (by decide) (mBa inB_X12) (mB wl_RX12_59) dX12_settles_21 ?_
    refine V_if_le X (tgt := 29) dX12_settles_24 (by decide) (fun b6 => ?_) (fun b6 => ?_)
    · replace h := (if_pos b6).symm.trans h
      refine V_aload_n X 0 dX12_settles_29 rfl rfl ?_
      obtain ⟨μ8, c7, h⟩ := bd_some h
      refine V_callVv X (As := []) (M_X12_putsAside c7) (cwV 0 X.2.2.2.2.2.2.1 (gV wm_RX12_177 wi_X12_putsAside wse_X12_putsAside win_RX12 wc_X12_putsAside) rfl rfl rfl hd_X12_putsAside ⟨Nat.le_of_ble_eq_true rfl, Nat.le_of_ble_eq_true rfl⟩) (b := (0, 32, 0)) ⟨by decide, rfl⟩ rfl rfl rfl rfl (Nat.le_of_ble_eq_true rfl) dX12_settles_30 rfl ?_
      refine V_iconst X (-1) dX12_settles_33 (by decide) ?_
      refine V_istore_n X [(2, .int (-1)), (0, .ref (zad y (0, 32, 0))), (1, .int a1)] dX12_settles_34 rfl (by decide) rfl ?_
      refine V_iconst X 0 dX12_settles_35 (by decide) ?_
      refine V_istore_n X [(3, .int 0), (2, .int (-1)), (0, .ref (zad y (0, 32, 0))), (1, .int a1)] dX12_settles_36 rfl (by decide) rfl ?_
      refine V_sub X [2, 3, 1, 0] (lv' := [(0, .ref (zad y (0, 32, 0))), (1, .int a1), (2, .int (-1)), (3, .int 0)]) rfl ?_
      obtain ⟨x12, μ13, hl, h⟩ := bd2_some h
      have hk : V X μ13 81 [(0, .ref (zad y (0, 32, 0))), (2, .int x12)] [] := by
        clear hl
        refine V_aload_n X 0 dX12_settles_81 rfl rfl ?_
        obtain ⟨μ28, c27, h⟩ := bd_some h
        refine V_callVv X (As := []) (M_X12_comesBack c27) (cwV 0 X.2.2.2.2.2.2.1 (gV wm_RX12_187 wi_X12_comesBack wse_X12_comesBack win_RX12 wc_X12_comesBack) rfl rfl rfl hd_X12_comesBack ⟨Nat.le_of_ble_eq_true rfl, Nat.le_of_ble_eq_true rfl⟩) (b := (0, 32, 0)) ⟨by decide, rfl⟩ rfl rfl rfl rfl (Nat.le_of_ble_eq_true rfl) dX12_settles_82 rfl ?_
        refine V_iload_n X 1 dX12_settles_85 rfl rfl ?_
        exact V_iretW X h dX12_settles_86
      refine lp_ind (P := fun q => V X q.2.2 37 [(0, .ref (zad y (0, 32, 0))), (1, .int a1), (2, .int q.1), (3, .int q.2.1)] []) (fun q z h hz => ?_) hl
      obtain ⟨x9, x10, μ11⟩ := q
      replace h := un3_eq h
      show V X μ11 37 [(0, .ref (zad y (0, 32, 0))), (1, .int a1), (2, .int x9), (3, .int x10)] []
      refine V_iload_n X 3 dX12_settles_37 rfl rfl ?_
      refine V_bipush X 60 dX12_settles_38 (by decide) ?_
      refine V_icmp_gt X (tgt := 81) dX12_settles_40 (by decide) (fun b14 => ?_) (fun b14 => ?_)
      · replace h := (if_pos b14).symm.trans h
        refine V_sub X [0, 2] (lv' := [(0, .ref (zad y (0, 32, 0))), (2, .int x9)]) rfl ?_
        cases h
        obtain ⟨rfl, rfl⟩ := pr2 hz
        exact hk
      · replace h := (if_neg b14).symm.trans h
        refine V_iload_n X 2 dX12_settles_43 rfl rfl ?_
        refine V_iconst X (-1) dX12_settles_44 (by decide) ?_
        refine V_icmp_ne X (tgt := 81) dX12_settles_45 (by decide) (fun b15 => ?_) (fun b15 => ?_)
        · replace h := (if_neg b15).symm.trans h
          refine V_sub X [0, 2] (lv' := [(0, .ref (zad y (0, 32, 0))), (2, .int x9)]) rfl ?_
          cases h
          obtain ⟨rfl, rfl⟩ := pr2 hz
          exact hk
        · replace h := (if_pos b15).symm.trans h
          refine V_aload_n X 0 dX12_settles_48 rfl rfl ?_
          refine V_iconst X 2 dX12_settles_49 (by decide) ?_
          obtain ⟨x17, c16, h⟩ := bd_some h
          refine V_callVi X (As := [.int 2]) (M_X12_inState c16) (cwV 1 X.2.2.2.2.2.2.1 (gV wm_RX12_250 wi_X12_inState wse_X12_inState win_RX12 wc_X12_inState) rfl rfl rfl hd_X12_inState ⟨Nat.le_of_ble_eq_true rfl, Nat.le_of_ble_eq_true rfl⟩) (b := (0, 32, 0)) ⟨by decide, rfl⟩ rfl rfl rfl rfl (Nat.le_of_ble_eq_true rfl) dX12_settles_50 rfl ?_
          obtain ⟨x19, c18, h⟩ := bd_some h
          refine V_callSi X (As := [.int x17]) (M_X12_bits c18) (va_cwS 1 X.2.2.2.2.2.2.1 (gS wm_RX12_247 wst_X12_bits win_RX12 wc_X12_bits) rfl rfl rfl hd_X12_bits.2 ⟨Nat.le_of_ble_eq_true rfl, Nat.le_of_ble_eq_true rfl⟩) rfl (Nat.le_of_ble_eq_true rfl) dX12_settles_53 rfl ?_
          refine V_iconst X 1 dX12_settles_56 (by decide) ?_
          obtain ⟨x21, h1, h⟩ := bd_some h
          have hk : V X μ11 70 [(0, .ref (zad y (0, 32, 0))), (1, .int a1), (2, .int x21), (3, .int x10)] [] := by
            clear h1
            refine V_aload_n X 0 dX12_settles_70 rfl rfl ?_
            refine V_iconst X 0 dX12_settles_71 (by decide) ?_
            obtain ⟨μ26, c25, h⟩ := bd_some h
            refine V_callVv X (As := [.int 0]) (M_X12_passes c25) (cwV 1 X.2.2.2.2.2.2.1 (gV wm_RX12_335 wi_X12_passes wse_X12_passes win_RX12 wc_X12_passes) rfl rfl rfl hd_X12_passes ⟨Nat.le_of_ble_eq_true rfl, Nat.le_of_ble_eq_true rfl⟩) (b := (0, 32, 0)) ⟨by decide, rfl⟩ rfl rfl rfl rfl (Nat.le_of_ble_eq_true rfl) dX12_settles_72 rfl ?_
            refine V_inc X 3 1 [(3, .int (x10 + 1)), (0, .ref (zad y (0, 32, 0))), (1, .int a1), (2, .int x21)] dX12_settles_75 rfl (by decide) (by decide) rfl ?_
            refine V_goto X (tgt := 37) dX12_settles_78 (by decide) ?_
            refine V_sub X [1, 2, 3, 0] (lv' := [(0, .ref (zad y (0, 32, 0))), (1, .int a1), (2, .int x21), (3, .int (x10 + 1))]) rfl ?_
            cases h
            exact hz
          replace h := h1
          clear h1
          refine V_icmp_le X (tgt := 70) dX12_settles_57 (by decide) (fun b20 => ?_) (fun b20 => ?_)
          · replace h := (if_pos b20).symm.trans h
            obtain rfl := so1 h
            exact hk
          · replace h := (if_neg b20).symm.trans h
            refine V_aload_n X 0 dX12_settles_60 rfl rfl ?_
            obtain ⟨x23, c22, h⟩ := bd_some h
            refine V_callVi X (As := []) (M_X12_spreadNow c22) (cwV 0 X.2.2.2.2.2.2.1 (gV wm_RX12_371 wi_X12_spreadNow wse_X12_spreadNow win_RX12 wc_X12_spreadNow) rfl rfl rfl hd_X12_spreadNow ⟨Nat.le_of_ble_eq_true rfl, Nat.le_of_ble_eq_true rfl⟩) (b := (0, 32, 0)) ⟨by decide, rfl⟩ rfl rfl rfl rfl (Nat.le_of_ble_eq_true rfl) dX12_settles_61 rfl ?_
            refine V_iload_n X 1 dX12_settles_64 rfl rfl ?_
            refine V_icmp_gt X (tgt := 70) dX12_settles_65 (by decide) (fun b24 => ?_) (fun b24 => ?_)
            · replace h := (if_pos b24).symm.trans h
              obtain rfl := so1 h
              exact hk
            · replace h := (if_neg b24).symm.trans h
              refine V_iload_n X 3 dX12_settles_68 rfl rfl ?_
              refine V_istore_n X [(2, .int x10), (0, .ref (zad y (0, 32, 0))), (1, .int a1), (3, .int x10)] dX12_settles_69 rfl (by decide) rfl ?_
              refine V_sub X [1, 2, 0, 3] (lv' := [(0, .ref (zad y (0, 32, 0))), (1, .int a1), (2, .int x10), (3, .int x10)]) rfl ?_
              obtain rfl := so1 h
              exact hk
    · replace h := (if_neg b6).symm.trans h
      refine V_iconst X 0 dX12_settles_27 (by decide) ?_
      exact V_iretW X h dX12_settles_28
  replace h := h1
  clear h1
  refine V_if_ne X (tgt := 16) dX12_settles_9 (by decide) (fun b3 => ?_) (fun b3 => ?_)
  · replace h := (if_neg b3).symm.trans h
    refine V_iconst X 0 dX12_settles_16 (by decide) ?_
    obtain rfl := pr1 h
    exact hk
  · replace h := (if_pos b3).symm.trans h
    refine V_iconst X 1 dX12_settles_12 (by decide) ?_
    refine V_goto X (tgt := 17) dX12_settles_13 (by decide) ?_
    obtain rfl := pr1 h
    exact hk

def f_X12_widest (a1 : Int32) (μ : ZMem) : Option (Int32 × ZMem) := bd (f_X12_isIn a1 0 60) (fun (x2 : Int32) => zlt (α := Int32) (if x2 = 0 then 1 else 0) (fun (x4 : Int32) => zlt (mset μ (0, 32, 0) 0 x4) (fun (μ5 : ZMem) => if (μ5 (0, 32, 0) 0) ≤ 0 then bd (f_X12_putsAside μ5) (fun (μ8 : ZMem) => bd (f_X12_spreadNow μ8) (fun (x10 : Int32) => bd2 (lp (σ := Int32 × Int32 × ZMem) (fun q => un3 q (fun (x11 : Int32) (x12 : Int32) (μ13 : ZMem) => if a1 ≤ x12 then some (.inr (x11, μ13)) else bd (f_X12_passes 0 μ13) (fun (μ18 : ZMem) => bd (f_X12_spreadNow μ18) (fun (x20 : Int32) => zlt (f_X12_greater x11 x20) (fun (x21 : Int32) => some (.inl (x21, (x12 + 1), μ18))))))) FU (x10, 0, μ8)) (fun (x14 : Int32) (μ15 : ZMem) => bd (f_X12_comesBack μ15) (fun (μ23 : ZMem) => some (x14, μ23))))) else some (0, μ5))))
set_option maxRecDepth 100000 in
set_option maxHeartbeats 4000000 in
theorem M_X12_widest {l : Launch} {D : va_G} {y : ZLay} {a1 : Int32}  {μ : ZMem} {r : Int32} {μ0 : ZMem} (h : f_X12_widest a1 μ = some (r, μ0)) : MI l yX12_widest wb_X12_widest rm_X12_widest D y [.ref (zad y (0, 32, 0)), .int a1] μ r μ0 := by
  unfold f_X12_widest at h
  refine MI_of RX12 [(0, .ref (zad y (0, 32, 0))), (1, .int a1)] (by decide) rfl rfl (Nat.le_of_ble_eq_true rfl) rfl ?_
  intro p e s m args below meth c A X
  refine V_aload_n X 0 dX12_widest_0 rfl rfl ?_
  refine V_iload_n X 1 dX12_widest_1 rfl rfl ?_
  refine V_iconst X 0 dX12_widest_2 (by decide) ?_
  refine V_bipush X 60 dX12_widest_3 (by decide) ?_
  obtain ⟨x2, c1, h⟩ := bd_some h
  refine V_callSi X (As := [.int a1, .int 0, .int 60]) (M_X12_isIn c1) (va_cwS 3 X.2.2.2.2.2.2.1 (gS wm_RX12_62 wst_X12_isIn win_RX12 wc_X12_isIn) rfl rfl rfl hd_X12_isIn.2 ⟨Nat.le_of_ble_eq_true rfl, Nat.le_of_ble_eq_true rfl⟩) rfl (Nat.le_of_ble_eq_true rfl) dX12_widest_5 rfl ?_
  obtain ⟨x4, h1, h⟩ := zl1_some h
  have hk : V X μ 16 [(0, .ref (zad y (0, 32, 0))), (1, .int a1)] [.int x4, .ref (zad y (0, 32, 0))] := by
    clear h1
    refine V_puti X tyX12 .int (o := (0, 32, 0)) (ci := 12) (k := 0) (N := 30) (T := TX12) (C := RX12) ⟨by decide, rfl⟩ rfl rfl rfl (by decide) (mBa inB_X12) tyX12_ok nmX12 (mB wl_RX12_59) rfl rfl rfl rfl dX12_widest_16 ?_
    refine zlt_el (P := fun (μ5 : ZMem) => V X μ5 19 [(0, .ref (zad y (0, 32, 0))), (1, .int a1)] []) h (fun μ5 h => ?_)
    refine V_aload_n X 0 dX12_widest_19 rfl rfl ?_
    refine V_geti X (o := (0, 32, 0)) (ci := 12) (k := 0) (N := 30) (T := TX12) (C := RX12) ⟨by decide, rfl⟩ rfl rfl rfl (by decide) (mBa inB_X12) (mB wl_RX12_59) dX12_widest_20 ?_
    refine V_if_le X (tgt := 28) dX12_widest_23 (by decide) (fun b6 => ?_) (fun b6 => ?_)
    · replace h := (if_pos b6).symm.trans h
      refine V_aload_n X 0 dX12_widest_28 rfl rfl ?_
      obtain ⟨μ8, c7, h⟩ := bd_some h
      refine V_callVv X (As := []) (M_X12_putsAside c7) (cwV 0 X.2.2.2.2.2.2.1 (gV wm_RX12_177 wi_X12_putsAside wse_X12_putsAside win_RX12 wc_X12_putsAside) rfl rfl rfl hd_X12_putsAside ⟨Nat.le_of_ble_eq_true rfl, Nat.le_of_ble_eq_true rfl⟩) (b := (0, 32, 0)) ⟨by decide, rfl⟩ rfl rfl rfl rfl (Nat.le_of_ble_eq_true rfl) dX12_widest_29 rfl ?_
      refine V_aload_n X 0 dX12_widest_32 rfl rfl ?_
      obtain ⟨x10, c9, h⟩ := bd_some h
      refine V_callVi X (As := []) (M_X12_spreadNow c9) (cwV 0 X.2.2.2.2.2.2.1 (gV wm_RX12_371 wi_X12_spreadNow wse_X12_spreadNow win_RX12 wc_X12_spreadNow) rfl rfl rfl hd_X12_spreadNow ⟨Nat.le_of_ble_eq_true rfl, Nat.le_of_ble_eq_true rfl⟩) (b := (0, 32, 0)) ⟨by decide, rfl⟩ rfl rfl rfl rfl (Nat.le_of_ble_eq_true rfl) dX12_widest_33 rfl ?_
      refine V_istore_n X [(2, .int x10), (0, .ref (zad y (0, 32, 0))), (1, .int a1)] dX12_widest_36 rfl (by decide) rfl ?_
      refine V_iconst X 0 dX12_widest_37 (by decide) ?_
      refine V_istore_n X [(3, .int 0), (2, .int x10), (0, .ref (zad y (0, 32, 0))), (1, .int a1)] dX12_widest_38 rfl (by decide) rfl ?_
      refine V_sub X [2, 3, 1, 0] (lv' := [(0, .ref (zad y (0, 32, 0))), (1, .int a1), (2, .int x10), (3, .int 0)]) rfl ?_
      obtain ⟨x14, μ15, hl, h⟩ := bd2_some h
      have hk : V X μ15 64 [(0, .ref (zad y (0, 32, 0))), (2, .int x14)] [] := by
        clear hl
        refine V_aload_n X 0 dX12_widest_64 rfl rfl ?_
        obtain ⟨μ23, c22, h⟩ := bd_some h
        refine V_callVv X (As := []) (M_X12_comesBack c22) (cwV 0 X.2.2.2.2.2.2.1 (gV wm_RX12_187 wi_X12_comesBack wse_X12_comesBack win_RX12 wc_X12_comesBack) rfl rfl rfl hd_X12_comesBack ⟨Nat.le_of_ble_eq_true rfl, Nat.le_of_ble_eq_true rfl⟩) (b := (0, 32, 0)) ⟨by decide, rfl⟩ rfl rfl rfl rfl (Nat.le_of_ble_eq_true rfl) dX12_widest_65 rfl ?_
        refine V_iload_n X 1 dX12_widest_68 rfl rfl ?_
        exact V_iretW X h dX12_widest_69
      refine lp_ind (P := fun q => V X q.2.2 39 [(0, .ref (zad y (0, 32, 0))), (1, .int a1), (2, .int q.1), (3, .int q.2.1)] []) (fun q z h hz => ?_) hl
      obtain ⟨x11, x12, μ13⟩ := q
      replace h := un3_eq h
      show V X μ13 39 [(0, .ref (zad y (0, 32, 0))), (1, .int a1), (2, .int x11), (3, .int x12)] []
      refine V_iload_n X 3 dX12_widest_39 rfl rfl ?_
      refine V_iload_n X 1 dX12_widest_40 rfl rfl ?_
      refine V_icmp_ge X (tgt := 64) dX12_widest_41 (by decide) (fun b16 => ?_) (fun b16 => ?_)
      · replace h := (if_pos b16).symm.trans h
        refine V_sub X [0, 2] (lv' := [(0, .ref (zad y (0, 32, 0))), (2, .int x11)]) rfl ?_
        cases h
        obtain ⟨rfl, rfl⟩ := pr2 hz
        exact hk
      · replace h := (if_neg b16).symm.trans h
        refine V_aload_n X 0 dX12_widest_44 rfl rfl ?_
        refine V_iconst X 0 dX12_widest_45 (by decide) ?_
        obtain ⟨μ18, c17, h⟩ := bd_some h
        refine V_callVv X (As := [.int 0]) (M_X12_passes c17) (cwV 1 X.2.2.2.2.2.2.1 (gV wm_RX12_335 wi_X12_passes wse_X12_passes win_RX12 wc_X12_passes) rfl rfl rfl hd_X12_passes ⟨Nat.le_of_ble_eq_true rfl, Nat.le_of_ble_eq_true rfl⟩) (b := (0, 32, 0)) ⟨by decide, rfl⟩ rfl rfl rfl rfl (Nat.le_of_ble_eq_true rfl) dX12_widest_46 rfl ?_
        refine V_iload_n X 2 dX12_widest_49 rfl rfl ?_
        refine V_aload_n X 0 dX12_widest_50 rfl rfl ?_
        obtain ⟨x20, c19, h⟩ := bd_some h
        refine V_callVi X (As := []) (M_X12_spreadNow c19) (cwV 0 X.2.2.2.2.2.2.1 (gV wm_RX12_371 wi_X12_spreadNow wse_X12_spreadNow win_RX12 wc_X12_spreadNow) rfl rfl rfl hd_X12_spreadNow ⟨Nat.le_of_ble_eq_true rfl, Nat.le_of_ble_eq_true rfl⟩) (b := (0, 32, 0)) ⟨by decide, rfl⟩ rfl rfl rfl rfl (Nat.le_of_ble_eq_true rfl) dX12_widest_51 rfl ?_
        refine V_callSi X (As := [.int x11, .int x20]) (M_X12_greater) (va_cwS 2 X.2.2.2.2.2.2.1 (gS wm_RX12_73 wst_X12_greater win_RX12 wc_X12_greater) rfl rfl rfl hd_X12_greater.2 ⟨Nat.le_of_ble_eq_true rfl, Nat.le_of_ble_eq_true rfl⟩) rfl (Nat.le_of_ble_eq_true rfl) dX12_widest_54 rfl ?_
        refine V_istore_n X [(2, .int (f_X12_greater x11 x20)), (0, .ref (zad y (0, 32, 0))), (1, .int a1), (3, .int x12)] dX12_widest_57 rfl (by decide) rfl ?_
        refine zlt_el (P := fun (x21 : Int32) => V X μ18 58 [(2, .int x21), (0, .ref (zad y (0, 32, 0))), (1, .int a1), (3, .int x12)] []) h (fun x21 h => ?_)
        refine V_inc X 3 1 [(3, .int (x12 + 1)), (2, .int x21), (0, .ref (zad y (0, 32, 0))), (1, .int a1)] dX12_widest_58 rfl (by decide) (by decide) rfl ?_
        refine V_goto X (tgt := 39) dX12_widest_61 (by decide) ?_
        refine V_sub X [2, 3, 1, 0] (lv' := [(0, .ref (zad y (0, 32, 0))), (1, .int a1), (2, .int x21), (3, .int (x12 + 1))]) rfl ?_
        cases h
        exact hz
    · replace h := (if_neg b6).symm.trans h
      refine V_iconst X 0 dX12_widest_26 (by decide) ?_
      exact V_iretW X h dX12_widest_27
  replace h := h1
  clear h1
  refine V_if_ne X (tgt := 15) dX12_widest_8 (by decide) (fun b3 => ?_) (fun b3 => ?_)
  · replace h := (if_neg b3).symm.trans h
    refine V_iconst X 0 dX12_widest_15 (by decide) ?_
    obtain rfl := pr1 h
    exact hk
  · replace h := (if_pos b3).symm.trans h
    refine V_iconst X 1 dX12_widest_11 (by decide) ?_
    refine V_goto X (tgt := 16) dX12_widest_12 (by decide) ?_
    obtain rfl := pr1 h
    exact hk

def f_X12_lowest (a0 : Int32) : Option (Int32) := bd (lp (σ := Int32) (fun (x1 : Int32) => bd (f_X12_isOf a0 x1) (fun (x4 : Int32) => if x4 = 0 then some (.inl (x1 + 1)) else some (.inr x1))) FU 0) (fun (x2 : Int32) => some x2)
set_option maxRecDepth 100000 in
set_option maxHeartbeats 4000000 in
theorem M_X12_lowest {l : Launch} {D : va_G} {y : ZLay} {a0 : Int32}  {μ : ZMem} {r : Int32} (h : f_X12_lowest a0 = some r) : MI l yX12_lowest wb_X12_lowest rm_X12_lowest D y [.int a0] μ r μ := by
  unfold f_X12_lowest at h
  refine MI_of RX12 [(0, .int a0)] (by decide) rfl rfl (Nat.le_of_ble_eq_true rfl) rfl ?_
  intro p e s m args below meth c A X
  refine V_iconst X 0 dX12_lowest_0 (by decide) ?_
  refine V_istore_n X [(1, .int 0), (0, .int a0)] dX12_lowest_1 rfl (by decide) rfl ?_
  refine V_sub X [1, 0] (lv' := [(0, .int a0), (1, .int 0)]) rfl ?_
  obtain ⟨x2, hl, h⟩ := bd_some h
  have hk : V X μ 16 [(1, .int x2)] [] := by
    clear hl
    refine V_iload_n X 0 dX12_lowest_16 rfl rfl ?_
    exact V_iretR X h dX12_lowest_17
  refine lp_ind (P := fun (x1 : Int32) => V X μ 2 [(0, .int a0), (1, .int x1)] []) (fun q z h hz => ?_) hl
  obtain ⟨x1, hq⟩ : ∃ x, x = q := ⟨q, rfl⟩
  subst hq
  show V X μ 2 [(0, .int a0), (1, .int x1)] []
  refine V_iload_n X 0 dX12_lowest_2 rfl rfl ?_
  refine V_iload_n X 1 dX12_lowest_3 rfl rfl ?_
  obtain ⟨x4, c3, h⟩ := bd_some h
  refine V_callSi X (As := [.int a0, .int x1]) (M_X12_isOf c3) (va_cwS 2 X.2.2.2.2.2.2.1 (gS wm_RX12_274 wst_X12_isOf win_RX12 wc_X12_isOf) rfl rfl rfl hd_X12_isOf.2 ⟨Nat.le_of_ble_eq_true rfl, Nat.le_of_ble_eq_true rfl⟩) rfl (Nat.le_of_ble_eq_true rfl) dX12_lowest_4 rfl ?_
  refine V_if_ne X (tgt := 16) dX12_lowest_7 (by decide) (fun b5 => ?_) (fun b5 => ?_)
  · replace h := (if_neg b5).symm.trans h
    refine V_sub X [1] (lv' := [(1, .int x1)]) rfl ?_
    cases h
    obtain rfl := pr1 hz
    exact hk
  · replace h := (if_pos b5).symm.trans h
    refine V_inc X 1 1 [(1, .int (x1 + 1)), (0, .int a0)] dX12_lowest_10 rfl (by decide) (by decide) rfl ?_
    refine V_goto X (tgt := 2) dX12_lowest_13 (by decide) ?_
    refine V_sub X [1, 0] (lv' := [(0, .int a0), (1, .int (x1 + 1))]) rfl ?_
    cases h
    exact hz

def f_X12_leads (a1 : Int32) (μ : ZMem) : Option (Int32 × ZMem) := zlt (mset μ (0, 32, 0) 0 0) (fun (μ1 : ZMem) => bd (f_X12_putsAside μ1) (fun (μ3 : ZMem) => bd2 (lp (σ := Int32 × Int32 × ZMem) (fun q => un3 q (fun (x4 : Int32) (x5 : Int32) (μ6 : ZMem) => if 60 < x5 then some (.inr (x4, μ6)) else if x4 = (-1) then bd (f_X12_inState 2 μ6) (fun (x12 : Int32) => bd (α := Int32) (if x12 = 0 then some x4 else bd (α := Int32) (if a1 = 0 then some x5 else bd (f_X12_lowest x12) (fun (x18 : Int32) => some x18)) (fun (x16 : Int32) => some x16)) (fun (x14 : Int32) => bd (f_X12_passes 0 μ6) (fun (μ20 : ZMem) => some (.inl (x14, (x5 + 1), μ20))))) else some (.inr (x4, μ6)))) FU ((-1), 0, μ3)) (fun (x7 : Int32) (μ8 : ZMem) => bd (f_X12_comesBack μ8) (fun (μ22 : ZMem) => some (x7, μ22)))))
set_option maxRecDepth 100000 in
set_option maxHeartbeats 4000000 in
theorem M_X12_leads {l : Launch} {D : va_G} {y : ZLay} {a1 : Int32}  {μ : ZMem} {r : Int32} {μ0 : ZMem} (h : f_X12_leads a1 μ = some (r, μ0)) : MI l yX12_leads wb_X12_leads rm_X12_leads D y [.ref (zad y (0, 32, 0)), .int a1] μ r μ0 := by
  unfold f_X12_leads at h
  refine MI_of RX12 [(0, .ref (zad y (0, 32, 0))), (1, .int a1)] (by decide) rfl rfl (Nat.le_of_ble_eq_true rfl) rfl ?_
  intro p e s m args below meth c A X
  refine V_aload_n X 0 dX12_leads_0 rfl rfl ?_
  refine V_iconst X 0 dX12_leads_1 (by decide) ?_
  refine V_puti X tyX12 .int (o := (0, 32, 0)) (ci := 12) (k := 0) (N := 30) (T := TX12) (C := RX12) ⟨by decide, rfl⟩ rfl rfl rfl (by decide) (mBa inB_X12) tyX12_ok nmX12 (mB wl_RX12_59) rfl rfl rfl rfl dX12_leads_2 ?_
  refine zlt_el (P := fun (μ1 : ZMem) => V X μ1 5 [(0, .ref (zad y (0, 32, 0))), (1, .int a1)] []) h (fun μ1 h => ?_)
  refine V_aload_n X 0 dX12_leads_5 rfl rfl ?_
  obtain ⟨μ3, c2, h⟩ := bd_some h
  refine V_callVv X (As := []) (M_X12_putsAside c2) (cwV 0 X.2.2.2.2.2.2.1 (gV wm_RX12_177 wi_X12_putsAside wse_X12_putsAside win_RX12 wc_X12_putsAside) rfl rfl rfl hd_X12_putsAside ⟨Nat.le_of_ble_eq_true rfl, Nat.le_of_ble_eq_true rfl⟩) (b := (0, 32, 0)) ⟨by decide, rfl⟩ rfl rfl rfl rfl (Nat.le_of_ble_eq_true rfl) dX12_leads_6 rfl ?_
  refine V_iconst X (-1) dX12_leads_9 (by decide) ?_
  refine V_istore_n X [(2, .int (-1)), (0, .ref (zad y (0, 32, 0))), (1, .int a1)] dX12_leads_10 rfl (by decide) rfl ?_
  refine V_iconst X 0 dX12_leads_11 (by decide) ?_
  refine V_istore_n X [(3, .int 0), (2, .int (-1)), (0, .ref (zad y (0, 32, 0))), (1, .int a1)] dX12_leads_12 rfl (by decide) rfl ?_
  refine V_sub X [2, 3, 1, 0] (lv' := [(0, .ref (zad y (0, 32, 0))), (1, .int a1), (2, .int (-1)), (3, .int 0)]) rfl ?_
  obtain ⟨x7, μ8, hl, h⟩ := bd2_some h
  have hk : V X μ8 61 [(0, .ref (zad y (0, 32, 0))), (2, .int x7)] [] := by
    clear hl
    refine V_aload_n X 0 dX12_leads_61 rfl rfl ?_
    obtain ⟨μ22, c21, h⟩ := bd_some h
    refine V_callVv X (As := []) (M_X12_comesBack c21) (cwV 0 X.2.2.2.2.2.2.1 (gV wm_RX12_187 wi_X12_comesBack wse_X12_comesBack win_RX12 wc_X12_comesBack) rfl rfl rfl hd_X12_comesBack ⟨Nat.le_of_ble_eq_true rfl, Nat.le_of_ble_eq_true rfl⟩) (b := (0, 32, 0)) ⟨by decide, rfl⟩ rfl rfl rfl rfl (Nat.le_of_ble_eq_true rfl) dX12_leads_62 rfl ?_
    refine V_iload_n X 1 dX12_leads_65 rfl rfl ?_
    exact V_iretW X h dX12_leads_66
  refine lp_ind (P := fun q => V X q.2.2 13 [(0, .ref (zad y (0, 32, 0))), (1, .int a1), (2, .int q.1), (3, .int q.2.1)] []) (fun q z h hz => ?_) hl
  obtain ⟨x4, x5, μ6⟩ := q
  replace h := un3_eq h
  show V X μ6 13 [(0, .ref (zad y (0, 32, 0))), (1, .int a1), (2, .int x4), (3, .int x5)] []
  refine V_iload_n X 3 dX12_leads_13 rfl rfl ?_
  refine V_bipush X 60 dX12_leads_14 (by decide) ?_
  refine V_icmp_gt X (tgt := 61) dX12_leads_16 (by decide) (fun b9 => ?_) (fun b9 => ?_)
  · replace h := (if_pos b9).symm.trans h
    refine V_sub X [0, 2] (lv' := [(0, .ref (zad y (0, 32, 0))), (2, .int x4)]) rfl ?_
    cases h
    obtain ⟨rfl, rfl⟩ := pr2 hz
    exact hk
  · replace h := (if_neg b9).symm.trans h
    refine V_iload_n X 2 dX12_leads_19 rfl rfl ?_
    refine V_iconst X (-1) dX12_leads_20 (by decide) ?_
    refine V_icmp_ne X (tgt := 61) dX12_leads_21 (by decide) (fun b10 => ?_) (fun b10 => ?_)
    · replace h := (if_neg b10).symm.trans h
      refine V_sub X [0, 2] (lv' := [(0, .ref (zad y (0, 32, 0))), (2, .int x4)]) rfl ?_
      cases h
      obtain ⟨rfl, rfl⟩ := pr2 hz
      exact hk
    · replace h := (if_pos b10).symm.trans h
      refine V_aload_n X 0 dX12_leads_24 rfl rfl ?_
      refine V_iconst X 2 dX12_leads_25 (by decide) ?_
      obtain ⟨x12, c11, h⟩ := bd_some h
      refine V_callVi X (As := [.int 2]) (M_X12_inState c11) (cwV 1 X.2.2.2.2.2.2.1 (gV wm_RX12_250 wi_X12_inState wse_X12_inState win_RX12 wc_X12_inState) rfl rfl rfl hd_X12_inState ⟨Nat.le_of_ble_eq_true rfl, Nat.le_of_ble_eq_true rfl⟩) (b := (0, 32, 0)) ⟨by decide, rfl⟩ rfl rfl rfl rfl (Nat.le_of_ble_eq_true rfl) dX12_leads_26 rfl ?_
      refine V_istore X [(4, .int x12), (0, .ref (zad y (0, 32, 0))), (1, .int a1), (2, .int x4), (3, .int x5)] dX12_leads_29 (by decide) rfl ?_
      refine V_iload X 0 dX12_leads_31 rfl ?_
      obtain ⟨x14, h1, h⟩ := bd_some h
      have hk : V X μ6 50 [(0, .ref (zad y (0, 32, 0))), (1, .int a1), (2, .int x14), (3, .int x5)] [] := by
        clear h1
        refine V_aload_n X 0 dX12_leads_50 rfl rfl ?_
        refine V_iconst X 0 dX12_leads_51 (by decide) ?_
        obtain ⟨μ20, c19, h⟩ := bd_some h
        refine V_callVv X (As := [.int 0]) (M_X12_passes c19) (cwV 1 X.2.2.2.2.2.2.1 (gV wm_RX12_335 wi_X12_passes wse_X12_passes win_RX12 wc_X12_passes) rfl rfl rfl hd_X12_passes ⟨Nat.le_of_ble_eq_true rfl, Nat.le_of_ble_eq_true rfl⟩) (b := (0, 32, 0)) ⟨by decide, rfl⟩ rfl rfl rfl rfl (Nat.le_of_ble_eq_true rfl) dX12_leads_52 rfl ?_
        refine V_inc X 3 1 [(3, .int (x5 + 1)), (0, .ref (zad y (0, 32, 0))), (1, .int a1), (2, .int x14)] dX12_leads_55 rfl (by decide) (by decide) rfl ?_
        refine V_goto X (tgt := 13) dX12_leads_58 (by decide) ?_
        refine V_sub X [1, 2, 3, 0] (lv' := [(0, .ref (zad y (0, 32, 0))), (1, .int a1), (2, .int x14), (3, .int (x5 + 1))]) rfl ?_
        cases h
        exact hz
      replace h := h1
      clear h1
      refine V_if_eq X (tgt := 50) dX12_leads_33 (by decide) (fun b13 => ?_) (fun b13 => ?_)
      · replace h := (if_pos b13).symm.trans h
        refine V_sub X [1, 2, 3, 4] (lv' := [(0, .ref (zad y (0, 32, 0))), (1, .int a1), (2, .int x4), (3, .int x5)]) rfl ?_
        obtain rfl := so1 h
        exact hk
      · replace h := (if_neg b13).symm.trans h
        refine V_iload_n X 2 dX12_leads_36 rfl rfl ?_
        obtain ⟨x16, h1, h⟩ := bd_some h
        have hk : V X μ6 49 [(0, .ref (zad y (0, 32, 0))), (1, .int a1), (3, .int x5)] [.int x16] := by
          clear h1
          refine V_istore_n X [(2, .int x16), (0, .ref (zad y (0, 32, 0))), (1, .int a1), (3, .int x5)] dX12_leads_49 rfl (by decide) rfl ?_
          refine V_sub X [1, 2, 0, 3] (lv' := [(0, .ref (zad y (0, 32, 0))), (1, .int a1), (2, .int x16), (3, .int x5)]) rfl ?_
          obtain rfl := so1 h
          exact hk
        replace h := h1
        clear h1
        refine V_if_eq X (tgt := 48) dX12_leads_37 (by decide) (fun b15 => ?_) (fun b15 => ?_)
        · replace h := (if_pos b15).symm.trans h
          refine V_iload_n X 4 dX12_leads_48 rfl rfl ?_
          refine V_sub X [1, 2, 4] (lv' := [(0, .ref (zad y (0, 32, 0))), (1, .int a1), (3, .int x5)]) rfl ?_
          obtain rfl := so1 h
          exact hk
        · replace h := (if_neg b15).symm.trans h
          refine V_iload X 0 dX12_leads_40 rfl ?_
          obtain ⟨x18, c17, h⟩ := bd_some h
          refine V_callSi X (As := [.int x12]) (M_X12_lowest c17) (va_cwS 1 X.2.2.2.2.2.2.1 (gS wm_RX12_374 wst_X12_lowest win_RX12 wc_X12_lowest) rfl rfl rfl hd_X12_lowest.2 ⟨Nat.le_of_ble_eq_true rfl, Nat.le_of_ble_eq_true rfl⟩) rfl (Nat.le_of_ble_eq_true rfl) dX12_leads_42 rfl ?_
          refine V_goto X (tgt := 49) dX12_leads_45 (by decide) ?_
          refine V_sub X [1, 2, 4] (lv' := [(0, .ref (zad y (0, 32, 0))), (1, .int a1), (3, .int x5)]) rfl ?_
          obtain rfl := so1 h
          exact hk

