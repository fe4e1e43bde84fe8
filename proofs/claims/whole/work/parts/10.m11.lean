def f_X12_follow (a1 : Int32) (μ : ZMem) : Option (ZMem) := bd (lp (σ := Int32) (fun (x1 : Int32) => bd (f_X12_isOf a1 x1) (fun (x4 : Int32) => if x4 = 0 then some (.inl (x1 + 1)) else some (.inr x1))) FU 0) (fun (x2 : Int32) => bd (lp (σ := Int32 × ZMem) (fun q => un2 q (fun (x6 : Int32) (μ7 : ZMem) => if (μ7 (0, 33, 0) 3) ≤ x6 then some (.inr μ7) else bd (f_X12_of x6 3 μ7) (fun (x11 : Int32) => bd (α := ZMem) (if x11 = 1 then gd (zin ((8 * x2) + x6) 64) (bd (f_X12_of x6 0 μ7) (fun (x16 : Int32) => bd (f_X12_lays x6 0 (f_X12_held ((μ7 (0, 39, 0) ((8 * x2) + x6).toNatClampNeg) + x16) 999) μ7) (fun (μ18 : ZMem) => bd (f_X12_of x2 5 μ18) (fun (x20 : Int32) => bd (f_X12_lays x6 5 (x20 ||| (1 <<< (x6 &&& 31))) μ18) (fun (μ22 : ZMem) => bd (f_X12_lays x6 3 2 μ22) (fun (μ24 : ZMem) => bd (f_X12_logs x6 2 x2 μ24) (fun (μ26 : ZMem) => some μ26))))))) else some μ7) (fun (μ13 : ZMem) => some (.inl ((x6 + 1), μ13)))))) FU (0, μ)) (fun (μ8 : ZMem) => some μ8))
set_option maxRecDepth 100000 in
set_option maxHeartbeats 4000000 in
theorem M_X12_follow {l : Launch} {D : va_G} {y : ZLay} {a1 : Int32}  {μ : ZMem} {μ0 : ZMem} (h : f_X12_follow a1 μ = some μ0) : MV l yX12_follow wb_X12_follow rm_X12_follow D y [.ref (zad y (0, 32, 0)), .int a1] μ μ0 := by
  unfold f_X12_follow at h
  refine MV_of RX12 [(0, .ref (zad y (0, 32, 0))), (1, .int a1)] (by decide) rfl rfl (Nat.le_of_ble_eq_true rfl) rfl ?_
  intro p e s m args below meth c A X
  refine V_iconst X 0 dX12_follow_0 (by decide) ?_
  refine V_istore_n X [(2, .int 0), (0, .ref (zad y (0, 32, 0))), (1, .int a1)] dX12_follow_1 rfl (by decide) rfl ?_
  refine V_sub X [1, 2, 0] (lv' := [(0, .ref (zad y (0, 32, 0))), (1, .int a1), (2, .int 0)]) rfl ?_
  obtain ⟨x2, hl, h⟩ := bd_some h
  have hk : V X μ 16 [(0, .ref (zad y (0, 32, 0))), (2, .int x2)] [] := by
    clear hl
    refine V_iconst X 0 dX12_follow_16 (by decide) ?_
    refine V_istore_n X [(3, .int 0), (0, .ref (zad y (0, 32, 0))), (2, .int x2)] dX12_follow_17 rfl (by decide) rfl ?_
    refine V_sub X [1, 2, 0] (lv' := [(0, .ref (zad y (0, 32, 0))), (2, .int x2), (3, .int 0)]) rfl ?_
    obtain ⟨μ8, hl, h⟩ := bd_some h
    have hk : V X μ8 107 [] [] := by
      clear hl
      exact V_vretW X h dX12_follow_107
    refine lp_ind (P := fun q => V X q.2 18 [(0, .ref (zad y (0, 32, 0))), (2, .int x2), (3, .int q.1)] []) (fun q z h hz => ?_) hl
    obtain ⟨x6, μ7⟩ := q
    replace h := un2_eq h
    show V X μ7 18 [(0, .ref (zad y (0, 32, 0))), (2, .int x2), (3, .int x6)] []
    refine V_iload_n X 2 dX12_follow_18 rfl rfl ?_
    refine V_aload_n X 0 dX12_follow_19 rfl rfl ?_
    refine V_getr X (o := (0, 32, 0)) (i := (0, 33, 0)) (ci := 12) (k := 1) (N := 30) (T := TX12) (C := RX12) ⟨by decide, rfl⟩ rfl rfl rfl (by decide) (mBa inB_X12) (mB wl_RX12_7) dX12_follow_20 ?_
    refine V_iconst X 3 dX12_follow_23 (by decide) ?_
    refine V_iald X 3 (by decide) (o := (0, 33, 0)) (n := 737) ⟨by decide, rfl⟩ rfl rfl (by decide) dX12_follow_24 ?_
    refine V_icmp_ge X (tgt := 107) dX12_follow_25 (by decide) (fun b9 => ?_) (fun b9 => ?_)
    · replace h := (if_pos b9).symm.trans h
      refine V_sub X [] (lv' := []) rfl ?_
      cases h
      obtain rfl := pr1 hz
      exact hk
    · replace h := (if_neg b9).symm.trans h
      refine V_aload_n X 0 dX12_follow_28 rfl rfl ?_
      refine V_iload_n X 2 dX12_follow_29 rfl rfl ?_
      refine V_iconst X 3 dX12_follow_30 (by decide) ?_
      obtain ⟨x11, c10, h⟩ := bd_some h
      refine V_callVi X (As := [.int x6, .int 3]) (M_X12_of c10) (cwV 2 X.2.2.2.2.2.2.1 (gV wm_RX12_66 wi_X12_of wse_X12_of win_RX12 wc_X12_of) rfl rfl rfl hd_X12_of ⟨Nat.le_of_ble_eq_true rfl, Nat.le_of_ble_eq_true rfl⟩) (b := (0, 32, 0)) ⟨by decide, rfl⟩ rfl rfl rfl rfl (Nat.le_of_ble_eq_true rfl) dX12_follow_31 rfl ?_
      refine V_iconst X 1 dX12_follow_34 (by decide) ?_
      obtain ⟨μ13, h1, h⟩ := bd_some h
      have hk : V X μ13 101 [(0, .ref (zad y (0, 32, 0))), (2, .int x2), (3, .int x6)] [] := by
        clear h1
        refine V_inc X 2 1 [(3, .int (x6 + 1)), (0, .ref (zad y (0, 32, 0))), (2, .int x2)] dX12_follow_101 rfl (by decide) (by decide) rfl ?_
        refine V_goto X (tgt := 18) dX12_follow_104 (by decide) ?_
        refine V_sub X [1, 2, 0] (lv' := [(0, .ref (zad y (0, 32, 0))), (2, .int x2), (3, .int (x6 + 1))]) rfl ?_
        cases h
        exact hz
      replace h := h1
      clear h1
      refine V_icmp_eq X (tgt := 41) dX12_follow_35 (by decide) (fun b12 => ?_) (fun b12 => ?_)
      · replace h := (if_pos b12).symm.trans h
        refine V_aload_n X 0 dX12_follow_41 rfl rfl ?_
        refine V_iload_n X 2 dX12_follow_42 rfl rfl ?_
        refine V_iconst X 0 dX12_follow_43 (by decide) ?_
        refine V_aload_n X 0 dX12_follow_44 rfl rfl ?_
        refine V_getr X (o := (0, 32, 0)) (i := (0, 39, 0)) (ci := 12) (k := 19) (N := 30) (T := TX12) (C := RX12) ⟨by decide, rfl⟩ rfl rfl rfl (by decide) (mBa inB_X12) (mB wl_RX12_32) dX12_follow_45 ?_
        refine V_bipush X 8 dX12_follow_48 (by decide) ?_
        refine V_iload_n X 1 dX12_follow_50 rfl rfl ?_
        refine V_imul X dX12_follow_51 ?_
        refine V_iload_n X 2 dX12_follow_52 rfl rfl ?_
        refine V_iadd X dX12_follow_53 ?_
        obtain ⟨g14, h⟩ := gd_some h
        refine V_iald X ((8 * x2) + x6).toNatClampNeg rfl (o := (0, 39, 0)) (n := 64) ⟨by decide, rfl⟩ rfl rfl g14 dX12_follow_54 ?_
        refine V_aload_n X 0 dX12_follow_55 rfl rfl ?_
        refine V_iload_n X 2 dX12_follow_56 rfl rfl ?_
        refine V_iconst X 0 dX12_follow_57 (by decide) ?_
        obtain ⟨x16, c15, h⟩ := bd_some h
        refine V_callVi X (As := [.int x6, .int 0]) (M_X12_of c15) (cwV 2 X.2.2.2.2.2.2.1 (gV wm_RX12_66 wi_X12_of wse_X12_of win_RX12 wc_X12_of) rfl rfl rfl hd_X12_of ⟨Nat.le_of_ble_eq_true rfl, Nat.le_of_ble_eq_true rfl⟩) (b := (0, 32, 0)) ⟨by decide, rfl⟩ rfl rfl rfl rfl (Nat.le_of_ble_eq_true rfl) dX12_follow_58 rfl ?_
        refine V_iadd X dX12_follow_61 ?_
        refine V_sipush X 999 dX12_follow_62 (by decide) ?_
        refine V_callSi X (As := [.int ((μ7 (0, 39, 0) ((8 * x2) + x6).toNatClampNeg) + x16), .int 999]) (M_X12_held) (va_cwS 2 X.2.2.2.2.2.2.1 (gS wm_RX12_291 wst_X12_held win_RX12 wc_X12_held) rfl rfl rfl hd_X12_held.2 ⟨Nat.le_of_ble_eq_true rfl, Nat.le_of_ble_eq_true rfl⟩) rfl (Nat.le_of_ble_eq_true rfl) dX12_follow_65 rfl ?_
        obtain ⟨μ18, c17, h⟩ := bd_some h
        refine V_callVv X (As := [.int x6, .int 0, .int (f_X12_held ((μ7 (0, 39, 0) ((8 * x2) + x6).toNatClampNeg) + x16) 999)]) (M_X12_lays c17) (cwV 3 X.2.2.2.2.2.2.1 (gV wm_RX12_146 wi_X12_lays wse_X12_lays win_RX12 wc_X12_lays) rfl rfl rfl hd_X12_lays ⟨Nat.le_of_ble_eq_true rfl, Nat.le_of_ble_eq_true rfl⟩) (b := (0, 32, 0)) ⟨by decide, rfl⟩ rfl rfl rfl rfl (Nat.le_of_ble_eq_true rfl) dX12_follow_68 rfl ?_
        refine V_aload_n X 0 dX12_follow_71 rfl rfl ?_
        refine V_iload_n X 2 dX12_follow_72 rfl rfl ?_
        refine V_iconst X 5 dX12_follow_73 (by decide) ?_
        refine V_aload_n X 0 dX12_follow_74 rfl rfl ?_
        refine V_iload_n X 1 dX12_follow_75 rfl rfl ?_
        refine V_iconst X 5 dX12_follow_76 (by decide) ?_
        obtain ⟨x20, c19, h⟩ := bd_some h
        refine V_callVi X (As := [.int x2, .int 5]) (M_X12_of c19) (cwV 2 X.2.2.2.2.2.2.1 (gV wm_RX12_66 wi_X12_of wse_X12_of win_RX12 wc_X12_of) rfl rfl rfl hd_X12_of ⟨Nat.le_of_ble_eq_true rfl, Nat.le_of_ble_eq_true rfl⟩) (b := (0, 32, 0)) ⟨by decide, rfl⟩ rfl rfl rfl rfl (Nat.le_of_ble_eq_true rfl) dX12_follow_77 rfl ?_
        refine V_iconst X 1 dX12_follow_80 (by decide) ?_
        refine V_iload_n X 2 dX12_follow_81 rfl rfl ?_
        refine V_ishl X dX12_follow_82 ?_
        refine V_ior X dX12_follow_83 ?_
        obtain ⟨μ22, c21, h⟩ := bd_some h
        refine V_callVv X (As := [.int x6, .int 5, .int (x20 ||| (1 <<< (x6 &&& 31)))]) (M_X12_lays c21) (cwV 3 X.2.2.2.2.2.2.1 (gV wm_RX12_146 wi_X12_lays wse_X12_lays win_RX12 wc_X12_lays) rfl rfl rfl hd_X12_lays ⟨Nat.le_of_ble_eq_true rfl, Nat.le_of_ble_eq_true rfl⟩) (b := (0, 32, 0)) ⟨by decide, rfl⟩ rfl rfl rfl rfl (Nat.le_of_ble_eq_true rfl) dX12_follow_84 rfl ?_
        refine V_aload_n X 0 dX12_follow_87 rfl rfl ?_
        refine V_iload_n X 2 dX12_follow_88 rfl rfl ?_
        refine V_iconst X 3 dX12_follow_89 (by decide) ?_
        refine V_iconst X 2 dX12_follow_90 (by decide) ?_
        obtain ⟨μ24, c23, h⟩ := bd_some h
        refine V_callVv X (As := [.int x6, .int 3, .int 2]) (M_X12_lays c23) (cwV 3 X.2.2.2.2.2.2.1 (gV wm_RX12_146 wi_X12_lays wse_X12_lays win_RX12 wc_X12_lays) rfl rfl rfl hd_X12_lays ⟨Nat.le_of_ble_eq_true rfl, Nat.le_of_ble_eq_true rfl⟩) (b := (0, 32, 0)) ⟨by decide, rfl⟩ rfl rfl rfl rfl (Nat.le_of_ble_eq_true rfl) dX12_follow_91 rfl ?_
        refine V_aload_n X 0 dX12_follow_94 rfl rfl ?_
        refine V_iload_n X 2 dX12_follow_95 rfl rfl ?_
        refine V_iconst X 2 dX12_follow_96 (by decide) ?_
        refine V_iload_n X 1 dX12_follow_97 rfl rfl ?_
        obtain ⟨μ26, c25, h⟩ := bd_some h
        refine V_callVv X (As := [.int x6, .int 2, .int x2]) (M_X12_logs c25) (cwV 3 X.2.2.2.2.2.2.1 (gV wm_RX12_288 wi_X12_logs wse_X12_logs win_RX12 wc_X12_logs) rfl rfl rfl hd_X12_logs ⟨Nat.le_of_ble_eq_true rfl, Nat.le_of_ble_eq_true rfl⟩) (b := (0, 32, 0)) ⟨by decide, rfl⟩ rfl rfl rfl rfl (Nat.le_of_ble_eq_true rfl) dX12_follow_98 rfl ?_
        obtain rfl := so1 h
        exact hk
      · replace h := (if_neg b12).symm.trans h
        refine V_goto X (tgt := 101) dX12_follow_38 (by decide) ?_
        obtain rfl := so1 h
        exact hk
  refine lp_ind (P := fun (x1 : Int32) => V X μ 2 [(0, .ref (zad y (0, 32, 0))), (1, .int a1), (2, .int x1)] []) (fun q z h hz => ?_) hl
  obtain ⟨x1, hq⟩ : ∃ x, x = q := ⟨q, rfl⟩
  subst hq
  show V X μ 2 [(0, .ref (zad y (0, 32, 0))), (1, .int a1), (2, .int x1)] []
  refine V_iload_n X 1 dX12_follow_2 rfl rfl ?_
  refine V_iload_n X 2 dX12_follow_3 rfl rfl ?_
  obtain ⟨x4, c3, h⟩ := bd_some h
  refine V_callSi X (As := [.int a1, .int x1]) (M_X12_isOf c3) (va_cwS 2 X.2.2.2.2.2.2.1 (gS wm_RX12_274 wst_X12_isOf win_RX12 wc_X12_isOf) rfl rfl rfl hd_X12_isOf.2 ⟨Nat.le_of_ble_eq_true rfl, Nat.le_of_ble_eq_true rfl⟩) rfl (Nat.le_of_ble_eq_true rfl) dX12_follow_4 rfl ?_
  refine V_if_ne X (tgt := 16) dX12_follow_7 (by decide) (fun b5 => ?_) (fun b5 => ?_)
  · replace h := (if_neg b5).symm.trans h
    refine V_sub X [0, 2] (lv' := [(0, .ref (zad y (0, 32, 0))), (2, .int x1)]) rfl ?_
    cases h
    obtain rfl := pr1 hz
    exact hk
  · replace h := (if_pos b5).symm.trans h
    refine V_inc X 2 1 [(2, .int (x1 + 1)), (0, .ref (zad y (0, 32, 0))), (1, .int a1)] dX12_follow_10 rfl (by decide) (by decide) rfl ?_
    refine V_goto X (tgt := 2) dX12_follow_13 (by decide) ?_
    refine V_sub X [1, 2, 0] (lv' := [(0, .ref (zad y (0, 32, 0))), (1, .int a1), (2, .int (x1 + 1))]) rfl ?_
    cases h
    exact hz

def f_X12_counts (a1 : Int32) (a2 : Int32) (μ : ZMem) : Option (ZMem) := zlt (a2 &&& ((1 <<< (a1 &&& 31)) ^^^ (-1))) (fun (x1 : Int32) => zlt (a2 &&& (1 <<< (a1 &&& 31))) (fun (x2 : Int32) => gd (zin a1 8) (bd (f_X12_bits (x1 &&& (μ (0, 40, 0) a1.toNatClampNeg))) (fun (x5 : Int32) => bd (f_X12_bits x2) (fun (x7 : Int32) => bd (f_X12_lays a1 6 (x5 + x7) μ) (fun (μ9 : ZMem) => bd (f_X12_bits (x1 &&& ((μ9 (0, 40, 0) a1.toNatClampNeg) ^^^ (-1)))) (fun (x11 : Int32) => bd (f_X12_lays a1 7 x11 μ9) (fun (μ13 : ZMem) => bd (f_X12_lays a1 5 ((x1 &&& (μ13 (0, 40, 0) a1.toNatClampNeg)) ||| x2) μ13) (fun (μ15 : ZMem) => some μ15)))))))))
set_option maxRecDepth 100000 in
set_option maxHeartbeats 4000000 in
theorem M_X12_counts {l : Launch} {D : va_G} {y : ZLay} {a1 : Int32} {a2 : Int32}  {μ : ZMem} {μ0 : ZMem} (h : f_X12_counts a1 a2 μ = some μ0) : MV l yX12_counts wb_X12_counts rm_X12_counts D y [.ref (zad y (0, 32, 0)), .int a1, .int a2] μ μ0 := by
  unfold f_X12_counts at h
  refine MV_of RX12 [(0, .ref (zad y (0, 32, 0))), (1, .int a1), (2, .int a2)] (by decide) rfl rfl (Nat.le_of_ble_eq_true rfl) rfl ?_
  intro p e s m args below meth c A X
  refine V_iload_n X 2 dX12_counts_0 rfl rfl ?_
  refine V_iconst X 1 dX12_counts_1 (by decide) ?_
  refine V_iload_n X 1 dX12_counts_2 rfl rfl ?_
  refine V_ishl X dX12_counts_3 ?_
  refine V_iconst X (-1) dX12_counts_4 (by decide) ?_
  refine V_ixor X dX12_counts_5 ?_
  refine V_iand X dX12_counts_6 ?_
  refine V_istore_n X [(3, .int (a2 &&& ((1 <<< (a1 &&& 31)) ^^^ (-1)))), (0, .ref (zad y (0, 32, 0))), (1, .int a1), (2, .int a2)] dX12_counts_7 rfl (by decide) rfl ?_
  refine zlt_el (P := fun (x1 : Int32) => V X μ 8 [(3, .int x1), (0, .ref (zad y (0, 32, 0))), (1, .int a1), (2, .int a2)] []) h (fun x1 h => ?_)
  refine V_iload_n X 3 dX12_counts_8 rfl rfl ?_
  refine V_iconst X 1 dX12_counts_9 (by decide) ?_
  refine V_iload_n X 2 dX12_counts_10 rfl rfl ?_
  refine V_ishl X dX12_counts_11 ?_
  refine V_iand X dX12_counts_12 ?_
  refine V_istore X [(4, .int (a2 &&& (1 <<< (a1 &&& 31)))), (3, .int x1), (0, .ref (zad y (0, 32, 0))), (1, .int a1), (2, .int a2)] dX12_counts_13 (by decide) rfl ?_
  refine zlt_el (P := fun (x2 : Int32) => V X μ 15 [(4, .int x2), (3, .int x1), (0, .ref (zad y (0, 32, 0))), (1, .int a1), (2, .int a2)] []) h (fun x2 h => ?_)
  refine V_aload_n X 2 dX12_counts_15 rfl rfl ?_
  refine V_iload_n X 3 dX12_counts_16 rfl rfl ?_
  refine V_bipush X 6 dX12_counts_17 (by decide) ?_
  refine V_iload_n X 1 dX12_counts_19 rfl rfl ?_
  refine V_aload_n X 2 dX12_counts_20 rfl rfl ?_
  refine V_getr X (o := (0, 32, 0)) (i := (0, 40, 0)) (ci := 12) (k := 20) (N := 30) (T := TX12) (C := RX12) ⟨by decide, rfl⟩ rfl rfl rfl (by decide) (mBa inB_X12) (mB wl_RX12_35) dX12_counts_21 ?_
  refine V_iload_n X 3 dX12_counts_24 rfl rfl ?_
  obtain ⟨g3, h⟩ := gd_some h
  refine V_iald X a1.toNatClampNeg rfl (o := (0, 40, 0)) (n := 8) ⟨by decide, rfl⟩ rfl rfl g3 dX12_counts_25 ?_
  refine V_iand X dX12_counts_26 ?_
  obtain ⟨x5, c4, h⟩ := bd_some h
  refine V_callSi X (As := [.int (x1 &&& (μ (0, 40, 0) a1.toNatClampNeg))]) (M_X12_bits c4) (va_cwS 1 X.2.2.2.2.2.2.1 (gS wm_RX12_247 wst_X12_bits win_RX12 wc_X12_bits) rfl rfl rfl hd_X12_bits.2 ⟨Nat.le_of_ble_eq_true rfl, Nat.le_of_ble_eq_true rfl⟩) rfl (Nat.le_of_ble_eq_true rfl) dX12_counts_27 rfl ?_
  refine V_iload X 0 dX12_counts_30 rfl ?_
  obtain ⟨x7, c6, h⟩ := bd_some h
  refine V_callSi X (As := [.int x2]) (M_X12_bits c6) (va_cwS 1 X.2.2.2.2.2.2.1 (gS wm_RX12_247 wst_X12_bits win_RX12 wc_X12_bits) rfl rfl rfl hd_X12_bits.2 ⟨Nat.le_of_ble_eq_true rfl, Nat.le_of_ble_eq_true rfl⟩) rfl (Nat.le_of_ble_eq_true rfl) dX12_counts_32 rfl ?_
  refine V_iadd X dX12_counts_35 ?_
  obtain ⟨μ9, c8, h⟩ := bd_some h
  refine V_callVv X (As := [.int a1, .int 6, .int (x5 + x7)]) (M_X12_lays c8) (cwV 3 X.2.2.2.2.2.2.1 (gV wm_RX12_146 wi_X12_lays wse_X12_lays win_RX12 wc_X12_lays) rfl rfl rfl hd_X12_lays ⟨Nat.le_of_ble_eq_true rfl, Nat.le_of_ble_eq_true rfl⟩) (b := (0, 32, 0)) ⟨by decide, rfl⟩ rfl rfl rfl rfl (Nat.le_of_ble_eq_true rfl) dX12_counts_36 rfl ?_
  refine V_aload_n X 2 dX12_counts_39 rfl rfl ?_
  refine V_iload_n X 3 dX12_counts_40 rfl rfl ?_
  refine V_bipush X 7 dX12_counts_41 (by decide) ?_
  refine V_iload_n X 1 dX12_counts_43 rfl rfl ?_
  refine V_aload_n X 2 dX12_counts_44 rfl rfl ?_
  refine V_getr X (o := (0, 32, 0)) (i := (0, 40, 0)) (ci := 12) (k := 20) (N := 30) (T := TX12) (C := RX12) ⟨by decide, rfl⟩ rfl rfl rfl (by decide) (mBa inB_X12) (mB wl_RX12_35) dX12_counts_45 ?_
  refine V_iload_n X 3 dX12_counts_48 rfl rfl ?_
  refine V_iald X a1.toNatClampNeg rfl (o := (0, 40, 0)) (n := 8) ⟨by decide, rfl⟩ rfl rfl g3 dX12_counts_49 ?_
  refine V_iconst X (-1) dX12_counts_50 (by decide) ?_
  refine V_ixor X dX12_counts_51 ?_
  refine V_iand X dX12_counts_52 ?_
  obtain ⟨x11, c10, h⟩ := bd_some h
  refine V_callSi X (As := [.int (x1 &&& ((μ9 (0, 40, 0) a1.toNatClampNeg) ^^^ (-1)))]) (M_X12_bits c10) (va_cwS 1 X.2.2.2.2.2.2.1 (gS wm_RX12_247 wst_X12_bits win_RX12 wc_X12_bits) rfl rfl rfl hd_X12_bits.2 ⟨Nat.le_of_ble_eq_true rfl, Nat.le_of_ble_eq_true rfl⟩) rfl (Nat.le_of_ble_eq_true rfl) dX12_counts_53 rfl ?_
  obtain ⟨μ13, c12, h⟩ := bd_some h
  refine V_callVv X (As := [.int a1, .int 7, .int x11]) (M_X12_lays c12) (cwV 3 X.2.2.2.2.2.2.1 (gV wm_RX12_146 wi_X12_lays wse_X12_lays win_RX12 wc_X12_lays) rfl rfl rfl hd_X12_lays ⟨Nat.le_of_ble_eq_true rfl, Nat.le_of_ble_eq_true rfl⟩) (b := (0, 32, 0)) ⟨by decide, rfl⟩ rfl rfl rfl rfl (Nat.le_of_ble_eq_true rfl) dX12_counts_56 rfl ?_
  refine V_aload_n X 2 dX12_counts_59 rfl rfl ?_
  refine V_iload_n X 3 dX12_counts_60 rfl rfl ?_
  refine V_iconst X 5 dX12_counts_61 (by decide) ?_
  refine V_iload_n X 1 dX12_counts_62 rfl rfl ?_
  refine V_aload_n X 2 dX12_counts_63 rfl rfl ?_
  refine V_getr X (o := (0, 32, 0)) (i := (0, 40, 0)) (ci := 12) (k := 20) (N := 30) (T := TX12) (C := RX12) ⟨by decide, rfl⟩ rfl rfl rfl (by decide) (mBa inB_X12) (mB wl_RX12_35) dX12_counts_64 ?_
  refine V_iload_n X 3 dX12_counts_67 rfl rfl ?_
  refine V_iald X a1.toNatClampNeg rfl (o := (0, 40, 0)) (n := 8) ⟨by decide, rfl⟩ rfl rfl g3 dX12_counts_68 ?_
  refine V_iand X dX12_counts_69 ?_
  refine V_iload X 0 dX12_counts_70 rfl ?_
  refine V_ior X dX12_counts_72 ?_
  obtain ⟨μ15, c14, h⟩ := bd_some h
  refine V_callVv X (As := [.int a1, .int 5, .int ((x1 &&& (μ13 (0, 40, 0) a1.toNatClampNeg)) ||| x2)]) (M_X12_lays c14) (cwV 3 X.2.2.2.2.2.2.1 (gV wm_RX12_146 wi_X12_lays wse_X12_lays win_RX12 wc_X12_lays) rfl rfl rfl hd_X12_lays ⟨Nat.le_of_ble_eq_true rfl, Nat.le_of_ble_eq_true rfl⟩) (b := (0, 32, 0)) ⟨by decide, rfl⟩ rfl rfl rfl rfl (Nat.le_of_ble_eq_true rfl) dX12_counts_73 rfl ?_
  exact V_vretW X h dX12_counts_76

def f_X12_nextOf (a1 : Int32) (a2 : Int32) : Option (Int32) := zlt (zrem (a2 + 1) 8) (fun (x1 : Int32) => bd (lp (σ := Int32) (fun (x2 : Int32) => bd (f_X12_isOf a1 x2) (fun (x5 : Int32) => if x5 = 0 then zlt (zrem (x2 + 1) 8) (fun (x7 : Int32) => some (.inl x7)) else some (.inr x2))) FU x1) (fun (x3 : Int32) => some x3))
set_option maxRecDepth 100000 in
set_option maxHeartbeats 4000000 in
theorem M_X12_nextOf {l : Launch} {D : va_G} {y : ZLay} {a1 : Int32} {a2 : Int32}  {μ : ZMem} {r : Int32} (h : f_X12_nextOf a1 a2 = some r) : MI l yX12_nextOf wb_X12_nextOf rm_X12_nextOf D y [.ref (zad y (0, 32, 0)), .int a1, .int a2] μ r μ := by
  unfold f_X12_nextOf at h
  refine MI_of RX12 [(0, .ref (zad y (0, 32, 0))), (1, .int a1), (2, .int a2)] (by decide) rfl rfl (Nat.le_of_ble_eq_true rfl) rfl ?_
  intro p e s m args below meth c A X
  refine V_iload_n X 2 dX12_nextOf_0 rfl rfl ?_
  refine V_iconst X 1 dX12_nextOf_1 (by decide) ?_
  refine V_iadd X dX12_nextOf_2 ?_
  refine V_bipush X 8 dX12_nextOf_3 (by decide) ?_
  refine V_rem X dX12_nextOf_5 (by decide) ?_
  refine V_istore_n X [(3, .int (zrem (a2 + 1) 8)), (0, .ref (zad y (0, 32, 0))), (1, .int a1), (2, .int a2)] dX12_nextOf_6 rfl (by decide) rfl ?_
  refine zlt_el (P := fun (x1 : Int32) => V X μ 7 [(3, .int x1), (0, .ref (zad y (0, 32, 0))), (1, .int a1), (2, .int a2)] []) h (fun x1 h => ?_)
  refine V_sub X [2, 0] (lv' := [(1, .int a1), (3, .int x1)]) rfl ?_
  obtain ⟨x3, hl, h⟩ := bd_some h
  have hk : V X μ 25 [(3, .int x3)] [] := by
    clear hl
    refine V_iload_n X 0 dX12_nextOf_25 rfl rfl ?_
    exact V_iretR X h dX12_nextOf_26
  refine lp_ind (P := fun (x2 : Int32) => V X μ 7 [(1, .int a1), (3, .int x2)] []) (fun q z h hz => ?_) hl
  obtain ⟨x2, hq⟩ : ∃ x, x = q := ⟨q, rfl⟩
  subst hq
  show V X μ 7 [(1, .int a1), (3, .int x2)] []
  refine V_iload_n X 0 dX12_nextOf_7 rfl rfl ?_
  refine V_iload_n X 1 dX12_nextOf_8 rfl rfl ?_
  obtain ⟨x5, c4, h⟩ := bd_some h
  refine V_callSi X (As := [.int a1, .int x2]) (M_X12_isOf c4) (va_cwS 2 X.2.2.2.2.2.2.1 (gS wm_RX12_274 wst_X12_isOf win_RX12 wc_X12_isOf) rfl rfl rfl hd_X12_isOf.2 ⟨Nat.le_of_ble_eq_true rfl, Nat.le_of_ble_eq_true rfl⟩) rfl (Nat.le_of_ble_eq_true rfl) dX12_nextOf_9 rfl ?_
  refine V_if_ne X (tgt := 25) dX12_nextOf_12 (by decide) (fun b6 => ?_) (fun b6 => ?_)
  · replace h := (if_neg b6).symm.trans h
    refine V_sub X [1] (lv' := [(3, .int x2)]) rfl ?_
    cases h
    obtain rfl := pr1 hz
    exact hk
  · replace h := (if_pos b6).symm.trans h
    refine V_iload_n X 1 dX12_nextOf_15 rfl rfl ?_
    refine V_iconst X 1 dX12_nextOf_16 (by decide) ?_
    refine V_iadd X dX12_nextOf_17 ?_
    refine V_bipush X 8 dX12_nextOf_18 (by decide) ?_
    refine V_rem X dX12_nextOf_20 (by decide) ?_
    refine V_istore_n X [(3, .int (zrem (x2 + 1) 8)), (1, .int a1)] dX12_nextOf_21 rfl (by decide) rfl ?_
    refine zlt_el (P := fun (x7 : Int32) => V X μ 22 [(3, .int x7), (1, .int a1)] []) h (fun x7 h => ?_)
    refine V_goto X (tgt := 7) dX12_nextOf_22 (by decide) ?_
    refine V_sub X [1, 0] (lv' := [(1, .int a1), (3, .int x7)]) rfl ?_
    cases h
    exact hz

def f_X12_isDenied (a1 : Int32) (a2 : Int32) (μ : ZMem) : Option (Int32 × ZMem) := bd (f_X12_nextOf a2 a1) (fun (x2 : Int32) => jk (some (0, μ)) (fun k4 => if x2 = a1 then k4 else gd (zin x2 8) (bd (f_X12_isOf (μ (0, 43, 0) x2.toNatClampNeg) a1) (fun (x7 : Int32) => if x7 = 0 then bd (f_X12_nextOf a2 x2) (fun (x10 : Int32) => jk (some (1, μ)) (fun k12 => if x10 = a1 then k12 else gd (zin x10 8) (bd (f_X12_isOf (μ (0, 43, 0) x10.toNatClampNeg) a1) (fun (x15 : Int32) => if x15 = 0 then k12 else bd (f_X12_of a1 5 μ) (fun (x18 : Int32) => bd (f_X12_lays a1 5 (x18 &&& ((1 <<< (x2 &&& 31)) ^^^ (-1))) μ) (fun (μ20 : ZMem) => some (0, μ20))))))) else k4))))
set_option maxRecDepth 100000 in
set_option maxHeartbeats 4000000 in
theorem M_X12_isDenied {l : Launch} {D : va_G} {y : ZLay} {a1 : Int32} {a2 : Int32}  {μ : ZMem} {r : Int32} {μ0 : ZMem} (h : f_X12_isDenied a1 a2 μ = some (r, μ0)) : MI l yX12_isDenied wb_X12_isDenied rm_X12_isDenied D y [.ref (zad y (0, 32, 0)), .int a1, .int a2] μ r μ0 := by
  unfold f_X12_isDenied at h
  refine MI_of RX12 [(0, .ref (zad y (0, 32, 0))), (1, .int a1), (2, .int a2)] (by decide) rfl rfl (Nat.le_of_ble_eq_true rfl) rfl ?_
  intro p e s m args below meth c A X
  refine V_aload_n X 0 dX12_isDenied_0 rfl rfl ?_
  refine V_iload_n X 2 dX12_isDenied_1 rfl rfl ?_
  refine V_iload_n X 1 dX12_isDenied_2 rfl rfl ?_
  obtain ⟨x2, c1, h⟩ := bd_some h
  refine V_callVi X (As := [.int a2, .int a1]) (M_X12_nextOf c1) (cwV 2 X.2.2.2.2.2.2.1 (gV wm_RX12_294 wi_X12_nextOf wse_X12_nextOf win_RX12 wc_X12_nextOf) rfl rfl rfl hd_X12_nextOf ⟨Nat.le_of_ble_eq_true rfl, Nat.le_of_ble_eq_true rfl⟩) (b := (0, 32, 0)) ⟨by decide, rfl⟩ rfl rfl rfl rfl (Nat.le_of_ble_eq_true rfl) dX12_isDenied_3 rfl ?_
  refine V_istore_n X [(3, .int x2), (0, .ref (zad y (0, 32, 0))), (1, .int a1), (2, .int a2)] dX12_isDenied_6 rfl (by decide) rfl ?_
  refine V_iload_n X 0 dX12_isDenied_7 rfl rfl ?_
  refine V_iload_n X 2 dX12_isDenied_8 rfl rfl ?_
  refine jk0_el (P := V X μ 25 [] []) h (fun h => ?_) (fun k4 hk4 h => ?_)
  · refine V_iconst X 0 dX12_isDenied_25 (by decide) ?_
    exact V_zretW X h (by decide) dX12_isDenied_26
  · refine V_icmp_eq X (tgt := 25) dX12_isDenied_9 (by decide) (fun b3 => ?_) (fun b3 => ?_)
    · replace h := (if_pos b3).symm.trans h
      refine V_sub X [] (lv' := []) rfl ?_
      exact hk4 h
    · replace h := (if_neg b3).symm.trans h
      refine V_aload_n X 1 dX12_isDenied_12 rfl rfl ?_
      refine V_getr X (o := (0, 32, 0)) (i := (0, 43, 0)) (ci := 12) (k := 23) (N := 30) (T := TX12) (C := RX12) ⟨by decide, rfl⟩ rfl rfl rfl (by decide) (mBa inB_X12) (mB wl_RX12_44) dX12_isDenied_13 ?_
      refine V_iload_n X 0 dX12_isDenied_16 rfl rfl ?_
      obtain ⟨g5, h⟩ := gd_some h
      refine V_iald X x2.toNatClampNeg rfl (o := (0, 43, 0)) (n := 8) ⟨by decide, rfl⟩ rfl rfl g5 dX12_isDenied_17 ?_
      refine V_iload_n X 2 dX12_isDenied_18 rfl rfl ?_
      obtain ⟨x7, c6, h⟩ := bd_some h
      refine V_callSi X (As := [.int (μ (0, 43, 0) x2.toNatClampNeg), .int a1]) (M_X12_isOf c6) (va_cwS 2 X.2.2.2.2.2.2.1 (gS wm_RX12_274 wst_X12_isOf win_RX12 wc_X12_isOf) rfl rfl rfl hd_X12_isOf.2 ⟨Nat.le_of_ble_eq_true rfl, Nat.le_of_ble_eq_true rfl⟩) rfl (Nat.le_of_ble_eq_true rfl) dX12_isDenied_19 rfl ?_
      refine V_if_eq X (tgt := 27) dX12_isDenied_22 (by decide) (fun b8 => ?_) (fun b8 => ?_)
      · replace h := (if_pos b8).symm.trans h
        refine V_aload_n X 1 dX12_isDenied_27 rfl rfl ?_
        refine V_iload_n X 3 dX12_isDenied_28 rfl rfl ?_
        refine V_iload_n X 0 dX12_isDenied_29 rfl rfl ?_
        obtain ⟨x10, c9, h⟩ := bd_some h
        refine V_callVi X (As := [.int a2, .int x2]) (M_X12_nextOf c9) (cwV 2 X.2.2.2.2.2.2.1 (gV wm_RX12_294 wi_X12_nextOf wse_X12_nextOf win_RX12 wc_X12_nextOf) rfl rfl rfl hd_X12_nextOf ⟨Nat.le_of_ble_eq_true rfl, Nat.le_of_ble_eq_true rfl⟩) (b := (0, 32, 0)) ⟨by decide, rfl⟩ rfl rfl rfl rfl (Nat.le_of_ble_eq_true rfl) dX12_isDenied_30 rfl ?_
        refine V_istore X [(4, .int x10), (3, .int x2), (0, .ref (zad y (0, 32, 0))), (1, .int a1), (2, .int a2)] dX12_isDenied_33 (by decide) rfl ?_
        refine V_iload X 0 dX12_isDenied_35 rfl ?_
        refine V_iload_n X 3 dX12_isDenied_37 rfl rfl ?_
        refine jk0_el (P := V X μ 55 [] []) h (fun h => ?_) (fun k12 hk12 h => ?_)
        · refine V_iconst X 1 dX12_isDenied_55 (by decide) ?_
          exact V_zretW X h (by decide) dX12_isDenied_56
        · refine V_icmp_eq X (tgt := 55) dX12_isDenied_38 (by decide) (fun b11 => ?_) (fun b11 => ?_)
          · replace h := (if_pos b11).symm.trans h
            refine V_sub X [] (lv' := []) rfl ?_
            exact hk12 h
          · replace h := (if_neg b11).symm.trans h
            refine V_aload_n X 2 dX12_isDenied_41 rfl rfl ?_
            refine V_getr X (o := (0, 32, 0)) (i := (0, 43, 0)) (ci := 12) (k := 23) (N := 30) (T := TX12) (C := RX12) ⟨by decide, rfl⟩ rfl rfl rfl (by decide) (mBa inB_X12) (mB wl_RX12_44) dX12_isDenied_42 ?_
            refine V_iload X 0 dX12_isDenied_45 rfl ?_
            obtain ⟨g13, h⟩ := gd_some h
            refine V_iald X x10.toNatClampNeg rfl (o := (0, 43, 0)) (n := 8) ⟨by decide, rfl⟩ rfl rfl g13 dX12_isDenied_47 ?_
            refine V_iload_n X 3 dX12_isDenied_48 rfl rfl ?_
            obtain ⟨x15, c14, h⟩ := bd_some h
            refine V_callSi X (As := [.int (μ (0, 43, 0) x10.toNatClampNeg), .int a1]) (M_X12_isOf c14) (va_cwS 2 X.2.2.2.2.2.2.1 (gS wm_RX12_274 wst_X12_isOf win_RX12 wc_X12_isOf) rfl rfl rfl hd_X12_isOf.2 ⟨Nat.le_of_ble_eq_true rfl, Nat.le_of_ble_eq_true rfl⟩) rfl (Nat.le_of_ble_eq_true rfl) dX12_isDenied_49 rfl ?_
            refine V_if_ne X (tgt := 57) dX12_isDenied_52 (by decide) (fun b16 => ?_) (fun b16 => ?_)
            · replace h := (if_neg b16).symm.trans h
              refine V_aload_n X 2 dX12_isDenied_57 rfl rfl ?_
              refine V_iload_n X 3 dX12_isDenied_58 rfl rfl ?_
              refine V_iconst X 5 dX12_isDenied_59 (by decide) ?_
              refine V_aload_n X 2 dX12_isDenied_60 rfl rfl ?_
              refine V_iload_n X 3 dX12_isDenied_61 rfl rfl ?_
              refine V_iconst X 5 dX12_isDenied_62 (by decide) ?_
              obtain ⟨x18, c17, h⟩ := bd_some h
              refine V_callVi X (As := [.int a1, .int 5]) (M_X12_of c17) (cwV 2 X.2.2.2.2.2.2.1 (gV wm_RX12_66 wi_X12_of wse_X12_of win_RX12 wc_X12_of) rfl rfl rfl hd_X12_of ⟨Nat.le_of_ble_eq_true rfl, Nat.le_of_ble_eq_true rfl⟩) (b := (0, 32, 0)) ⟨by decide, rfl⟩ rfl rfl rfl rfl (Nat.le_of_ble_eq_true rfl) dX12_isDenied_63 rfl ?_
              refine V_iconst X 1 dX12_isDenied_66 (by decide) ?_
              refine V_iload_n X 1 dX12_isDenied_67 rfl rfl ?_
              refine V_ishl X dX12_isDenied_68 ?_
              refine V_iconst X (-1) dX12_isDenied_69 (by decide) ?_
              refine V_ixor X dX12_isDenied_70 ?_
              refine V_iand X dX12_isDenied_71 ?_
              obtain ⟨μ20, c19, h⟩ := bd_some h
              refine V_callVv X (As := [.int a1, .int 5, .int (x18 &&& ((1 <<< (x2 &&& 31)) ^^^ (-1)))]) (M_X12_lays c19) (cwV 3 X.2.2.2.2.2.2.1 (gV wm_RX12_146 wi_X12_lays wse_X12_lays win_RX12 wc_X12_lays) rfl rfl rfl hd_X12_lays ⟨Nat.le_of_ble_eq_true rfl, Nat.le_of_ble_eq_true rfl⟩) (b := (0, 32, 0)) ⟨by decide, rfl⟩ rfl rfl rfl rfl (Nat.le_of_ble_eq_true rfl) dX12_isDenied_72 rfl ?_
              refine V_iconst X 0 dX12_isDenied_75 (by decide) ?_
              exact V_zretW X h (by decide) dX12_isDenied_76
            · replace h := (if_pos b16).symm.trans h
              refine V_sub X [] (lv' := []) rfl ?_
              exact hk12 h
      · replace h := (if_neg b8).symm.trans h
        refine V_sub X [] (lv' := []) rfl ?_
        exact hk4 h

def f_X12_freezes (a1 : Int32) (a2 : Int32) (μ : ZMem) : Option (ZMem) := bd (f_X12_lays a1 3 3 μ) (fun (μ2 : ZMem) => bd (f_X12_of a1 7 μ2) (fun (x4 : Int32) => bd (f_X12_logs a1 a2 x4 μ2) (fun (μ6 : ZMem) => zlt (mset μ6 (0, 32, 0) 25 ((μ6 (0, 32, 0) 25) + 1)) (fun (μ7 : ZMem) => some μ7))))
set_option maxRecDepth 100000 in
set_option maxHeartbeats 4000000 in
theorem M_X12_freezes {l : Launch} {D : va_G} {y : ZLay} {a1 : Int32} {a2 : Int32}  {μ : ZMem} {μ0 : ZMem} (h : f_X12_freezes a1 a2 μ = some μ0) : MV l yX12_freezes wb_X12_freezes rm_X12_freezes D y [.ref (zad y (0, 32, 0)), .int a1, .int a2] μ μ0 := by
  unfold f_X12_freezes at h
  refine MV_of RX12 [(0, .ref (zad y (0, 32, 0))), (1, .int a1), (2, .int a2)] (by decide) rfl rfl (Nat.le_of_ble_eq_true rfl) rfl ?_
  intro p e s m args below meth c A X
  refine V_aload_n X 0 dX12_freezes_0 rfl rfl ?_
  refine V_iload_n X 1 dX12_freezes_1 rfl rfl ?_
  refine V_iconst X 3 dX12_freezes_2 (by decide) ?_
  refine V_iconst X 3 dX12_freezes_3 (by decide) ?_
  obtain ⟨μ2, c1, h⟩ := bd_some h
  refine V_callVv X (As := [.int a1, .int 3, .int 3]) (M_X12_lays c1) (cwV 3 X.2.2.2.2.2.2.1 (gV wm_RX12_146 wi_X12_lays wse_X12_lays win_RX12 wc_X12_lays) rfl rfl rfl hd_X12_lays ⟨Nat.le_of_ble_eq_true rfl, Nat.le_of_ble_eq_true rfl⟩) (b := (0, 32, 0)) ⟨by decide, rfl⟩ rfl rfl rfl rfl (Nat.le_of_ble_eq_true rfl) dX12_freezes_4 rfl ?_
  refine V_aload_n X 0 dX12_freezes_7 rfl rfl ?_
  refine V_iload_n X 1 dX12_freezes_8 rfl rfl ?_
  refine V_iload_n X 2 dX12_freezes_9 rfl rfl ?_
  refine V_aload_n X 0 dX12_freezes_10 rfl rfl ?_
  refine V_iload_n X 1 dX12_freezes_11 rfl rfl ?_
  refine V_bipush X 7 dX12_freezes_12 (by decide) ?_
  obtain ⟨x4, c3, h⟩ := bd_some h
  refine V_callVi X (As := [.int a1, .int 7]) (M_X12_of c3) (cwV 2 X.2.2.2.2.2.2.1 (gV wm_RX12_66 wi_X12_of wse_X12_of win_RX12 wc_X12_of) rfl rfl rfl hd_X12_of ⟨Nat.le_of_ble_eq_true rfl, Nat.le_of_ble_eq_true rfl⟩) (b := (0, 32, 0)) ⟨by decide, rfl⟩ rfl rfl rfl rfl (Nat.le_of_ble_eq_true rfl) dX12_freezes_14 rfl ?_
  obtain ⟨μ6, c5, h⟩ := bd_some h
  refine V_callVv X (As := [.int a1, .int a2, .int x4]) (M_X12_logs c5) (cwV 3 X.2.2.2.2.2.2.1 (gV wm_RX12_288 wi_X12_logs wse_X12_logs win_RX12 wc_X12_logs) rfl rfl rfl hd_X12_logs ⟨Nat.le_of_ble_eq_true rfl, Nat.le_of_ble_eq_true rfl⟩) (b := (0, 32, 0)) ⟨by decide, rfl⟩ rfl rfl rfl rfl (Nat.le_of_ble_eq_true rfl) dX12_freezes_17 rfl ?_
  refine V_aload_n X 0 dX12_freezes_20 rfl rfl ?_
  refine V_dup X dX12_freezes_21 rfl ?_
  refine V_geti X (o := (0, 32, 0)) (ci := 12) (k := 25) (N := 30) (T := TX12) (C := RX12) ⟨by decide, rfl⟩ rfl rfl rfl (by decide) (mBa inB_X12) (mB wl_RX12_297) dX12_freezes_22 ?_
  refine V_iconst X 1 dX12_freezes_25 (by decide) ?_
  refine V_iadd X dX12_freezes_26 ?_
  refine V_puti X tyX12 .int (o := (0, 32, 0)) (ci := 12) (k := 25) (N := 30) (T := TX12) (C := RX12) ⟨by decide, rfl⟩ rfl rfl rfl (by decide) (mBa inB_X12) tyX12_ok nmX12 (mB wl_RX12_297) rfl rfl rfl rfl dX12_freezes_27 ?_
  refine zlt_el (P := fun (μ7 : ZMem) => V X μ7 30 [(0, .ref (zad y (0, 32, 0))), (1, .int a1), (2, .int a2)] []) h (fun μ7 h => ?_)
  exact V_vretW X h dX12_freezes_30

def f_X12_judges (a1 : Int32) (a2 : Int32) (μ : ZMem) : Option (ZMem) := bd (lp (σ := Int32 × ZMem) (fun q => un2 q (fun (x1 : Int32) (μ2 : ZMem) => if (μ2 (0, 33, 0) 3) ≤ x1 then some (.inr μ2) else bd (f_X12_of x1 5 μ2) (fun (x6 : Int32) => gd (zin x1 8) (zlt (mset μ2 (0, 43, 0) x1.toNatClampNeg x6) (fun (μ8 : ZMem) => some (.inl ((x1 + 1), μ8))))))) FU (0, μ)) (fun (μ3 : ZMem) => bd (lp (σ := Int32 × ZMem) (fun q => un2 q (fun (x9 : Int32) (μ10 : ZMem) => if (μ10 (0, 33, 0) 3) ≤ x9 then some (.inr μ10) else bd (f_X12_isOf a2 x9) (fun (x14 : Int32) => bd (α := ZMem) (if x14 = 0 then some μ10 else bd2 (f_X12_isDenied x9 a2 μ10) (fun (x18 : Int32) (μ19 : ZMem) => if x18 = 0 then some μ19 else bd (f_X12_freezes x9 3 μ19) (fun (μ22 : ZMem) => some μ22))) (fun (μ16 : ZMem) => some (.inl ((x9 + 1), μ16)))))) FU (0, μ3)) (fun (μ11 : ZMem) => bd (lp (σ := Int32 × ZMem) (fun q => un2 q (fun (x23 : Int32) (μ24 : ZMem) => if (μ24 (0, 33, 0) 3) ≤ x23 then some (.inr μ24) else bd (f_X12_isOf a1 x23) (fun (x28 : Int32) => bd (α := ZMem) (if x28 = 0 then some μ24 else bd (f_X12_isActive x23 μ24) (fun (x32 : Int32) => if x32 = 0 then some μ24 else bd (f_X12_of x23 7 μ24) (fun (x35 : Int32) => if x35 ≤ 0 then some μ24 else bd (f_X12_of x23 6 μ24) (fun (x38 : Int32) => bd (f_X12_of x23 7 μ24) (fun (x40 : Int32) => if x40 < x38 then some μ24 else bd (f_X12_freezes x23 4 μ24) (fun (μ43 : ZMem) => some μ43)))))) (fun (μ30 : ZMem) => some (.inl ((x23 + 1), μ30)))))) FU (0, μ11)) (fun (μ25 : ZMem) => some μ25)))
set_option maxRecDepth 100000 in
set_option maxHeartbeats 4000000 in
theorem M_X12_judges {l : Launch} {D : va_G} {y : ZLay} {a1 : Int32} {a2 : Int32}  {μ : ZMem} {μ0 : ZMem} (h : f_X12_judges a1 a2 μ = some μ0) : MV l yX12_judges wb_X12_judges rm_X12_judges D y [.ref (zad y (0, 32, 0)), .int a1, .int a2] μ μ0 := by
  unfold f_X12_judges at h
  refine MV_of RX12 [(0, .ref (zad y (0, 32, 0))), (1, .int a1), (2, .int a2)] (by decide) rfl rfl (Nat.le_of_ble_eq_true rfl) rfl ?_
  intro p e s m args below meth c A X
  refine V_iconst X 0 dX12_judges_0 (by decide) ?_
  refine V_istore_n X [(3, .int 0), (0, .ref (zad y (0, 32, 0))), (1, .int a1), (2, .int a2)] dX12_judges_1 rfl (by decide) rfl ?_
  refine V_sub X [1, 2, 3, 0] (lv' := [(0, .ref (zad y (0, 32, 0))), (1, .int a1), (2, .int a2), (3, .int 0)]) rfl ?_
  obtain ⟨μ3, hl, h⟩ := bd_some h
  have hk : V X μ3 30 [(0, .ref (zad y (0, 32, 0))), (1, .int a1), (2, .int a2)] [] := by
    clear hl
    refine V_iconst X 0 dX12_judges_30 (by decide) ?_
    refine V_istore_n X [(3, .int 0), (0, .ref (zad y (0, 32, 0))), (1, .int a1), (2, .int a2)] dX12_judges_31 rfl (by decide) rfl ?_
    refine V_sub X [1, 2, 3, 0] (lv' := [(0, .ref (zad y (0, 32, 0))), (1, .int a1), (2, .int a2), (3, .int 0)]) rfl ?_
    obtain ⟨μ11, hl, h⟩ := bd_some h
    have hk : V X μ11 71 [(0, .ref (zad y (0, 32, 0))), (1, .int a1)] [] := by
      clear hl
      refine V_iconst X 0 dX12_judges_71 (by decide) ?_
      refine V_istore_n X [(3, .int 0), (0, .ref (zad y (0, 32, 0))), (1, .int a1)] dX12_judges_72 rfl (by decide) rfl ?_
      refine V_sub X [1, 2, 0] (lv' := [(0, .ref (zad y (0, 32, 0))), (1, .int a1), (3, .int 0)]) rfl ?_
      obtain ⟨μ25, hl, h⟩ := bd_some h
      have hk : V X μ25 138 [] [] := by
        clear hl
        exact V_vretW X h dX12_judges_138
      refine lp_ind (P := fun q => V X q.2 73 [(0, .ref (zad y (0, 32, 0))), (1, .int a1), (3, .int q.1)] []) (fun q z h hz => ?_) hl
      obtain ⟨x23, μ24⟩ := q
      replace h := un2_eq h
      show V X μ24 73 [(0, .ref (zad y (0, 32, 0))), (1, .int a1), (3, .int x23)] []
      refine V_iload_n X 2 dX12_judges_73 rfl rfl ?_
      refine V_aload_n X 0 dX12_judges_74 rfl rfl ?_
      refine V_getr X (o := (0, 32, 0)) (i := (0, 33, 0)) (ci := 12) (k := 1) (N := 30) (T := TX12) (C := RX12) ⟨by decide, rfl⟩ rfl rfl rfl (by decide) (mBa inB_X12) (mB wl_RX12_7) dX12_judges_75 ?_
      refine V_iconst X 3 dX12_judges_78 (by decide) ?_
      refine V_iald X 3 (by decide) (o := (0, 33, 0)) (n := 737) ⟨by decide, rfl⟩ rfl rfl (by decide) dX12_judges_79 ?_
      refine V_icmp_ge X (tgt := 138) dX12_judges_80 (by decide) (fun b26 => ?_) (fun b26 => ?_)
      · replace h := (if_pos b26).symm.trans h
        refine V_sub X [] (lv' := []) rfl ?_
        cases h
        obtain rfl := pr1 hz
        exact hk
      · replace h := (if_neg b26).symm.trans h
        refine V_iload_n X 1 dX12_judges_83 rfl rfl ?_
        refine V_iload_n X 2 dX12_judges_84 rfl rfl ?_
        obtain ⟨x28, c27, h⟩ := bd_some h
        refine V_callSi X (As := [.int a1, .int x23]) (M_X12_isOf c27) (va_cwS 2 X.2.2.2.2.2.2.1 (gS wm_RX12_274 wst_X12_isOf win_RX12 wc_X12_isOf) rfl rfl rfl hd_X12_isOf.2 ⟨Nat.le_of_ble_eq_true rfl, Nat.le_of_ble_eq_true rfl⟩) rfl (Nat.le_of_ble_eq_true rfl) dX12_judges_85 rfl ?_
        obtain ⟨μ30, h1, h⟩ := bd_some h
        have hk : V X μ30 132 [(0, .ref (zad y (0, 32, 0))), (1, .int a1), (3, .int x23)] [] := by
          clear h1
          refine V_inc X 2 1 [(3, .int (x23 + 1)), (0, .ref (zad y (0, 32, 0))), (1, .int a1)] dX12_judges_132 rfl (by decide) (by decide) rfl ?_
          refine V_goto X (tgt := 73) dX12_judges_135 (by decide) ?_
          refine V_sub X [1, 2, 0] (lv' := [(0, .ref (zad y (0, 32, 0))), (1, .int a1), (3, .int (x23 + 1))]) rfl ?_
          cases h
          exact hz
        replace h := h1
        clear h1
        refine V_if_eq X (tgt := 132) dX12_judges_88 (by decide) (fun b29 => ?_) (fun b29 => ?_)
        · replace h := (if_pos b29).symm.trans h
          obtain rfl := so1 h
          exact hk
        · replace h := (if_neg b29).symm.trans h
          refine V_aload_n X 0 dX12_judges_91 rfl rfl ?_
          refine V_iload_n X 2 dX12_judges_92 rfl rfl ?_
          obtain ⟨x32, c31, h⟩ := bd_some h
          refine V_callVi X (As := [.int x23]) (M_X12_isActive c31) (cwV 1 X.2.2.2.2.2.2.1 (gV wm_RX12_262 wi_X12_isActive wse_X12_isActive win_RX12 wc_X12_isActive) rfl rfl rfl hd_X12_isActive ⟨Nat.le_of_ble_eq_true rfl, Nat.le_of_ble_eq_true rfl⟩) (b := (0, 32, 0)) ⟨by decide, rfl⟩ rfl rfl rfl rfl (Nat.le_of_ble_eq_true rfl) dX12_judges_93 rfl ?_
          refine V_if_eq X (tgt := 132) dX12_judges_96 (by decide) (fun b33 => ?_) (fun b33 => ?_)
          · replace h := (if_pos b33).symm.trans h
            obtain rfl := so1 h
            exact hk
          · replace h := (if_neg b33).symm.trans h
            refine V_aload_n X 0 dX12_judges_99 rfl rfl ?_
            refine V_iload_n X 2 dX12_judges_100 rfl rfl ?_
            refine V_bipush X 7 dX12_judges_101 (by decide) ?_
            obtain ⟨x35, c34, h⟩ := bd_some h
            refine V_callVi X (As := [.int x23, .int 7]) (M_X12_of c34) (cwV 2 X.2.2.2.2.2.2.1 (gV wm_RX12_66 wi_X12_of wse_X12_of win_RX12 wc_X12_of) rfl rfl rfl hd_X12_of ⟨Nat.le_of_ble_eq_true rfl, Nat.le_of_ble_eq_true rfl⟩) (b := (0, 32, 0)) ⟨by decide, rfl⟩ rfl rfl rfl rfl (Nat.le_of_ble_eq_true rfl) dX12_judges_103 rfl ?_
            refine V_if_le X (tgt := 132) dX12_judges_106 (by decide) (fun b36 => ?_) (fun b36 => ?_)
            · replace h := (if_pos b36).symm.trans h
              obtain rfl := so1 h
              exact hk
            · replace h := (if_neg b36).symm.trans h
              refine V_aload_n X 0 dX12_judges_109 rfl rfl ?_
              refine V_iload_n X 2 dX12_judges_110 rfl rfl ?_
              refine V_bipush X 6 dX12_judges_111 (by decide) ?_
              obtain ⟨x38, c37, h⟩ := bd_some h
              refine V_callVi X (As := [.int x23, .int 6]) (M_X12_of c37) (cwV 2 X.2.2.2.2.2.2.1 (gV wm_RX12_66 wi_X12_of wse_X12_of win_RX12 wc_X12_of) rfl rfl rfl hd_X12_of ⟨Nat.le_of_ble_eq_true rfl, Nat.le_of_ble_eq_true rfl⟩) (b := (0, 32, 0)) ⟨by decide, rfl⟩ rfl rfl rfl rfl (Nat.le_of_ble_eq_true rfl) dX12_judges_113 rfl ?_
              refine V_aload_n X 0 dX12_judges_116 rfl rfl ?_
              refine V_iload_n X 2 dX12_judges_117 rfl rfl ?_
              refine V_bipush X 7 dX12_judges_118 (by decide) ?_
              obtain ⟨x40, c39, h⟩ := bd_some h
              refine V_callVi X (As := [.int x23, .int 7]) (M_X12_of c39) (cwV 2 X.2.2.2.2.2.2.1 (gV wm_RX12_66 wi_X12_of wse_X12_of win_RX12 wc_X12_of) rfl rfl rfl hd_X12_of ⟨Nat.le_of_ble_eq_true rfl, Nat.le_of_ble_eq_true rfl⟩) (b := (0, 32, 0)) ⟨by decide, rfl⟩ rfl rfl rfl rfl (Nat.le_of_ble_eq_true rfl) dX12_judges_120 rfl ?_
              refine V_icmp_gt X (tgt := 132) dX12_judges_123 (by decide) (fun b41 => ?_) (fun b41 => ?_)
              · replace h := (if_pos b41).symm.trans h
                obtain rfl := so1 h
                exact hk
              · replace h := (if_neg b41).symm.trans h
                refine V_aload_n X 0 dX12_judges_126 rfl rfl ?_
                refine V_iload_n X 2 dX12_judges_127 rfl rfl ?_
                refine V_iconst X 4 dX12_judges_128 (by decide) ?_
                obtain ⟨μ43, c42, h⟩ := bd_some h
                refine V_callVv X (As := [.int x23, .int 4]) (M_X12_freezes c42) (cwV 2 X.2.2.2.2.2.2.1 (gV wm_RX12_303 wi_X12_freezes wse_X12_freezes win_RX12 wc_X12_freezes) rfl rfl rfl hd_X12_freezes ⟨Nat.le_of_ble_eq_true rfl, Nat.le_of_ble_eq_true rfl⟩) (b := (0, 32, 0)) ⟨by decide, rfl⟩ rfl rfl rfl rfl (Nat.le_of_ble_eq_true rfl) dX12_judges_129 rfl ?_
                obtain rfl := so1 h
                exact hk
    refine lp_ind (P := fun q => V X q.2 32 [(0, .ref (zad y (0, 32, 0))), (1, .int a1), (2, .int a2), (3, .int q.1)] []) (fun q z h hz => ?_) hl
    obtain ⟨x9, μ10⟩ := q
    replace h := un2_eq h
    show V X μ10 32 [(0, .ref (zad y (0, 32, 0))), (1, .int a1), (2, .int a2), (3, .int x9)] []
    refine V_iload_n X 3 dX12_judges_32 rfl rfl ?_
    refine V_aload_n X 0 dX12_judges_33 rfl rfl ?_
    refine V_getr X (o := (0, 32, 0)) (i := (0, 33, 0)) (ci := 12) (k := 1) (N := 30) (T := TX12) (C := RX12) ⟨by decide, rfl⟩ rfl rfl rfl (by decide) (mBa inB_X12) (mB wl_RX12_7) dX12_judges_34 ?_
    refine V_iconst X 3 dX12_judges_37 (by decide) ?_
    refine V_iald X 3 (by decide) (o := (0, 33, 0)) (n := 737) ⟨by decide, rfl⟩ rfl rfl (by decide) dX12_judges_38 ?_
    refine V_icmp_ge X (tgt := 71) dX12_judges_39 (by decide) (fun b12 => ?_) (fun b12 => ?_)
    · replace h := (if_pos b12).symm.trans h
      refine V_sub X [0, 1] (lv' := [(0, .ref (zad y (0, 32, 0))), (1, .int a1)]) rfl ?_
      cases h
      obtain rfl := pr1 hz
      exact hk
    · replace h := (if_neg b12).symm.trans h
      refine V_iload_n X 2 dX12_judges_42 rfl rfl ?_
      refine V_iload_n X 3 dX12_judges_43 rfl rfl ?_
      obtain ⟨x14, c13, h⟩ := bd_some h
      refine V_callSi X (As := [.int a2, .int x9]) (M_X12_isOf c13) (va_cwS 2 X.2.2.2.2.2.2.1 (gS wm_RX12_274 wst_X12_isOf win_RX12 wc_X12_isOf) rfl rfl rfl hd_X12_isOf.2 ⟨Nat.le_of_ble_eq_true rfl, Nat.le_of_ble_eq_true rfl⟩) rfl (Nat.le_of_ble_eq_true rfl) dX12_judges_44 rfl ?_
      obtain ⟨μ16, h1, h⟩ := bd_some h
      have hk : V X μ16 65 [(0, .ref (zad y (0, 32, 0))), (1, .int a1), (2, .int a2), (3, .int x9)] [] := by
        clear h1
        refine V_inc X 3 1 [(3, .int (x9 + 1)), (0, .ref (zad y (0, 32, 0))), (1, .int a1), (2, .int a2)] dX12_judges_65 rfl (by decide) (by decide) rfl ?_
        refine V_goto X (tgt := 32) dX12_judges_68 (by decide) ?_
        refine V_sub X [1, 2, 3, 0] (lv' := [(0, .ref (zad y (0, 32, 0))), (1, .int a1), (2, .int a2), (3, .int (x9 + 1))]) rfl ?_
        cases h
        exact hz
      replace h := h1
      clear h1
      refine V_if_eq X (tgt := 65) dX12_judges_47 (by decide) (fun b15 => ?_) (fun b15 => ?_)
      · replace h := (if_pos b15).symm.trans h
        obtain rfl := so1 h
        exact hk
      · replace h := (if_neg b15).symm.trans h
        refine V_aload_n X 0 dX12_judges_50 rfl rfl ?_
        refine V_iload_n X 3 dX12_judges_51 rfl rfl ?_
        refine V_iload_n X 2 dX12_judges_52 rfl rfl ?_
        obtain ⟨x18, μ19, c17, h⟩ := bd2_some h
        refine V_callVi X (As := [.int x9, .int a2]) (M_X12_isDenied c17) (cwV 2 X.2.2.2.2.2.2.1 (gV wm_RX12_300 wi_X12_isDenied wse_X12_isDenied win_RX12 wc_X12_isDenied) rfl rfl rfl hd_X12_isDenied ⟨Nat.le_of_ble_eq_true rfl, Nat.le_of_ble_eq_true rfl⟩) (b := (0, 32, 0)) ⟨by decide, rfl⟩ rfl rfl rfl rfl (Nat.le_of_ble_eq_true rfl) dX12_judges_53 rfl ?_
        refine V_if_eq X (tgt := 65) dX12_judges_56 (by decide) (fun b20 => ?_) (fun b20 => ?_)
        · replace h := (if_pos b20).symm.trans h
          obtain rfl := so1 h
          exact hk
        · replace h := (if_neg b20).symm.trans h
          refine V_aload_n X 0 dX12_judges_59 rfl rfl ?_
          refine V_iload_n X 3 dX12_judges_60 rfl rfl ?_
          refine V_iconst X 3 dX12_judges_61 (by decide) ?_
          obtain ⟨μ22, c21, h⟩ := bd_some h
          refine V_callVv X (As := [.int x9, .int 3]) (M_X12_freezes c21) (cwV 2 X.2.2.2.2.2.2.1 (gV wm_RX12_303 wi_X12_freezes wse_X12_freezes win_RX12 wc_X12_freezes) rfl rfl rfl hd_X12_freezes ⟨Nat.le_of_ble_eq_true rfl, Nat.le_of_ble_eq_true rfl⟩) (b := (0, 32, 0)) ⟨by decide, rfl⟩ rfl rfl rfl rfl (Nat.le_of_ble_eq_true rfl) dX12_judges_62 rfl ?_
          obtain rfl := so1 h
          exact hk
  refine lp_ind (P := fun q => V X q.2 2 [(0, .ref (zad y (0, 32, 0))), (1, .int a1), (2, .int a2), (3, .int q.1)] []) (fun q z h hz => ?_) hl
  obtain ⟨x1, μ2⟩ := q
  replace h := un2_eq h
  show V X μ2 2 [(0, .ref (zad y (0, 32, 0))), (1, .int a1), (2, .int a2), (3, .int x1)] []
  refine V_iload_n X 3 dX12_judges_2 rfl rfl ?_
  refine V_aload_n X 0 dX12_judges_3 rfl rfl ?_
  refine V_getr X (o := (0, 32, 0)) (i := (0, 33, 0)) (ci := 12) (k := 1) (N := 30) (T := TX12) (C := RX12) ⟨by decide, rfl⟩ rfl rfl rfl (by decide) (mBa inB_X12) (mB wl_RX12_7) dX12_judges_4 ?_
  refine V_iconst X 3 dX12_judges_7 (by decide) ?_
  refine V_iald X 3 (by decide) (o := (0, 33, 0)) (n := 737) ⟨by decide, rfl⟩ rfl rfl (by decide) dX12_judges_8 ?_
  refine V_icmp_ge X (tgt := 30) dX12_judges_9 (by decide) (fun b4 => ?_) (fun b4 => ?_)
  · replace h := (if_pos b4).symm.trans h
    refine V_sub X [0, 1, 2] (lv' := [(0, .ref (zad y (0, 32, 0))), (1, .int a1), (2, .int a2)]) rfl ?_
    cases h
    obtain rfl := pr1 hz
    exact hk
  · replace h := (if_neg b4).symm.trans h
    refine V_aload_n X 0 dX12_judges_12 rfl rfl ?_
    refine V_getr X (o := (0, 32, 0)) (i := (0, 43, 0)) (ci := 12) (k := 23) (N := 30) (T := TX12) (C := RX12) ⟨by decide, rfl⟩ rfl rfl rfl (by decide) (mBa inB_X12) (mB wl_RX12_44) dX12_judges_13 ?_
    refine V_iload_n X 3 dX12_judges_16 rfl rfl ?_
    refine V_aload_n X 0 dX12_judges_17 rfl rfl ?_
    refine V_iload_n X 3 dX12_judges_18 rfl rfl ?_
    refine V_iconst X 5 dX12_judges_19 (by decide) ?_
    obtain ⟨x6, c5, h⟩ := bd_some h
    refine V_callVi X (As := [.int x1, .int 5]) (M_X12_of c5) (cwV 2 X.2.2.2.2.2.2.1 (gV wm_RX12_66 wi_X12_of wse_X12_of win_RX12 wc_X12_of) rfl rfl rfl hd_X12_of ⟨Nat.le_of_ble_eq_true rfl, Nat.le_of_ble_eq_true rfl⟩) (b := (0, 32, 0)) ⟨by decide, rfl⟩ rfl rfl rfl rfl (Nat.le_of_ble_eq_true rfl) dX12_judges_20 rfl ?_
    obtain ⟨g7, h⟩ := gd_some h
    refine V_iast X x1.toNatClampNeg rfl (o := (0, 43, 0)) (n := 8) ⟨by decide, rfl⟩ rfl rfl g7 dX12_judges_23 ?_
    refine zlt_el (P := fun (μ8 : ZMem) => V X μ8 24 [(0, .ref (zad y (0, 32, 0))), (1, .int a1), (2, .int a2), (3, .int x1)] []) h (fun μ8 h => ?_)
    refine V_inc X 3 1 [(3, .int (x1 + 1)), (0, .ref (zad y (0, 32, 0))), (1, .int a1), (2, .int a2)] dX12_judges_24 rfl (by decide) (by decide) rfl ?_
    refine V_goto X (tgt := 2) dX12_judges_27 (by decide) ?_
    refine V_sub X [1, 2, 3, 0] (lv' := [(0, .ref (zad y (0, 32, 0))), (1, .int a1), (2, .int a2), (3, .int (x1 + 1))]) rfl ?_
    cases h
    exact hz

def f_X12_corrects (a1 : Int32) (a2 : Int32) (μ : ZMem) : Option (ZMem) := bd2 (f_X12_middleOf a1 a2 μ) (fun (x2 : Int32) (μ3 : ZMem) => bd (α := ZMem) (if (zrem (μ3 (0, 33, 0) 6) 2) = 0 then bd (f_X12_of a1 0 μ3) (fun (x11 : Int32) => bd (f_X12_lays a1 0 (x11 + x2) μ3) (fun (μ13 : ZMem) => some μ13)) else bd (f_X12_of a1 2 μ3) (fun (x7 : Int32) => bd (f_X12_lays a1 2 (f_X12_held (x7 + (x2 / 4)) 9) μ3) (fun (μ9 : ZMem) => some μ9))) (fun (μ5 : ZMem) => some μ5))
set_option maxRecDepth 100000 in
set_option maxHeartbeats 4000000 in
theorem M_X12_corrects {l : Launch} {D : va_G} {y : ZLay} {a1 : Int32} {a2 : Int32}  {μ : ZMem} {μ0 : ZMem} (h : f_X12_corrects a1 a2 μ = some μ0) : MV l yX12_corrects wb_X12_corrects rm_X12_corrects D y [.ref (zad y (0, 32, 0)), .int a1, .int a2] μ μ0 := by
  unfold f_X12_corrects at h
  refine MV_of RX12 [(0, .ref (zad y (0, 32, 0))), (1, .int a1), (2, .int a2)] (by decide) rfl rfl (Nat.le_of_ble_eq_true rfl) rfl ?_
  intro p e s m args below meth c A X
  refine V_aload_n X 0 dX12_corrects_0 rfl rfl ?_
  refine V_iload_n X 1 dX12_corrects_1 rfl rfl ?_
  refine V_iload_n X 2 dX12_corrects_2 rfl rfl ?_
  obtain ⟨x2, μ3, c1, h⟩ := bd2_some h
  refine V_callVi X (As := [.int a1, .int a2]) (M_X12_middleOf c1) (cwV 2 X.2.2.2.2.2.2.1 (gV wm_RX12_307 wi_X12_middleOf wse_X12_middleOf win_RX12 wc_X12_middleOf) rfl rfl rfl hd_X12_middleOf ⟨Nat.le_of_ble_eq_true rfl, Nat.le_of_ble_eq_true rfl⟩) (b := (0, 32, 0)) ⟨by decide, rfl⟩ rfl rfl rfl rfl (Nat.le_of_ble_eq_true rfl) dX12_corrects_3 rfl ?_
  refine V_istore_n X [(3, .int x2), (0, .ref (zad y (0, 32, 0))), (1, .int a1), (2, .int a2)] dX12_corrects_6 rfl (by decide) rfl ?_
  refine V_aload_n X 1 dX12_corrects_7 rfl rfl ?_
  refine V_getr X (o := (0, 32, 0)) (i := (0, 33, 0)) (ci := 12) (k := 1) (N := 30) (T := TX12) (C := RX12) ⟨by decide, rfl⟩ rfl rfl rfl (by decide) (mBa inB_X12) (mB wl_RX12_7) dX12_corrects_8 ?_
  refine V_bipush X 6 dX12_corrects_11 (by decide) ?_
  refine V_iald X 6 (by decide) (o := (0, 33, 0)) (n := 737) ⟨by decide, rfl⟩ rfl rfl (by decide) dX12_corrects_13 ?_
  refine V_iconst X 2 dX12_corrects_14 (by decide) ?_
  refine V_rem X dX12_corrects_15 (by decide) ?_
  obtain ⟨μ5, h1, h⟩ := bd_some h
  have hk : V X μ5 57 [] [] := by
    clear h1
    exact V_vretW X h dX12_corrects_57
  replace h := h1
  clear h1
  refine V_if_ne X (tgt := 36) dX12_corrects_16 (by decide) (fun b4 => ?_) (fun b4 => ?_)
  · replace h := (if_neg b4).symm.trans h
    refine V_aload_n X 1 dX12_corrects_36 rfl rfl ?_
    refine V_iload_n X 2 dX12_corrects_37 rfl rfl ?_
    refine V_iconst X 2 dX12_corrects_38 (by decide) ?_
    refine V_aload_n X 1 dX12_corrects_39 rfl rfl ?_
    refine V_iload_n X 2 dX12_corrects_40 rfl rfl ?_
    refine V_iconst X 2 dX12_corrects_41 (by decide) ?_
    obtain ⟨x7, c6, h⟩ := bd_some h
    refine V_callVi X (As := [.int a1, .int 2]) (M_X12_of c6) (cwV 2 X.2.2.2.2.2.2.1 (gV wm_RX12_66 wi_X12_of wse_X12_of win_RX12 wc_X12_of) rfl rfl rfl hd_X12_of ⟨Nat.le_of_ble_eq_true rfl, Nat.le_of_ble_eq_true rfl⟩) (b := (0, 32, 0)) ⟨by decide, rfl⟩ rfl rfl rfl rfl (Nat.le_of_ble_eq_true rfl) dX12_corrects_42 rfl ?_
    refine V_iload_n X 0 dX12_corrects_45 rfl rfl ?_
    refine V_iconst X 4 dX12_corrects_46 (by decide) ?_
    refine V_idiv X dX12_corrects_47 (by decide) ?_
    refine V_iadd X dX12_corrects_48 ?_
    refine V_bipush X 9 dX12_corrects_49 (by decide) ?_
    refine V_callSi X (As := [.int (x7 + (x2 / 4)), .int 9]) (M_X12_held) (va_cwS 2 X.2.2.2.2.2.2.1 (gS wm_RX12_291 wst_X12_held win_RX12 wc_X12_held) rfl rfl rfl hd_X12_held.2 ⟨Nat.le_of_ble_eq_true rfl, Nat.le_of_ble_eq_true rfl⟩) rfl (Nat.le_of_ble_eq_true rfl) dX12_corrects_51 rfl ?_
    obtain ⟨μ9, c8, h⟩ := bd_some h
    refine V_callVv X (As := [.int a1, .int 2, .int (f_X12_held (x7 + (x2 / 4)) 9)]) (M_X12_lays c8) (cwV 3 X.2.2.2.2.2.2.1 (gV wm_RX12_146 wi_X12_lays wse_X12_lays win_RX12 wc_X12_lays) rfl rfl rfl hd_X12_lays ⟨Nat.le_of_ble_eq_true rfl, Nat.le_of_ble_eq_true rfl⟩) (b := (0, 32, 0)) ⟨by decide, rfl⟩ rfl rfl rfl rfl (Nat.le_of_ble_eq_true rfl) dX12_corrects_54 rfl ?_
    refine V_sub X [] (lv' := []) rfl ?_
    obtain rfl := so1 h
    exact hk
  · replace h := (if_pos b4).symm.trans h
    refine V_aload_n X 1 dX12_corrects_19 rfl rfl ?_
    refine V_iload_n X 2 dX12_corrects_20 rfl rfl ?_
    refine V_iconst X 0 dX12_corrects_21 (by decide) ?_
    refine V_aload_n X 1 dX12_corrects_22 rfl rfl ?_
    refine V_iload_n X 2 dX12_corrects_23 rfl rfl ?_
    refine V_iconst X 0 dX12_corrects_24 (by decide) ?_
    obtain ⟨x11, c10, h⟩ := bd_some h
    refine V_callVi X (As := [.int a1, .int 0]) (M_X12_of c10) (cwV 2 X.2.2.2.2.2.2.1 (gV wm_RX12_66 wi_X12_of wse_X12_of win_RX12 wc_X12_of) rfl rfl rfl hd_X12_of ⟨Nat.le_of_ble_eq_true rfl, Nat.le_of_ble_eq_true rfl⟩) (b := (0, 32, 0)) ⟨by decide, rfl⟩ rfl rfl rfl rfl (Nat.le_of_ble_eq_true rfl) dX12_corrects_25 rfl ?_
    refine V_iload_n X 0 dX12_corrects_28 rfl rfl ?_
    refine V_iadd X dX12_corrects_29 ?_
    obtain ⟨μ13, c12, h⟩ := bd_some h
    refine V_callVv X (As := [.int a1, .int 0, .int (x11 + x2)]) (M_X12_lays c12) (cwV 3 X.2.2.2.2.2.2.1 (gV wm_RX12_146 wi_X12_lays wse_X12_lays win_RX12 wc_X12_lays) rfl rfl rfl hd_X12_lays ⟨Nat.le_of_ble_eq_true rfl, Nat.le_of_ble_eq_true rfl⟩) (b := (0, 32, 0)) ⟨by decide, rfl⟩ rfl rfl rfl rfl (Nat.le_of_ble_eq_true rfl) dX12_corrects_30 rfl ?_
    refine V_goto X (tgt := 57) dX12_corrects_33 (by decide) ?_
    refine V_sub X [] (lv' := []) rfl ?_
    obtain rfl := so1 h
    exact hk

def f_X12_sendersOf (a1 : Int32) (a2 : Int32) (μ : ZMem) : Option (Int32 × ZMem) := bd2 (lp (σ := Int32 × Int32 × ZMem) (fun q => un3 q (fun (x1 : Int32) (x2 : Int32) (μ3 : ZMem) => if (μ3 (0, 33, 0) 3) ≤ x2 then some (.inr (x1, μ3)) else bd (f_X12_isOf a1 x2) (fun (x8 : Int32) => bd2 (α := Int32) (β := ZMem) (if x8 = 0 then some (x1, μ3) else bd2 (α := Int32) (β := ZMem) (if a2 = 0 then gd (zin x2 8) (if (μ3 (0, 41, 0) x2.toNatClampNeg) = 100 then some (1, μ3) else some (0, μ3)) else bd2 (f_X12_draw 100 μ3) (fun (x18 : Int32) (μ19 : ZMem) => gd (zin x2 8) (if (μ19 (0, 41, 0) x2.toNatClampNeg) ≤ x18 then some (0, μ19) else some (1, μ19)))) (fun (x13 : Int32) (μ14 : ZMem) => bd (f_X12_isOf (μ14 (0, 32, 0) 24) x2) (fun (x23 : Int32) => bd (α := Int32) (jk (some 0) (fun k26 => if x23 = 0 then k26 else if x13 = 0 then some (1 <<< (x2 &&& 31)) else k26)) (fun (x25 : Int32) => zlt (x1 ||| x25) (fun (x28 : Int32) => some (x28, μ14)))))) (fun (x10 : Int32) (μ11 : ZMem) => some (.inl (x10, (x2 + 1), μ11)))))) FU (0, 0, μ)) (fun (x4 : Int32) (μ5 : ZMem) => some (x4, μ5))
set_option maxRecDepth 100000 in
set_option maxHeartbeats 4000000 in
theorem M_X12_sendersOf {l : Launch} {D : va_G} {y : ZLay} {a1 : Int32} {a2 : Int32}  {μ : ZMem} {r : Int32} {μ0 : ZMem} (h : f_X12_sendersOf a1 a2 μ = some (r, μ0)) : MI l yX12_sendersOf wb_X12_sendersOf rm_X12_sendersOf D y [.ref (zad y (0, 32, 0)), .int a1, .int a2] μ r μ0 := by
  unfold f_X12_sendersOf at h
  refine MI_of RX12 [(0, .ref (zad y (0, 32, 0))), (1, .int a1), (2, .int a2)] (by decide) rfl rfl (Nat.le_of_ble_eq_true rfl) rfl ?_
  intro p e s m args below meth c A X
  refine V_iconst X 0 dX12_sendersOf_0 (by decide) ?_
  refine V_istore_n X [(3, .int 0), (0, .ref (zad y (0, 32, 0))), (1, .int a1), (2, .int a2)] dX12_sendersOf_1 rfl (by decide) rfl ?_
  refine V_iconst X 0 dX12_sendersOf_2 (by decide) ?_
  refine V_istore X [(4, .int 0), (3, .int 0), (0, .ref (zad y (0, 32, 0))), (1, .int a1), (2, .int a2)] dX12_sendersOf_3 (by decide) rfl ?_
  refine V_sub X [2, 3, 4, 1, 0] (lv' := [(0, .ref (zad y (0, 32, 0))), (1, .int a1), (2, .int a2), (3, .int 0), (4, .int 0)]) rfl ?_
  obtain ⟨x4, μ5, hl, h⟩ := bd2_some h
  have hk : V X μ5 109 [(3, .int x4)] [] := by
    clear hl
    refine V_iload_n X 0 dX12_sendersOf_109 rfl rfl ?_
    exact V_iretW X h dX12_sendersOf_110
  refine lp_ind (P := fun q => V X q.2.2 5 [(0, .ref (zad y (0, 32, 0))), (1, .int a1), (2, .int a2), (3, .int q.1), (4, .int q.2.1)] []) (fun q z h hz => ?_) hl
  obtain ⟨x1, x2, μ3⟩ := q
  replace h := un3_eq h
  show V X μ3 5 [(0, .ref (zad y (0, 32, 0))), (1, .int a1), (2, .int a2), (3, .int x1), (4, .int x2)] []
  refine V_iload X 4 dX12_sendersOf_5 rfl ?_
  refine V_aload_n X 0 dX12_sendersOf_7 rfl rfl ?_
  refine V_getr X (o := (0, 32, 0)) (i := (0, 33, 0)) (ci := 12) (k := 1) (N := 30) (T := TX12) (C := RX12) ⟨by decide, rfl⟩ rfl rfl rfl (by decide) (mBa inB_X12) (mB wl_RX12_7) dX12_sendersOf_8 ?_
  refine V_iconst X 3 dX12_sendersOf_11 (by decide) ?_
  refine V_iald X 3 (by decide) (o := (0, 33, 0)) (n := 737) ⟨by decide, rfl⟩ rfl rfl (by decide) dX12_sendersOf_12 ?_
  refine V_icmp_ge X (tgt := 109) dX12_sendersOf_13 (by decide) (fun b6 => ?_) (fun b6 => ?_)
  · replace h := (if_pos b6).symm.trans h
    refine V_sub X [3] (lv' := [(3, .int x1)]) rfl ?_
    cases h
    obtain ⟨rfl, rfl⟩ := pr2 hz
    exact hk
  · replace h := (if_neg b6).symm.trans h
    refine V_iload_n X 1 dX12_sendersOf_16 rfl rfl ?_
    refine V_iload X 4 dX12_sendersOf_17 rfl ?_
    obtain ⟨x8, c7, h⟩ := bd_some h
    refine V_callSi X (As := [.int a1, .int x2]) (M_X12_isOf c7) (va_cwS 2 X.2.2.2.2.2.2.1 (gS wm_RX12_274 wst_X12_isOf win_RX12 wc_X12_isOf) rfl rfl rfl hd_X12_isOf.2 ⟨Nat.le_of_ble_eq_true rfl, Nat.le_of_ble_eq_true rfl⟩) rfl (Nat.le_of_ble_eq_true rfl) dX12_sendersOf_19 rfl ?_
    obtain ⟨x10, μ11, h1, h⟩ := bd2_some h
    have hk : V X μ11 103 [(0, .ref (zad y (0, 32, 0))), (1, .int a1), (2, .int a2), (3, .int x10), (4, .int x2)] [] := by
      clear h1
      refine V_inc X 4 1 [(4, .int (x2 + 1)), (0, .ref (zad y (0, 32, 0))), (1, .int a1), (2, .int a2), (3, .int x10)] dX12_sendersOf_103 rfl (by decide) (by decide) rfl ?_
      refine V_goto X (tgt := 5) dX12_sendersOf_106 (by decide) ?_
      refine V_sub X [1, 2, 3, 4, 0] (lv' := [(0, .ref (zad y (0, 32, 0))), (1, .int a1), (2, .int a2), (3, .int x10), (4, .int (x2 + 1))]) rfl ?_
      cases h
      exact hz
    replace h := h1
    clear h1
    refine V_if_ne X (tgt := 28) dX12_sendersOf_22 (by decide) (fun b9 => ?_) (fun b9 => ?_)
    · replace h := (if_neg b9).symm.trans h
      refine V_iload_n X 2 dX12_sendersOf_28 rfl rfl ?_
      obtain ⟨x13, μ14, h1, h⟩ := bd2_some h
      have hk : V X μ14 73 [(0, .ref (zad y (0, 32, 0))), (1, .int a1), (2, .int a2), (3, .int x1), (4, .int x2)] [.int x13] := by
        clear h1
        refine V_istore X [(5, .int x13), (0, .ref (zad y (0, 32, 0))), (1, .int a1), (2, .int a2), (3, .int x1), (4, .int x2)] dX12_sendersOf_73 (by decide) rfl ?_
        refine V_iload_n X 4 dX12_sendersOf_75 rfl rfl ?_
        refine V_aload_n X 1 dX12_sendersOf_76 rfl rfl ?_
        refine V_geti X (o := (0, 32, 0)) (ci := 12) (k := 24) (N := 30) (T := TX12) (C := RX12) ⟨by decide, rfl⟩ rfl rfl rfl (by decide) (mBa inB_X12) (mB wl_RX12_268) dX12_sendersOf_77 ?_
        refine V_iload X 5 dX12_sendersOf_80 rfl ?_
        obtain ⟨x23, c22, h⟩ := bd_some h
        refine V_callSi X (As := [.int (μ14 (0, 32, 0) 24), .int x2]) (M_X12_isOf c22) (va_cwS 2 X.2.2.2.2.2.2.1 (gS wm_RX12_274 wst_X12_isOf win_RX12 wc_X12_isOf) rfl rfl rfl hd_X12_isOf.2 ⟨Nat.le_of_ble_eq_true rfl, Nat.le_of_ble_eq_true rfl⟩) rfl (Nat.le_of_ble_eq_true rfl) dX12_sendersOf_82 rfl ?_
        obtain ⟨x25, h1, h⟩ := bd_some h
        have hk : V X μ14 101 [(0, .ref (zad y (0, 32, 0))), (1, .int a1), (2, .int a2), (4, .int x2)] [.int x25, .int x1] := by
          clear h1
          refine V_ior X dX12_sendersOf_101 ?_
          refine V_istore_n X [(3, .int (x1 ||| x25)), (0, .ref (zad y (0, 32, 0))), (1, .int a1), (2, .int a2), (4, .int x2)] dX12_sendersOf_102 rfl (by decide) rfl ?_
          refine zlt_el (P := fun (x28 : Int32) => V X μ14 103 [(3, .int x28), (0, .ref (zad y (0, 32, 0))), (1, .int a1), (2, .int a2), (4, .int x2)] []) h (fun x28 h => ?_)
          refine V_sub X [1, 2, 3, 0, 4] (lv' := [(0, .ref (zad y (0, 32, 0))), (1, .int a1), (2, .int a2), (3, .int x28), (4, .int x2)]) rfl ?_
          obtain ⟨rfl, rfl⟩ := so2 h
          exact hk
        replace h := h1
        clear h1
        refine jk0_el (P := V X μ14 100 [(0, .ref (zad y (0, 32, 0))), (1, .int a1), (2, .int a2), (4, .int x2)] [.int x1]) h (fun h => ?_) (fun k26 hk26 h => ?_)
        · refine V_iconst X 0 dX12_sendersOf_100 (by decide) ?_
          obtain rfl := so1 h
          exact hk
        · refine V_if_eq X (tgt := 100) dX12_sendersOf_85 (by decide) (fun b24 => ?_) (fun b24 => ?_)
          · replace h := (if_pos b24).symm.trans h
            refine V_sub X [1, 2, 3, 5] (lv' := [(0, .ref (zad y (0, 32, 0))), (1, .int a1), (2, .int a2), (4, .int x2)]) rfl ?_
            exact hk26 h
          · replace h := (if_neg b24).symm.trans h
            refine V_iload X 0 dX12_sendersOf_88 rfl ?_
            refine V_if_ne X (tgt := 100) dX12_sendersOf_90 (by decide) (fun b27 => ?_) (fun b27 => ?_)
            · replace h := (if_neg b27).symm.trans h
              refine V_sub X [1, 2, 3, 5] (lv' := [(0, .ref (zad y (0, 32, 0))), (1, .int a1), (2, .int a2), (4, .int x2)]) rfl ?_
              exact hk26 h
            · replace h := (if_pos b27).symm.trans h
              refine V_iconst X 1 dX12_sendersOf_93 (by decide) ?_
              refine V_iload X 5 dX12_sendersOf_94 rfl ?_
              refine V_ishl X dX12_sendersOf_96 ?_
              refine V_goto X (tgt := 101) dX12_sendersOf_97 (by decide) ?_
              refine V_sub X [1, 2, 3, 5] (lv' := [(0, .ref (zad y (0, 32, 0))), (1, .int a1), (2, .int a2), (4, .int x2)]) rfl ?_
              obtain rfl := so1 h
              exact hk
      replace h := h1
      clear h1
      refine V_if_eq X (tgt := 56) dX12_sendersOf_29 (by decide) (fun b12 => ?_) (fun b12 => ?_)
      · replace h := (if_pos b12).symm.trans h
        refine V_aload_n X 0 dX12_sendersOf_56 rfl rfl ?_
        refine V_getr X (o := (0, 32, 0)) (i := (0, 41, 0)) (ci := 12) (k := 21) (N := 30) (T := TX12) (C := RX12) ⟨by decide, rfl⟩ rfl rfl rfl (by decide) (mBa inB_X12) (mB wl_RX12_38) dX12_sendersOf_57 ?_
        refine V_iload X 4 dX12_sendersOf_60 rfl ?_
        obtain ⟨g15, h⟩ := gd_some h
        refine V_iald X x2.toNatClampNeg rfl (o := (0, 41, 0)) (n := 8) ⟨by decide, rfl⟩ rfl rfl g15 dX12_sendersOf_62 ?_
        refine V_bipush X 100 dX12_sendersOf_63 (by decide) ?_
        refine V_icmp_ne X (tgt := 72) dX12_sendersOf_65 (by decide) (fun b16 => ?_) (fun b16 => ?_)
        · replace h := (if_neg b16).symm.trans h
          refine V_iconst X 0 dX12_sendersOf_72 (by decide) ?_
          obtain ⟨rfl, rfl⟩ := so2 h
          exact hk
        · replace h := (if_pos b16).symm.trans h
          refine V_iconst X 1 dX12_sendersOf_68 (by decide) ?_
          refine V_goto X (tgt := 73) dX12_sendersOf_69 (by decide) ?_
          obtain ⟨rfl, rfl⟩ := so2 h
          exact hk
      · replace h := (if_neg b12).symm.trans h
        refine V_aload_n X 0 dX12_sendersOf_32 rfl rfl ?_
        refine V_bipush X 100 dX12_sendersOf_33 (by decide) ?_
        obtain ⟨x18, μ19, c17, h⟩ := bd2_some h
        refine V_callVi X (As := [.int 100]) (M_X12_draw c17) (cwV 1 X.2.2.2.2.2.2.1 (gV wm_RX12_310 wi_X12_draw wse_X12_draw win_RX12 wc_X12_draw) rfl rfl rfl hd_X12_draw ⟨Nat.le_of_ble_eq_true rfl, Nat.le_of_ble_eq_true rfl⟩) (b := (0, 32, 0)) ⟨by decide, rfl⟩ rfl rfl rfl rfl (Nat.le_of_ble_eq_true rfl) dX12_sendersOf_35 rfl ?_
        refine V_aload_n X 0 dX12_sendersOf_38 rfl rfl ?_
        refine V_getr X (o := (0, 32, 0)) (i := (0, 41, 0)) (ci := 12) (k := 21) (N := 30) (T := TX12) (C := RX12) ⟨by decide, rfl⟩ rfl rfl rfl (by decide) (mBa inB_X12) (mB wl_RX12_38) dX12_sendersOf_39 ?_
        refine V_iload X 4 dX12_sendersOf_42 rfl ?_
        obtain ⟨g20, h⟩ := gd_some h
        refine V_iald X x2.toNatClampNeg rfl (o := (0, 41, 0)) (n := 8) ⟨by decide, rfl⟩ rfl rfl g20 dX12_sendersOf_44 ?_
        refine V_icmp_ge X (tgt := 52) dX12_sendersOf_45 (by decide) (fun b21 => ?_) (fun b21 => ?_)
        · replace h := (if_pos b21).symm.trans h
          refine V_iconst X 0 dX12_sendersOf_52 (by decide) ?_
          refine V_goto X (tgt := 73) dX12_sendersOf_53 (by decide) ?_
          obtain ⟨rfl, rfl⟩ := so2 h
          exact hk
        · replace h := (if_neg b21).symm.trans h
          refine V_iconst X 1 dX12_sendersOf_48 (by decide) ?_
          refine V_goto X (tgt := 73) dX12_sendersOf_49 (by decide) ?_
          obtain ⟨rfl, rfl⟩ := so2 h
          exact hk
    · replace h := (if_pos b9).symm.trans h
      refine V_goto X (tgt := 103) dX12_sendersOf_25 (by decide) ?_
      obtain ⟨rfl, rfl⟩ := so2 h
      exact hk

def f_X12_passes (a1 : Int32) (μ : ZMem) : Option (ZMem) := bd (f_X12_inState 2 μ) (fun (x2 : Int32) => bd (f_X12_allShifts μ) (fun (μ4 : ZMem) => bd2 (f_X12_sendersOf x2 a1 μ4) (fun (x6 : Int32) (μ7 : ZMem) => bd (α := ZMem) (if x6 = 0 then bd (f_X12_calls μ7) (fun (μ13 : ZMem) => some μ13) else bd (f_X12_follow x6 μ7) (fun (μ11 : ZMem) => some μ11)) (fun (μ9 : ZMem) => bd (lp (σ := Int32 × ZMem) (fun q => un2 q (fun (x14 : Int32) (μ15 : ZMem) => if (μ15 (0, 33, 0) 3) ≤ x14 then some (.inr μ15) else bd (f_X12_isOf x2 x14) (fun (x19 : Int32) => bd (α := ZMem) (if x19 = 0 then some μ15 else bd (f_X12_counts x14 x6 μ15) (fun (μ23 : ZMem) => some μ23)) (fun (μ21 : ZMem) => some (.inl ((x14 + 1), μ21)))))) FU (0, μ9)) (fun (μ16 : ZMem) => bd (f_X12_judges x2 x6 μ16) (fun (μ25 : ZMem) => bd (lp (σ := Int32 × ZMem) (fun q => un2 q (fun (x26 : Int32) (μ27 : ZMem) => if (μ27 (0, 33, 0) 3) ≤ x26 then some (.inr μ27) else bd (f_X12_isOf x2 x26) (fun (x31 : Int32) => bd (α := ZMem) (if x31 = 0 then some μ27 else bd (f_X12_isActive x26 μ27) (fun (x35 : Int32) => if x35 = 0 then some μ27 else bd (f_X12_corrects x26 x6 μ27) (fun (μ38 : ZMem) => some μ38))) (fun (μ33 : ZMem) => some (.inl ((x26 + 1), μ33)))))) FU (0, μ25)) (fun (μ28 : ZMem) => bd (lp (σ := Int32 × ZMem) (fun q => un2 q (fun (x39 : Int32) (μ40 : ZMem) => if (μ40 (0, 33, 0) 3) ≤ x39 then some (.inr μ40) else bd (f_X12_of x39 3 μ40) (fun (x44 : Int32) => bd (α := ZMem) (if x44 = 0 then some μ40 else bd (f_X12_of x39 0 μ40) (fun (x48 : Int32) => bd (f_X12_of x39 1 μ40) (fun (x50 : Int32) => bd (f_X12_of x39 2 μ40) (fun (x52 : Int32) => bd (f_X12_lays x39 0 (f_X12_held ((x48 + x50) + x52) 999) μ40) (fun (μ54 : ZMem) => some μ54))))) (fun (μ46 : ZMem) => some (.inl ((x39 + 1), μ46)))))) FU (0, μ28)) (fun (μ41 : ZMem) => zlt (mset μ41 (0, 33, 0) 6 (f_X12_lesser 9999 ((μ41 (0, 33, 0) 6) + 1))) (fun (μ55 : ZMem) => some μ55)))))))))
set_option maxRecDepth 100000 in
set_option maxHeartbeats 4000000 in
theorem M_X12_passes {l : Launch} {D : va_G} {y : ZLay} {a1 : Int32}  {μ : ZMem} {μ0 : ZMem} (h : f_X12_passes a1 μ = some μ0) : MV l yX12_passes wb_X12_passes rm_X12_passes D y [.ref (zad y (0, 32, 0)), .int a1] μ μ0 := by
  unfold f_X12_passes at h
  refine MV_of RX12 [(0, .ref (zad y (0, 32, 0))), (1, .int a1)] (by decide) rfl rfl (Nat.le_of_ble_eq_true rfl) rfl ?_
  intro p e s m args below meth c A X
  refine V_aload_n X 0 dX12_passes_0 rfl rfl ?_
  refine V_iconst X 2 dX12_passes_1 (by decide) ?_
  obtain ⟨x2, c1, h⟩ := bd_some h
  refine V_callVi X (As := [.int 2]) (M_X12_inState c1) (cwV 1 X.2.2.2.2.2.2.1 (gV wm_RX12_250 wi_X12_inState wse_X12_inState win_RX12 wc_X12_inState) rfl rfl rfl hd_X12_inState ⟨Nat.le_of_ble_eq_true rfl, Nat.le_of_ble_eq_true rfl⟩) (b := (0, 32, 0)) ⟨by decide, rfl⟩ rfl rfl rfl rfl (Nat.le_of_ble_eq_true rfl) dX12_passes_2 rfl ?_
  refine V_istore_n X [(2, .int x2), (0, .ref (zad y (0, 32, 0))), (1, .int a1)] dX12_passes_5 rfl (by decide) rfl ?_
  refine V_aload_n X 1 dX12_passes_6 rfl rfl ?_
  obtain ⟨μ4, c3, h⟩ := bd_some h
  refine V_callVv X (As := []) (M_X12_allShifts c3) (cwV 0 X.2.2.2.2.2.2.1 (gV wm_RX12_313 wi_X12_allShifts wse_X12_allShifts win_RX12 wc_X12_allShifts) rfl rfl rfl hd_X12_allShifts ⟨Nat.le_of_ble_eq_true rfl, Nat.le_of_ble_eq_true rfl⟩) (b := (0, 32, 0)) ⟨by decide, rfl⟩ rfl rfl rfl rfl (Nat.le_of_ble_eq_true rfl) dX12_passes_7 rfl ?_
  refine V_aload_n X 1 dX12_passes_10 rfl rfl ?_
  refine V_iload_n X 0 dX12_passes_11 rfl rfl ?_
  refine V_iload_n X 2 dX12_passes_12 rfl rfl ?_
  obtain ⟨x6, μ7, c5, h⟩ := bd2_some h
  refine V_callVi X (As := [.int x2, .int a1]) (M_X12_sendersOf c5) (cwV 2 X.2.2.2.2.2.2.1 (gV wm_RX12_316 wi_X12_sendersOf wse_X12_sendersOf win_RX12 wc_X12_sendersOf) rfl rfl rfl hd_X12_sendersOf ⟨Nat.le_of_ble_eq_true rfl, Nat.le_of_ble_eq_true rfl⟩) (b := (0, 32, 0)) ⟨by decide, rfl⟩ rfl rfl rfl rfl (Nat.le_of_ble_eq_true rfl) dX12_passes_13 rfl ?_
  refine V_istore_n X [(3, .int x6), (2, .int x2), (0, .ref (zad y (0, 32, 0))), (1, .int a1)] dX12_passes_16 rfl (by decide) rfl ?_
  refine V_iload_n X 0 dX12_passes_17 rfl rfl ?_
  obtain ⟨μ9, h1, h⟩ := bd_some h
  have hk : V X μ9 33 [(0, .ref (zad y (0, 32, 0))), (2, .int x2), (3, .int x6)] [] := by
    clear h1
    refine V_iconst X 0 dX12_passes_33 (by decide) ?_
    refine V_istore X [(4, .int 0), (0, .ref (zad y (0, 32, 0))), (2, .int x2), (3, .int x6)] dX12_passes_34 (by decide) rfl ?_
    refine V_sub X [1, 2, 3, 0] (lv' := [(0, .ref (zad y (0, 32, 0))), (2, .int x2), (3, .int x6), (4, .int 0)]) rfl ?_
    obtain ⟨μ16, hl, h⟩ := bd_some h
    have hk : V X μ16 69 [(0, .ref (zad y (0, 32, 0))), (2, .int x2), (3, .int x6)] [] := by
      clear hl
      refine V_aload_n X 0 dX12_passes_69 rfl rfl ?_
      refine V_iload_n X 1 dX12_passes_70 rfl rfl ?_
      refine V_iload_n X 2 dX12_passes_71 rfl rfl ?_
      obtain ⟨μ25, c24, h⟩ := bd_some h
      refine V_callVv X (As := [.int x2, .int x6]) (M_X12_judges c24) (cwV 2 X.2.2.2.2.2.2.1 (gV wm_RX12_329 wi_X12_judges wse_X12_judges win_RX12 wc_X12_judges) rfl rfl rfl hd_X12_judges ⟨Nat.le_of_ble_eq_true rfl, Nat.le_of_ble_eq_true rfl⟩) (b := (0, 32, 0)) ⟨by decide, rfl⟩ rfl rfl rfl rfl (Nat.le_of_ble_eq_true rfl) dX12_passes_72 rfl ?_
      refine V_iconst X 0 dX12_passes_75 (by decide) ?_
      refine V_istore X [(4, .int 0), (0, .ref (zad y (0, 32, 0))), (2, .int x2), (3, .int x6)] dX12_passes_76 (by decide) rfl ?_
      refine V_sub X [1, 2, 3, 0] (lv' := [(0, .ref (zad y (0, 32, 0))), (2, .int x2), (3, .int x6), (4, .int 0)]) rfl ?_
      obtain ⟨μ28, hl, h⟩ := bd_some h
      have hk : V X μ28 120 [(0, .ref (zad y (0, 32, 0)))] [] := by
        clear hl
        refine V_iconst X 0 dX12_passes_120 (by decide) ?_
        refine V_istore X [(4, .int 0), (0, .ref (zad y (0, 32, 0)))] dX12_passes_121 (by decide) rfl ?_
        refine V_sub X [1, 0] (lv' := [(0, .ref (zad y (0, 32, 0))), (4, .int 0)]) rfl ?_
        obtain ⟨μ41, hl, h⟩ := bd_some h
        have hk : V X μ41 186 [(0, .ref (zad y (0, 32, 0)))] [] := by
          clear hl
          refine V_aload_n X 0 dX12_passes_186 rfl rfl ?_
          refine V_getr X (o := (0, 32, 0)) (i := (0, 33, 0)) (ci := 12) (k := 1) (N := 30) (T := TX12) (C := RX12) ⟨by decide, rfl⟩ rfl rfl rfl (by decide) (mBa inB_X12) (mB wl_RX12_7) dX12_passes_187 ?_
          refine V_bipush X 6 dX12_passes_190 (by decide) ?_
          refine V_sipush X 9999 dX12_passes_192 (by decide) ?_
          refine V_aload_n X 0 dX12_passes_195 rfl rfl ?_
          refine V_getr X (o := (0, 32, 0)) (i := (0, 33, 0)) (ci := 12) (k := 1) (N := 30) (T := TX12) (C := RX12) ⟨by decide, rfl⟩ rfl rfl rfl (by decide) (mBa inB_X12) (mB wl_RX12_7) dX12_passes_196 ?_
          refine V_bipush X 6 dX12_passes_199 (by decide) ?_
          refine V_iald X 6 (by decide) (o := (0, 33, 0)) (n := 737) ⟨by decide, rfl⟩ rfl rfl (by decide) dX12_passes_201 ?_
          refine V_iconst X 1 dX12_passes_202 (by decide) ?_
          refine V_iadd X dX12_passes_203 ?_
          refine V_callSi X (As := [.int 9999, .int ((μ41 (0, 33, 0) 6) + 1)]) (M_X12_lesser) (va_cwS 2 X.2.2.2.2.2.2.1 (gS wm_RX12_70 wst_X12_lesser win_RX12 wc_X12_lesser) rfl rfl rfl hd_X12_lesser.2 ⟨Nat.le_of_ble_eq_true rfl, Nat.le_of_ble_eq_true rfl⟩) rfl (Nat.le_of_ble_eq_true rfl) dX12_passes_204 rfl ?_
          refine V_iast X 6 (by decide) (o := (0, 33, 0)) (n := 737) ⟨by decide, rfl⟩ rfl rfl (by decide) dX12_passes_207 ?_
          refine zlt_el (P := fun (μ55 : ZMem) => V X μ55 208 [(0, .ref (zad y (0, 32, 0)))] []) h (fun μ55 h => ?_)
          exact V_vretW X h dX12_passes_208
        refine lp_ind (P := fun q => V X q.2 123 [(0, .ref (zad y (0, 32, 0))), (4, .int q.1)] []) (fun q z h hz => ?_) hl
        obtain ⟨x39, μ40⟩ := q
        replace h := un2_eq h
        show V X μ40 123 [(0, .ref (zad y (0, 32, 0))), (4, .int x39)] []
        refine V_iload X 1 dX12_passes_123 rfl ?_
        refine V_aload_n X 0 dX12_passes_125 rfl rfl ?_
        refine V_getr X (o := (0, 32, 0)) (i := (0, 33, 0)) (ci := 12) (k := 1) (N := 30) (T := TX12) (C := RX12) ⟨by decide, rfl⟩ rfl rfl rfl (by decide) (mBa inB_X12) (mB wl_RX12_7) dX12_passes_126 ?_
        refine V_iconst X 3 dX12_passes_129 (by decide) ?_
        refine V_iald X 3 (by decide) (o := (0, 33, 0)) (n := 737) ⟨by decide, rfl⟩ rfl rfl (by decide) dX12_passes_130 ?_
        refine V_icmp_ge X (tgt := 186) dX12_passes_131 (by decide) (fun b42 => ?_) (fun b42 => ?_)
        · replace h := (if_pos b42).symm.trans h
          refine V_sub X [0] (lv' := [(0, .ref (zad y (0, 32, 0)))]) rfl ?_
          cases h
          obtain rfl := pr1 hz
          exact hk
        · replace h := (if_neg b42).symm.trans h
          refine V_aload_n X 0 dX12_passes_134 rfl rfl ?_
          refine V_iload X 1 dX12_passes_135 rfl ?_
          refine V_iconst X 3 dX12_passes_137 (by decide) ?_
          obtain ⟨x44, c43, h⟩ := bd_some h
          refine V_callVi X (As := [.int x39, .int 3]) (M_X12_of c43) (cwV 2 X.2.2.2.2.2.2.1 (gV wm_RX12_66 wi_X12_of wse_X12_of win_RX12 wc_X12_of) rfl rfl rfl hd_X12_of ⟨Nat.le_of_ble_eq_true rfl, Nat.le_of_ble_eq_true rfl⟩) (b := (0, 32, 0)) ⟨by decide, rfl⟩ rfl rfl rfl rfl (Nat.le_of_ble_eq_true rfl) dX12_passes_138 rfl ?_
          obtain ⟨μ46, h1, h⟩ := bd_some h
          have hk : V X μ46 180 [(0, .ref (zad y (0, 32, 0))), (4, .int x39)] [] := by
            clear h1
            refine V_inc X 1 1 [(4, .int (x39 + 1)), (0, .ref (zad y (0, 32, 0)))] dX12_passes_180 rfl (by decide) (by decide) rfl ?_
            refine V_goto X (tgt := 123) dX12_passes_183 (by decide) ?_
            refine V_sub X [1, 0] (lv' := [(0, .ref (zad y (0, 32, 0))), (4, .int (x39 + 1))]) rfl ?_
            cases h
            exact hz
          replace h := h1
          clear h1
          refine V_if_eq X (tgt := 180) dX12_passes_141 (by decide) (fun b45 => ?_) (fun b45 => ?_)
          · replace h := (if_pos b45).symm.trans h
            obtain rfl := so1 h
            exact hk
          · replace h := (if_neg b45).symm.trans h
            refine V_aload_n X 0 dX12_passes_144 rfl rfl ?_
            refine V_iload X 1 dX12_passes_145 rfl ?_
            refine V_iconst X 0 dX12_passes_147 (by decide) ?_
            refine V_aload_n X 0 dX12_passes_148 rfl rfl ?_
            refine V_iload X 1 dX12_passes_149 rfl ?_
            refine V_iconst X 0 dX12_passes_151 (by decide) ?_
            obtain ⟨x48, c47, h⟩ := bd_some h
            refine V_callVi X (As := [.int x39, .int 0]) (M_X12_of c47) (cwV 2 X.2.2.2.2.2.2.1 (gV wm_RX12_66 wi_X12_of wse_X12_of win_RX12 wc_X12_of) rfl rfl rfl hd_X12_of ⟨Nat.le_of_ble_eq_true rfl, Nat.le_of_ble_eq_true rfl⟩) (b := (0, 32, 0)) ⟨by decide, rfl⟩ rfl rfl rfl rfl (Nat.le_of_ble_eq_true rfl) dX12_passes_152 rfl ?_
            refine V_aload_n X 0 dX12_passes_155 rfl rfl ?_
            refine V_iload X 1 dX12_passes_156 rfl ?_
            refine V_iconst X 1 dX12_passes_158 (by decide) ?_
            obtain ⟨x50, c49, h⟩ := bd_some h
            refine V_callVi X (As := [.int x39, .int 1]) (M_X12_of c49) (cwV 2 X.2.2.2.2.2.2.1 (gV wm_RX12_66 wi_X12_of wse_X12_of win_RX12 wc_X12_of) rfl rfl rfl hd_X12_of ⟨Nat.le_of_ble_eq_true rfl, Nat.le_of_ble_eq_true rfl⟩) (b := (0, 32, 0)) ⟨by decide, rfl⟩ rfl rfl rfl rfl (Nat.le_of_ble_eq_true rfl) dX12_passes_159 rfl ?_
            refine V_iadd X dX12_passes_162 ?_
            refine V_aload_n X 0 dX12_passes_163 rfl rfl ?_
            refine V_iload X 1 dX12_passes_164 rfl ?_
            refine V_iconst X 2 dX12_passes_166 (by decide) ?_
            obtain ⟨x52, c51, h⟩ := bd_some h
            refine V_callVi X (As := [.int x39, .int 2]) (M_X12_of c51) (cwV 2 X.2.2.2.2.2.2.1 (gV wm_RX12_66 wi_X12_of wse_X12_of win_RX12 wc_X12_of) rfl rfl rfl hd_X12_of ⟨Nat.le_of_ble_eq_true rfl, Nat.le_of_ble_eq_true rfl⟩) (b := (0, 32, 0)) ⟨by decide, rfl⟩ rfl rfl rfl rfl (Nat.le_of_ble_eq_true rfl) dX12_passes_167 rfl ?_
            refine V_iadd X dX12_passes_170 ?_
            refine V_sipush X 999 dX12_passes_171 (by decide) ?_
            refine V_callSi X (As := [.int ((x48 + x50) + x52), .int 999]) (M_X12_held) (va_cwS 2 X.2.2.2.2.2.2.1 (gS wm_RX12_291 wst_X12_held win_RX12 wc_X12_held) rfl rfl rfl hd_X12_held.2 ⟨Nat.le_of_ble_eq_true rfl, Nat.le_of_ble_eq_true rfl⟩) rfl (Nat.le_of_ble_eq_true rfl) dX12_passes_174 rfl ?_
            obtain ⟨μ54, c53, h⟩ := bd_some h
            refine V_callVv X (As := [.int x39, .int 0, .int (f_X12_held ((x48 + x50) + x52) 999)]) (M_X12_lays c53) (cwV 3 X.2.2.2.2.2.2.1 (gV wm_RX12_146 wi_X12_lays wse_X12_lays win_RX12 wc_X12_lays) rfl rfl rfl hd_X12_lays ⟨Nat.le_of_ble_eq_true rfl, Nat.le_of_ble_eq_true rfl⟩) (b := (0, 32, 0)) ⟨by decide, rfl⟩ rfl rfl rfl rfl (Nat.le_of_ble_eq_true rfl) dX12_passes_177 rfl ?_
            obtain rfl := so1 h
            exact hk
      refine lp_ind (P := fun q => V X q.2 78 [(0, .ref (zad y (0, 32, 0))), (2, .int x2), (3, .int x6), (4, .int q.1)] []) (fun q z h hz => ?_) hl
      obtain ⟨x26, μ27⟩ := q
      replace h := un2_eq h
      show V X μ27 78 [(0, .ref (zad y (0, 32, 0))), (2, .int x2), (3, .int x6), (4, .int x26)] []
      refine V_iload X 3 dX12_passes_78 rfl ?_
      refine V_aload_n X 0 dX12_passes_80 rfl rfl ?_
      refine V_getr X (o := (0, 32, 0)) (i := (0, 33, 0)) (ci := 12) (k := 1) (N := 30) (T := TX12) (C := RX12) ⟨by decide, rfl⟩ rfl rfl rfl (by decide) (mBa inB_X12) (mB wl_RX12_7) dX12_passes_81 ?_
      refine V_iconst X 3 dX12_passes_84 (by decide) ?_
      refine V_iald X 3 (by decide) (o := (0, 33, 0)) (n := 737) ⟨by decide, rfl⟩ rfl rfl (by decide) dX12_passes_85 ?_
      refine V_icmp_ge X (tgt := 120) dX12_passes_86 (by decide) (fun b29 => ?_) (fun b29 => ?_)
      · replace h := (if_pos b29).symm.trans h
        refine V_sub X [0] (lv' := [(0, .ref (zad y (0, 32, 0)))]) rfl ?_
        cases h
        obtain rfl := pr1 hz
        exact hk
      · replace h := (if_neg b29).symm.trans h
        refine V_iload_n X 1 dX12_passes_89 rfl rfl ?_
        refine V_iload X 3 dX12_passes_90 rfl ?_
        obtain ⟨x31, c30, h⟩ := bd_some h
        refine V_callSi X (As := [.int x2, .int x26]) (M_X12_isOf c30) (va_cwS 2 X.2.2.2.2.2.2.1 (gS wm_RX12_274 wst_X12_isOf win_RX12 wc_X12_isOf) rfl rfl rfl hd_X12_isOf.2 ⟨Nat.le_of_ble_eq_true rfl, Nat.le_of_ble_eq_true rfl⟩) rfl (Nat.le_of_ble_eq_true rfl) dX12_passes_92 rfl ?_
        obtain ⟨μ33, h1, h⟩ := bd_some h
        have hk : V X μ33 114 [(0, .ref (zad y (0, 32, 0))), (2, .int x2), (3, .int x6), (4, .int x26)] [] := by
          clear h1
          refine V_inc X 3 1 [(4, .int (x26 + 1)), (0, .ref (zad y (0, 32, 0))), (2, .int x2), (3, .int x6)] dX12_passes_114 rfl (by decide) (by decide) rfl ?_
          refine V_goto X (tgt := 78) dX12_passes_117 (by decide) ?_
          refine V_sub X [1, 2, 3, 0] (lv' := [(0, .ref (zad y (0, 32, 0))), (2, .int x2), (3, .int x6), (4, .int (x26 + 1))]) rfl ?_
          cases h
          exact hz
        replace h := h1
        clear h1
        refine V_if_eq X (tgt := 114) dX12_passes_95 (by decide) (fun b32 => ?_) (fun b32 => ?_)
        · replace h := (if_pos b32).symm.trans h
          obtain rfl := so1 h
          exact hk
        · replace h := (if_neg b32).symm.trans h
          refine V_aload_n X 0 dX12_passes_98 rfl rfl ?_
          refine V_iload X 3 dX12_passes_99 rfl ?_
          obtain ⟨x35, c34, h⟩ := bd_some h
          refine V_callVi X (As := [.int x26]) (M_X12_isActive c34) (cwV 1 X.2.2.2.2.2.2.1 (gV wm_RX12_262 wi_X12_isActive wse_X12_isActive win_RX12 wc_X12_isActive) rfl rfl rfl hd_X12_isActive ⟨Nat.le_of_ble_eq_true rfl, Nat.le_of_ble_eq_true rfl⟩) (b := (0, 32, 0)) ⟨by decide, rfl⟩ rfl rfl rfl rfl (Nat.le_of_ble_eq_true rfl) dX12_passes_101 rfl ?_
          refine V_if_eq X (tgt := 114) dX12_passes_104 (by decide) (fun b36 => ?_) (fun b36 => ?_)
          · replace h := (if_pos b36).symm.trans h
            obtain rfl := so1 h
            exact hk
          · replace h := (if_neg b36).symm.trans h
            refine V_aload_n X 0 dX12_passes_107 rfl rfl ?_
            refine V_iload X 3 dX12_passes_108 rfl ?_
            refine V_iload_n X 2 dX12_passes_110 rfl rfl ?_
            obtain ⟨μ38, c37, h⟩ := bd_some h
            refine V_callVv X (As := [.int x26, .int x6]) (M_X12_corrects c37) (cwV 2 X.2.2.2.2.2.2.1 (gV wm_RX12_332 wi_X12_corrects wse_X12_corrects win_RX12 wc_X12_corrects) rfl rfl rfl hd_X12_corrects ⟨Nat.le_of_ble_eq_true rfl, Nat.le_of_ble_eq_true rfl⟩) (b := (0, 32, 0)) ⟨by decide, rfl⟩ rfl rfl rfl rfl (Nat.le_of_ble_eq_true rfl) dX12_passes_111 rfl ?_
            obtain rfl := so1 h
            exact hk
    refine lp_ind (P := fun q => V X q.2 36 [(0, .ref (zad y (0, 32, 0))), (2, .int x2), (3, .int x6), (4, .int q.1)] []) (fun q z h hz => ?_) hl
    obtain ⟨x14, μ15⟩ := q
    replace h := un2_eq h
    show V X μ15 36 [(0, .ref (zad y (0, 32, 0))), (2, .int x2), (3, .int x6), (4, .int x14)] []
    refine V_iload X 3 dX12_passes_36 rfl ?_
    refine V_aload_n X 0 dX12_passes_38 rfl rfl ?_
    refine V_getr X (o := (0, 32, 0)) (i := (0, 33, 0)) (ci := 12) (k := 1) (N := 30) (T := TX12) (C := RX12) ⟨by decide, rfl⟩ rfl rfl rfl (by decide) (mBa inB_X12) (mB wl_RX12_7) dX12_passes_39 ?_
    refine V_iconst X 3 dX12_passes_42 (by decide) ?_
    refine V_iald X 3 (by decide) (o := (0, 33, 0)) (n := 737) ⟨by decide, rfl⟩ rfl rfl (by decide) dX12_passes_43 ?_
    refine V_icmp_ge X (tgt := 69) dX12_passes_44 (by decide) (fun b17 => ?_) (fun b17 => ?_)
    · replace h := (if_pos b17).symm.trans h
      refine V_sub X [0, 1, 2] (lv' := [(0, .ref (zad y (0, 32, 0))), (2, .int x2), (3, .int x6)]) rfl ?_
      cases h
      obtain rfl := pr1 hz
      exact hk
    · replace h := (if_neg b17).symm.trans h
      refine V_iload_n X 1 dX12_passes_47 rfl rfl ?_
      refine V_iload X 3 dX12_passes_48 rfl ?_
      obtain ⟨x19, c18, h⟩ := bd_some h
      refine V_callSi X (As := [.int x2, .int x14]) (M_X12_isOf c18) (va_cwS 2 X.2.2.2.2.2.2.1 (gS wm_RX12_274 wst_X12_isOf win_RX12 wc_X12_isOf) rfl rfl rfl hd_X12_isOf.2 ⟨Nat.le_of_ble_eq_true rfl, Nat.le_of_ble_eq_true rfl⟩) rfl (Nat.le_of_ble_eq_true rfl) dX12_passes_50 rfl ?_
      obtain ⟨μ21, h1, h⟩ := bd_some h
      have hk : V X μ21 63 [(0, .ref (zad y (0, 32, 0))), (2, .int x2), (3, .int x6), (4, .int x14)] [] := by
        clear h1
        refine V_inc X 3 1 [(4, .int (x14 + 1)), (0, .ref (zad y (0, 32, 0))), (2, .int x2), (3, .int x6)] dX12_passes_63 rfl (by decide) (by decide) rfl ?_
        refine V_goto X (tgt := 36) dX12_passes_66 (by decide) ?_
        refine V_sub X [1, 2, 3, 0] (lv' := [(0, .ref (zad y (0, 32, 0))), (2, .int x2), (3, .int x6), (4, .int (x14 + 1))]) rfl ?_
        cases h
        exact hz
      replace h := h1
      clear h1
      refine V_if_eq X (tgt := 63) dX12_passes_53 (by decide) (fun b20 => ?_) (fun b20 => ?_)
      · replace h := (if_pos b20).symm.trans h
        obtain rfl := so1 h
        exact hk
      · replace h := (if_neg b20).symm.trans h
        refine V_aload_n X 0 dX12_passes_56 rfl rfl ?_
        refine V_iload X 3 dX12_passes_57 rfl ?_
        refine V_iload_n X 2 dX12_passes_59 rfl rfl ?_
        obtain ⟨μ23, c22, h⟩ := bd_some h
        refine V_callVv X (As := [.int x14, .int x6]) (M_X12_counts c22) (cwV 2 X.2.2.2.2.2.2.1 (gV wm_RX12_326 wi_X12_counts wse_X12_counts win_RX12 wc_X12_counts) rfl rfl rfl hd_X12_counts ⟨Nat.le_of_ble_eq_true rfl, Nat.le_of_ble_eq_true rfl⟩) (b := (0, 32, 0)) ⟨by decide, rfl⟩ rfl rfl rfl rfl (Nat.le_of_ble_eq_true rfl) dX12_passes_60 rfl ?_
        obtain rfl := so1 h
        exact hk
  replace h := h1
  clear h1
  refine V_if_ne X (tgt := 28) dX12_passes_18 (by decide) (fun b8 => ?_) (fun b8 => ?_)
  · replace h := (if_neg b8).symm.trans h
    refine V_aload_n X 2 dX12_passes_28 rfl rfl ?_
    refine V_iload_n X 0 dX12_passes_29 rfl rfl ?_
    obtain ⟨μ11, c10, h⟩ := bd_some h
    refine V_callVv X (As := [.int x6]) (M_X12_follow c10) (cwV 1 X.2.2.2.2.2.2.1 (gV wm_RX12_323 wi_X12_follow wse_X12_follow win_RX12 wc_X12_follow) rfl rfl rfl hd_X12_follow ⟨Nat.le_of_ble_eq_true rfl, Nat.le_of_ble_eq_true rfl⟩) (b := (0, 32, 0)) ⟨by decide, rfl⟩ rfl rfl rfl rfl (Nat.le_of_ble_eq_true rfl) dX12_passes_30 rfl ?_
    refine V_sub X [2, 1, 0] (lv' := [(0, .ref (zad y (0, 32, 0))), (2, .int x2), (3, .int x6)]) rfl ?_
    obtain rfl := so1 h
    exact hk
  · replace h := (if_pos b8).symm.trans h
    refine V_aload_n X 2 dX12_passes_21 rfl rfl ?_
    obtain ⟨μ13, c12, h⟩ := bd_some h
    refine V_callVv X (As := []) (M_X12_calls c12) (cwV 0 X.2.2.2.2.2.2.1 (gV wm_RX12_320 wi_X12_calls wse_X12_calls win_RX12 wc_X12_calls) rfl rfl rfl hd_X12_calls ⟨Nat.le_of_ble_eq_true rfl, Nat.le_of_ble_eq_true rfl⟩) (b := (0, 32, 0)) ⟨by decide, rfl⟩ rfl rfl rfl rfl (Nat.le_of_ble_eq_true rfl) dX12_passes_22 rfl ?_
    refine V_goto X (tgt := 33) dX12_passes_25 (by decide) ?_
    refine V_sub X [2, 1, 0] (lv' := [(0, .ref (zad y (0, 32, 0))), (2, .int x2), (3, .int x6)]) rfl ?_
    obtain rfl := so1 h
    exact hk

def f_X12_goes (a1 : Int32) (a2 : Int32) (μ : ZMem) : Option (Int32 × ZMem) := zlt (mset μ (0, 32, 0) 25 0) (fun (μ1 : ZMem) => bd (lp (σ := Int32 × ZMem) (fun q => un2 q (fun (x2 : Int32) (μ3 : ZMem) => if a1 ≤ x2 then some (.inr μ3) else bd (f_X12_passes a2 μ3) (fun (μ7 : ZMem) => some (.inl ((x2 + 1), μ7))))) FU (0, μ1)) (fun (μ4 : ZMem) => some ((μ4 (0, 32, 0) 25), μ4)))
set_option maxRecDepth 100000 in
set_option maxHeartbeats 4000000 in
theorem M_X12_goes {l : Launch} {D : va_G} {y : ZLay} {a1 : Int32} {a2 : Int32}  {μ : ZMem} {r : Int32} {μ0 : ZMem} (h : f_X12_goes a1 a2 μ = some (r, μ0)) : MI l yX12_goes wb_X12_goes rm_X12_goes D y [.ref (zad y (0, 32, 0)), .int a1, .int a2] μ r μ0 := by
  unfold f_X12_goes at h
  refine MI_of RX12 [(0, .ref (zad y (0, 32, 0))), (1, .int a1), (2, .int a2)] (by decide) rfl rfl (Nat.le_of_ble_eq_true rfl) rfl ?_
  intro p e s m args below meth c A X
  refine V_aload_n X 0 dX12_goes_0 rfl rfl ?_
  refine V_iconst X 0 dX12_goes_1 (by decide) ?_
  refine V_puti X tyX12 .int (o := (0, 32, 0)) (ci := 12) (k := 25) (N := 30) (T := TX12) (C := RX12) ⟨by decide, rfl⟩ rfl rfl rfl (by decide) (mBa inB_X12) tyX12_ok nmX12 (mB wl_RX12_297) rfl rfl rfl rfl dX12_goes_2 ?_
  refine zlt_el (P := fun (μ1 : ZMem) => V X μ1 5 [(0, .ref (zad y (0, 32, 0))), (1, .int a1), (2, .int a2)] []) h (fun μ1 h => ?_)
  refine V_iconst X 0 dX12_goes_5 (by decide) ?_
  refine V_istore_n X [(3, .int 0), (0, .ref (zad y (0, 32, 0))), (1, .int a1), (2, .int a2)] dX12_goes_6 rfl (by decide) rfl ?_
  refine V_sub X [1, 2, 3, 0] (lv' := [(0, .ref (zad y (0, 32, 0))), (1, .int a1), (2, .int a2), (3, .int 0)]) rfl ?_
  obtain ⟨μ4, hl, h⟩ := bd_some h
  have hk : V X μ4 23 [(0, .ref (zad y (0, 32, 0)))] [] := by
    clear hl
    refine V_aload_n X 0 dX12_goes_23 rfl rfl ?_
    refine V_geti X (o := (0, 32, 0)) (ci := 12) (k := 25) (N := 30) (T := TX12) (C := RX12) ⟨by decide, rfl⟩ rfl rfl rfl (by decide) (mBa inB_X12) (mB wl_RX12_297) dX12_goes_24 ?_
    exact V_iretW X h dX12_goes_27
  refine lp_ind (P := fun q => V X q.2 7 [(0, .ref (zad y (0, 32, 0))), (1, .int a1), (2, .int a2), (3, .int q.1)] []) (fun q z h hz => ?_) hl
  obtain ⟨x2, μ3⟩ := q
  replace h := un2_eq h
  show V X μ3 7 [(0, .ref (zad y (0, 32, 0))), (1, .int a1), (2, .int a2), (3, .int x2)] []
  refine V_iload_n X 3 dX12_goes_7 rfl rfl ?_
  refine V_iload_n X 1 dX12_goes_8 rfl rfl ?_
  refine V_icmp_ge X (tgt := 23) dX12_goes_9 (by decide) (fun b5 => ?_) (fun b5 => ?_)
  · replace h := (if_pos b5).symm.trans h
    refine V_sub X [0] (lv' := [(0, .ref (zad y (0, 32, 0)))]) rfl ?_
    cases h
    obtain rfl := pr1 hz
    exact hk
  · replace h := (if_neg b5).symm.trans h
    refine V_aload_n X 0 dX12_goes_12 rfl rfl ?_
    refine V_iload_n X 2 dX12_goes_13 rfl rfl ?_
    obtain ⟨μ7, c6, h⟩ := bd_some h
    refine V_callVv X (As := [.int a2]) (M_X12_passes c6) (cwV 1 X.2.2.2.2.2.2.1 (gV wm_RX12_335 wi_X12_passes wse_X12_passes win_RX12 wc_X12_passes) rfl rfl rfl hd_X12_passes ⟨Nat.le_of_ble_eq_true rfl, Nat.le_of_ble_eq_true rfl⟩) (b := (0, 32, 0)) ⟨by decide, rfl⟩ rfl rfl rfl rfl (Nat.le_of_ble_eq_true rfl) dX12_goes_14 rfl ?_
    refine V_inc X 3 1 [(3, .int (x2 + 1)), (0, .ref (zad y (0, 32, 0))), (1, .int a1), (2, .int a2)] dX12_goes_17 rfl (by decide) (by decide) rfl ?_
    refine V_goto X (tgt := 7) dX12_goes_20 (by decide) ?_
    refine V_sub X [1, 2, 3, 0] (lv' := [(0, .ref (zad y (0, 32, 0))), (1, .int a1), (2, .int a2), (3, .int (x2 + 1))]) rfl ?_
    cases h
    exact hz

def f_X12_spreadNow (μ : ZMem) : Option (Int32) := bd2 (lp (σ := Int32 × Int32 × Int32) (fun q => un3 q (fun (x1 : Int32) (x2 : Int32) (x3 : Int32) => if (μ (0, 33, 0) 3) ≤ x3 then some (.inr (x1, x2)) else bd (f_X12_isActive x3 μ) (fun (x8 : Int32) => bd2 (α := Int32) (β := Int32) (if x8 = 0 then some (x1, x2) else bd (f_X12_of x3 0 μ) (fun (x13 : Int32) => zlt (f_X12_lesser x1 x13) (fun (x14 : Int32) => bd (f_X12_of x3 0 μ) (fun (x16 : Int32) => zlt (f_X12_greater x2 x16) (fun (x17 : Int32) => some (x14, x17)))))) (fun (x10 : Int32) (x11 : Int32) => some (.inl (x10, x11, (x3 + 1))))))) FU (2000000000, (-2000000000), 0)) (fun (x4 : Int32) (x5 : Int32) => bd (f_X12_inState 2 μ) (fun (x19 : Int32) => bd (f_X12_bits x19) (fun (x21 : Int32) => zlt (α := Int32) (if 2 ≤ x21 then (x5 - x4) else 0) (fun (x23 : Int32) => some x23))))
set_option maxRecDepth 100000 in
set_option maxHeartbeats 4000000 in
theorem M_X12_spreadNow {l : Launch} {D : va_G} {y : ZLay}   {μ : ZMem} {r : Int32} (h : f_X12_spreadNow μ = some r) : MI l yX12_spreadNow wb_X12_spreadNow rm_X12_spreadNow D y [.ref (zad y (0, 32, 0))] μ r μ := by
  unfold f_X12_spreadNow at h
  refine MI_of RX12 [(0, .ref (zad y (0, 32, 0)))] (by decide) rfl rfl (Nat.le_of_ble_eq_true rfl) rfl ?_
  intro p e s m args below meth c A X
  refine V_ldcw X (ix := 339) (v := 2000000000) (mB wk_RX12_339) dX12_spreadNow_0 ?_
  refine V_istore_n X [(1, .int 2000000000), (0, .ref (zad y (0, 32, 0)))] dX12_spreadNow_3 rfl (by decide) rfl ?_
  refine V_ldcw X (ix := 340) (v := (-2000000000)) (mB wk_RX12_340) dX12_spreadNow_4 ?_
  refine V_istore_n X [(2, .int (-2000000000)), (1, .int 2000000000), (0, .ref (zad y (0, 32, 0)))] dX12_spreadNow_7 rfl (by decide) rfl ?_
  refine V_iconst X 0 dX12_spreadNow_8 (by decide) ?_
  refine V_istore_n X [(3, .int 0), (2, .int (-2000000000)), (1, .int 2000000000), (0, .ref (zad y (0, 32, 0)))] dX12_spreadNow_9 rfl (by decide) rfl ?_
  refine V_sub X [3, 2, 1, 0] (lv' := [(0, .ref (zad y (0, 32, 0))), (1, .int 2000000000), (2, .int (-2000000000)), (3, .int 0)]) rfl ?_
  obtain ⟨x4, x5, hl, h⟩ := bd2_some h
  have hk : V X μ 59 [(0, .ref (zad y (0, 32, 0))), (1, .int x4), (2, .int x5)] [] := by
    clear hl
    refine V_aload_n X 0 dX12_spreadNow_59 rfl rfl ?_
    refine V_iconst X 2 dX12_spreadNow_60 (by decide) ?_
    obtain ⟨x19, c18, h⟩ := bd_some h
    refine V_callVi X (As := [.int 2]) (M_X12_inState c18) (cwV 1 X.2.2.2.2.2.2.1 (gV wm_RX12_250 wi_X12_inState wse_X12_inState win_RX12 wc_X12_inState) rfl rfl rfl hd_X12_inState ⟨Nat.le_of_ble_eq_true rfl, Nat.le_of_ble_eq_true rfl⟩) (b := (0, 32, 0)) ⟨by decide, rfl⟩ rfl rfl rfl rfl (Nat.le_of_ble_eq_true rfl) dX12_spreadNow_61 rfl ?_
    obtain ⟨x21, c20, h⟩ := bd_some h
    refine V_callSi X (As := [.int x19]) (M_X12_bits c20) (va_cwS 1 X.2.2.2.2.2.2.1 (gS wm_RX12_247 wst_X12_bits win_RX12 wc_X12_bits) rfl rfl rfl hd_X12_bits.2 ⟨Nat.le_of_ble_eq_true rfl, Nat.le_of_ble_eq_true rfl⟩) rfl (Nat.le_of_ble_eq_true rfl) dX12_spreadNow_64 rfl ?_
    refine V_iconst X 2 dX12_spreadNow_67 (by decide) ?_
    obtain ⟨x23, h1, h⟩ := zl1_some h
    have hk : V X μ 78 [] [.int x23] := by
      clear h1
      exact V_iretR X h dX12_spreadNow_78
    replace h := h1
    clear h1
    refine V_icmp_ge X (tgt := 75) dX12_spreadNow_68 (by decide) (fun b22 => ?_) (fun b22 => ?_)
    · replace h := (if_pos b22).symm.trans h
      refine V_iload_n X 2 dX12_spreadNow_75 rfl rfl ?_
      refine V_iload_n X 1 dX12_spreadNow_76 rfl rfl ?_
      refine V_isub X dX12_spreadNow_77 ?_
      refine V_sub X [] (lv' := []) rfl ?_
      obtain rfl := pr1 h
      exact hk
    · replace h := (if_neg b22).symm.trans h
      refine V_iconst X 0 dX12_spreadNow_71 (by decide) ?_
      refine V_goto X (tgt := 78) dX12_spreadNow_72 (by decide) ?_
      refine V_sub X [] (lv' := []) rfl ?_
      obtain rfl := pr1 h
      exact hk
  refine lp_ind (P := fun q => V X μ 10 [(0, .ref (zad y (0, 32, 0))), (1, .int q.1), (2, .int q.2.1), (3, .int q.2.2)] []) (fun q z h hz => ?_) hl
  obtain ⟨x1, x2, x3⟩ := q
  replace h := un3_eq h
  show V X μ 10 [(0, .ref (zad y (0, 32, 0))), (1, .int x1), (2, .int x2), (3, .int x3)] []
  refine V_iload_n X 3 dX12_spreadNow_10 rfl rfl ?_
  refine V_aload_n X 0 dX12_spreadNow_11 rfl rfl ?_
  refine V_getr X (o := (0, 32, 0)) (i := (0, 33, 0)) (ci := 12) (k := 1) (N := 30) (T := TX12) (C := RX12) ⟨by decide, rfl⟩ rfl rfl rfl (by decide) (mBa inB_X12) (mB wl_RX12_7) dX12_spreadNow_12 ?_
  refine V_iconst X 3 dX12_spreadNow_15 (by decide) ?_
  refine V_iald X 3 (by decide) (o := (0, 33, 0)) (n := 737) ⟨by decide, rfl⟩ rfl rfl (by decide) dX12_spreadNow_16 ?_
  refine V_icmp_ge X (tgt := 59) dX12_spreadNow_17 (by decide) (fun b6 => ?_) (fun b6 => ?_)
  · replace h := (if_pos b6).symm.trans h
    refine V_sub X [0, 1, 2] (lv' := [(0, .ref (zad y (0, 32, 0))), (1, .int x1), (2, .int x2)]) rfl ?_
    cases h
    obtain ⟨rfl, rfl⟩ := pr2 hz
    exact hk
  · replace h := (if_neg b6).symm.trans h
    refine V_aload_n X 0 dX12_spreadNow_20 rfl rfl ?_
    refine V_iload_n X 3 dX12_spreadNow_21 rfl rfl ?_
    obtain ⟨x8, c7, h⟩ := bd_some h
    refine V_callVi X (As := [.int x3]) (M_X12_isActive c7) (cwV 1 X.2.2.2.2.2.2.1 (gV wm_RX12_262 wi_X12_isActive wse_X12_isActive win_RX12 wc_X12_isActive) rfl rfl rfl hd_X12_isActive ⟨Nat.le_of_ble_eq_true rfl, Nat.le_of_ble_eq_true rfl⟩) (b := (0, 32, 0)) ⟨by decide, rfl⟩ rfl rfl rfl rfl (Nat.le_of_ble_eq_true rfl) dX12_spreadNow_22 rfl ?_
    obtain ⟨x10, x11, h1, h⟩ := bd2_some h
    have hk : V X μ 53 [(0, .ref (zad y (0, 32, 0))), (1, .int x10), (2, .int x11), (3, .int x3)] [] := by
      clear h1
      refine V_inc X 3 1 [(3, .int (x3 + 1)), (0, .ref (zad y (0, 32, 0))), (1, .int x10), (2, .int x11)] dX12_spreadNow_53 rfl (by decide) (by decide) rfl ?_
      refine V_goto X (tgt := 10) dX12_spreadNow_56 (by decide) ?_
      refine V_sub X [1, 2, 3, 0] (lv' := [(0, .ref (zad y (0, 32, 0))), (1, .int x10), (2, .int x11), (3, .int (x3 + 1))]) rfl ?_
      cases h
      exact hz
    replace h := h1
    clear h1
    refine V_if_ne X (tgt := 31) dX12_spreadNow_25 (by decide) (fun b9 => ?_) (fun b9 => ?_)
    · replace h := (if_neg b9).symm.trans h
      refine V_iload_n X 1 dX12_spreadNow_31 rfl rfl ?_
      refine V_aload_n X 0 dX12_spreadNow_32 rfl rfl ?_
      refine V_iload_n X 3 dX12_spreadNow_33 rfl rfl ?_
      refine V_iconst X 0 dX12_spreadNow_34 (by decide) ?_
      obtain ⟨x13, c12, h⟩ := bd_some h
      refine V_callVi X (As := [.int x3, .int 0]) (M_X12_of c12) (cwV 2 X.2.2.2.2.2.2.1 (gV wm_RX12_66 wi_X12_of wse_X12_of win_RX12 wc_X12_of) rfl rfl rfl hd_X12_of ⟨Nat.le_of_ble_eq_true rfl, Nat.le_of_ble_eq_true rfl⟩) (b := (0, 32, 0)) ⟨by decide, rfl⟩ rfl rfl rfl rfl (Nat.le_of_ble_eq_true rfl) dX12_spreadNow_35 rfl ?_
      refine V_callSi X (As := [.int x1, .int x13]) (M_X12_lesser) (va_cwS 2 X.2.2.2.2.2.2.1 (gS wm_RX12_70 wst_X12_lesser win_RX12 wc_X12_lesser) rfl rfl rfl hd_X12_lesser.2 ⟨Nat.le_of_ble_eq_true rfl, Nat.le_of_ble_eq_true rfl⟩) rfl (Nat.le_of_ble_eq_true rfl) dX12_spreadNow_38 rfl ?_
      refine V_istore_n X [(1, .int (f_X12_lesser x1 x13)), (0, .ref (zad y (0, 32, 0))), (2, .int x2), (3, .int x3)] dX12_spreadNow_41 rfl (by decide) rfl ?_
      refine zlt_el (P := fun (x14 : Int32) => V X μ 42 [(1, .int x14), (0, .ref (zad y (0, 32, 0))), (2, .int x2), (3, .int x3)] []) h (fun x14 h => ?_)
      refine V_iload_n X 2 dX12_spreadNow_42 rfl rfl ?_
      refine V_aload_n X 1 dX12_spreadNow_43 rfl rfl ?_
      refine V_iload_n X 3 dX12_spreadNow_44 rfl rfl ?_
      refine V_iconst X 0 dX12_spreadNow_45 (by decide) ?_
      obtain ⟨x16, c15, h⟩ := bd_some h
      refine V_callVi X (As := [.int x3, .int 0]) (M_X12_of c15) (cwV 2 X.2.2.2.2.2.2.1 (gV wm_RX12_66 wi_X12_of wse_X12_of win_RX12 wc_X12_of) rfl rfl rfl hd_X12_of ⟨Nat.le_of_ble_eq_true rfl, Nat.le_of_ble_eq_true rfl⟩) (b := (0, 32, 0)) ⟨by decide, rfl⟩ rfl rfl rfl rfl (Nat.le_of_ble_eq_true rfl) dX12_spreadNow_46 rfl ?_
      refine V_callSi X (As := [.int x2, .int x16]) (M_X12_greater) (va_cwS 2 X.2.2.2.2.2.2.1 (gS wm_RX12_73 wst_X12_greater win_RX12 wc_X12_greater) rfl rfl rfl hd_X12_greater.2 ⟨Nat.le_of_ble_eq_true rfl, Nat.le_of_ble_eq_true rfl⟩) rfl (Nat.le_of_ble_eq_true rfl) dX12_spreadNow_49 rfl ?_
      refine V_istore_n X [(2, .int (f_X12_greater x2 x16)), (1, .int x14), (0, .ref (zad y (0, 32, 0))), (3, .int x3)] dX12_spreadNow_52 rfl (by decide) rfl ?_
      refine zlt_el (P := fun (x17 : Int32) => V X μ 53 [(2, .int x17), (1, .int x14), (0, .ref (zad y (0, 32, 0))), (3, .int x3)] []) h (fun x17 h => ?_)
      refine V_sub X [2, 1, 0, 3] (lv' := [(0, .ref (zad y (0, 32, 0))), (1, .int x14), (2, .int x17), (3, .int x3)]) rfl ?_
      obtain ⟨rfl, rfl⟩ := so2 h
      exact hk
    · replace h := (if_pos b9).symm.trans h
      refine V_goto X (tgt := 53) dX12_spreadNow_28 (by decide) ?_
      obtain ⟨rfl, rfl⟩ := so2 h
      exact hk

def f_X12_areFriends (a1 : Int32) (a2 : Int32) (μ : ZMem) : Option (Int32 × ZMem) := bd2 (α := Int32) (β := ZMem) (jk (fun (μ4 : ZMem) => some (0, μ4)) (fun k5 => if a1 = a2 then k5 μ else bd (f_X12_isActive a1 μ) (fun (x7 : Int32) => if x7 = 0 then k5 μ else bd (f_X12_isActive a2 μ) (fun (x10 : Int32) => if x10 = 0 then k5 μ else bd2 (f_X12_isHeard a1 a2 μ) (fun (x13 : Int32) (μ14 : ZMem) => if x13 = 0 then k5 μ14 else bd2 (f_X12_isHeard a2 a1 μ14) (fun (x17 : Int32) (μ18 : ZMem) => if x17 = 0 then k5 μ18 else some (1, μ18))))))) (fun (x2 : Int32) (μ3 : ZMem) => gd (zbo x2) (some (x2, μ3)))
set_option maxRecDepth 100000 in
set_option maxHeartbeats 4000000 in
theorem M_X12_areFriends {l : Launch} {D : va_G} {y : ZLay} {a1 : Int32} {a2 : Int32}  {μ : ZMem} {r : Int32} {μ0 : ZMem} (h : f_X12_areFriends a1 a2 μ = some (r, μ0)) : MI l yX12_areFriends wb_X12_areFriends rm_X12_areFriends D y [.ref (zad y (0, 32, 0)), .int a1, .int a2] μ r μ0 := by
  unfold f_X12_areFriends at h
  refine MI_of RX12 [(0, .ref (zad y (0, 32, 0))), (1, .int a1), (2, .int a2)] (by decide) rfl rfl (Nat.le_of_ble_eq_true rfl) rfl ?_
  intro p e s m args below meth c A X
  refine V_iload_n X 1 dX12_areFriends_0 rfl rfl ?_
  refine V_iload_n X 2 dX12_areFriends_1 rfl rfl ?_
  obtain ⟨x2, μ3, h1, h⟩ := bd2_some h
  have hk : V X μ3 44 [] [.int x2] := by
    clear h1
    obtain ⟨hzb, h⟩ := gd_some h
    exact V_zretW X h hzb dX12_areFriends_44
  replace h := h1
  clear h1
  refine jk1_el (P := fun (μ4 : ZMem) => V X μ4 43 [] []) h (fun μ4 h => ?_) (fun k5 hk5 h => ?_)
  · refine V_iconst X 0 dX12_areFriends_43 (by decide) ?_
    obtain ⟨rfl, rfl⟩ := so2 h
    exact hk
  · refine V_icmp_eq X (tgt := 43) dX12_areFriends_2 (by decide) (fun b1 => ?_) (fun b1 => ?_)
    · replace h := (if_pos b1).symm.trans h
      refine V_sub X [] (lv' := []) rfl ?_
      exact hk5 _ h
    · replace h := (if_neg b1).symm.trans h
      refine V_aload_n X 0 dX12_areFriends_5 rfl rfl ?_
      refine V_iload_n X 1 dX12_areFriends_6 rfl rfl ?_
      obtain ⟨x7, c6, h⟩ := bd_some h
      refine V_callVi X (As := [.int a1]) (M_X12_isActive c6) (cwV 1 X.2.2.2.2.2.2.1 (gV wm_RX12_262 wi_X12_isActive wse_X12_isActive win_RX12 wc_X12_isActive) rfl rfl rfl hd_X12_isActive ⟨Nat.le_of_ble_eq_true rfl, Nat.le_of_ble_eq_true rfl⟩) (b := (0, 32, 0)) ⟨by decide, rfl⟩ rfl rfl rfl rfl (Nat.le_of_ble_eq_true rfl) dX12_areFriends_7 rfl ?_
      refine V_if_eq X (tgt := 43) dX12_areFriends_10 (by decide) (fun b8 => ?_) (fun b8 => ?_)
      · replace h := (if_pos b8).symm.trans h
        refine V_sub X [] (lv' := []) rfl ?_
        exact hk5 _ h
      · replace h := (if_neg b8).symm.trans h
        refine V_aload_n X 0 dX12_areFriends_13 rfl rfl ?_
        refine V_iload_n X 2 dX12_areFriends_14 rfl rfl ?_
        obtain ⟨x10, c9, h⟩ := bd_some h
        refine V_callVi X (As := [.int a2]) (M_X12_isActive c9) (cwV 1 X.2.2.2.2.2.2.1 (gV wm_RX12_262 wi_X12_isActive wse_X12_isActive win_RX12 wc_X12_isActive) rfl rfl rfl hd_X12_isActive ⟨Nat.le_of_ble_eq_true rfl, Nat.le_of_ble_eq_true rfl⟩) (b := (0, 32, 0)) ⟨by decide, rfl⟩ rfl rfl rfl rfl (Nat.le_of_ble_eq_true rfl) dX12_areFriends_15 rfl ?_
        refine V_if_eq X (tgt := 43) dX12_areFriends_18 (by decide) (fun b11 => ?_) (fun b11 => ?_)
        · replace h := (if_pos b11).symm.trans h
          refine V_sub X [] (lv' := []) rfl ?_
          exact hk5 _ h
        · replace h := (if_neg b11).symm.trans h
          refine V_aload_n X 0 dX12_areFriends_21 rfl rfl ?_
          refine V_iload_n X 1 dX12_areFriends_22 rfl rfl ?_
          refine V_iload_n X 2 dX12_areFriends_23 rfl rfl ?_
          obtain ⟨x13, μ14, c12, h⟩ := bd2_some h
          refine V_callVi X (As := [.int a1, .int a2]) (M_X12_isHeard c12) (cwV 2 X.2.2.2.2.2.2.1 (gV wm_RX12_341 wi_X12_isHeard wse_X12_isHeard win_RX12 wc_X12_isHeard) rfl rfl rfl hd_X12_isHeard ⟨Nat.le_of_ble_eq_true rfl, Nat.le_of_ble_eq_true rfl⟩) (b := (0, 32, 0)) ⟨by decide, rfl⟩ rfl rfl rfl rfl (Nat.le_of_ble_eq_true rfl) dX12_areFriends_24 rfl ?_
          refine V_if_eq X (tgt := 43) dX12_areFriends_27 (by decide) (fun b15 => ?_) (fun b15 => ?_)
          · replace h := (if_pos b15).symm.trans h
            refine V_sub X [] (lv' := []) rfl ?_
            exact hk5 _ h
          · replace h := (if_neg b15).symm.trans h
            refine V_aload_n X 0 dX12_areFriends_30 rfl rfl ?_
            refine V_iload_n X 2 dX12_areFriends_31 rfl rfl ?_
            refine V_iload_n X 1 dX12_areFriends_32 rfl rfl ?_
            obtain ⟨x17, μ18, c16, h⟩ := bd2_some h
            refine V_callVi X (As := [.int a2, .int a1]) (M_X12_isHeard c16) (cwV 2 X.2.2.2.2.2.2.1 (gV wm_RX12_341 wi_X12_isHeard wse_X12_isHeard win_RX12 wc_X12_isHeard) rfl rfl rfl hd_X12_isHeard ⟨Nat.le_of_ble_eq_true rfl, Nat.le_of_ble_eq_true rfl⟩) (b := (0, 32, 0)) ⟨by decide, rfl⟩ rfl rfl rfl rfl (Nat.le_of_ble_eq_true rfl) dX12_areFriends_33 rfl ?_
            refine V_if_eq X (tgt := 43) dX12_areFriends_36 (by decide) (fun b19 => ?_) (fun b19 => ?_)
            · replace h := (if_pos b19).symm.trans h
              refine V_sub X [] (lv' := []) rfl ?_
              exact hk5 _ h
            · replace h := (if_neg b19).symm.trans h
              refine V_iconst X 1 dX12_areFriends_39 (by decide) ?_
              refine V_goto X (tgt := 44) dX12_areFriends_40 (by decide) ?_
              refine V_sub X [] (lv' := []) rfl ?_
              obtain ⟨rfl, rfl⟩ := so2 h
              exact hk

def f_X12_cliqueOf (a1 : Int32) (μ : ZMem) : Option (Int32 × ZMem) := bd (f_X12_isActive a1 μ) (fun (x2 : Int32) => if x2 = 0 then some (0, μ) else zlt (1 <<< (a1 &&& 31)) (fun (x4 : Int32) => bd2 (lp (σ := Int32 × Int32 × ZMem) (fun q => un3 q (fun (x5 : Int32) (x6 : Int32) (μ7 : ZMem) => if x6 = 0 then some (.inr (x5, μ7)) else bd2 (lp (σ := Int32 × Int32 × ZMem) (fun q => un3 q (fun (x11 : Int32) (x12 : Int32) (μ13 : ZMem) => if (μ13 (0, 33, 0) 3) ≤ x12 then some (.inr (x11, μ13)) else bd2 (lp (σ := Int32 × Int32 × ZMem) (fun q => un3 q (fun (x17 : Int32) (x18 : Int32) (μ19 : ZMem) => if (μ19 (0, 33, 0) 3) ≤ x18 then some (.inr (x17, μ19)) else bd (f_X12_isOf x17 x12) (fun (x24 : Int32) => bd2 (α := Int32) (β := ZMem) (if x24 = 0 then some (x17, μ19) else bd (f_X12_isOf x17 x18) (fun (x29 : Int32) => if x29 = 0 then bd2 (f_X12_areFriends x12 x18 μ19) (fun (x32 : Int32) (μ33 : ZMem) => if x32 = 0 then some (x17, μ33) else zlt (x17 ||| (1 <<< (x18 &&& 31))) (fun (x35 : Int32) => some (x35, μ33))) else some (x17, μ19))) (fun (x26 : Int32) (μ27 : ZMem) => some (.inl (x26, (x18 + 1), μ27)))))) FU (x11, 0, μ13)) (fun (x20 : Int32) (μ21 : ZMem) => some (.inl (x20, (x12 + 1), μ21))))) FU (x5, 0, μ7)) (fun (x14 : Int32) (μ15 : ZMem) => zlt (α := Int32) (if x14 = x5 then 0 else 1) (fun (x37 : Int32) => some (.inl (x14, x37, μ15)))))) FU (x4, 1, μ)) (fun (x8 : Int32) (μ9 : ZMem) => some (x8, μ9))))
set_option maxRecDepth 100000 in
set_option maxHeartbeats 4000000 in
theorem M_X12_cliqueOf {l : Launch} {D : va_G} {y : ZLay} {a1 : Int32}  {μ : ZMem} {r : Int32} {μ0 : ZMem} (h : f_X12_cliqueOf a1 μ = some (r, μ0)) : MI l yX12_cliqueOf wb_X12_cliqueOf rm_X12_cliqueOf D y [.ref (zad y (0, 32, 0)), .int a1] μ r μ0 := by
  unfold f_X12_cliqueOf at h
  refine MI_of RX12 [(0, .ref (zad y (0, 32, 0))), (1, .int a1)] (by decide) rfl rfl (Nat.le_of_ble_eq_true rfl) rfl ?_
  intro p e s m args below meth c A X
  refine V_aload_n X 0 dX12_cliqueOf_0 rfl rfl ?_
  refine V_iload_n X 1 dX12_cliqueOf_1 rfl rfl ?_
  obtain ⟨x2, c1, h⟩ := bd_some h
  refine V_callVi X (As := [.int a1]) (M_X12_isActive c1) (cwV 1 X.2.2.2.2.2.2.1 (gV wm_RX12_262 wi_X12_isActive wse_X12_isActive win_RX12 wc_X12_isActive) rfl rfl rfl hd_X12_isActive ⟨Nat.le_of_ble_eq_true rfl, Nat.le_of_ble_eq_true rfl⟩) (b := (0, 32, 0)) ⟨by decide, rfl⟩ rfl rfl rfl rfl (Nat.le_of_ble_eq_true rfl) dX12_cliqueOf_2 rfl ?_
  refine V_if_ne X (tgt := 10) dX12_cliqueOf_5 (by decide) (fun b3 => ?_) (fun b3 => ?_)
  · replace h := (if_neg b3).symm.trans h
    refine V_iconst X 1 dX12_cliqueOf_10 (by decide) ?_
    refine V_iload_n X 1 dX12_cliqueOf_11 rfl rfl ?_
    refine V_ishl X dX12_cliqueOf_12 ?_
    refine V_istore_n X [(2, .int (1 <<< (a1 &&& 31))), (0, .ref (zad y (0, 32, 0))), (1, .int a1)] dX12_cliqueOf_13 rfl (by decide) rfl ?_
    refine zlt_el (P := fun (x4 : Int32) => V X μ 14 [(2, .int x4), (0, .ref (zad y (0, 32, 0))), (1, .int a1)] []) h (fun x4 h => ?_)
    refine V_iconst X 1 dX12_cliqueOf_14 (by decide) ?_
    refine V_istore_n X [(3, .int 1), (2, .int x4), (0, .ref (zad y (0, 32, 0))), (1, .int a1)] dX12_cliqueOf_15 rfl (by decide) rfl ?_
    refine V_sub X [2, 1, 0] (lv' := [(0, .ref (zad y (0, 32, 0))), (2, .int x4), (3, .int 1)]) rfl ?_
    obtain ⟨x8, μ9, hl, h⟩ := bd2_some h
    have hk : V X μ9 114 [(2, .int x8)] [] := by
      clear hl
      refine V_iload_n X 0 dX12_cliqueOf_114 rfl rfl ?_
      exact V_iretW X h dX12_cliqueOf_115
    refine lp_ind (P := fun q => V X q.2.2 16 [(0, .ref (zad y (0, 32, 0))), (2, .int q.1), (3, .int q.2.1)] []) (fun q z h hz => ?_) hl
    obtain ⟨x5, x6, μ7⟩ := q
    replace h := un3_eq h
    show V X μ7 16 [(0, .ref (zad y (0, 32, 0))), (2, .int x5), (3, .int x6)] []
    refine V_iload_n X 2 dX12_cliqueOf_16 rfl rfl ?_
    refine V_if_eq X (tgt := 114) dX12_cliqueOf_17 (by decide) (fun b10 => ?_) (fun b10 => ?_)
    · replace h := (if_pos b10).symm.trans h
      refine V_sub X [1] (lv' := [(2, .int x5)]) rfl ?_
      cases h
      obtain ⟨rfl, rfl⟩ := pr2 hz
      exact hk
    · replace h := (if_neg b10).symm.trans h
      refine V_iload_n X 1 dX12_cliqueOf_20 rfl rfl ?_
      refine V_istore X [(4, .int x5), (0, .ref (zad y (0, 32, 0))), (2, .int x5), (3, .int x6)] dX12_cliqueOf_21 (by decide) rfl ?_
      refine V_iconst X 0 dX12_cliqueOf_23 (by decide) ?_
      refine V_istore X [(5, .int 0), (4, .int x5), (0, .ref (zad y (0, 32, 0))), (2, .int x5), (3, .int x6)] dX12_cliqueOf_24 (by decide) rfl ?_
      refine V_sub X [2, 3, 1, 0] (lv' := [(0, .ref (zad y (0, 32, 0))), (2, .int x5), (4, .int x5), (5, .int 0)]) rfl ?_
      obtain ⟨x14, μ15, hl, h⟩ := bd2_some h
      have hk : V X μ15 99 [(0, .ref (zad y (0, 32, 0))), (2, .int x14), (4, .int x5)] [] := by
        clear hl
        refine V_iload_n X 1 dX12_cliqueOf_99 rfl rfl ?_
        refine V_iload X 2 dX12_cliqueOf_100 rfl ?_
        obtain ⟨x37, h1, h⟩ := zl1_some h
        have hk : V X μ15 110 [(0, .ref (zad y (0, 32, 0))), (2, .int x14)] [.int x37] := by
          clear h1
          refine V_istore_n X [(3, .int x37), (0, .ref (zad y (0, 32, 0))), (2, .int x14)] dX12_cliqueOf_110 rfl (by decide) rfl ?_
          refine V_goto X (tgt := 16) dX12_cliqueOf_111 (by decide) ?_
          refine V_sub X [1, 2, 0] (lv' := [(0, .ref (zad y (0, 32, 0))), (2, .int x14), (3, .int x37)]) rfl ?_
          cases h
          exact hz
        replace h := h1
        clear h1
        refine V_icmp_eq X (tgt := 109) dX12_cliqueOf_102 (by decide) (fun b36 => ?_) (fun b36 => ?_)
        · replace h := (if_pos b36).symm.trans h
          refine V_iconst X 0 dX12_cliqueOf_109 (by decide) ?_
          refine V_sub X [0, 1] (lv' := [(0, .ref (zad y (0, 32, 0))), (2, .int x14)]) rfl ?_
          obtain rfl := pr1 h
          exact hk
        · replace h := (if_neg b36).symm.trans h
          refine V_iconst X 1 dX12_cliqueOf_105 (by decide) ?_
          refine V_goto X (tgt := 110) dX12_cliqueOf_106 (by decide) ?_
          refine V_sub X [0, 1] (lv' := [(0, .ref (zad y (0, 32, 0))), (2, .int x14)]) rfl ?_
          obtain rfl := pr1 h
          exact hk
      refine lp_ind (P := fun q => V X q.2.2 26 [(0, .ref (zad y (0, 32, 0))), (2, .int q.1), (4, .int x5), (5, .int q.2.1)] []) (fun q z h hz => ?_) hl
      obtain ⟨x11, x12, μ13⟩ := q
      replace h := un3_eq h
      show V X μ13 26 [(0, .ref (zad y (0, 32, 0))), (2, .int x11), (4, .int x5), (5, .int x12)] []
      refine V_iload X 3 dX12_cliqueOf_26 rfl ?_
      refine V_aload_n X 0 dX12_cliqueOf_28 rfl rfl ?_
      refine V_getr X (o := (0, 32, 0)) (i := (0, 33, 0)) (ci := 12) (k := 1) (N := 30) (T := TX12) (C := RX12) ⟨by decide, rfl⟩ rfl rfl rfl (by decide) (mBa inB_X12) (mB wl_RX12_7) dX12_cliqueOf_29 ?_
      refine V_iconst X 3 dX12_cliqueOf_32 (by decide) ?_
      refine V_iald X 3 (by decide) (o := (0, 33, 0)) (n := 737) ⟨by decide, rfl⟩ rfl rfl (by decide) dX12_cliqueOf_33 ?_
      refine V_icmp_ge X (tgt := 99) dX12_cliqueOf_34 (by decide) (fun b16 => ?_) (fun b16 => ?_)
      · replace h := (if_pos b16).symm.trans h
        refine V_sub X [0, 1, 2] (lv' := [(0, .ref (zad y (0, 32, 0))), (2, .int x11), (4, .int x5)]) rfl ?_
        cases h
        obtain ⟨rfl, rfl⟩ := pr2 hz
        exact hk
      · replace h := (if_neg b16).symm.trans h
        refine V_iconst X 0 dX12_cliqueOf_37 (by decide) ?_
        refine V_istore X [(6, .int 0), (0, .ref (zad y (0, 32, 0))), (2, .int x11), (4, .int x5), (5, .int x12)] dX12_cliqueOf_38 (by decide) rfl ?_
        refine V_sub X [1, 2, 3, 4, 0] (lv' := [(0, .ref (zad y (0, 32, 0))), (2, .int x11), (4, .int x5), (5, .int x12), (6, .int 0)]) rfl ?_
        obtain ⟨x20, μ21, hl, h⟩ := bd2_some h
        have hk : V X μ21 93 [(0, .ref (zad y (0, 32, 0))), (2, .int x20), (4, .int x5), (5, .int x12)] [] := by
          clear hl
          refine V_inc X 3 1 [(5, .int (x12 + 1)), (0, .ref (zad y (0, 32, 0))), (2, .int x20), (4, .int x5)] dX12_cliqueOf_93 rfl (by decide) (by decide) rfl ?_
          refine V_goto X (tgt := 26) dX12_cliqueOf_96 (by decide) ?_
          refine V_sub X [1, 2, 3, 0] (lv' := [(0, .ref (zad y (0, 32, 0))), (2, .int x20), (4, .int x5), (5, .int (x12 + 1))]) rfl ?_
          cases h
          exact hz
        refine lp_ind (P := fun q => V X q.2.2 40 [(0, .ref (zad y (0, 32, 0))), (2, .int q.1), (4, .int x5), (5, .int x12), (6, .int q.2.1)] []) (fun q z h hz => ?_) hl
        obtain ⟨x17, x18, μ19⟩ := q
        replace h := un3_eq h
        show V X μ19 40 [(0, .ref (zad y (0, 32, 0))), (2, .int x17), (4, .int x5), (5, .int x12), (6, .int x18)] []
        refine V_iload X 4 dX12_cliqueOf_40 rfl ?_
        refine V_aload_n X 0 dX12_cliqueOf_42 rfl rfl ?_
        refine V_getr X (o := (0, 32, 0)) (i := (0, 33, 0)) (ci := 12) (k := 1) (N := 30) (T := TX12) (C := RX12) ⟨by decide, rfl⟩ rfl rfl rfl (by decide) (mBa inB_X12) (mB wl_RX12_7) dX12_cliqueOf_43 ?_
        refine V_iconst X 3 dX12_cliqueOf_46 (by decide) ?_
        refine V_iald X 3 (by decide) (o := (0, 33, 0)) (n := 737) ⟨by decide, rfl⟩ rfl rfl (by decide) dX12_cliqueOf_47 ?_
        refine V_icmp_ge X (tgt := 93) dX12_cliqueOf_48 (by decide) (fun b22 => ?_) (fun b22 => ?_)
        · replace h := (if_pos b22).symm.trans h
          refine V_sub X [0, 1, 2, 3] (lv' := [(0, .ref (zad y (0, 32, 0))), (2, .int x17), (4, .int x5), (5, .int x12)]) rfl ?_
          cases h
          obtain ⟨rfl, rfl⟩ := pr2 hz
          exact hk
        · replace h := (if_neg b22).symm.trans h
          refine V_iload_n X 1 dX12_cliqueOf_51 rfl rfl ?_
          refine V_iload X 3 dX12_cliqueOf_52 rfl ?_
          obtain ⟨x24, c23, h⟩ := bd_some h
          refine V_callSi X (As := [.int x17, .int x12]) (M_X12_isOf c23) (va_cwS 2 X.2.2.2.2.2.2.1 (gS wm_RX12_274 wst_X12_isOf win_RX12 wc_X12_isOf) rfl rfl rfl hd_X12_isOf.2 ⟨Nat.le_of_ble_eq_true rfl, Nat.le_of_ble_eq_true rfl⟩) rfl (Nat.le_of_ble_eq_true rfl) dX12_cliqueOf_54 rfl ?_
          obtain ⟨x26, μ27, h1, h⟩ := bd2_some h
          have hk : V X μ27 87 [(0, .ref (zad y (0, 32, 0))), (2, .int x26), (4, .int x5), (5, .int x12), (6, .int x18)] [] := by
            clear h1
            refine V_inc X 4 1 [(6, .int (x18 + 1)), (0, .ref (zad y (0, 32, 0))), (2, .int x26), (4, .int x5), (5, .int x12)] dX12_cliqueOf_87 rfl (by decide) (by decide) rfl ?_
            refine V_goto X (tgt := 40) dX12_cliqueOf_90 (by decide) ?_
            refine V_sub X [1, 2, 3, 4, 0] (lv' := [(0, .ref (zad y (0, 32, 0))), (2, .int x26), (4, .int x5), (5, .int x12), (6, .int (x18 + 1))]) rfl ?_
            cases h
            exact hz
          replace h := h1
          clear h1
          refine V_if_eq X (tgt := 87) dX12_cliqueOf_57 (by decide) (fun b25 => ?_) (fun b25 => ?_)
          · replace h := (if_pos b25).symm.trans h
            obtain ⟨rfl, rfl⟩ := so2 h
            exact hk
          · replace h := (if_neg b25).symm.trans h
            refine V_iload_n X 1 dX12_cliqueOf_60 rfl rfl ?_
            refine V_iload X 4 dX12_cliqueOf_61 rfl ?_
            obtain ⟨x29, c28, h⟩ := bd_some h
            refine V_callSi X (As := [.int x17, .int x18]) (M_X12_isOf c28) (va_cwS 2 X.2.2.2.2.2.2.1 (gS wm_RX12_274 wst_X12_isOf win_RX12 wc_X12_isOf) rfl rfl rfl hd_X12_isOf.2 ⟨Nat.le_of_ble_eq_true rfl, Nat.le_of_ble_eq_true rfl⟩) rfl (Nat.le_of_ble_eq_true rfl) dX12_cliqueOf_63 rfl ?_
            refine V_if_ne X (tgt := 87) dX12_cliqueOf_66 (by decide) (fun b30 => ?_) (fun b30 => ?_)
            · replace h := (if_neg b30).symm.trans h
              obtain ⟨rfl, rfl⟩ := so2 h
              exact hk
            · replace h := (if_pos b30).symm.trans h
              refine V_aload_n X 0 dX12_cliqueOf_69 rfl rfl ?_
              refine V_iload X 3 dX12_cliqueOf_70 rfl ?_
              refine V_iload X 4 dX12_cliqueOf_72 rfl ?_
              obtain ⟨x32, μ33, c31, h⟩ := bd2_some h
              refine V_callVi X (As := [.int x12, .int x18]) (M_X12_areFriends c31) (cwV 2 X.2.2.2.2.2.2.1 (gV wm_RX12_344 wi_X12_areFriends wse_X12_areFriends win_RX12 wc_X12_areFriends) rfl rfl rfl hd_X12_areFriends ⟨Nat.le_of_ble_eq_true rfl, Nat.le_of_ble_eq_true rfl⟩) (b := (0, 32, 0)) ⟨by decide, rfl⟩ rfl rfl rfl rfl (Nat.le_of_ble_eq_true rfl) dX12_cliqueOf_74 rfl ?_
              refine V_if_eq X (tgt := 87) dX12_cliqueOf_77 (by decide) (fun b34 => ?_) (fun b34 => ?_)
              · replace h := (if_pos b34).symm.trans h
                obtain ⟨rfl, rfl⟩ := so2 h
                exact hk
              · replace h := (if_neg b34).symm.trans h
                refine V_iload_n X 1 dX12_cliqueOf_80 rfl rfl ?_
                refine V_iconst X 1 dX12_cliqueOf_81 (by decide) ?_
                refine V_iload X 4 dX12_cliqueOf_82 rfl ?_
                refine V_ishl X dX12_cliqueOf_84 ?_
                refine V_ior X dX12_cliqueOf_85 ?_
                refine V_istore_n X [(2, .int (x17 ||| (1 <<< (x18 &&& 31)))), (0, .ref (zad y (0, 32, 0))), (4, .int x5), (5, .int x12), (6, .int x18)] dX12_cliqueOf_86 rfl (by decide) rfl ?_
                refine zlt_el (P := fun (x35 : Int32) => V X μ33 87 [(2, .int x35), (0, .ref (zad y (0, 32, 0))), (4, .int x5), (5, .int x12), (6, .int x18)] []) h (fun x35 h => ?_)
                refine V_sub X [1, 0, 2, 3, 4] (lv' := [(0, .ref (zad y (0, 32, 0))), (2, .int x35), (4, .int x5), (5, .int x12), (6, .int x18)]) rfl ?_
                obtain ⟨rfl, rfl⟩ := so2 h
                exact hk
  · replace h := (if_pos b3).symm.trans h
    refine V_iconst X 0 dX12_cliqueOf_8 (by decide) ?_
    exact V_iretW X h dX12_cliqueOf_9

def f_X12_middleNow (a1 : Int32) (μ : ZMem) : Option (Int32 × ZMem) := bd (f_X12_isActive a1 μ) (fun (x2 : Int32) => if x2 = 0 then some (0, μ) else bd (f_X12_allShifts μ) (fun (μ5 : ZMem) => bd2 (f_X12_middleOf a1 (μ5 (0, 32, 0) 24) μ5) (fun (x7 : Int32) (μ8 : ZMem) => some (x7, μ8))))
set_option maxRecDepth 100000 in
set_option maxHeartbeats 4000000 in
theorem M_X12_middleNow {l : Launch} {D : va_G} {y : ZLay} {a1 : Int32}  {μ : ZMem} {r : Int32} {μ0 : ZMem} (h : f_X12_middleNow a1 μ = some (r, μ0)) : MI l yX12_middleNow wb_X12_middleNow rm_X12_middleNow D y [.ref (zad y (0, 32, 0)), .int a1] μ r μ0 := by
  unfold f_X12_middleNow at h
  refine MI_of RX12 [(0, .ref (zad y (0, 32, 0))), (1, .int a1)] (by decide) rfl rfl (Nat.le_of_ble_eq_true rfl) rfl ?_
  intro p e s m args below meth c A X
  refine V_aload_n X 0 dX12_middleNow_0 rfl rfl ?_
  refine V_iload_n X 1 dX12_middleNow_1 rfl rfl ?_
  obtain ⟨x2, c1, h⟩ := bd_some h
  refine V_callVi X (As := [.int a1]) (M_X12_isActive c1) (cwV 1 X.2.2.2.2.2.2.1 (gV wm_RX12_262 wi_X12_isActive wse_X12_isActive win_RX12 wc_X12_isActive) rfl rfl rfl hd_X12_isActive ⟨Nat.le_of_ble_eq_true rfl, Nat.le_of_ble_eq_true rfl⟩) (b := (0, 32, 0)) ⟨by decide, rfl⟩ rfl rfl rfl rfl (Nat.le_of_ble_eq_true rfl) dX12_middleNow_2 rfl ?_
  refine V_if_ne X (tgt := 10) dX12_middleNow_5 (by decide) (fun b3 => ?_) (fun b3 => ?_)
  · replace h := (if_neg b3).symm.trans h
    refine V_aload_n X 0 dX12_middleNow_10 rfl rfl ?_
    obtain ⟨μ5, c4, h⟩ := bd_some h
    refine V_callVv X (As := []) (M_X12_allShifts c4) (cwV 0 X.2.2.2.2.2.2.1 (gV wm_RX12_313 wi_X12_allShifts wse_X12_allShifts win_RX12 wc_X12_allShifts) rfl rfl rfl hd_X12_allShifts ⟨Nat.le_of_ble_eq_true rfl, Nat.le_of_ble_eq_true rfl⟩) (b := (0, 32, 0)) ⟨by decide, rfl⟩ rfl rfl rfl rfl (Nat.le_of_ble_eq_true rfl) dX12_middleNow_11 rfl ?_
    refine V_aload_n X 0 dX12_middleNow_14 rfl rfl ?_
    refine V_iload_n X 1 dX12_middleNow_15 rfl rfl ?_
    refine V_aload_n X 0 dX12_middleNow_16 rfl rfl ?_
    refine V_geti X (o := (0, 32, 0)) (ci := 12) (k := 24) (N := 30) (T := TX12) (C := RX12) ⟨by decide, rfl⟩ rfl rfl rfl (by decide) (mBa inB_X12) (mB wl_RX12_268) dX12_middleNow_17 ?_
    obtain ⟨x7, μ8, c6, h⟩ := bd2_some h
    refine V_callVi X (As := [.int a1, .int (μ5 (0, 32, 0) 24)]) (M_X12_middleOf c6) (cwV 2 X.2.2.2.2.2.2.1 (gV wm_RX12_307 wi_X12_middleOf wse_X12_middleOf win_RX12 wc_X12_middleOf) rfl rfl rfl hd_X12_middleOf ⟨Nat.le_of_ble_eq_true rfl, Nat.le_of_ble_eq_true rfl⟩) (b := (0, 32, 0)) ⟨by decide, rfl⟩ rfl rfl rfl rfl (Nat.le_of_ble_eq_true rfl) dX12_middleNow_20 rfl ?_
    exact V_iretW X h dX12_middleNow_23
  · replace h := (if_pos b3).symm.trans h
    refine V_iconst X 0 dX12_middleNow_8 (by decide) ?_
    exact V_iretW X h dX12_middleNow_9

def f_X12_knownOf (a1 : Int32) (μ : ZMem) : Option (Int32) := bd (lp (σ := Int32 × Int32) (fun q => un2 q (fun (x1 : Int32) (x2 : Int32) => if (μ (0, 33, 0) 3) ≤ x2 then some (.inr x1) else bd (f_X12_of x2 5 μ) (fun (x6 : Int32) => bd (f_X12_isOf x6 a1) (fun (x8 : Int32) => zlt (α := Int32) (if x8 = 0 then 0 else (1 <<< (x2 &&& 31))) (fun (x10 : Int32) => zlt (x1 ||| x10) (fun (x11 : Int32) => some (.inl (x11, (x2 + 1))))))))) FU (0, 0)) (fun (x3 : Int32) => some x3)
set_option maxRecDepth 100000 in
set_option maxHeartbeats 4000000 in
theorem M_X12_knownOf {l : Launch} {D : va_G} {y : ZLay} {a1 : Int32}  {μ : ZMem} {r : Int32} (h : f_X12_knownOf a1 μ = some r) : MI l yX12_knownOf wb_X12_knownOf rm_X12_knownOf D y [.ref (zad y (0, 32, 0)), .int a1] μ r μ := by
  unfold f_X12_knownOf at h
  refine MI_of RX12 [(0, .ref (zad y (0, 32, 0))), (1, .int a1)] (by decide) rfl rfl (Nat.le_of_ble_eq_true rfl) rfl ?_
  intro p e s m args below meth c A X
  refine V_iconst X 0 dX12_knownOf_0 (by decide) ?_
  refine V_istore_n X [(2, .int 0), (0, .ref (zad y (0, 32, 0))), (1, .int a1)] dX12_knownOf_1 rfl (by decide) rfl ?_
  refine V_iconst X 0 dX12_knownOf_2 (by decide) ?_
  refine V_istore_n X [(3, .int 0), (2, .int 0), (0, .ref (zad y (0, 32, 0))), (1, .int a1)] dX12_knownOf_3 rfl (by decide) rfl ?_
  refine V_sub X [2, 3, 1, 0] (lv' := [(0, .ref (zad y (0, 32, 0))), (1, .int a1), (2, .int 0), (3, .int 0)]) rfl ?_
  obtain ⟨x3, hl, h⟩ := bd_some h
  have hk : V X μ 43 [(2, .int x3)] [] := by
    clear hl
    refine V_iload_n X 0 dX12_knownOf_43 rfl rfl ?_
    exact V_iretR X h dX12_knownOf_44
  refine lp_ind (P := fun q => V X μ 4 [(0, .ref (zad y (0, 32, 0))), (1, .int a1), (2, .int q.1), (3, .int q.2)] []) (fun q z h hz => ?_) hl
  obtain ⟨x1, x2⟩ := q
  replace h := un2_eq h
  show V X μ 4 [(0, .ref (zad y (0, 32, 0))), (1, .int a1), (2, .int x1), (3, .int x2)] []
  refine V_iload_n X 3 dX12_knownOf_4 rfl rfl ?_
  refine V_aload_n X 0 dX12_knownOf_5 rfl rfl ?_
  refine V_getr X (o := (0, 32, 0)) (i := (0, 33, 0)) (ci := 12) (k := 1) (N := 30) (T := TX12) (C := RX12) ⟨by decide, rfl⟩ rfl rfl rfl (by decide) (mBa inB_X12) (mB wl_RX12_7) dX12_knownOf_6 ?_
  refine V_iconst X 3 dX12_knownOf_9 (by decide) ?_
  refine V_iald X 3 (by decide) (o := (0, 33, 0)) (n := 737) ⟨by decide, rfl⟩ rfl rfl (by decide) dX12_knownOf_10 ?_
  refine V_icmp_ge X (tgt := 43) dX12_knownOf_11 (by decide) (fun b4 => ?_) (fun b4 => ?_)
  · replace h := (if_pos b4).symm.trans h
    refine V_sub X [2] (lv' := [(2, .int x1)]) rfl ?_
    cases h
    obtain rfl := pr1 hz
    exact hk
  · replace h := (if_neg b4).symm.trans h
    refine V_iload_n X 2 dX12_knownOf_14 rfl rfl ?_
    refine V_aload_n X 0 dX12_knownOf_15 rfl rfl ?_
    refine V_iload_n X 3 dX12_knownOf_16 rfl rfl ?_
    refine V_iconst X 5 dX12_knownOf_17 (by decide) ?_
    obtain ⟨x6, c5, h⟩ := bd_some h
    refine V_callVi X (As := [.int x2, .int 5]) (M_X12_of c5) (cwV 2 X.2.2.2.2.2.2.1 (gV wm_RX12_66 wi_X12_of wse_X12_of win_RX12 wc_X12_of) rfl rfl rfl hd_X12_of ⟨Nat.le_of_ble_eq_true rfl, Nat.le_of_ble_eq_true rfl⟩) (b := (0, 32, 0)) ⟨by decide, rfl⟩ rfl rfl rfl rfl (Nat.le_of_ble_eq_true rfl) dX12_knownOf_18 rfl ?_
    refine V_iload_n X 1 dX12_knownOf_21 rfl rfl ?_
    obtain ⟨x8, c7, h⟩ := bd_some h
    refine V_callSi X (As := [.int x6, .int a1]) (M_X12_isOf c7) (va_cwS 2 X.2.2.2.2.2.2.1 (gS wm_RX12_274 wst_X12_isOf win_RX12 wc_X12_isOf) rfl rfl rfl hd_X12_isOf.2 ⟨Nat.le_of_ble_eq_true rfl, Nat.le_of_ble_eq_true rfl⟩) rfl (Nat.le_of_ble_eq_true rfl) dX12_knownOf_22 rfl ?_
    obtain ⟨x10, h1, h⟩ := zl1_some h
    have hk : V X μ 35 [(0, .ref (zad y (0, 32, 0))), (1, .int a1), (3, .int x2)] [.int x10, .int x1] := by
      clear h1
      refine V_ior X dX12_knownOf_35 ?_
      refine V_istore_n X [(2, .int (x1 ||| x10)), (0, .ref (zad y (0, 32, 0))), (1, .int a1), (3, .int x2)] dX12_knownOf_36 rfl (by decide) rfl ?_
      refine zlt_el (P := fun (x11 : Int32) => V X μ 37 [(2, .int x11), (0, .ref (zad y (0, 32, 0))), (1, .int a1), (3, .int x2)] []) h (fun x11 h => ?_)
      refine V_inc X 3 1 [(3, .int (x2 + 1)), (2, .int x11), (0, .ref (zad y (0, 32, 0))), (1, .int a1)] dX12_knownOf_37 rfl (by decide) (by decide) rfl ?_
      refine V_goto X (tgt := 4) dX12_knownOf_40 (by decide) ?_
      refine V_sub X [2, 3, 1, 0] (lv' := [(0, .ref (zad y (0, 32, 0))), (1, .int a1), (2, .int x11), (3, .int (x2 + 1))]) rfl ?_
      cases h
      exact hz
    replace h := h1
    clear h1
    refine V_if_eq X (tgt := 34) dX12_knownOf_25 (by decide) (fun b9 => ?_) (fun b9 => ?_)
    · replace h := (if_pos b9).symm.trans h
      refine V_iconst X 0 dX12_knownOf_34 (by decide) ?_
      refine V_sub X [0, 1, 3] (lv' := [(0, .ref (zad y (0, 32, 0))), (1, .int a1), (3, .int x2)]) rfl ?_
      obtain rfl := pr1 h
      exact hk
    · replace h := (if_neg b9).symm.trans h
      refine V_iconst X 1 dX12_knownOf_28 (by decide) ?_
      refine V_iload_n X 3 dX12_knownOf_29 rfl rfl ?_
      refine V_ishl X dX12_knownOf_30 ?_
      refine V_goto X (tgt := 35) dX12_knownOf_31 (by decide) ?_
      refine V_sub X [0, 1, 3] (lv' := [(0, .ref (zad y (0, 32, 0))), (1, .int a1), (3, .int x2)]) rfl ?_
      obtain rfl := pr1 h
      exact hk

