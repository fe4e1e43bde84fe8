def f_X12_narrow (μ : ZMem) : Option (Int32 × ZMem) := zlt (mset μ (0, 32, 0) 0 0) (fun (μ1 : ZMem) => bd2 (lp (σ := Int32 × Int32 × ZMem) (fun q => un3 q (fun (x2 : Int32) (x3 : Int32) (μ4 : ZMem) => if (μ4 (0, 33, 0) 3) ≤ x3 then some (.inr (x2, μ4)) else bd (f_X12_isActive x3 μ4) (fun (x9 : Int32) => bd2 (α := Int32) (β := ZMem) (if x9 = 0 then some (x2, μ4) else bd (f_X12_of x3 9 μ4) (fun (x14 : Int32) => if x14 = 2 then some (x2, μ4) else bd2 (f_X12_sentBy x3 μ4) (fun (x17 : Int32) (μ18 : ZMem) => zlt (f_X12_greater x2 (f_X12_sign x17)) (fun (x19 : Int32) => some (x19, μ18))))) (fun (x11 : Int32) (μ12 : ZMem) => some (.inl (x11, (x3 + 1), μ12)))))) FU (1, 0, μ1)) (fun (x5 : Int32) (μ6 : ZMem) => zlt (α := Int32) (if x5 ≤ 999 then x5 else (-1)) (fun (x21 : Int32) => some (x21, μ6))))
set_option maxRecDepth 100000 in
set_option maxHeartbeats 4000000 in
theorem M_X12_narrow {l : Launch} {D : va_G} {y : ZLay}   {μ : ZMem} {r : Int32} {μ0 : ZMem} (h : f_X12_narrow μ = some (r, μ0)) : MI l yX12_narrow wb_X12_narrow rm_X12_narrow D y [.ref (zad y (0, 32, 0))] μ r μ0 := by
  unfold f_X12_narrow at h
  refine MI_of RX12 [(0, .ref (zad y (0, 32, 0)))] (by decide) rfl rfl (Nat.le_of_ble_eq_true rfl) rfl ?_
  intro p e s m args below meth c A X
  refine V_aload_n X 0 dX12_narrow_0 rfl rfl ?_
  refine V_iconst X 0 dX12_narrow_1 (by decide) ?_
  refine V_puti X tyX12 .int (o := (0, 32, 0)) (ci := 12) (k := 0) (N := 30) (T := TX12) (C := RX12) ⟨by decide, rfl⟩ rfl rfl rfl (by decide) (mBa inB_X12) tyX12_ok nmX12 (mB wl_RX12_59) rfl rfl rfl rfl dX12_narrow_2 ?_
  refine zlt_el (P := fun (μ1 : ZMem) => V X μ1 5 [(0, .ref (zad y (0, 32, 0)))] []) h (fun μ1 h => ?_)
  refine V_iconst X 1 dX12_narrow_5 (by decide) ?_
  refine V_istore_n X [(1, .int 1), (0, .ref (zad y (0, 32, 0)))] dX12_narrow_6 rfl (by decide) rfl ?_
  refine V_iconst X 0 dX12_narrow_7 (by decide) ?_
  refine V_istore_n X [(2, .int 0), (1, .int 1), (0, .ref (zad y (0, 32, 0)))] dX12_narrow_8 rfl (by decide) rfl ?_
  refine V_sub X [2, 1, 0] (lv' := [(0, .ref (zad y (0, 32, 0))), (1, .int 1), (2, .int 0)]) rfl ?_
  obtain ⟨x5, μ6, hl, h⟩ := bd2_some h
  have hk : V X μ6 57 [(1, .int x5)] [] := by
    clear hl
    refine V_iload_n X 0 dX12_narrow_57 rfl rfl ?_
    refine V_sipush X 999 dX12_narrow_58 (by decide) ?_
    obtain ⟨x21, h1, h⟩ := zl1_some h
    have hk : V X μ6 69 [] [.int x21] := by
      clear h1
      exact V_iretW X h dX12_narrow_69
    replace h := h1
    clear h1
    refine V_icmp_le X (tgt := 68) dX12_narrow_61 (by decide) (fun b20 => ?_) (fun b20 => ?_)
    · replace h := (if_pos b20).symm.trans h
      refine V_iload_n X 0 dX12_narrow_68 rfl rfl ?_
      refine V_sub X [] (lv' := []) rfl ?_
      obtain rfl := pr1 h
      exact hk
    · replace h := (if_neg b20).symm.trans h
      refine V_iconst X (-1) dX12_narrow_64 (by decide) ?_
      refine V_goto X (tgt := 69) dX12_narrow_65 (by decide) ?_
      refine V_sub X [] (lv' := []) rfl ?_
      obtain rfl := pr1 h
      exact hk
  refine lp_ind (P := fun q => V X q.2.2 9 [(0, .ref (zad y (0, 32, 0))), (1, .int q.1), (2, .int q.2.1)] []) (fun q z h hz => ?_) hl
  obtain ⟨x2, x3, μ4⟩ := q
  replace h := un3_eq h
  show V X μ4 9 [(0, .ref (zad y (0, 32, 0))), (1, .int x2), (2, .int x3)] []
  refine V_iload_n X 2 dX12_narrow_9 rfl rfl ?_
  refine V_aload_n X 0 dX12_narrow_10 rfl rfl ?_
  refine V_getr X (o := (0, 32, 0)) (i := (0, 33, 0)) (ci := 12) (k := 1) (N := 30) (T := TX12) (C := RX12) ⟨by decide, rfl⟩ rfl rfl rfl (by decide) (mBa inB_X12) (mB wl_RX12_7) dX12_narrow_11 ?_
  refine V_iconst X 3 dX12_narrow_14 (by decide) ?_
  refine V_iald X 3 (by decide) (o := (0, 33, 0)) (n := 737) ⟨by decide, rfl⟩ rfl rfl (by decide) dX12_narrow_15 ?_
  refine V_icmp_ge X (tgt := 57) dX12_narrow_16 (by decide) (fun b7 => ?_) (fun b7 => ?_)
  · replace h := (if_pos b7).symm.trans h
    refine V_sub X [1] (lv' := [(1, .int x2)]) rfl ?_
    cases h
    obtain ⟨rfl, rfl⟩ := pr2 hz
    exact hk
  · replace h := (if_neg b7).symm.trans h
    refine V_aload_n X 0 dX12_narrow_19 rfl rfl ?_
    refine V_iload_n X 2 dX12_narrow_20 rfl rfl ?_
    obtain ⟨x9, c8, h⟩ := bd_some h
    refine V_callVi X (As := [.int x3]) (M_X12_isActive c8) (cwV 1 X.2.2.2.2.2.2.1 (gV wm_RX12_262 wi_X12_isActive wse_X12_isActive win_RX12 wc_X12_isActive) rfl rfl rfl hd_X12_isActive ⟨Nat.le_of_ble_eq_true rfl, Nat.le_of_ble_eq_true rfl⟩) (b := (0, 32, 0)) ⟨by decide, rfl⟩ rfl rfl rfl rfl (Nat.le_of_ble_eq_true rfl) dX12_narrow_21 rfl ?_
    obtain ⟨x11, μ12, h1, h⟩ := bd2_some h
    have hk : V X μ12 51 [(0, .ref (zad y (0, 32, 0))), (1, .int x11), (2, .int x3)] [] := by
      clear h1
      refine V_inc X 2 1 [(2, .int (x3 + 1)), (0, .ref (zad y (0, 32, 0))), (1, .int x11)] dX12_narrow_51 rfl (by decide) (by decide) rfl ?_
      refine V_goto X (tgt := 9) dX12_narrow_54 (by decide) ?_
      refine V_sub X [1, 2, 0] (lv' := [(0, .ref (zad y (0, 32, 0))), (1, .int x11), (2, .int (x3 + 1))]) rfl ?_
      cases h
      exact hz
    replace h := h1
    clear h1
    refine V_if_eq X (tgt := 51) dX12_narrow_24 (by decide) (fun b10 => ?_) (fun b10 => ?_)
    · replace h := (if_pos b10).symm.trans h
      obtain ⟨rfl, rfl⟩ := so2 h
      exact hk
    · replace h := (if_neg b10).symm.trans h
      refine V_aload_n X 0 dX12_narrow_27 rfl rfl ?_
      refine V_iload_n X 2 dX12_narrow_28 rfl rfl ?_
      refine V_bipush X 9 dX12_narrow_29 (by decide) ?_
      obtain ⟨x14, c13, h⟩ := bd_some h
      refine V_callVi X (As := [.int x3, .int 9]) (M_X12_of c13) (cwV 2 X.2.2.2.2.2.2.1 (gV wm_RX12_66 wi_X12_of wse_X12_of win_RX12 wc_X12_of) rfl rfl rfl hd_X12_of ⟨Nat.le_of_ble_eq_true rfl, Nat.le_of_ble_eq_true rfl⟩) (b := (0, 32, 0)) ⟨by decide, rfl⟩ rfl rfl rfl rfl (Nat.le_of_ble_eq_true rfl) dX12_narrow_31 rfl ?_
      refine V_iconst X 2 dX12_narrow_34 (by decide) ?_
      refine V_icmp_eq X (tgt := 51) dX12_narrow_35 (by decide) (fun b15 => ?_) (fun b15 => ?_)
      · replace h := (if_pos b15).symm.trans h
        obtain ⟨rfl, rfl⟩ := so2 h
        exact hk
      · replace h := (if_neg b15).symm.trans h
        refine V_iload_n X 1 dX12_narrow_38 rfl rfl ?_
        refine V_aload_n X 0 dX12_narrow_39 rfl rfl ?_
        refine V_iload_n X 2 dX12_narrow_40 rfl rfl ?_
        obtain ⟨x17, μ18, c16, h⟩ := bd2_some h
        refine V_callVi X (As := [.int x3]) (M_X12_sentBy c16) (cwV 1 X.2.2.2.2.2.2.1 (gV wm_RX12_259 wi_X12_sentBy wse_X12_sentBy win_RX12 wc_X12_sentBy) rfl rfl rfl hd_X12_sentBy ⟨Nat.le_of_ble_eq_true rfl, Nat.le_of_ble_eq_true rfl⟩) (b := (0, 32, 0)) ⟨by decide, rfl⟩ rfl rfl rfl rfl (Nat.le_of_ble_eq_true rfl) dX12_narrow_41 rfl ?_
        refine V_callSi X (As := [.int x17]) (M_X12_sign) (va_cwS 1 X.2.2.2.2.2.2.1 (gS wm_RX12_377 wst_X12_sign win_RX12 wc_X12_sign) rfl rfl rfl hd_X12_sign.2 ⟨Nat.le_of_ble_eq_true rfl, Nat.le_of_ble_eq_true rfl⟩) rfl (Nat.le_of_ble_eq_true rfl) dX12_narrow_44 rfl ?_
        refine V_callSi X (As := [.int x2, .int (f_X12_sign x17)]) (M_X12_greater) (va_cwS 2 X.2.2.2.2.2.2.1 (gS wm_RX12_73 wst_X12_greater win_RX12 wc_X12_greater) rfl rfl rfl hd_X12_greater.2 ⟨Nat.le_of_ble_eq_true rfl, Nat.le_of_ble_eq_true rfl⟩) rfl (Nat.le_of_ble_eq_true rfl) dX12_narrow_47 rfl ?_
        refine V_istore_n X [(1, .int (f_X12_greater x2 (f_X12_sign x17))), (0, .ref (zad y (0, 32, 0))), (2, .int x3)] dX12_narrow_50 rfl (by decide) rfl ?_
        refine zlt_el (P := fun (x19 : Int32) => V X μ18 51 [(1, .int x19), (0, .ref (zad y (0, 32, 0))), (2, .int x3)] []) h (fun x19 h => ?_)
        refine V_sub X [1, 0, 2] (lv' := [(0, .ref (zad y (0, 32, 0))), (1, .int x19), (2, .int x3)]) rfl ?_
        obtain ⟨rfl, rfl⟩ := so2 h
        exact hk

def f_X12_tight (μ : ZMem) : Option (Int32 × ZMem) := zlt (mset μ (0, 32, 0) 0 0) (fun (μ1 : ZMem) => bd2 (lp (σ := Int32 × Int32 × ZMem) (fun q => un3 q (fun (x2 : Int32) (x3 : Int32) (μ4 : ZMem) => if (μ4 (0, 33, 0) 3) ≤ x3 then some (.inr (x2, μ4)) else bd2 (lp (σ := Int32 × Int32 × ZMem) (fun q => un3 q (fun (x8 : Int32) (x9 : Int32) (μ10 : ZMem) => if (μ10 (0, 33, 0) 3) ≤ x9 then some (.inr (x8, μ10)) else bd2 (α := Int32) (β := ZMem) (if x3 = x9 then some (x8, μ10) else bd (f_X12_isActive x3 μ10) (fun (x18 : Int32) => if x18 = 0 then some (x8, μ10) else bd (f_X12_isActive x9 μ10) (fun (x21 : Int32) => if x21 = 0 then some (x8, μ10) else bd2 (f_X12_shiftOf x9 x3 μ10) (fun (x24 : Int32) (μ25 : ZMem) => bd (f_X12_of x3 0 μ25) (fun (x27 : Int32) => zlt (f_X12_greater x8 (f_X12_sign (x24 - x27))) (fun (x28 : Int32) => some (x28, μ25))))))) (fun (x15 : Int32) (μ16 : ZMem) => some (.inl (x15, (x9 + 1), μ16))))) FU (x2, 0, μ4)) (fun (x11 : Int32) (μ12 : ZMem) => some (.inl (x11, (x3 + 1), μ12))))) FU (1, 0, μ1)) (fun (x5 : Int32) (μ6 : ZMem) => zlt (α := Int32) (if x5 ≤ 999 then x5 else (-1)) (fun (x30 : Int32) => some (x30, μ6))))
set_option maxRecDepth 100000 in
set_option maxHeartbeats 4000000 in
theorem M_X12_tight {l : Launch} {D : va_G} {y : ZLay}   {μ : ZMem} {r : Int32} {μ0 : ZMem} (h : f_X12_tight μ = some (r, μ0)) : MI l yX12_tight wb_X12_tight rm_X12_tight D y [.ref (zad y (0, 32, 0))] μ r μ0 := by
  unfold f_X12_tight at h
  refine MI_of RX12 [(0, .ref (zad y (0, 32, 0)))] (by decide) rfl rfl (Nat.le_of_ble_eq_true rfl) rfl ?_
  intro p e s m args below meth c A X
  refine V_aload_n X 0 dX12_tight_0 rfl rfl ?_
  refine V_iconst X 0 dX12_tight_1 (by decide) ?_
  refine V_puti X tyX12 .int (o := (0, 32, 0)) (ci := 12) (k := 0) (N := 30) (T := TX12) (C := RX12) ⟨by decide, rfl⟩ rfl rfl rfl (by decide) (mBa inB_X12) tyX12_ok nmX12 (mB wl_RX12_59) rfl rfl rfl rfl dX12_tight_2 ?_
  refine zlt_el (P := fun (μ1 : ZMem) => V X μ1 5 [(0, .ref (zad y (0, 32, 0)))] []) h (fun μ1 h => ?_)
  refine V_iconst X 1 dX12_tight_5 (by decide) ?_
  refine V_istore_n X [(1, .int 1), (0, .ref (zad y (0, 32, 0)))] dX12_tight_6 rfl (by decide) rfl ?_
  refine V_iconst X 0 dX12_tight_7 (by decide) ?_
  refine V_istore_n X [(2, .int 0), (1, .int 1), (0, .ref (zad y (0, 32, 0)))] dX12_tight_8 rfl (by decide) rfl ?_
  refine V_sub X [2, 1, 0] (lv' := [(0, .ref (zad y (0, 32, 0))), (1, .int 1), (2, .int 0)]) rfl ?_
  obtain ⟨x5, μ6, hl, h⟩ := bd2_some h
  have hk : V X μ6 85 [(1, .int x5)] [] := by
    clear hl
    refine V_iload_n X 0 dX12_tight_85 rfl rfl ?_
    refine V_sipush X 999 dX12_tight_86 (by decide) ?_
    obtain ⟨x30, h1, h⟩ := zl1_some h
    have hk : V X μ6 97 [] [.int x30] := by
      clear h1
      exact V_iretW X h dX12_tight_97
    replace h := h1
    clear h1
    refine V_icmp_le X (tgt := 96) dX12_tight_89 (by decide) (fun b29 => ?_) (fun b29 => ?_)
    · replace h := (if_pos b29).symm.trans h
      refine V_iload_n X 0 dX12_tight_96 rfl rfl ?_
      refine V_sub X [] (lv' := []) rfl ?_
      obtain rfl := pr1 h
      exact hk
    · replace h := (if_neg b29).symm.trans h
      refine V_iconst X (-1) dX12_tight_92 (by decide) ?_
      refine V_goto X (tgt := 97) dX12_tight_93 (by decide) ?_
      refine V_sub X [] (lv' := []) rfl ?_
      obtain rfl := pr1 h
      exact hk
  refine lp_ind (P := fun q => V X q.2.2 9 [(0, .ref (zad y (0, 32, 0))), (1, .int q.1), (2, .int q.2.1)] []) (fun q z h hz => ?_) hl
  obtain ⟨x2, x3, μ4⟩ := q
  replace h := un3_eq h
  show V X μ4 9 [(0, .ref (zad y (0, 32, 0))), (1, .int x2), (2, .int x3)] []
  refine V_iload_n X 2 dX12_tight_9 rfl rfl ?_
  refine V_aload_n X 0 dX12_tight_10 rfl rfl ?_
  refine V_getr X (o := (0, 32, 0)) (i := (0, 33, 0)) (ci := 12) (k := 1) (N := 30) (T := TX12) (C := RX12) ⟨by decide, rfl⟩ rfl rfl rfl (by decide) (mBa inB_X12) (mB wl_RX12_7) dX12_tight_11 ?_
  refine V_iconst X 3 dX12_tight_14 (by decide) ?_
  refine V_iald X 3 (by decide) (o := (0, 33, 0)) (n := 737) ⟨by decide, rfl⟩ rfl rfl (by decide) dX12_tight_15 ?_
  refine V_icmp_ge X (tgt := 85) dX12_tight_16 (by decide) (fun b7 => ?_) (fun b7 => ?_)
  · replace h := (if_pos b7).symm.trans h
    refine V_sub X [1] (lv' := [(1, .int x2)]) rfl ?_
    cases h
    obtain ⟨rfl, rfl⟩ := pr2 hz
    exact hk
  · replace h := (if_neg b7).symm.trans h
    refine V_iconst X 0 dX12_tight_19 (by decide) ?_
    refine V_istore_n X [(3, .int 0), (0, .ref (zad y (0, 32, 0))), (1, .int x2), (2, .int x3)] dX12_tight_20 rfl (by decide) rfl ?_
    refine V_sub X [1, 2, 3, 0] (lv' := [(0, .ref (zad y (0, 32, 0))), (1, .int x2), (2, .int x3), (3, .int 0)]) rfl ?_
    obtain ⟨x11, μ12, hl, h⟩ := bd2_some h
    have hk : V X μ12 79 [(0, .ref (zad y (0, 32, 0))), (1, .int x11), (2, .int x3)] [] := by
      clear hl
      refine V_inc X 2 1 [(2, .int (x3 + 1)), (0, .ref (zad y (0, 32, 0))), (1, .int x11)] dX12_tight_79 rfl (by decide) (by decide) rfl ?_
      refine V_goto X (tgt := 9) dX12_tight_82 (by decide) ?_
      refine V_sub X [1, 2, 0] (lv' := [(0, .ref (zad y (0, 32, 0))), (1, .int x11), (2, .int (x3 + 1))]) rfl ?_
      cases h
      exact hz
    refine lp_ind (P := fun q => V X q.2.2 21 [(0, .ref (zad y (0, 32, 0))), (1, .int q.1), (2, .int x3), (3, .int q.2.1)] []) (fun q z h hz => ?_) hl
    obtain ⟨x8, x9, μ10⟩ := q
    replace h := un3_eq h
    show V X μ10 21 [(0, .ref (zad y (0, 32, 0))), (1, .int x8), (2, .int x3), (3, .int x9)] []
    refine V_iload_n X 3 dX12_tight_21 rfl rfl ?_
    refine V_aload_n X 0 dX12_tight_22 rfl rfl ?_
    refine V_getr X (o := (0, 32, 0)) (i := (0, 33, 0)) (ci := 12) (k := 1) (N := 30) (T := TX12) (C := RX12) ⟨by decide, rfl⟩ rfl rfl rfl (by decide) (mBa inB_X12) (mB wl_RX12_7) dX12_tight_23 ?_
    refine V_iconst X 3 dX12_tight_26 (by decide) ?_
    refine V_iald X 3 (by decide) (o := (0, 33, 0)) (n := 737) ⟨by decide, rfl⟩ rfl rfl (by decide) dX12_tight_27 ?_
    refine V_icmp_ge X (tgt := 79) dX12_tight_28 (by decide) (fun b13 => ?_) (fun b13 => ?_)
    · replace h := (if_pos b13).symm.trans h
      refine V_sub X [0, 1, 2] (lv' := [(0, .ref (zad y (0, 32, 0))), (1, .int x8), (2, .int x3)]) rfl ?_
      cases h
      obtain ⟨rfl, rfl⟩ := pr2 hz
      exact hk
    · replace h := (if_neg b13).symm.trans h
      refine V_iload_n X 2 dX12_tight_31 rfl rfl ?_
      refine V_iload_n X 3 dX12_tight_32 rfl rfl ?_
      obtain ⟨x15, μ16, h1, h⟩ := bd2_some h
      have hk : V X μ16 73 [(0, .ref (zad y (0, 32, 0))), (1, .int x15), (2, .int x3), (3, .int x9)] [] := by
        clear h1
        refine V_inc X 3 1 [(3, .int (x9 + 1)), (0, .ref (zad y (0, 32, 0))), (1, .int x15), (2, .int x3)] dX12_tight_73 rfl (by decide) (by decide) rfl ?_
        refine V_goto X (tgt := 21) dX12_tight_76 (by decide) ?_
        refine V_sub X [1, 2, 3, 0] (lv' := [(0, .ref (zad y (0, 32, 0))), (1, .int x15), (2, .int x3), (3, .int (x9 + 1))]) rfl ?_
        cases h
        exact hz
      replace h := h1
      clear h1
      refine V_icmp_eq X (tgt := 73) dX12_tight_33 (by decide) (fun b14 => ?_) (fun b14 => ?_)
      · replace h := (if_pos b14).symm.trans h
        obtain ⟨rfl, rfl⟩ := so2 h
        exact hk
      · replace h := (if_neg b14).symm.trans h
        refine V_aload_n X 0 dX12_tight_36 rfl rfl ?_
        refine V_iload_n X 2 dX12_tight_37 rfl rfl ?_
        obtain ⟨x18, c17, h⟩ := bd_some h
        refine V_callVi X (As := [.int x3]) (M_X12_isActive c17) (cwV 1 X.2.2.2.2.2.2.1 (gV wm_RX12_262 wi_X12_isActive wse_X12_isActive win_RX12 wc_X12_isActive) rfl rfl rfl hd_X12_isActive ⟨Nat.le_of_ble_eq_true rfl, Nat.le_of_ble_eq_true rfl⟩) (b := (0, 32, 0)) ⟨by decide, rfl⟩ rfl rfl rfl rfl (Nat.le_of_ble_eq_true rfl) dX12_tight_38 rfl ?_
        refine V_if_eq X (tgt := 73) dX12_tight_41 (by decide) (fun b19 => ?_) (fun b19 => ?_)
        · replace h := (if_pos b19).symm.trans h
          obtain ⟨rfl, rfl⟩ := so2 h
          exact hk
        · replace h := (if_neg b19).symm.trans h
          refine V_aload_n X 0 dX12_tight_44 rfl rfl ?_
          refine V_iload_n X 3 dX12_tight_45 rfl rfl ?_
          obtain ⟨x21, c20, h⟩ := bd_some h
          refine V_callVi X (As := [.int x9]) (M_X12_isActive c20) (cwV 1 X.2.2.2.2.2.2.1 (gV wm_RX12_262 wi_X12_isActive wse_X12_isActive win_RX12 wc_X12_isActive) rfl rfl rfl hd_X12_isActive ⟨Nat.le_of_ble_eq_true rfl, Nat.le_of_ble_eq_true rfl⟩) (b := (0, 32, 0)) ⟨by decide, rfl⟩ rfl rfl rfl rfl (Nat.le_of_ble_eq_true rfl) dX12_tight_46 rfl ?_
          refine V_if_eq X (tgt := 73) dX12_tight_49 (by decide) (fun b22 => ?_) (fun b22 => ?_)
          · replace h := (if_pos b22).symm.trans h
            obtain ⟨rfl, rfl⟩ := so2 h
            exact hk
          · replace h := (if_neg b22).symm.trans h
            refine V_iload_n X 1 dX12_tight_52 rfl rfl ?_
            refine V_aload_n X 0 dX12_tight_53 rfl rfl ?_
            refine V_iload_n X 3 dX12_tight_54 rfl rfl ?_
            refine V_iload_n X 2 dX12_tight_55 rfl rfl ?_
            obtain ⟨x24, μ25, c23, h⟩ := bd2_some h
            refine V_callVi X (As := [.int x9, .int x3]) (M_X12_shiftOf c23) (cwV 2 X.2.2.2.2.2.2.1 (gV wm_RX12_265 wi_X12_shiftOf wse_X12_shiftOf win_RX12 wc_X12_shiftOf) rfl rfl rfl hd_X12_shiftOf ⟨Nat.le_of_ble_eq_true rfl, Nat.le_of_ble_eq_true rfl⟩) (b := (0, 32, 0)) ⟨by decide, rfl⟩ rfl rfl rfl rfl (Nat.le_of_ble_eq_true rfl) dX12_tight_56 rfl ?_
            refine V_aload_n X 0 dX12_tight_59 rfl rfl ?_
            refine V_iload_n X 2 dX12_tight_60 rfl rfl ?_
            refine V_iconst X 0 dX12_tight_61 (by decide) ?_
            obtain ⟨x27, c26, h⟩ := bd_some h
            refine V_callVi X (As := [.int x3, .int 0]) (M_X12_of c26) (cwV 2 X.2.2.2.2.2.2.1 (gV wm_RX12_66 wi_X12_of wse_X12_of win_RX12 wc_X12_of) rfl rfl rfl hd_X12_of ⟨Nat.le_of_ble_eq_true rfl, Nat.le_of_ble_eq_true rfl⟩) (b := (0, 32, 0)) ⟨by decide, rfl⟩ rfl rfl rfl rfl (Nat.le_of_ble_eq_true rfl) dX12_tight_62 rfl ?_
            refine V_isub X dX12_tight_65 ?_
            refine V_callSi X (As := [.int (x24 - x27)]) (M_X12_sign) (va_cwS 1 X.2.2.2.2.2.2.1 (gS wm_RX12_377 wst_X12_sign win_RX12 wc_X12_sign) rfl rfl rfl hd_X12_sign.2 ⟨Nat.le_of_ble_eq_true rfl, Nat.le_of_ble_eq_true rfl⟩) rfl (Nat.le_of_ble_eq_true rfl) dX12_tight_66 rfl ?_
            refine V_callSi X (As := [.int x8, .int (f_X12_sign (x24 - x27))]) (M_X12_greater) (va_cwS 2 X.2.2.2.2.2.2.1 (gS wm_RX12_73 wst_X12_greater win_RX12 wc_X12_greater) rfl rfl rfl hd_X12_greater.2 ⟨Nat.le_of_ble_eq_true rfl, Nat.le_of_ble_eq_true rfl⟩) rfl (Nat.le_of_ble_eq_true rfl) dX12_tight_69 rfl ?_
            refine V_istore_n X [(1, .int (f_X12_greater x8 (f_X12_sign (x24 - x27)))), (0, .ref (zad y (0, 32, 0))), (2, .int x3), (3, .int x9)] dX12_tight_72 rfl (by decide) rfl ?_
            refine zlt_el (P := fun (x28 : Int32) => V X μ25 73 [(1, .int x28), (0, .ref (zad y (0, 32, 0))), (2, .int x3), (3, .int x9)] []) h (fun x28 h => ?_)
            refine V_sub X [1, 0, 2, 3] (lv' := [(0, .ref (zad y (0, 32, 0))), (1, .int x28), (2, .int x3), (3, .int x9)]) rfl ?_
            obtain ⟨rfl, rfl⟩ := so2 h
            exact hk

def f_X12_areAllFriends (a1 : Int32) (μ : ZMem) : Option (Int32) := bd (lp (σ := Int32 × Int32) (fun q => un2 q (fun (x1 : Int32) (x2 : Int32) => if (μ (0, 33, 0) 3) ≤ x2 then some (.inr x1) else bd (lp (σ := Int32 × Int32) (fun q => un2 q (fun (x5 : Int32) (x6 : Int32) => if x2 ≤ x6 then some (.inr x5) else bd (α := Int32) (jk (some 0) (fun k11 => if x5 = 0 then k11 else bd (f_X12_isOf a1 x2) (fun (x13 : Int32) => jk (some 1) (fun k15 => if x13 = 0 then k15 else bd (f_X12_isOf a1 x6) (fun (x17 : Int32) => if x17 = 0 then k15 else gd (zin x2 256) (bd (f_X12_isOf (μ (0, 44, 0) x2.toNatClampNeg) x6) (fun (x21 : Int32) => if x21 = 0 then k11 else k15))))))) (fun (x10 : Int32) => some (.inl (x10, (x6 + 1)))))) FU (x1, 0)) (fun (x7 : Int32) => some (.inl (x7, (x2 + 1)))))) FU (1, 0)) (fun (x3 : Int32) => gd (zbo x3) (some x3))
set_option maxRecDepth 100000 in
set_option maxHeartbeats 4000000 in
theorem M_X12_areAllFriends {l : Launch} {D : va_G} {y : ZLay} {a1 : Int32}  {μ : ZMem} {r : Int32} (h : f_X12_areAllFriends a1 μ = some r) : MI l yX12_areAllFriends wb_X12_areAllFriends rm_X12_areAllFriends D y [.ref (zad y (0, 32, 0)), .int a1] μ r μ := by
  unfold f_X12_areAllFriends at h
  refine MI_of RX12 [(0, .ref (zad y (0, 32, 0))), (1, .int a1)] (by decide) rfl rfl (Nat.le_of_ble_eq_true rfl) rfl ?_
  intro p e s m args below meth c A X
  refine V_iconst X 1 dX12_areAllFriends_0 (by decide) ?_
  refine V_istore_n X [(2, .int 1), (0, .ref (zad y (0, 32, 0))), (1, .int a1)] dX12_areAllFriends_1 rfl (by decide) rfl ?_
  refine V_iconst X 0 dX12_areAllFriends_2 (by decide) ?_
  refine V_istore_n X [(3, .int 0), (2, .int 1), (0, .ref (zad y (0, 32, 0))), (1, .int a1)] dX12_areAllFriends_3 rfl (by decide) rfl ?_
  refine V_sub X [2, 3, 1, 0] (lv' := [(0, .ref (zad y (0, 32, 0))), (1, .int a1), (2, .int 1), (3, .int 0)]) rfl ?_
  obtain ⟨x3, hl, h⟩ := bd_some h
  have hk : V X μ 76 [(2, .int x3)] [] := by
    clear hl
    refine V_iload_n X 0 dX12_areAllFriends_76 rfl rfl ?_
    obtain ⟨hzb, h⟩ := gd_some h
    exact V_zretR X h hzb dX12_areAllFriends_77
  refine lp_ind (P := fun q => V X μ 4 [(0, .ref (zad y (0, 32, 0))), (1, .int a1), (2, .int q.1), (3, .int q.2)] []) (fun q z h hz => ?_) hl
  obtain ⟨x1, x2⟩ := q
  replace h := un2_eq h
  show V X μ 4 [(0, .ref (zad y (0, 32, 0))), (1, .int a1), (2, .int x1), (3, .int x2)] []
  refine V_iload_n X 3 dX12_areAllFriends_4 rfl rfl ?_
  refine V_aload_n X 0 dX12_areAllFriends_5 rfl rfl ?_
  refine V_getr X (o := (0, 32, 0)) (i := (0, 33, 0)) (ci := 12) (k := 1) (N := 30) (T := TX12) (C := RX12) ⟨by decide, rfl⟩ rfl rfl rfl (by decide) (mBa inB_X12) (mB wl_RX12_7) dX12_areAllFriends_6 ?_
  refine V_iconst X 3 dX12_areAllFriends_9 (by decide) ?_
  refine V_iald X 3 (by decide) (o := (0, 33, 0)) (n := 737) ⟨by decide, rfl⟩ rfl rfl (by decide) dX12_areAllFriends_10 ?_
  refine V_icmp_ge X (tgt := 76) dX12_areAllFriends_11 (by decide) (fun b4 => ?_) (fun b4 => ?_)
  · replace h := (if_pos b4).symm.trans h
    refine V_sub X [2] (lv' := [(2, .int x1)]) rfl ?_
    cases h
    obtain rfl := pr1 hz
    exact hk
  · replace h := (if_neg b4).symm.trans h
    refine V_iconst X 0 dX12_areAllFriends_14 (by decide) ?_
    refine V_istore X [(4, .int 0), (0, .ref (zad y (0, 32, 0))), (1, .int a1), (2, .int x1), (3, .int x2)] dX12_areAllFriends_15 (by decide) rfl ?_
    refine V_sub X [1, 2, 3, 4, 0] (lv' := [(0, .ref (zad y (0, 32, 0))), (1, .int a1), (2, .int x1), (3, .int x2), (4, .int 0)]) rfl ?_
    obtain ⟨x7, hl, h⟩ := bd_some h
    have hk : V X μ 70 [(0, .ref (zad y (0, 32, 0))), (1, .int a1), (2, .int x7), (3, .int x2)] [] := by
      clear hl
      refine V_inc X 3 1 [(3, .int (x2 + 1)), (0, .ref (zad y (0, 32, 0))), (1, .int a1), (2, .int x7)] dX12_areAllFriends_70 rfl (by decide) (by decide) rfl ?_
      refine V_goto X (tgt := 4) dX12_areAllFriends_73 (by decide) ?_
      refine V_sub X [1, 2, 3, 0] (lv' := [(0, .ref (zad y (0, 32, 0))), (1, .int a1), (2, .int x7), (3, .int (x2 + 1))]) rfl ?_
      cases h
      exact hz
    refine lp_ind (P := fun q => V X μ 17 [(0, .ref (zad y (0, 32, 0))), (1, .int a1), (2, .int q.1), (3, .int x2), (4, .int q.2)] []) (fun q z h hz => ?_) hl
    obtain ⟨x5, x6⟩ := q
    replace h := un2_eq h
    show V X μ 17 [(0, .ref (zad y (0, 32, 0))), (1, .int a1), (2, .int x5), (3, .int x2), (4, .int x6)] []
    refine V_iload X 4 dX12_areAllFriends_17 rfl ?_
    refine V_iload_n X 3 dX12_areAllFriends_19 rfl rfl ?_
    refine V_icmp_ge X (tgt := 70) dX12_areAllFriends_20 (by decide) (fun b8 => ?_) (fun b8 => ?_)
    · replace h := (if_pos b8).symm.trans h
      refine V_sub X [0, 1, 2, 3] (lv' := [(0, .ref (zad y (0, 32, 0))), (1, .int a1), (2, .int x5), (3, .int x2)]) rfl ?_
      cases h
      obtain rfl := pr1 hz
      exact hk
    · replace h := (if_neg b8).symm.trans h
      refine V_iload_n X 2 dX12_areAllFriends_23 rfl rfl ?_
      obtain ⟨x10, h1, h⟩ := bd_some h
      have hk : V X μ 63 [(0, .ref (zad y (0, 32, 0))), (1, .int a1), (3, .int x2), (4, .int x6)] [.int x10] := by
        clear h1
        refine V_istore_n X [(2, .int x10), (0, .ref (zad y (0, 32, 0))), (1, .int a1), (3, .int x2), (4, .int x6)] dX12_areAllFriends_63 rfl (by decide) rfl ?_
        refine V_inc X 4 1 [(4, .int (x6 + 1)), (2, .int x10), (0, .ref (zad y (0, 32, 0))), (1, .int a1), (3, .int x2)] dX12_areAllFriends_64 rfl (by decide) (by decide) rfl ?_
        refine V_goto X (tgt := 17) dX12_areAllFriends_67 (by decide) ?_
        refine V_sub X [2, 3, 1, 4, 0] (lv' := [(0, .ref (zad y (0, 32, 0))), (1, .int a1), (2, .int x10), (3, .int x2), (4, .int (x6 + 1))]) rfl ?_
        cases h
        exact hz
      replace h := h1
      clear h1
      refine jk0_el (P := V X μ 62 [(0, .ref (zad y (0, 32, 0))), (1, .int a1), (3, .int x2), (4, .int x6)] []) h (fun h => ?_) (fun k11 hk11 h => ?_)
      · refine V_iconst X 0 dX12_areAllFriends_62 (by decide) ?_
        obtain rfl := so1 h
        exact hk
      · refine V_if_eq X (tgt := 62) dX12_areAllFriends_24 (by decide) (fun b9 => ?_) (fun b9 => ?_)
        · replace h := (if_pos b9).symm.trans h
          refine V_sub X [0, 1, 3, 4] (lv' := [(0, .ref (zad y (0, 32, 0))), (1, .int a1), (3, .int x2), (4, .int x6)]) rfl ?_
          exact hk11 h
        · replace h := (if_neg b9).symm.trans h
          refine V_iload_n X 1 dX12_areAllFriends_27 rfl rfl ?_
          refine V_iload_n X 3 dX12_areAllFriends_28 rfl rfl ?_
          obtain ⟨x13, c12, h⟩ := bd_some h
          refine V_callSi X (As := [.int a1, .int x2]) (M_X12_isOf c12) (va_cwS 2 X.2.2.2.2.2.2.1 (gS wm_RX12_274 wst_X12_isOf win_RX12 wc_X12_isOf) rfl rfl rfl hd_X12_isOf.2 ⟨Nat.le_of_ble_eq_true rfl, Nat.le_of_ble_eq_true rfl⟩) rfl (Nat.le_of_ble_eq_true rfl) dX12_areAllFriends_29 rfl ?_
          refine jk0_el (P := V X μ 58 [(0, .ref (zad y (0, 32, 0))), (1, .int a1), (3, .int x2), (4, .int x6)] []) h (fun h => ?_) (fun k15 hk15 h => ?_)
          · refine V_iconst X 1 dX12_areAllFriends_58 (by decide) ?_
            refine V_goto X (tgt := 63) dX12_areAllFriends_59 (by decide) ?_
            obtain rfl := so1 h
            exact hk
          · refine V_if_eq X (tgt := 58) dX12_areAllFriends_32 (by decide) (fun b14 => ?_) (fun b14 => ?_)
            · replace h := (if_pos b14).symm.trans h
              refine V_sub X [0, 1, 3, 4] (lv' := [(0, .ref (zad y (0, 32, 0))), (1, .int a1), (3, .int x2), (4, .int x6)]) rfl ?_
              exact hk15 h
            · replace h := (if_neg b14).symm.trans h
              refine V_iload_n X 1 dX12_areAllFriends_35 rfl rfl ?_
              refine V_iload X 4 dX12_areAllFriends_36 rfl ?_
              obtain ⟨x17, c16, h⟩ := bd_some h
              refine V_callSi X (As := [.int a1, .int x6]) (M_X12_isOf c16) (va_cwS 2 X.2.2.2.2.2.2.1 (gS wm_RX12_274 wst_X12_isOf win_RX12 wc_X12_isOf) rfl rfl rfl hd_X12_isOf.2 ⟨Nat.le_of_ble_eq_true rfl, Nat.le_of_ble_eq_true rfl⟩) rfl (Nat.le_of_ble_eq_true rfl) dX12_areAllFriends_38 rfl ?_
              refine V_if_eq X (tgt := 58) dX12_areAllFriends_41 (by decide) (fun b18 => ?_) (fun b18 => ?_)
              · replace h := (if_pos b18).symm.trans h
                refine V_sub X [0, 1, 3, 4] (lv' := [(0, .ref (zad y (0, 32, 0))), (1, .int a1), (3, .int x2), (4, .int x6)]) rfl ?_
                exact hk15 h
              · replace h := (if_neg b18).symm.trans h
                refine V_aload_n X 0 dX12_areAllFriends_44 rfl rfl ?_
                refine V_getr X (o := (0, 32, 0)) (i := (0, 44, 0)) (ci := 12) (k := 26) (N := 30) (T := TX12) (C := RX12) ⟨by decide, rfl⟩ rfl rfl rfl (by decide) (mBa inB_X12) (mB wl_RX12_47) dX12_areAllFriends_45 ?_
                refine V_iload_n X 3 dX12_areAllFriends_48 rfl rfl ?_
                obtain ⟨g19, h⟩ := gd_some h
                refine V_iald X x2.toNatClampNeg rfl (o := (0, 44, 0)) (n := 256) ⟨by decide, rfl⟩ rfl rfl g19 dX12_areAllFriends_49 ?_
                refine V_iload X 4 dX12_areAllFriends_50 rfl ?_
                obtain ⟨x21, c20, h⟩ := bd_some h
                refine V_callSi X (As := [.int (μ (0, 44, 0) x2.toNatClampNeg), .int x6]) (M_X12_isOf c20) (va_cwS 2 X.2.2.2.2.2.2.1 (gS wm_RX12_274 wst_X12_isOf win_RX12 wc_X12_isOf) rfl rfl rfl hd_X12_isOf.2 ⟨Nat.le_of_ble_eq_true rfl, Nat.le_of_ble_eq_true rfl⟩) rfl (Nat.le_of_ble_eq_true rfl) dX12_areAllFriends_52 rfl ?_
                refine V_if_eq X (tgt := 62) dX12_areAllFriends_55 (by decide) (fun b22 => ?_) (fun b22 => ?_)
                · replace h := (if_pos b22).symm.trans h
                  refine V_sub X [0, 1, 3, 4] (lv' := [(0, .ref (zad y (0, 32, 0))), (1, .int a1), (3, .int x2), (4, .int x6)]) rfl ?_
                  exact hk11 h
                · replace h := (if_neg b22).symm.trans h
                  refine V_sub X [0, 1, 3, 4] (lv' := [(0, .ref (zad y (0, 32, 0))), (1, .int a1), (3, .int x2), (4, .int x6)]) rfl ?_
                  exact hk15 h

def f_X12_spare (μ : ZMem) : Option (Int32 × ZMem) := zlt (mset μ (0, 32, 0) 0 0) (fun (μ1 : ZMem) => bd (f_X12_inState 2 μ1) (fun (x3 : Int32) => bd (lp (σ := Int32 × ZMem) (fun q => un2 q (fun (x4 : Int32) (μ5 : ZMem) => if (μ5 (0, 33, 0) 3) ≤ x4 then some (.inr μ5) else gd (zin x4 256) (zlt (mset μ5 (0, 44, 0) x4.toNatClampNeg 0) (fun (μ9 : ZMem) => bd (lp (σ := Int32 × ZMem) (fun q => un2 q (fun (x10 : Int32) (μ11 : ZMem) => if (μ11 (0, 33, 0) 3) ≤ x10 then some (.inr μ11) else bd2 (f_X12_areFriends x4 x10 μ11) (fun (x15 : Int32) (μ16 : ZMem) => zlt (α := Int32) (if x15 = 0 then 0 else (1 <<< (x10 &&& 31))) (fun (x18 : Int32) => zlt (mset μ16 (0, 44, 0) x4.toNatClampNeg ((μ11 (0, 44, 0) x4.toNatClampNeg) ||| x18)) (fun (μ19 : ZMem) => some (.inl ((x10 + 1), μ19))))))) FU (0, μ9)) (fun (μ12 : ZMem) => some (.inl ((x4 + 1), μ12))))))) FU (0, μ1)) (fun (μ6 : ZMem) => bd (lp (σ := Int32 × Int32) (fun q => un2 q (fun (x20 : Int32) (x21 : Int32) => if x3 ≤ x21 then some (.inr x20) else bd (α := Int32) (if (x21 &&& (x3 ^^^ (-1))) = 0 then bd (f_X12_bits x21) (fun (x27 : Int32) => bd (f_X12_bits x20) (fun (x29 : Int32) => if x29 ≤ x27 then some x20 else bd (f_X12_areAllFriends (x3 &&& (x21 ^^^ (-1))) μ6) (fun (x32 : Int32) => if x32 = 0 then some x20 else some x21))) else some x20) (fun (x25 : Int32) => some (.inl (x25, (x21 + 1)))))) FU (x3, 0)) (fun (x22 : Int32) => some (x22, μ6)))))
set_option maxRecDepth 100000 in
set_option maxHeartbeats 4000000 in
theorem M_X12_spare {l : Launch} {D : va_G} {y : ZLay}   {μ : ZMem} {r : Int32} {μ0 : ZMem} (h : f_X12_spare μ = some (r, μ0)) : MI l yX12_spare wb_X12_spare rm_X12_spare D y [.ref (zad y (0, 32, 0))] μ r μ0 := by
  unfold f_X12_spare at h
  refine MI_of RX12 [(0, .ref (zad y (0, 32, 0)))] (by decide) rfl rfl (Nat.le_of_ble_eq_true rfl) rfl ?_
  intro p e s m args below meth c A X
  refine V_aload_n X 0 dX12_spare_0 rfl rfl ?_
  refine V_iconst X 0 dX12_spare_1 (by decide) ?_
  refine V_puti X tyX12 .int (o := (0, 32, 0)) (ci := 12) (k := 0) (N := 30) (T := TX12) (C := RX12) ⟨by decide, rfl⟩ rfl rfl rfl (by decide) (mBa inB_X12) tyX12_ok nmX12 (mB wl_RX12_59) rfl rfl rfl rfl dX12_spare_2 ?_
  refine zlt_el (P := fun (μ1 : ZMem) => V X μ1 5 [(0, .ref (zad y (0, 32, 0)))] []) h (fun μ1 h => ?_)
  refine V_aload_n X 0 dX12_spare_5 rfl rfl ?_
  refine V_iconst X 2 dX12_spare_6 (by decide) ?_
  obtain ⟨x3, c2, h⟩ := bd_some h
  refine V_callVi X (As := [.int 2]) (M_X12_inState c2) (cwV 1 X.2.2.2.2.2.2.1 (gV wm_RX12_250 wi_X12_inState wse_X12_inState win_RX12 wc_X12_inState) rfl rfl rfl hd_X12_inState ⟨Nat.le_of_ble_eq_true rfl, Nat.le_of_ble_eq_true rfl⟩) (b := (0, 32, 0)) ⟨by decide, rfl⟩ rfl rfl rfl rfl (Nat.le_of_ble_eq_true rfl) dX12_spare_7 rfl ?_
  refine V_istore_n X [(1, .int x3), (0, .ref (zad y (0, 32, 0)))] dX12_spare_10 rfl (by decide) rfl ?_
  refine V_iconst X 0 dX12_spare_11 (by decide) ?_
  refine V_istore_n X [(2, .int 0), (1, .int x3), (0, .ref (zad y (0, 32, 0)))] dX12_spare_12 rfl (by decide) rfl ?_
  refine V_sub X [2, 1, 0] (lv' := [(0, .ref (zad y (0, 32, 0))), (1, .int x3), (2, .int 0)]) rfl ?_
  obtain ⟨μ6, hl, h⟩ := bd_some h
  have hk : V X μ6 79 [(0, .ref (zad y (0, 32, 0))), (1, .int x3)] [] := by
    clear hl
    refine V_iload_n X 1 dX12_spare_79 rfl rfl ?_
    refine V_istore_n X [(2, .int x3), (0, .ref (zad y (0, 32, 0))), (1, .int x3)] dX12_spare_80 rfl (by decide) rfl ?_
    refine V_iconst X 0 dX12_spare_81 (by decide) ?_
    refine V_istore_n X [(3, .int 0), (2, .int x3), (0, .ref (zad y (0, 32, 0))), (1, .int x3)] dX12_spare_82 rfl (by decide) rfl ?_
    refine V_sub X [2, 3, 1, 0] (lv' := [(0, .ref (zad y (0, 32, 0))), (1, .int x3), (2, .int x3), (3, .int 0)]) rfl ?_
    obtain ⟨x22, hl, h⟩ := bd_some h
    have hk : V X μ6 127 [(2, .int x22)] [] := by
      clear hl
      refine V_iload_n X 0 dX12_spare_127 rfl rfl ?_
      exact V_iretW X h dX12_spare_128
    refine lp_ind (P := fun q => V X μ6 83 [(0, .ref (zad y (0, 32, 0))), (1, .int x3), (2, .int q.1), (3, .int q.2)] []) (fun q z h hz => ?_) hl
    obtain ⟨x20, x21⟩ := q
    replace h := un2_eq h
    show V X μ6 83 [(0, .ref (zad y (0, 32, 0))), (1, .int x3), (2, .int x20), (3, .int x21)] []
    refine V_iload_n X 3 dX12_spare_83 rfl rfl ?_
    refine V_iload_n X 1 dX12_spare_84 rfl rfl ?_
    refine V_icmp_ge X (tgt := 127) dX12_spare_85 (by decide) (fun b23 => ?_) (fun b23 => ?_)
    · replace h := (if_pos b23).symm.trans h
      refine V_sub X [2] (lv' := [(2, .int x20)]) rfl ?_
      cases h
      obtain rfl := pr1 hz
      exact hk
    · replace h := (if_neg b23).symm.trans h
      refine V_iload_n X 3 dX12_spare_88 rfl rfl ?_
      refine V_iload_n X 1 dX12_spare_89 rfl rfl ?_
      refine V_iconst X (-1) dX12_spare_90 (by decide) ?_
      refine V_ixor X dX12_spare_91 ?_
      refine V_iand X dX12_spare_92 ?_
      obtain ⟨x25, h1, h⟩ := bd_some h
      have hk : V X μ6 121 [(0, .ref (zad y (0, 32, 0))), (1, .int x3), (2, .int x25), (3, .int x21)] [] := by
        clear h1
        refine V_inc X 3 1 [(3, .int (x21 + 1)), (0, .ref (zad y (0, 32, 0))), (1, .int x3), (2, .int x25)] dX12_spare_121 rfl (by decide) (by decide) rfl ?_
        refine V_goto X (tgt := 83) dX12_spare_124 (by decide) ?_
        refine V_sub X [1, 2, 3, 0] (lv' := [(0, .ref (zad y (0, 32, 0))), (1, .int x3), (2, .int x25), (3, .int (x21 + 1))]) rfl ?_
        cases h
        exact hz
      replace h := h1
      clear h1
      refine V_if_ne X (tgt := 121) dX12_spare_93 (by decide) (fun b24 => ?_) (fun b24 => ?_)
      · replace h := (if_neg b24).symm.trans h
        obtain rfl := so1 h
        exact hk
      · replace h := (if_pos b24).symm.trans h
        refine V_iload_n X 3 dX12_spare_96 rfl rfl ?_
        obtain ⟨x27, c26, h⟩ := bd_some h
        refine V_callSi X (As := [.int x21]) (M_X12_bits c26) (va_cwS 1 X.2.2.2.2.2.2.1 (gS wm_RX12_247 wst_X12_bits win_RX12 wc_X12_bits) rfl rfl rfl hd_X12_bits.2 ⟨Nat.le_of_ble_eq_true rfl, Nat.le_of_ble_eq_true rfl⟩) rfl (Nat.le_of_ble_eq_true rfl) dX12_spare_97 rfl ?_
        refine V_iload_n X 2 dX12_spare_100 rfl rfl ?_
        obtain ⟨x29, c28, h⟩ := bd_some h
        refine V_callSi X (As := [.int x20]) (M_X12_bits c28) (va_cwS 1 X.2.2.2.2.2.2.1 (gS wm_RX12_247 wst_X12_bits win_RX12 wc_X12_bits) rfl rfl rfl hd_X12_bits.2 ⟨Nat.le_of_ble_eq_true rfl, Nat.le_of_ble_eq_true rfl⟩) rfl (Nat.le_of_ble_eq_true rfl) dX12_spare_101 rfl ?_
        refine V_icmp_ge X (tgt := 121) dX12_spare_104 (by decide) (fun b30 => ?_) (fun b30 => ?_)
        · replace h := (if_pos b30).symm.trans h
          obtain rfl := so1 h
          exact hk
        · replace h := (if_neg b30).symm.trans h
          refine V_aload_n X 0 dX12_spare_107 rfl rfl ?_
          refine V_iload_n X 1 dX12_spare_108 rfl rfl ?_
          refine V_iload_n X 3 dX12_spare_109 rfl rfl ?_
          refine V_iconst X (-1) dX12_spare_110 (by decide) ?_
          refine V_ixor X dX12_spare_111 ?_
          refine V_iand X dX12_spare_112 ?_
          obtain ⟨x32, c31, h⟩ := bd_some h
          refine V_callVi X (As := [.int (x3 &&& (x21 ^^^ (-1)))]) (M_X12_areAllFriends c31) (cwV 1 X.2.2.2.2.2.2.1 (gV wm_RX12_380 wi_X12_areAllFriends wse_X12_areAllFriends win_RX12 wc_X12_areAllFriends) rfl rfl rfl hd_X12_areAllFriends ⟨Nat.le_of_ble_eq_true rfl, Nat.le_of_ble_eq_true rfl⟩) (b := (0, 32, 0)) ⟨by decide, rfl⟩ rfl rfl rfl rfl (Nat.le_of_ble_eq_true rfl) dX12_spare_113 rfl ?_
          refine V_if_eq X (tgt := 121) dX12_spare_116 (by decide) (fun b33 => ?_) (fun b33 => ?_)
          · replace h := (if_pos b33).symm.trans h
            obtain rfl := so1 h
            exact hk
          · replace h := (if_neg b33).symm.trans h
            refine V_iload_n X 3 dX12_spare_119 rfl rfl ?_
            refine V_istore_n X [(2, .int x21), (0, .ref (zad y (0, 32, 0))), (1, .int x3), (3, .int x21)] dX12_spare_120 rfl (by decide) rfl ?_
            refine V_sub X [1, 2, 0, 3] (lv' := [(0, .ref (zad y (0, 32, 0))), (1, .int x3), (2, .int x21), (3, .int x21)]) rfl ?_
            obtain rfl := so1 h
            exact hk
  refine lp_ind (P := fun q => V X q.2 13 [(0, .ref (zad y (0, 32, 0))), (1, .int x3), (2, .int q.1)] []) (fun q z h hz => ?_) hl
  obtain ⟨x4, μ5⟩ := q
  replace h := un2_eq h
  show V X μ5 13 [(0, .ref (zad y (0, 32, 0))), (1, .int x3), (2, .int x4)] []
  refine V_iload_n X 2 dX12_spare_13 rfl rfl ?_
  refine V_aload_n X 0 dX12_spare_14 rfl rfl ?_
  refine V_getr X (o := (0, 32, 0)) (i := (0, 33, 0)) (ci := 12) (k := 1) (N := 30) (T := TX12) (C := RX12) ⟨by decide, rfl⟩ rfl rfl rfl (by decide) (mBa inB_X12) (mB wl_RX12_7) dX12_spare_15 ?_
  refine V_iconst X 3 dX12_spare_18 (by decide) ?_
  refine V_iald X 3 (by decide) (o := (0, 33, 0)) (n := 737) ⟨by decide, rfl⟩ rfl rfl (by decide) dX12_spare_19 ?_
  refine V_icmp_ge X (tgt := 79) dX12_spare_20 (by decide) (fun b7 => ?_) (fun b7 => ?_)
  · replace h := (if_pos b7).symm.trans h
    refine V_sub X [0, 1] (lv' := [(0, .ref (zad y (0, 32, 0))), (1, .int x3)]) rfl ?_
    cases h
    obtain rfl := pr1 hz
    exact hk
  · replace h := (if_neg b7).symm.trans h
    refine V_aload_n X 0 dX12_spare_23 rfl rfl ?_
    refine V_getr X (o := (0, 32, 0)) (i := (0, 44, 0)) (ci := 12) (k := 26) (N := 30) (T := TX12) (C := RX12) ⟨by decide, rfl⟩ rfl rfl rfl (by decide) (mBa inB_X12) (mB wl_RX12_47) dX12_spare_24 ?_
    refine V_iload_n X 2 dX12_spare_27 rfl rfl ?_
    refine V_iconst X 0 dX12_spare_28 (by decide) ?_
    obtain ⟨g8, h⟩ := gd_some h
    refine V_iast X x4.toNatClampNeg rfl (o := (0, 44, 0)) (n := 256) ⟨by decide, rfl⟩ rfl rfl g8 dX12_spare_29 ?_
    refine zlt_el (P := fun (μ9 : ZMem) => V X μ9 30 [(0, .ref (zad y (0, 32, 0))), (1, .int x3), (2, .int x4)] []) h (fun μ9 h => ?_)
    refine V_iconst X 0 dX12_spare_30 (by decide) ?_
    refine V_istore_n X [(3, .int 0), (0, .ref (zad y (0, 32, 0))), (1, .int x3), (2, .int x4)] dX12_spare_31 rfl (by decide) rfl ?_
    refine V_sub X [1, 2, 3, 0] (lv' := [(0, .ref (zad y (0, 32, 0))), (1, .int x3), (2, .int x4), (3, .int 0)]) rfl ?_
    obtain ⟨μ12, hl, h⟩ := bd_some h
    have hk : V X μ12 73 [(0, .ref (zad y (0, 32, 0))), (1, .int x3), (2, .int x4)] [] := by
      clear hl
      refine V_inc X 2 1 [(2, .int (x4 + 1)), (0, .ref (zad y (0, 32, 0))), (1, .int x3)] dX12_spare_73 rfl (by decide) (by decide) rfl ?_
      refine V_goto X (tgt := 13) dX12_spare_76 (by decide) ?_
      refine V_sub X [1, 2, 0] (lv' := [(0, .ref (zad y (0, 32, 0))), (1, .int x3), (2, .int (x4 + 1))]) rfl ?_
      cases h
      exact hz
    refine lp_ind (P := fun q => V X q.2 32 [(0, .ref (zad y (0, 32, 0))), (1, .int x3), (2, .int x4), (3, .int q.1)] []) (fun q z h hz => ?_) hl
    obtain ⟨x10, μ11⟩ := q
    replace h := un2_eq h
    show V X μ11 32 [(0, .ref (zad y (0, 32, 0))), (1, .int x3), (2, .int x4), (3, .int x10)] []
    refine V_iload_n X 3 dX12_spare_32 rfl rfl ?_
    refine V_aload_n X 0 dX12_spare_33 rfl rfl ?_
    refine V_getr X (o := (0, 32, 0)) (i := (0, 33, 0)) (ci := 12) (k := 1) (N := 30) (T := TX12) (C := RX12) ⟨by decide, rfl⟩ rfl rfl rfl (by decide) (mBa inB_X12) (mB wl_RX12_7) dX12_spare_34 ?_
    refine V_iconst X 3 dX12_spare_37 (by decide) ?_
    refine V_iald X 3 (by decide) (o := (0, 33, 0)) (n := 737) ⟨by decide, rfl⟩ rfl rfl (by decide) dX12_spare_38 ?_
    refine V_icmp_ge X (tgt := 73) dX12_spare_39 (by decide) (fun b13 => ?_) (fun b13 => ?_)
    · replace h := (if_pos b13).symm.trans h
      refine V_sub X [0, 1, 2] (lv' := [(0, .ref (zad y (0, 32, 0))), (1, .int x3), (2, .int x4)]) rfl ?_
      cases h
      obtain rfl := pr1 hz
      exact hk
    · replace h := (if_neg b13).symm.trans h
      refine V_aload_n X 0 dX12_spare_42 rfl rfl ?_
      refine V_getr X (o := (0, 32, 0)) (i := (0, 44, 0)) (ci := 12) (k := 26) (N := 30) (T := TX12) (C := RX12) ⟨by decide, rfl⟩ rfl rfl rfl (by decide) (mBa inB_X12) (mB wl_RX12_47) dX12_spare_43 ?_
      refine V_iload_n X 2 dX12_spare_46 rfl rfl ?_
      refine V_dup2 X dX12_spare_47 rfl rfl ?_
      refine V_iald X x4.toNatClampNeg rfl (o := (0, 44, 0)) (n := 256) ⟨by decide, rfl⟩ rfl rfl g8 dX12_spare_48 ?_
      refine V_aload_n X 0 dX12_spare_49 rfl rfl ?_
      refine V_iload_n X 2 dX12_spare_50 rfl rfl ?_
      refine V_iload_n X 3 dX12_spare_51 rfl rfl ?_
      obtain ⟨x15, μ16, c14, h⟩ := bd2_some h
      refine V_callVi X (As := [.int x4, .int x10]) (M_X12_areFriends c14) (cwV 2 X.2.2.2.2.2.2.1 (gV wm_RX12_344 wi_X12_areFriends wse_X12_areFriends win_RX12 wc_X12_areFriends) rfl rfl rfl hd_X12_areFriends ⟨Nat.le_of_ble_eq_true rfl, Nat.le_of_ble_eq_true rfl⟩) (b := (0, 32, 0)) ⟨by decide, rfl⟩ rfl rfl rfl rfl (Nat.le_of_ble_eq_true rfl) dX12_spare_52 rfl ?_
      obtain ⟨x18, h1, h⟩ := zl1_some h
      have hk : V X μ16 65 [(0, .ref (zad y (0, 32, 0))), (1, .int x3), (2, .int x4), (3, .int x10)] [.int x18, .int (μ11 (0, 44, 0) x4.toNatClampNeg), .int x4, .ref (zad y (0, 44, 0))] := by
        clear h1
        refine V_ior X dX12_spare_65 ?_
        refine V_iast X x4.toNatClampNeg rfl (o := (0, 44, 0)) (n := 256) ⟨by decide, rfl⟩ rfl rfl g8 dX12_spare_66 ?_
        refine zlt_el (P := fun (μ19 : ZMem) => V X μ19 67 [(0, .ref (zad y (0, 32, 0))), (1, .int x3), (2, .int x4), (3, .int x10)] []) h (fun μ19 h => ?_)
        refine V_inc X 3 1 [(3, .int (x10 + 1)), (0, .ref (zad y (0, 32, 0))), (1, .int x3), (2, .int x4)] dX12_spare_67 rfl (by decide) (by decide) rfl ?_
        refine V_goto X (tgt := 32) dX12_spare_70 (by decide) ?_
        refine V_sub X [1, 2, 3, 0] (lv' := [(0, .ref (zad y (0, 32, 0))), (1, .int x3), (2, .int x4), (3, .int (x10 + 1))]) rfl ?_
        cases h
        exact hz
      replace h := h1
      clear h1
      refine V_if_eq X (tgt := 64) dX12_spare_55 (by decide) (fun b17 => ?_) (fun b17 => ?_)
      · replace h := (if_pos b17).symm.trans h
        refine V_iconst X 0 dX12_spare_64 (by decide) ?_
        obtain rfl := pr1 h
        exact hk
      · replace h := (if_neg b17).symm.trans h
        refine V_iconst X 1 dX12_spare_58 (by decide) ?_
        refine V_iload_n X 3 dX12_spare_59 rfl rfl ?_
        refine V_ishl X dX12_spare_60 ?_
        refine V_goto X (tgt := 65) dX12_spare_61 (by decide) ?_
        obtain rfl := pr1 h
        exact hk

def f_X12_apart (a1 : Int32) (a2 : Int32) (μ : ZMem) : Option (Int32) := bd (f_X12_of a1 0 μ) (fun (x2 : Int32) => bd (f_X12_of a2 0 μ) (fun (x4 : Int32) => some (f_X12_sign (x2 - x4))))
set_option maxRecDepth 100000 in
set_option maxHeartbeats 4000000 in
theorem M_X12_apart {l : Launch} {D : va_G} {y : ZLay} {a1 : Int32} {a2 : Int32}  {μ : ZMem} {r : Int32} (h : f_X12_apart a1 a2 μ = some r) : MI l yX12_apart wb_X12_apart rm_X12_apart D y [.ref (zad y (0, 32, 0)), .int a1, .int a2] μ r μ := by
  unfold f_X12_apart at h
  refine MI_of RX12 [(0, .ref (zad y (0, 32, 0))), (1, .int a1), (2, .int a2)] (by decide) rfl rfl (Nat.le_of_ble_eq_true rfl) rfl ?_
  intro p e s m args below meth c A X
  refine V_aload_n X 0 dX12_apart_0 rfl rfl ?_
  refine V_iload_n X 1 dX12_apart_1 rfl rfl ?_
  refine V_iconst X 0 dX12_apart_2 (by decide) ?_
  obtain ⟨x2, c1, h⟩ := bd_some h
  refine V_callVi X (As := [.int a1, .int 0]) (M_X12_of c1) (cwV 2 X.2.2.2.2.2.2.1 (gV wm_RX12_66 wi_X12_of wse_X12_of win_RX12 wc_X12_of) rfl rfl rfl hd_X12_of ⟨Nat.le_of_ble_eq_true rfl, Nat.le_of_ble_eq_true rfl⟩) (b := (0, 32, 0)) ⟨by decide, rfl⟩ rfl rfl rfl rfl (Nat.le_of_ble_eq_true rfl) dX12_apart_3 rfl ?_
  refine V_aload_n X 0 dX12_apart_6 rfl rfl ?_
  refine V_iload_n X 2 dX12_apart_7 rfl rfl ?_
  refine V_iconst X 0 dX12_apart_8 (by decide) ?_
  obtain ⟨x4, c3, h⟩ := bd_some h
  refine V_callVi X (As := [.int a2, .int 0]) (M_X12_of c3) (cwV 2 X.2.2.2.2.2.2.1 (gV wm_RX12_66 wi_X12_of wse_X12_of win_RX12 wc_X12_of) rfl rfl rfl hd_X12_of ⟨Nat.le_of_ble_eq_true rfl, Nat.le_of_ble_eq_true rfl⟩) (b := (0, 32, 0)) ⟨by decide, rfl⟩ rfl rfl rfl rfl (Nat.le_of_ble_eq_true rfl) dX12_apart_9 rfl ?_
  refine V_isub X dX12_apart_12 ?_
  refine V_callSi X (As := [.int (x2 - x4)]) (M_X12_sign) (va_cwS 1 X.2.2.2.2.2.2.1 (gS wm_RX12_377 wst_X12_sign win_RX12 wc_X12_sign) rfl rfl rfl hd_X12_sign.2 ⟨Nat.le_of_ble_eq_true rfl, Nat.le_of_ble_eq_true rfl⟩) rfl (Nat.le_of_ble_eq_true rfl) dX12_apart_13 rfl ?_
  exact V_iretR X h dX12_apart_16

def f_X12_allPaths (μ : ZMem) : Option (ZMem) := bd (lp (σ := Int32 × ZMem) (fun q => un2 q (fun (x1 : Int32) (μ2 : ZMem) => if (1 <<< ((μ2 (0, 33, 0) 3) &&& 31)) ≤ x1 then some (.inr μ2) else bd (lp (σ := Int32 × ZMem) (fun q => un2 q (fun (x5 : Int32) (μ6 : ZMem) => if (μ6 (0, 33, 0) 3) ≤ x5 then some (.inr μ6) else zlt (x1 &&& ((1 <<< (x5 &&& 31)) ^^^ (-1))) (fun (x9 : Int32) => zlt (α := Int32) (if x9 = 0 then 0 else 2000000000) (fun (x11 : Int32) => bd (lp (σ := Int32 × Int32) (fun q => un2 q (fun (x12 : Int32) (x13 : Int32) => if (μ6 (0, 33, 0) 3) ≤ x13 then some (.inr x12) else bd (f_X12_isOf x1 x5) (fun (x17 : Int32) => bd (α := Int32) (if x17 = 0 then some x12 else bd (f_X12_isOf x9 x13) (fun (x21 : Int32) => if x21 = 0 then some x12 else bd (f_X12_apart x5 x13 μ6) (fun (x24 : Int32) => gd (zin ((8 * x9) + x13) 2048) (zlt (f_X12_lesser x12 (x24 + (μ6 (0, 45, 0) ((8 * x9) + x13).toNatClampNeg))) (fun (x26 : Int32) => some x26))))) (fun (x19 : Int32) => some (.inl (x19, (x13 + 1))))))) FU (x11, 0)) (fun (x14 : Int32) => gd (zin ((8 * x1) + x5) 2048) (zlt (mset μ6 (0, 45, 0) ((8 * x1) + x5).toNatClampNeg x14) (fun (μ28 : ZMem) => some (.inl ((x5 + 1), μ28))))))))) FU (0, μ2)) (fun (μ7 : ZMem) => some (.inl ((x1 + 1), μ7))))) FU (1, μ)) (fun (μ3 : ZMem) => some μ3)
set_option maxRecDepth 100000 in
set_option maxHeartbeats 4000000 in
theorem M_X12_allPaths {l : Launch} {D : va_G} {y : ZLay}   {μ : ZMem} {μ0 : ZMem} (h : f_X12_allPaths μ = some μ0) : MV l yX12_allPaths wb_X12_allPaths rm_X12_allPaths D y [.ref (zad y (0, 32, 0))] μ μ0 := by
  unfold f_X12_allPaths at h
  refine MV_of RX12 [(0, .ref (zad y (0, 32, 0)))] (by decide) rfl rfl (Nat.le_of_ble_eq_true rfl) rfl ?_
  intro p e s m args below meth c A X
  refine V_iconst X 1 dX12_allPaths_0 (by decide) ?_
  refine V_istore_n X [(1, .int 1), (0, .ref (zad y (0, 32, 0)))] dX12_allPaths_1 rfl (by decide) rfl ?_
  refine V_sub X [1, 0] (lv' := [(0, .ref (zad y (0, 32, 0))), (1, .int 1)]) rfl ?_
  obtain ⟨μ3, hl, h⟩ := bd_some h
  have hk : V X μ3 136 [] [] := by
    clear hl
    exact V_vretW X h dX12_allPaths_136
  refine lp_ind (P := fun q => V X q.2 2 [(0, .ref (zad y (0, 32, 0))), (1, .int q.1)] []) (fun q z h hz => ?_) hl
  obtain ⟨x1, μ2⟩ := q
  replace h := un2_eq h
  show V X μ2 2 [(0, .ref (zad y (0, 32, 0))), (1, .int x1)] []
  refine V_iload_n X 1 dX12_allPaths_2 rfl rfl ?_
  refine V_iconst X 1 dX12_allPaths_3 (by decide) ?_
  refine V_aload_n X 0 dX12_allPaths_4 rfl rfl ?_
  refine V_getr X (o := (0, 32, 0)) (i := (0, 33, 0)) (ci := 12) (k := 1) (N := 30) (T := TX12) (C := RX12) ⟨by decide, rfl⟩ rfl rfl rfl (by decide) (mBa inB_X12) (mB wl_RX12_7) dX12_allPaths_5 ?_
  refine V_iconst X 3 dX12_allPaths_8 (by decide) ?_
  refine V_iald X 3 (by decide) (o := (0, 33, 0)) (n := 737) ⟨by decide, rfl⟩ rfl rfl (by decide) dX12_allPaths_9 ?_
  refine V_ishl X dX12_allPaths_10 ?_
  refine V_icmp_ge X (tgt := 136) dX12_allPaths_11 (by decide) (fun b4 => ?_) (fun b4 => ?_)
  · replace h := (if_pos b4).symm.trans h
    refine V_sub X [] (lv' := []) rfl ?_
    cases h
    obtain rfl := pr1 hz
    exact hk
  · replace h := (if_neg b4).symm.trans h
    refine V_iconst X 0 dX12_allPaths_14 (by decide) ?_
    refine V_istore_n X [(2, .int 0), (0, .ref (zad y (0, 32, 0))), (1, .int x1)] dX12_allPaths_15 rfl (by decide) rfl ?_
    refine V_sub X [1, 2, 0] (lv' := [(0, .ref (zad y (0, 32, 0))), (1, .int x1), (2, .int 0)]) rfl ?_
    obtain ⟨μ7, hl, h⟩ := bd_some h
    have hk : V X μ7 130 [(0, .ref (zad y (0, 32, 0))), (1, .int x1)] [] := by
      clear hl
      refine V_inc X 1 1 [(1, .int (x1 + 1)), (0, .ref (zad y (0, 32, 0)))] dX12_allPaths_130 rfl (by decide) (by decide) rfl ?_
      refine V_goto X (tgt := 2) dX12_allPaths_133 (by decide) ?_
      refine V_sub X [1, 0] (lv' := [(0, .ref (zad y (0, 32, 0))), (1, .int (x1 + 1))]) rfl ?_
      cases h
      exact hz
    refine lp_ind (P := fun q => V X q.2 16 [(0, .ref (zad y (0, 32, 0))), (1, .int x1), (2, .int q.1)] []) (fun q z h hz => ?_) hl
    obtain ⟨x5, μ6⟩ := q
    replace h := un2_eq h
    show V X μ6 16 [(0, .ref (zad y (0, 32, 0))), (1, .int x1), (2, .int x5)] []
    refine V_iload_n X 2 dX12_allPaths_16 rfl rfl ?_
    refine V_aload_n X 0 dX12_allPaths_17 rfl rfl ?_
    refine V_getr X (o := (0, 32, 0)) (i := (0, 33, 0)) (ci := 12) (k := 1) (N := 30) (T := TX12) (C := RX12) ⟨by decide, rfl⟩ rfl rfl rfl (by decide) (mBa inB_X12) (mB wl_RX12_7) dX12_allPaths_18 ?_
    refine V_iconst X 3 dX12_allPaths_21 (by decide) ?_
    refine V_iald X 3 (by decide) (o := (0, 33, 0)) (n := 737) ⟨by decide, rfl⟩ rfl rfl (by decide) dX12_allPaths_22 ?_
    refine V_icmp_ge X (tgt := 130) dX12_allPaths_23 (by decide) (fun b8 => ?_) (fun b8 => ?_)
    · replace h := (if_pos b8).symm.trans h
      refine V_sub X [0, 1] (lv' := [(0, .ref (zad y (0, 32, 0))), (1, .int x1)]) rfl ?_
      cases h
      obtain rfl := pr1 hz
      exact hk
    · replace h := (if_neg b8).symm.trans h
      refine V_iload_n X 1 dX12_allPaths_26 rfl rfl ?_
      refine V_iconst X 1 dX12_allPaths_27 (by decide) ?_
      refine V_iload_n X 2 dX12_allPaths_28 rfl rfl ?_
      refine V_ishl X dX12_allPaths_29 ?_
      refine V_iconst X (-1) dX12_allPaths_30 (by decide) ?_
      refine V_ixor X dX12_allPaths_31 ?_
      refine V_iand X dX12_allPaths_32 ?_
      refine V_istore_n X [(3, .int (x1 &&& ((1 <<< (x5 &&& 31)) ^^^ (-1)))), (0, .ref (zad y (0, 32, 0))), (1, .int x1), (2, .int x5)] dX12_allPaths_33 rfl (by decide) rfl ?_
      refine zlt_el (P := fun (x9 : Int32) => V X μ6 34 [(3, .int x9), (0, .ref (zad y (0, 32, 0))), (1, .int x1), (2, .int x5)] []) h (fun x9 h => ?_)
      refine V_iload_n X 0 dX12_allPaths_34 rfl rfl ?_
      obtain ⟨x11, h1, h⟩ := zl1_some h
      have hk : V X μ6 45 [(0, .ref (zad y (0, 32, 0))), (1, .int x1), (2, .int x5), (3, .int x9)] [.int x11] := by
        clear h1
        refine V_istore X [(4, .int x11), (0, .ref (zad y (0, 32, 0))), (1, .int x1), (2, .int x5), (3, .int x9)] dX12_allPaths_45 (by decide) rfl ?_
        refine V_iconst X 0 dX12_allPaths_47 (by decide) ?_
        refine V_istore X [(5, .int 0), (4, .int x11), (0, .ref (zad y (0, 32, 0))), (1, .int x1), (2, .int x5), (3, .int x9)] dX12_allPaths_48 (by decide) rfl ?_
        refine V_sub X [2, 3, 4, 5, 1, 0] (lv' := [(0, .ref (zad y (0, 32, 0))), (1, .int x1), (2, .int x5), (3, .int x9), (4, .int x11), (5, .int 0)]) rfl ?_
        obtain ⟨x14, hl, h⟩ := bd_some h
        have hk : V X μ6 111 [(0, .ref (zad y (0, 32, 0))), (1, .int x1), (2, .int x5), (4, .int x14)] [] := by
          clear hl
          refine V_aload_n X 0 dX12_allPaths_111 rfl rfl ?_
          refine V_getr X (o := (0, 32, 0)) (i := (0, 45, 0)) (ci := 12) (k := 27) (N := 30) (T := TX12) (C := RX12) ⟨by decide, rfl⟩ rfl rfl rfl (by decide) (mBa inB_X12) (mB wl_RX12_50) dX12_allPaths_112 ?_
          refine V_bipush X 8 dX12_allPaths_115 (by decide) ?_
          refine V_iload_n X 1 dX12_allPaths_117 rfl rfl ?_
          refine V_imul X dX12_allPaths_118 ?_
          refine V_iload_n X 2 dX12_allPaths_119 rfl rfl ?_
          refine V_iadd X dX12_allPaths_120 ?_
          refine V_iload X 3 dX12_allPaths_121 rfl ?_
          obtain ⟨g27, h⟩ := gd_some h
          refine V_iast X ((8 * x1) + x5).toNatClampNeg rfl (o := (0, 45, 0)) (n := 2048) ⟨by decide, rfl⟩ rfl rfl g27 dX12_allPaths_123 ?_
          refine zlt_el (P := fun (μ28 : ZMem) => V X μ28 124 [(0, .ref (zad y (0, 32, 0))), (1, .int x1), (2, .int x5), (4, .int x14)] []) h (fun μ28 h => ?_)
          refine V_inc X 2 1 [(2, .int (x5 + 1)), (0, .ref (zad y (0, 32, 0))), (1, .int x1), (4, .int x14)] dX12_allPaths_124 rfl (by decide) (by decide) rfl ?_
          refine V_goto X (tgt := 16) dX12_allPaths_127 (by decide) ?_
          refine V_sub X [1, 2, 0] (lv' := [(0, .ref (zad y (0, 32, 0))), (1, .int x1), (2, .int (x5 + 1))]) rfl ?_
          cases h
          exact hz
        refine lp_ind (P := fun q => V X μ6 50 [(0, .ref (zad y (0, 32, 0))), (1, .int x1), (2, .int x5), (3, .int x9), (4, .int q.1), (5, .int q.2)] []) (fun q z h hz => ?_) hl
        obtain ⟨x12, x13⟩ := q
        replace h := un2_eq h
        show V X μ6 50 [(0, .ref (zad y (0, 32, 0))), (1, .int x1), (2, .int x5), (3, .int x9), (4, .int x12), (5, .int x13)] []
        refine V_iload X 5 dX12_allPaths_50 rfl ?_
        refine V_aload_n X 0 dX12_allPaths_52 rfl rfl ?_
        refine V_getr X (o := (0, 32, 0)) (i := (0, 33, 0)) (ci := 12) (k := 1) (N := 30) (T := TX12) (C := RX12) ⟨by decide, rfl⟩ rfl rfl rfl (by decide) (mBa inB_X12) (mB wl_RX12_7) dX12_allPaths_53 ?_
        refine V_iconst X 3 dX12_allPaths_56 (by decide) ?_
        refine V_iald X 3 (by decide) (o := (0, 33, 0)) (n := 737) ⟨by decide, rfl⟩ rfl rfl (by decide) dX12_allPaths_57 ?_
        refine V_icmp_ge X (tgt := 111) dX12_allPaths_58 (by decide) (fun b15 => ?_) (fun b15 => ?_)
        · replace h := (if_pos b15).symm.trans h
          refine V_sub X [0, 1, 2, 4] (lv' := [(0, .ref (zad y (0, 32, 0))), (1, .int x1), (2, .int x5), (4, .int x12)]) rfl ?_
          cases h
          obtain rfl := pr1 hz
          exact hk
        · replace h := (if_neg b15).symm.trans h
          refine V_iload_n X 1 dX12_allPaths_61 rfl rfl ?_
          refine V_iload_n X 2 dX12_allPaths_62 rfl rfl ?_
          obtain ⟨x17, c16, h⟩ := bd_some h
          refine V_callSi X (As := [.int x1, .int x5]) (M_X12_isOf c16) (va_cwS 2 X.2.2.2.2.2.2.1 (gS wm_RX12_274 wst_X12_isOf win_RX12 wc_X12_isOf) rfl rfl rfl hd_X12_isOf.2 ⟨Nat.le_of_ble_eq_true rfl, Nat.le_of_ble_eq_true rfl⟩) rfl (Nat.le_of_ble_eq_true rfl) dX12_allPaths_63 rfl ?_
          obtain ⟨x19, h1, h⟩ := bd_some h
          have hk : V X μ6 105 [(0, .ref (zad y (0, 32, 0))), (1, .int x1), (2, .int x5), (3, .int x9), (4, .int x19), (5, .int x13)] [] := by
            clear h1
            refine V_inc X 5 1 [(5, .int (x13 + 1)), (0, .ref (zad y (0, 32, 0))), (1, .int x1), (2, .int x5), (3, .int x9), (4, .int x19)] dX12_allPaths_105 rfl (by decide) (by decide) rfl ?_
            refine V_goto X (tgt := 50) dX12_allPaths_108 (by decide) ?_
            refine V_sub X [1, 2, 3, 4, 5, 0] (lv' := [(0, .ref (zad y (0, 32, 0))), (1, .int x1), (2, .int x5), (3, .int x9), (4, .int x19), (5, .int (x13 + 1))]) rfl ?_
            cases h
            exact hz
          replace h := h1
          clear h1
          refine V_if_eq X (tgt := 105) dX12_allPaths_66 (by decide) (fun b18 => ?_) (fun b18 => ?_)
          · replace h := (if_pos b18).symm.trans h
            obtain rfl := so1 h
            exact hk
          · replace h := (if_neg b18).symm.trans h
            refine V_iload_n X 3 dX12_allPaths_69 rfl rfl ?_
            refine V_iload X 5 dX12_allPaths_70 rfl ?_
            obtain ⟨x21, c20, h⟩ := bd_some h
            refine V_callSi X (As := [.int x9, .int x13]) (M_X12_isOf c20) (va_cwS 2 X.2.2.2.2.2.2.1 (gS wm_RX12_274 wst_X12_isOf win_RX12 wc_X12_isOf) rfl rfl rfl hd_X12_isOf.2 ⟨Nat.le_of_ble_eq_true rfl, Nat.le_of_ble_eq_true rfl⟩) rfl (Nat.le_of_ble_eq_true rfl) dX12_allPaths_72 rfl ?_
            refine V_if_eq X (tgt := 105) dX12_allPaths_75 (by decide) (fun b22 => ?_) (fun b22 => ?_)
            · replace h := (if_pos b22).symm.trans h
              obtain rfl := so1 h
              exact hk
            · replace h := (if_neg b22).symm.trans h
              refine V_iload X 4 dX12_allPaths_78 rfl ?_
              refine V_aload_n X 0 dX12_allPaths_80 rfl rfl ?_
              refine V_iload_n X 2 dX12_allPaths_81 rfl rfl ?_
              refine V_iload X 5 dX12_allPaths_82 rfl ?_
              obtain ⟨x24, c23, h⟩ := bd_some h
              refine V_callVi X (As := [.int x5, .int x13]) (M_X12_apart c23) (cwV 2 X.2.2.2.2.2.2.1 (gV wm_RX12_383 wi_X12_apart wse_X12_apart win_RX12 wc_X12_apart) rfl rfl rfl hd_X12_apart ⟨Nat.le_of_ble_eq_true rfl, Nat.le_of_ble_eq_true rfl⟩) (b := (0, 32, 0)) ⟨by decide, rfl⟩ rfl rfl rfl rfl (Nat.le_of_ble_eq_true rfl) dX12_allPaths_84 rfl ?_
              refine V_aload_n X 0 dX12_allPaths_87 rfl rfl ?_
              refine V_getr X (o := (0, 32, 0)) (i := (0, 45, 0)) (ci := 12) (k := 27) (N := 30) (T := TX12) (C := RX12) ⟨by decide, rfl⟩ rfl rfl rfl (by decide) (mBa inB_X12) (mB wl_RX12_50) dX12_allPaths_88 ?_
              refine V_bipush X 8 dX12_allPaths_91 (by decide) ?_
              refine V_iload_n X 3 dX12_allPaths_93 rfl rfl ?_
              refine V_imul X dX12_allPaths_94 ?_
              refine V_iload X 5 dX12_allPaths_95 rfl ?_
              refine V_iadd X dX12_allPaths_97 ?_
              obtain ⟨g25, h⟩ := gd_some h
              refine V_iald X ((8 * x9) + x13).toNatClampNeg rfl (o := (0, 45, 0)) (n := 2048) ⟨by decide, rfl⟩ rfl rfl g25 dX12_allPaths_98 ?_
              refine V_iadd X dX12_allPaths_99 ?_
              refine V_callSi X (As := [.int x12, .int (x24 + (μ6 (0, 45, 0) ((8 * x9) + x13).toNatClampNeg))]) (M_X12_lesser) (va_cwS 2 X.2.2.2.2.2.2.1 (gS wm_RX12_70 wst_X12_lesser win_RX12 wc_X12_lesser) rfl rfl rfl hd_X12_lesser.2 ⟨Nat.le_of_ble_eq_true rfl, Nat.le_of_ble_eq_true rfl⟩) rfl (Nat.le_of_ble_eq_true rfl) dX12_allPaths_100 rfl ?_
              refine V_istore X [(4, .int (f_X12_lesser x12 (x24 + (μ6 (0, 45, 0) ((8 * x9) + x13).toNatClampNeg)))), (0, .ref (zad y (0, 32, 0))), (1, .int x1), (2, .int x5), (3, .int x9), (5, .int x13)] dX12_allPaths_103 (by decide) rfl ?_
              refine zlt_el (P := fun (x26 : Int32) => V X μ6 105 [(4, .int x26), (0, .ref (zad y (0, 32, 0))), (1, .int x1), (2, .int x5), (3, .int x9), (5, .int x13)] []) h (fun x26 h => ?_)
              refine V_sub X [1, 2, 3, 4, 0, 5] (lv' := [(0, .ref (zad y (0, 32, 0))), (1, .int x1), (2, .int x5), (3, .int x9), (4, .int x26), (5, .int x13)]) rfl ?_
              obtain rfl := so1 h
              exact hk
      replace h := h1
      clear h1
      refine V_if_ne X (tgt := 42) dX12_allPaths_35 (by decide) (fun b10 => ?_) (fun b10 => ?_)
      · replace h := (if_neg b10).symm.trans h
        refine V_ldcw X (ix := 339) (v := 2000000000) (mB wk_RX12_339) dX12_allPaths_42 ?_
        refine V_sub X [1, 2, 3, 0] (lv' := [(0, .ref (zad y (0, 32, 0))), (1, .int x1), (2, .int x5), (3, .int x9)]) rfl ?_
        obtain rfl := pr1 h
        exact hk
      · replace h := (if_pos b10).symm.trans h
        refine V_iconst X 0 dX12_allPaths_38 (by decide) ?_
        refine V_goto X (tgt := 45) dX12_allPaths_39 (by decide) ?_
        refine V_sub X [1, 2, 3, 0] (lv' := [(0, .ref (zad y (0, 32, 0))), (1, .int x1), (2, .int x5), (3, .int x9)]) rfl ?_
        obtain rfl := pr1 h
        exact hk

def f_X12_order (a1 : Int32) (μ : ZMem) : Option (Int32 × ZMem) := zlt (mset μ (0, 32, 0) 0 0) (fun (μ1 : ZMem) => bd (f_X12_inState 2 μ1) (fun (x3 : Int32) => bd (f_X12_bits x3) (fun (x5 : Int32) => if a1 = (-1) then bd (f_X12_spreadNow μ1) (fun (x42 : Int32) => some (x42, μ1)) else bd (f_X12_isIn a1 0 (x5 - 1)) (fun (x8 : Int32) => if x8 = 0 then some ((-1), μ1) else bd (f_X12_allPaths μ1) (fun (μ11 : ZMem) => bd (f_X12_spreadNow μ11) (fun (x13 : Int32) => bd (lp (σ := Int32 × Int32 × Int32 × Int32) (fun q => un4 q (fun (x14 : Int32) (x15 : Int32) (x16 : Int32) (x17 : Int32) => if a1 < x17 then some (.inr x16) else zlt ((μ11 (0, 33, 0) 3) - 1) (fun (x20 : Int32) => bd (lp (σ := Int32 × Int32) (fun q => un2 q (fun (x21 : Int32) (x22 : Int32) => if x22 < 0 then some (.inr x21) else bd (f_X12_isOf x14 x22) (fun (x26 : Int32) => bd (α := Int32) (if x26 = 0 then some x21 else bd (α := Int32) (if x16 = (-1) then some 0 else bd (f_X12_apart x16 x22 μ11) (fun (x32 : Int32) => some x32)) (fun (x30 : Int32) => gd (zin ((8 * x14) + x22) 2048) (if (x30 + (μ11 (0, 45, 0) ((8 * x14) + x22).toNatClampNeg)) = x15 then some x22 else some x21))) (fun (x28 : Int32) => some (.inl (x28, (x22 + (-1)))))))) FU ((-1), x20)) (fun (x23 : Int32) => bd (α := Int32) (if x16 = (-1) then some 0 else bd (f_X12_apart x16 x23 μ11) (fun (x38 : Int32) => some x38)) (fun (x36 : Int32) => zlt (x15 - x36) (fun (x39 : Int32) => zlt (x14 &&& ((1 <<< (x23 &&& 31)) ^^^ (-1))) (fun (x40 : Int32) => some (.inl (x40, x39, x23, (x17 + 1)))))))))) FU (x3, x13, (-1), 0)) (fun (x18 : Int32) => some (x18, μ11))))))))
set_option maxRecDepth 100000 in
set_option maxHeartbeats 4000000 in
theorem M_X12_order {l : Launch} {D : va_G} {y : ZLay} {a1 : Int32}  {μ : ZMem} {r : Int32} {μ0 : ZMem} (h : f_X12_order a1 μ = some (r, μ0)) : MI l yX12_order wb_X12_order rm_X12_order D y [.ref (zad y (0, 32, 0)), .int a1] μ r μ0 := by
  unfold f_X12_order at h
  refine MI_of RX12 [(0, .ref (zad y (0, 32, 0))), (1, .int a1)] (by decide) rfl rfl (Nat.le_of_ble_eq_true rfl) rfl ?_
  intro p e s m args below meth c A X
  refine V_aload_n X 0 dX12_order_0 rfl rfl ?_
  refine V_iconst X 0 dX12_order_1 (by decide) ?_
  refine V_puti X tyX12 .int (o := (0, 32, 0)) (ci := 12) (k := 0) (N := 30) (T := TX12) (C := RX12) ⟨by decide, rfl⟩ rfl rfl rfl (by decide) (mBa inB_X12) tyX12_ok nmX12 (mB wl_RX12_59) rfl rfl rfl rfl dX12_order_2 ?_
  refine zlt_el (P := fun (μ1 : ZMem) => V X μ1 5 [(0, .ref (zad y (0, 32, 0))), (1, .int a1)] []) h (fun μ1 h => ?_)
  refine V_aload_n X 0 dX12_order_5 rfl rfl ?_
  refine V_iconst X 2 dX12_order_6 (by decide) ?_
  obtain ⟨x3, c2, h⟩ := bd_some h
  refine V_callVi X (As := [.int 2]) (M_X12_inState c2) (cwV 1 X.2.2.2.2.2.2.1 (gV wm_RX12_250 wi_X12_inState wse_X12_inState win_RX12 wc_X12_inState) rfl rfl rfl hd_X12_inState ⟨Nat.le_of_ble_eq_true rfl, Nat.le_of_ble_eq_true rfl⟩) (b := (0, 32, 0)) ⟨by decide, rfl⟩ rfl rfl rfl rfl (Nat.le_of_ble_eq_true rfl) dX12_order_7 rfl ?_
  refine V_istore_n X [(2, .int x3), (0, .ref (zad y (0, 32, 0))), (1, .int a1)] dX12_order_10 rfl (by decide) rfl ?_
  refine V_iload_n X 0 dX12_order_11 rfl rfl ?_
  obtain ⟨x5, c4, h⟩ := bd_some h
  refine V_callSi X (As := [.int x3]) (M_X12_bits c4) (va_cwS 1 X.2.2.2.2.2.2.1 (gS wm_RX12_247 wst_X12_bits win_RX12 wc_X12_bits) rfl rfl rfl hd_X12_bits.2 ⟨Nat.le_of_ble_eq_true rfl, Nat.le_of_ble_eq_true rfl⟩) rfl (Nat.le_of_ble_eq_true rfl) dX12_order_12 rfl ?_
  refine V_istore_n X [(3, .int x5), (2, .int x3), (0, .ref (zad y (0, 32, 0))), (1, .int a1)] dX12_order_15 rfl (by decide) rfl ?_
  refine V_iload_n X 3 dX12_order_16 rfl rfl ?_
  refine V_iconst X (-1) dX12_order_17 (by decide) ?_
  refine V_icmp_ne X (tgt := 26) dX12_order_18 (by decide) (fun b6 => ?_) (fun b6 => ?_)
  · replace h := (if_neg b6).symm.trans h
    refine V_iload_n X 3 dX12_order_26 rfl rfl ?_
    refine V_iconst X 0 dX12_order_27 (by decide) ?_
    refine V_iload_n X 0 dX12_order_28 rfl rfl ?_
    refine V_iconst X 1 dX12_order_29 (by decide) ?_
    refine V_isub X dX12_order_30 ?_
    obtain ⟨x8, c7, h⟩ := bd_some h
    refine V_callSi X (As := [.int a1, .int 0, .int (x5 - 1)]) (M_X12_isIn c7) (va_cwS 3 X.2.2.2.2.2.2.1 (gS wm_RX12_62 wst_X12_isIn win_RX12 wc_X12_isIn) rfl rfl rfl hd_X12_isIn.2 ⟨Nat.le_of_ble_eq_true rfl, Nat.le_of_ble_eq_true rfl⟩) rfl (Nat.le_of_ble_eq_true rfl) dX12_order_31 rfl ?_
    refine V_if_ne X (tgt := 39) dX12_order_34 (by decide) (fun b9 => ?_) (fun b9 => ?_)
    · replace h := (if_neg b9).symm.trans h
      refine V_aload_n X 2 dX12_order_39 rfl rfl ?_
      obtain ⟨μ11, c10, h⟩ := bd_some h
      refine V_callVv X (As := []) (M_X12_allPaths c10) (cwV 0 X.2.2.2.2.2.2.1 (gV wm_RX12_386 wi_X12_allPaths wse_X12_allPaths win_RX12 wc_X12_allPaths) rfl rfl rfl hd_X12_allPaths ⟨Nat.le_of_ble_eq_true rfl, Nat.le_of_ble_eq_true rfl⟩) (b := (0, 32, 0)) ⟨by decide, rfl⟩ rfl rfl rfl rfl (Nat.le_of_ble_eq_true rfl) dX12_order_40 rfl ?_
      refine V_aload_n X 2 dX12_order_43 rfl rfl ?_
      obtain ⟨x13, c12, h⟩ := bd_some h
      refine V_callVi X (As := []) (M_X12_spreadNow c12) (cwV 0 X.2.2.2.2.2.2.1 (gV wm_RX12_371 wi_X12_spreadNow wse_X12_spreadNow win_RX12 wc_X12_spreadNow) rfl rfl rfl hd_X12_spreadNow ⟨Nat.le_of_ble_eq_true rfl, Nat.le_of_ble_eq_true rfl⟩) (b := (0, 32, 0)) ⟨by decide, rfl⟩ rfl rfl rfl rfl (Nat.le_of_ble_eq_true rfl) dX12_order_44 rfl ?_
      refine V_istore X [(4, .int x13), (3, .int x5), (2, .int x3), (0, .ref (zad y (0, 32, 0))), (1, .int a1)] dX12_order_47 (by decide) rfl ?_
      refine V_iconst X (-1) dX12_order_49 (by decide) ?_
      refine V_istore X [(5, .int (-1)), (4, .int x13), (3, .int x5), (2, .int x3), (0, .ref (zad y (0, 32, 0))), (1, .int a1)] dX12_order_50 (by decide) rfl ?_
      refine V_iconst X 0 dX12_order_52 (by decide) ?_
      refine V_istore X [(6, .int 0), (5, .int (-1)), (4, .int x13), (3, .int x5), (2, .int x3), (0, .ref (zad y (0, 32, 0))), (1, .int a1)] dX12_order_53 (by decide) rfl ?_
      refine V_sub X [5, 6, 4, 2, 1, 0] (lv' := [(0, .ref (zad y (0, 32, 0))), (1, .int a1), (2, .int x3), (4, .int x13), (5, .int (-1)), (6, .int 0)]) rfl ?_
      obtain ⟨x18, hl, h⟩ := bd_some h
      have hk : V X μ11 176 [(5, .int x18)] [] := by
        clear hl
        refine V_iload X 0 dX12_order_176 rfl ?_
        exact V_iretW X h dX12_order_178
      refine lp_ind (P := fun q => V X μ11 55 [(0, .ref (zad y (0, 32, 0))), (1, .int a1), (2, .int q.1), (4, .int q.2.1), (5, .int q.2.2.1), (6, .int q.2.2.2)] []) (fun q z h hz => ?_) hl
      obtain ⟨x14, x15, x16, x17⟩ := q
      replace h := un4_eq h
      show V X μ11 55 [(0, .ref (zad y (0, 32, 0))), (1, .int a1), (2, .int x14), (4, .int x15), (5, .int x16), (6, .int x17)] []
      refine V_iload X 5 dX12_order_55 rfl ?_
      refine V_iload_n X 1 dX12_order_57 rfl rfl ?_
      refine V_icmp_gt X (tgt := 176) dX12_order_58 (by decide) (fun b19 => ?_) (fun b19 => ?_)
      · replace h := (if_pos b19).symm.trans h
        refine V_sub X [4] (lv' := [(5, .int x16)]) rfl ?_
        cases h
        obtain rfl := pr1 hz
        exact hk
      · replace h := (if_neg b19).symm.trans h
        refine V_iconst X (-1) dX12_order_61 (by decide) ?_
        refine V_istore X [(7, .int (-1)), (0, .ref (zad y (0, 32, 0))), (1, .int a1), (2, .int x14), (4, .int x15), (5, .int x16), (6, .int x17)] dX12_order_62 (by decide) rfl ?_
        refine V_aload_n X 1 dX12_order_64 rfl rfl ?_
        refine V_getr X (o := (0, 32, 0)) (i := (0, 33, 0)) (ci := 12) (k := 1) (N := 30) (T := TX12) (C := RX12) ⟨by decide, rfl⟩ rfl rfl rfl (by decide) (mBa inB_X12) (mB wl_RX12_7) dX12_order_65 ?_
        refine V_iconst X 3 dX12_order_68 (by decide) ?_
        refine V_iald X 3 (by decide) (o := (0, 33, 0)) (n := 737) ⟨by decide, rfl⟩ rfl rfl (by decide) dX12_order_69 ?_
        refine V_iconst X 1 dX12_order_70 (by decide) ?_
        refine V_isub X dX12_order_71 ?_
        refine V_istore X [(8, .int ((μ11 (0, 33, 0) 3) - 1)), (7, .int (-1)), (0, .ref (zad y (0, 32, 0))), (1, .int a1), (2, .int x14), (4, .int x15), (5, .int x16), (6, .int x17)] dX12_order_72 (by decide) rfl ?_
        refine zlt_el (P := fun (x20 : Int32) => V X μ11 74 [(8, .int x20), (7, .int (-1)), (0, .ref (zad y (0, 32, 0))), (1, .int a1), (2, .int x14), (4, .int x15), (5, .int x16), (6, .int x17)] []) h (fun x20 h => ?_)
        refine V_sub X [2, 3, 4, 5, 6, 7, 1, 0] (lv' := [(0, .ref (zad y (0, 32, 0))), (1, .int a1), (2, .int x14), (4, .int x15), (5, .int x16), (6, .int x17), (7, .int (-1)), (8, .int x20)]) rfl ?_
        obtain ⟨x23, hl, h⟩ := bd_some h
        have hk : V X μ11 134 [(0, .ref (zad y (0, 32, 0))), (1, .int a1), (2, .int x14), (4, .int x15), (5, .int x16), (6, .int x17), (7, .int x23)] [] := by
          clear hl
          refine V_iload X 3 dX12_order_134 rfl ?_
          refine V_iload X 4 dX12_order_136 rfl ?_
          refine V_iconst X (-1) dX12_order_138 (by decide) ?_
          obtain ⟨x36, h1, h⟩ := bd_some h
          have hk : V X μ11 154 [(0, .ref (zad y (0, 32, 0))), (1, .int a1), (2, .int x14), (6, .int x17), (7, .int x23)] [.int x36, .int x15] := by
            clear h1
            refine V_isub X dX12_order_154 ?_
            refine V_istore X [(4, .int (x15 - x36)), (0, .ref (zad y (0, 32, 0))), (1, .int a1), (2, .int x14), (6, .int x17), (7, .int x23)] dX12_order_155 (by decide) rfl ?_
            refine zlt_el (P := fun (x39 : Int32) => V X μ11 157 [(4, .int x39), (0, .ref (zad y (0, 32, 0))), (1, .int a1), (2, .int x14), (6, .int x17), (7, .int x23)] []) h (fun x39 h => ?_)
            refine V_iload_n X 3 dX12_order_157 rfl rfl ?_
            refine V_iconst X 1 dX12_order_158 (by decide) ?_
            refine V_iload X 5 dX12_order_159 rfl ?_
            refine V_ishl X dX12_order_161 ?_
            refine V_iconst X (-1) dX12_order_162 (by decide) ?_
            refine V_ixor X dX12_order_163 ?_
            refine V_iand X dX12_order_164 ?_
            refine V_istore_n X [(2, .int (x14 &&& ((1 <<< (x23 &&& 31)) ^^^ (-1)))), (4, .int x39), (0, .ref (zad y (0, 32, 0))), (1, .int a1), (6, .int x17), (7, .int x23)] dX12_order_165 rfl (by decide) rfl ?_
            refine zlt_el (P := fun (x40 : Int32) => V X μ11 166 [(2, .int x40), (4, .int x39), (0, .ref (zad y (0, 32, 0))), (1, .int a1), (6, .int x17), (7, .int x23)] []) h (fun x40 h => ?_)
            refine V_iload X 5 dX12_order_166 rfl ?_
            refine V_istore X [(5, .int x23), (2, .int x40), (4, .int x39), (0, .ref (zad y (0, 32, 0))), (1, .int a1), (6, .int x17), (7, .int x23)] dX12_order_168 (by decide) rfl ?_
            refine V_inc X 5 1 [(6, .int (x17 + 1)), (5, .int x23), (2, .int x40), (4, .int x39), (0, .ref (zad y (0, 32, 0))), (1, .int a1), (7, .int x23)] dX12_order_170 rfl (by decide) (by decide) rfl ?_
            refine V_goto X (tgt := 55) dX12_order_173 (by decide) ?_
            refine V_sub X [4, 5, 2, 3, 1, 0] (lv' := [(0, .ref (zad y (0, 32, 0))), (1, .int a1), (2, .int x40), (4, .int x39), (5, .int x23), (6, .int (x17 + 1))]) rfl ?_
            cases h
            exact hz
          replace h := h1
          clear h1
          refine V_icmp_ne X (tgt := 146) dX12_order_139 (by decide) (fun b35 => ?_) (fun b35 => ?_)
          · replace h := (if_neg b35).symm.trans h
            refine V_aload_n X 0 dX12_order_146 rfl rfl ?_
            refine V_iload X 4 dX12_order_147 rfl ?_
            refine V_iload X 6 dX12_order_149 rfl ?_
            obtain ⟨x38, c37, h⟩ := bd_some h
            refine V_callVi X (As := [.int x16, .int x23]) (M_X12_apart c37) (cwV 2 X.2.2.2.2.2.2.1 (gV wm_RX12_383 wi_X12_apart wse_X12_apart win_RX12 wc_X12_apart) rfl rfl rfl hd_X12_apart ⟨Nat.le_of_ble_eq_true rfl, Nat.le_of_ble_eq_true rfl⟩) (b := (0, 32, 0)) ⟨by decide, rfl⟩ rfl rfl rfl rfl (Nat.le_of_ble_eq_true rfl) dX12_order_151 rfl ?_
            refine V_sub X [0, 1, 2, 5, 6] (lv' := [(0, .ref (zad y (0, 32, 0))), (1, .int a1), (2, .int x14), (6, .int x17), (7, .int x23)]) rfl ?_
            obtain rfl := so1 h
            exact hk
          · replace h := (if_pos b35).symm.trans h
            refine V_iconst X 0 dX12_order_142 (by decide) ?_
            refine V_goto X (tgt := 154) dX12_order_143 (by decide) ?_
            refine V_sub X [0, 1, 2, 5, 6] (lv' := [(0, .ref (zad y (0, 32, 0))), (1, .int a1), (2, .int x14), (6, .int x17), (7, .int x23)]) rfl ?_
            obtain rfl := so1 h
            exact hk
        refine lp_ind (P := fun q => V X μ11 74 [(0, .ref (zad y (0, 32, 0))), (1, .int a1), (2, .int x14), (4, .int x15), (5, .int x16), (6, .int x17), (7, .int q.1), (8, .int q.2)] []) (fun q z h hz => ?_) hl
        obtain ⟨x21, x22⟩ := q
        replace h := un2_eq h
        show V X μ11 74 [(0, .ref (zad y (0, 32, 0))), (1, .int a1), (2, .int x14), (4, .int x15), (5, .int x16), (6, .int x17), (7, .int x21), (8, .int x22)] []
        refine V_iload X 7 dX12_order_74 rfl ?_
        refine V_if_lt X (tgt := 134) dX12_order_76 (by decide) (fun b24 => ?_) (fun b24 => ?_)
        · replace h := (if_pos b24).symm.trans h
          refine V_sub X [0, 1, 2, 3, 4, 5, 6] (lv' := [(0, .ref (zad y (0, 32, 0))), (1, .int a1), (2, .int x14), (4, .int x15), (5, .int x16), (6, .int x17), (7, .int x21)]) rfl ?_
          cases h
          obtain rfl := pr1 hz
          exact hk
        · replace h := (if_neg b24).symm.trans h
          refine V_iload_n X 2 dX12_order_79 rfl rfl ?_
          refine V_iload X 7 dX12_order_80 rfl ?_
          obtain ⟨x26, c25, h⟩ := bd_some h
          refine V_callSi X (As := [.int x14, .int x22]) (M_X12_isOf c25) (va_cwS 2 X.2.2.2.2.2.2.1 (gS wm_RX12_274 wst_X12_isOf win_RX12 wc_X12_isOf) rfl rfl rfl hd_X12_isOf.2 ⟨Nat.le_of_ble_eq_true rfl, Nat.le_of_ble_eq_true rfl⟩) rfl (Nat.le_of_ble_eq_true rfl) dX12_order_82 rfl ?_
          obtain ⟨x28, h1, h⟩ := bd_some h
          have hk : V X μ11 128 [(0, .ref (zad y (0, 32, 0))), (1, .int a1), (2, .int x14), (4, .int x15), (5, .int x16), (6, .int x17), (7, .int x28), (8, .int x22)] [] := by
            clear h1
            refine V_inc X 7 (-1) [(8, .int (x22 + (-1))), (0, .ref (zad y (0, 32, 0))), (1, .int a1), (2, .int x14), (4, .int x15), (5, .int x16), (6, .int x17), (7, .int x28)] dX12_order_128 rfl (by decide) (by decide) rfl ?_
            refine V_goto X (tgt := 74) dX12_order_131 (by decide) ?_
            refine V_sub X [1, 2, 3, 4, 5, 6, 7, 0] (lv' := [(0, .ref (zad y (0, 32, 0))), (1, .int a1), (2, .int x14), (4, .int x15), (5, .int x16), (6, .int x17), (7, .int x28), (8, .int (x22 + (-1)))]) rfl ?_
            cases h
            exact hz
          replace h := h1
          clear h1
          refine V_if_eq X (tgt := 128) dX12_order_85 (by decide) (fun b27 => ?_) (fun b27 => ?_)
          · replace h := (if_pos b27).symm.trans h
            obtain rfl := so1 h
            exact hk
          · replace h := (if_neg b27).symm.trans h
            refine V_iload X 4 dX12_order_88 rfl ?_
            refine V_iconst X (-1) dX12_order_90 (by decide) ?_
            obtain ⟨x30, h1, h⟩ := bd_some h
            have hk : V X μ11 106 [(0, .ref (zad y (0, 32, 0))), (1, .int a1), (2, .int x14), (4, .int x15), (5, .int x16), (6, .int x17), (7, .int x21), (8, .int x22)] [.int x30] := by
              clear h1
              refine V_aload_n X 0 dX12_order_106 rfl rfl ?_
              refine V_getr X (o := (0, 32, 0)) (i := (0, 45, 0)) (ci := 12) (k := 27) (N := 30) (T := TX12) (C := RX12) ⟨by decide, rfl⟩ rfl rfl rfl (by decide) (mBa inB_X12) (mB wl_RX12_50) dX12_order_107 ?_
              refine V_bipush X 8 dX12_order_110 (by decide) ?_
              refine V_iload_n X 2 dX12_order_112 rfl rfl ?_
              refine V_imul X dX12_order_113 ?_
              refine V_iload X 7 dX12_order_114 rfl ?_
              refine V_iadd X dX12_order_116 ?_
              obtain ⟨g33, h⟩ := gd_some h
              refine V_iald X ((8 * x14) + x22).toNatClampNeg rfl (o := (0, 45, 0)) (n := 2048) ⟨by decide, rfl⟩ rfl rfl g33 dX12_order_117 ?_
              refine V_iadd X dX12_order_118 ?_
              refine V_iload X 3 dX12_order_119 rfl ?_
              refine V_icmp_ne X (tgt := 128) dX12_order_121 (by decide) (fun b34 => ?_) (fun b34 => ?_)
              · replace h := (if_neg b34).symm.trans h
                obtain rfl := so1 h
                exact hk
              · replace h := (if_pos b34).symm.trans h
                refine V_iload X 7 dX12_order_124 rfl ?_
                refine V_istore X [(7, .int x22), (0, .ref (zad y (0, 32, 0))), (1, .int a1), (2, .int x14), (4, .int x15), (5, .int x16), (6, .int x17), (8, .int x22)] dX12_order_126 (by decide) rfl ?_
                refine V_sub X [1, 2, 3, 4, 5, 6, 0, 7] (lv' := [(0, .ref (zad y (0, 32, 0))), (1, .int a1), (2, .int x14), (4, .int x15), (5, .int x16), (6, .int x17), (7, .int x22), (8, .int x22)]) rfl ?_
                obtain rfl := so1 h
                exact hk
            replace h := h1
            clear h1
            refine V_icmp_ne X (tgt := 98) dX12_order_91 (by decide) (fun b29 => ?_) (fun b29 => ?_)
            · replace h := (if_neg b29).symm.trans h
              refine V_aload_n X 0 dX12_order_98 rfl rfl ?_
              refine V_iload X 4 dX12_order_99 rfl ?_
              refine V_iload X 7 dX12_order_101 rfl ?_
              obtain ⟨x32, c31, h⟩ := bd_some h
              refine V_callVi X (As := [.int x16, .int x22]) (M_X12_apart c31) (cwV 2 X.2.2.2.2.2.2.1 (gV wm_RX12_383 wi_X12_apart wse_X12_apart win_RX12 wc_X12_apart) rfl rfl rfl hd_X12_apart ⟨Nat.le_of_ble_eq_true rfl, Nat.le_of_ble_eq_true rfl⟩) (b := (0, 32, 0)) ⟨by decide, rfl⟩ rfl rfl rfl rfl (Nat.le_of_ble_eq_true rfl) dX12_order_103 rfl ?_
              obtain rfl := so1 h
              exact hk
            · replace h := (if_pos b29).symm.trans h
              refine V_iconst X 0 dX12_order_94 (by decide) ?_
              refine V_goto X (tgt := 106) dX12_order_95 (by decide) ?_
              obtain rfl := so1 h
              exact hk
    · replace h := (if_pos b9).symm.trans h
      refine V_iconst X (-1) dX12_order_37 (by decide) ?_
      exact V_iretW X h dX12_order_38
  · replace h := (if_pos b6).symm.trans h
    refine V_aload_n X 2 dX12_order_21 rfl rfl ?_
    obtain ⟨x42, c41, h⟩ := bd_some h
    refine V_callVi X (As := []) (M_X12_spreadNow c41) (cwV 0 X.2.2.2.2.2.2.1 (gV wm_RX12_371 wi_X12_spreadNow wse_X12_spreadNow win_RX12 wc_X12_spreadNow) rfl rfl rfl hd_X12_spreadNow ⟨Nat.le_of_ble_eq_true rfl, Nat.le_of_ble_eq_true rfl⟩) (b := (0, 32, 0)) ⟨by decide, rfl⟩ rfl rfl rfl rfl (Nat.le_of_ble_eq_true rfl) dX12_order_22 rfl ?_
    exact V_iretW X h dX12_order_25

def f_X12_clockOf (a0 : Int32) (a1 : Int32) : Int32 := (((a0 / 19) - 40) + (a1 * ((zrem a0 19) - 9)))
set_option maxRecDepth 100000 in
set_option maxHeartbeats 4000000 in
theorem M_X12_clockOf {l : Launch} {D : va_G} {y : ZLay} {a0 : Int32} {a1 : Int32}  {μ : ZMem} : MI l yX12_clockOf wb_X12_clockOf rm_X12_clockOf D y [.int a0, .int a1] μ (f_X12_clockOf a0 a1) μ := by
  obtain ⟨r, h⟩ : ∃ r, f_X12_clockOf a0 a1 = r := ⟨_, rfl⟩
  rw [h]
  unfold f_X12_clockOf at h
  refine MI_of RX12 [(0, .int a0), (1, .int a1)] (by decide) rfl rfl (Nat.le_of_ble_eq_true rfl) rfl ?_
  intro p e s m args below meth c A X
  refine V_iload_n X 0 dX12_clockOf_0 rfl rfl ?_
  refine V_bipush X 19 dX12_clockOf_1 (by decide) ?_
  refine V_idiv X dX12_clockOf_3 (by decide) ?_
  refine V_bipush X 40 dX12_clockOf_4 (by decide) ?_
  refine V_isub X dX12_clockOf_6 ?_
  refine V_iload_n X 1 dX12_clockOf_7 rfl rfl ?_
  refine V_iload_n X 0 dX12_clockOf_8 rfl rfl ?_
  refine V_bipush X 19 dX12_clockOf_9 (by decide) ?_
  refine V_rem X dX12_clockOf_11 (by decide) ?_
  refine V_bipush X 9 dX12_clockOf_12 (by decide) ?_
  refine V_isub X dX12_clockOf_14 ?_
  refine V_imul X dX12_clockOf_15 ?_
  refine V_iadd X dX12_clockOf_16 ?_
  exact V_iretT X h dX12_clockOf_17

def f_X12_readMany (μ : ZMem) : Option (Int32 × ZMem) := zlt (μ (0, 32, 0) 8) (fun (x1 : Int32) => zlt (mset μ (0, 32, 0) 8 0) (fun (μ2 : ZMem) => bd (α := Int32) (jk (some 0) (fun k5 => if (zrem x1 2) = 0 then if 40 < x1 then k5 else some 1 else k5)) (fun (x4 : Int32) => bd (lp (σ := Int32 × Int32) (fun q => un2 q (fun (x7 : Int32) (x8 : Int32) => if x1 ≤ x8 then some (.inr x7) else if x7 = 0 then some (.inr x7) else gd (zin x8 400) (zlt (α := Int32) (if 100 ≤ (μ2 (0, 37, 0) x8.toNatClampNeg) then 0 else 1) (fun (x14 : Int32) => some (.inl (x14, (x8 + 2))))))) FU (x4, 0)) (fun (x9 : Int32) => zlt (α := Int32) (if x9 = 0 then 1 else 0) (fun (x16 : Int32) => zlt (mset μ2 (0, 32, 0) 0 x16) (fun (μ17 : ZMem) => some (x1, μ17)))))))
set_option maxRecDepth 100000 in
set_option maxHeartbeats 4000000 in
theorem M_X12_readMany {l : Launch} {D : va_G} {y : ZLay}   {μ : ZMem} {r : Int32} {μ0 : ZMem} (h : f_X12_readMany μ = some (r, μ0)) : MI l yX12_readMany wb_X12_readMany rm_X12_readMany D y [.ref (zad y (0, 32, 0))] μ r μ0 := by
  unfold f_X12_readMany at h
  refine MI_of RX12 [(0, .ref (zad y (0, 32, 0)))] (by decide) rfl rfl (Nat.le_of_ble_eq_true rfl) rfl ?_
  intro p e s m args below meth c A X
  refine V_aload_n X 0 dX12_readMany_0 rfl rfl ?_
  refine V_geti X (o := (0, 32, 0)) (ci := 12) (k := 8) (N := 30) (T := TX12) (C := RX12) ⟨by decide, rfl⟩ rfl rfl rfl (by decide) (mBa inB_X12) (mB wl_RX12_76) dX12_readMany_1 ?_
  refine V_istore_n X [(1, .int (μ (0, 32, 0) 8)), (0, .ref (zad y (0, 32, 0)))] dX12_readMany_4 rfl (by decide) rfl ?_
  refine zlt_el (P := fun (x1 : Int32) => V X μ 5 [(1, .int x1), (0, .ref (zad y (0, 32, 0)))] []) h (fun x1 h => ?_)
  refine V_aload_n X 1 dX12_readMany_5 rfl rfl ?_
  refine V_iconst X 0 dX12_readMany_6 (by decide) ?_
  refine V_puti X tyX12 .int (o := (0, 32, 0)) (ci := 12) (k := 8) (N := 30) (T := TX12) (C := RX12) ⟨by decide, rfl⟩ rfl rfl rfl (by decide) (mBa inB_X12) tyX12_ok nmX12 (mB wl_RX12_76) rfl rfl rfl rfl dX12_readMany_7 ?_
  refine zlt_el (P := fun (μ2 : ZMem) => V X μ2 10 [(1, .int x1), (0, .ref (zad y (0, 32, 0)))] []) h (fun μ2 h => ?_)
  refine V_iload_n X 0 dX12_readMany_10 rfl rfl ?_
  refine V_iconst X 2 dX12_readMany_11 (by decide) ?_
  refine V_rem X dX12_readMany_12 (by decide) ?_
  obtain ⟨x4, h1, h⟩ := bd_some h
  have hk : V X μ2 27 [(0, .ref (zad y (0, 32, 0))), (1, .int x1)] [.int x4] := by
    clear h1
    refine V_istore_n X [(2, .int x4), (0, .ref (zad y (0, 32, 0))), (1, .int x1)] dX12_readMany_27 rfl (by decide) rfl ?_
    refine V_iconst X 0 dX12_readMany_28 (by decide) ?_
    refine V_istore_n X [(3, .int 0), (2, .int x4), (0, .ref (zad y (0, 32, 0))), (1, .int x1)] dX12_readMany_29 rfl (by decide) rfl ?_
    refine V_sub X [2, 3, 1, 0] (lv' := [(0, .ref (zad y (0, 32, 0))), (1, .int x1), (2, .int x4), (3, .int 0)]) rfl ?_
    obtain ⟨x9, hl, h⟩ := bd_some h
    have hk : V X μ2 62 [(0, .ref (zad y (0, 32, 0))), (1, .int x1), (2, .int x9)] [] := by
      clear hl
      refine V_aload_n X 0 dX12_readMany_62 rfl rfl ?_
      refine V_iload_n X 2 dX12_readMany_63 rfl rfl ?_
      obtain ⟨x16, h1, h⟩ := zl1_some h
      have hk : V X μ2 72 [(1, .int x1)] [.int x16, .ref (zad y (0, 32, 0))] := by
        clear h1
        refine V_puti X tyX12 .int (o := (0, 32, 0)) (ci := 12) (k := 0) (N := 30) (T := TX12) (C := RX12) ⟨by decide, rfl⟩ rfl rfl rfl (by decide) (mBa inB_X12) tyX12_ok nmX12 (mB wl_RX12_59) rfl rfl rfl rfl dX12_readMany_72 ?_
        refine zlt_el (P := fun (μ17 : ZMem) => V X μ17 75 [(1, .int x1)] []) h (fun μ17 h => ?_)
        refine V_iload_n X 0 dX12_readMany_75 rfl rfl ?_
        exact V_iretW X h dX12_readMany_76
      replace h := h1
      clear h1
      refine V_if_eq X (tgt := 71) dX12_readMany_64 (by decide) (fun b15 => ?_) (fun b15 => ?_)
      · replace h := (if_pos b15).symm.trans h
        refine V_iconst X 1 dX12_readMany_71 (by decide) ?_
        refine V_sub X [1] (lv' := [(1, .int x1)]) rfl ?_
        obtain rfl := pr1 h
        exact hk
      · replace h := (if_neg b15).symm.trans h
        refine V_iconst X 0 dX12_readMany_67 (by decide) ?_
        refine V_goto X (tgt := 72) dX12_readMany_68 (by decide) ?_
        refine V_sub X [1] (lv' := [(1, .int x1)]) rfl ?_
        obtain rfl := pr1 h
        exact hk
    refine lp_ind (P := fun q => V X μ2 30 [(0, .ref (zad y (0, 32, 0))), (1, .int x1), (2, .int q.1), (3, .int q.2)] []) (fun q z h hz => ?_) hl
    obtain ⟨x7, x8⟩ := q
    replace h := un2_eq h
    show V X μ2 30 [(0, .ref (zad y (0, 32, 0))), (1, .int x1), (2, .int x7), (3, .int x8)] []
    refine V_iload_n X 3 dX12_readMany_30 rfl rfl ?_
    refine V_iload_n X 1 dX12_readMany_31 rfl rfl ?_
    refine V_icmp_ge X (tgt := 62) dX12_readMany_32 (by decide) (fun b10 => ?_) (fun b10 => ?_)
    · replace h := (if_pos b10).symm.trans h
      refine V_sub X [0, 1, 2] (lv' := [(0, .ref (zad y (0, 32, 0))), (1, .int x1), (2, .int x7)]) rfl ?_
      cases h
      obtain rfl := pr1 hz
      exact hk
    · replace h := (if_neg b10).symm.trans h
      refine V_iload_n X 2 dX12_readMany_35 rfl rfl ?_
      refine V_if_eq X (tgt := 62) dX12_readMany_36 (by decide) (fun b11 => ?_) (fun b11 => ?_)
      · replace h := (if_pos b11).symm.trans h
        refine V_sub X [0, 1, 2] (lv' := [(0, .ref (zad y (0, 32, 0))), (1, .int x1), (2, .int x7)]) rfl ?_
        cases h
        obtain rfl := pr1 hz
        exact hk
      · replace h := (if_neg b11).symm.trans h
        refine V_aload_n X 0 dX12_readMany_39 rfl rfl ?_
        refine V_getr X (o := (0, 32, 0)) (i := (0, 37, 0)) (ci := 12) (k := 7) (N := 30) (T := TX12) (C := RX12) ⟨by decide, rfl⟩ rfl rfl rfl (by decide) (mBa inB_X12) (mB wl_RX12_22) dX12_readMany_40 ?_
        refine V_iload_n X 3 dX12_readMany_43 rfl rfl ?_
        obtain ⟨g12, h⟩ := gd_some h
        refine V_iald X x8.toNatClampNeg rfl (o := (0, 37, 0)) (n := 400) ⟨by decide, rfl⟩ rfl rfl g12 dX12_readMany_44 ?_
        refine V_bipush X 100 dX12_readMany_45 (by decide) ?_
        obtain ⟨x14, h1, h⟩ := zl1_some h
        have hk : V X μ2 55 [(0, .ref (zad y (0, 32, 0))), (1, .int x1), (3, .int x8)] [.int x14] := by
          clear h1
          refine V_istore_n X [(2, .int x14), (0, .ref (zad y (0, 32, 0))), (1, .int x1), (3, .int x8)] dX12_readMany_55 rfl (by decide) rfl ?_
          refine V_inc X 3 2 [(3, .int (x8 + 2)), (2, .int x14), (0, .ref (zad y (0, 32, 0))), (1, .int x1)] dX12_readMany_56 rfl (by decide) (by decide) rfl ?_
          refine V_goto X (tgt := 30) dX12_readMany_59 (by decide) ?_
          refine V_sub X [2, 3, 1, 0] (lv' := [(0, .ref (zad y (0, 32, 0))), (1, .int x1), (2, .int x14), (3, .int (x8 + 2))]) rfl ?_
          cases h
          exact hz
        replace h := h1
        clear h1
        refine V_icmp_ge X (tgt := 54) dX12_readMany_47 (by decide) (fun b13 => ?_) (fun b13 => ?_)
        · replace h := (if_pos b13).symm.trans h
          refine V_iconst X 0 dX12_readMany_54 (by decide) ?_
          refine V_sub X [0, 1, 3] (lv' := [(0, .ref (zad y (0, 32, 0))), (1, .int x1), (3, .int x8)]) rfl ?_
          obtain rfl := pr1 h
          exact hk
        · replace h := (if_neg b13).symm.trans h
          refine V_iconst X 1 dX12_readMany_50 (by decide) ?_
          refine V_goto X (tgt := 55) dX12_readMany_51 (by decide) ?_
          refine V_sub X [0, 1, 3] (lv' := [(0, .ref (zad y (0, 32, 0))), (1, .int x1), (3, .int x8)]) rfl ?_
          obtain rfl := pr1 h
          exact hk
  replace h := h1
  clear h1
  refine jk0_el (P := V X μ2 26 [(0, .ref (zad y (0, 32, 0))), (1, .int x1)] []) h (fun h => ?_) (fun k5 hk5 h => ?_)
  · refine V_iconst X 0 dX12_readMany_26 (by decide) ?_
    obtain rfl := so1 h
    exact hk
  · refine V_if_ne X (tgt := 26) dX12_readMany_13 (by decide) (fun b3 => ?_) (fun b3 => ?_)
    · replace h := (if_neg b3).symm.trans h
      refine V_sub X [1, 0] (lv' := [(0, .ref (zad y (0, 32, 0))), (1, .int x1)]) rfl ?_
      exact hk5 h
    · replace h := (if_pos b3).symm.trans h
      refine V_iload_n X 0 dX12_readMany_16 rfl rfl ?_
      refine V_bipush X 40 dX12_readMany_17 (by decide) ?_
      refine V_icmp_gt X (tgt := 26) dX12_readMany_19 (by decide) (fun b6 => ?_) (fun b6 => ?_)
      · replace h := (if_pos b6).symm.trans h
        refine V_sub X [1, 0] (lv' := [(0, .ref (zad y (0, 32, 0))), (1, .int x1)]) rfl ?_
        exact hk5 h
      · replace h := (if_neg b6).symm.trans h
        refine V_iconst X 1 dX12_readMany_22 (by decide) ?_
        refine V_goto X (tgt := 27) dX12_readMany_23 (by decide) ?_
        refine V_sub X [1, 0] (lv' := [(0, .ref (zad y (0, 32, 0))), (1, .int x1)]) rfl ?_
        obtain rfl := so1 h
        exact hk

def f_X12_wrongReads (a1 : Int32) (a2 : Int32) (μ : ZMem) : Option (Int32) := bd (lp (σ := Int32 × Int32) (fun q => un2 q (fun (x1 : Int32) (x2 : Int32) => if a2 ≤ x2 then some (.inr x1) else gd (zin x2 400) (gd (zin (x2 + 1) 400) (zlt (α := Int32) (if (f_X12_clockOf a1 (μ (0, 37, 0) x2.toNatClampNeg)) = ((μ (0, 37, 0) (x2 + 1).toNatClampNeg) - 128) then 0 else 1) (fun (x8 : Int32) => zlt (x1 + x8) (fun (x9 : Int32) => some (.inl (x9, (x2 + 2))))))))) FU (0, 0)) (fun (x3 : Int32) => some x3)
set_option maxRecDepth 100000 in
set_option maxHeartbeats 4000000 in
theorem M_X12_wrongReads {l : Launch} {D : va_G} {y : ZLay} {a1 : Int32} {a2 : Int32}  {μ : ZMem} {r : Int32} (h : f_X12_wrongReads a1 a2 μ = some r) : MI l yX12_wrongReads wb_X12_wrongReads rm_X12_wrongReads D y [.ref (zad y (0, 32, 0)), .int a1, .int a2] μ r μ := by
  unfold f_X12_wrongReads at h
  refine MI_of RX12 [(0, .ref (zad y (0, 32, 0))), (1, .int a1), (2, .int a2)] (by decide) rfl rfl (Nat.le_of_ble_eq_true rfl) rfl ?_
  intro p e s m args below meth c A X
  refine V_iconst X 0 dX12_wrongReads_0 (by decide) ?_
  refine V_istore_n X [(3, .int 0), (0, .ref (zad y (0, 32, 0))), (1, .int a1), (2, .int a2)] dX12_wrongReads_1 rfl (by decide) rfl ?_
  refine V_iconst X 0 dX12_wrongReads_2 (by decide) ?_
  refine V_istore X [(4, .int 0), (3, .int 0), (0, .ref (zad y (0, 32, 0))), (1, .int a1), (2, .int a2)] dX12_wrongReads_3 (by decide) rfl ?_
  refine V_sub X [2, 3, 4, 1, 0] (lv' := [(0, .ref (zad y (0, 32, 0))), (1, .int a1), (2, .int a2), (3, .int 0), (4, .int 0)]) rfl ?_
  obtain ⟨x3, hl, h⟩ := bd_some h
  have hk : V X μ 52 [(3, .int x3)] [] := by
    clear hl
    refine V_iload_n X 0 dX12_wrongReads_52 rfl rfl ?_
    exact V_iretR X h dX12_wrongReads_53
  refine lp_ind (P := fun q => V X μ 5 [(0, .ref (zad y (0, 32, 0))), (1, .int a1), (2, .int a2), (3, .int q.1), (4, .int q.2)] []) (fun q z h hz => ?_) hl
  obtain ⟨x1, x2⟩ := q
  replace h := un2_eq h
  show V X μ 5 [(0, .ref (zad y (0, 32, 0))), (1, .int a1), (2, .int a2), (3, .int x1), (4, .int x2)] []
  refine V_iload X 4 dX12_wrongReads_5 rfl ?_
  refine V_iload_n X 2 dX12_wrongReads_7 rfl rfl ?_
  refine V_icmp_ge X (tgt := 52) dX12_wrongReads_8 (by decide) (fun b4 => ?_) (fun b4 => ?_)
  · replace h := (if_pos b4).symm.trans h
    refine V_sub X [3] (lv' := [(3, .int x1)]) rfl ?_
    cases h
    obtain rfl := pr1 hz
    exact hk
  · replace h := (if_neg b4).symm.trans h
    refine V_iload_n X 3 dX12_wrongReads_11 rfl rfl ?_
    refine V_iload_n X 1 dX12_wrongReads_12 rfl rfl ?_
    refine V_aload_n X 0 dX12_wrongReads_13 rfl rfl ?_
    refine V_getr X (o := (0, 32, 0)) (i := (0, 37, 0)) (ci := 12) (k := 7) (N := 30) (T := TX12) (C := RX12) ⟨by decide, rfl⟩ rfl rfl rfl (by decide) (mBa inB_X12) (mB wl_RX12_22) dX12_wrongReads_14 ?_
    refine V_iload X 4 dX12_wrongReads_17 rfl ?_
    obtain ⟨g5, h⟩ := gd_some h
    refine V_iald X x2.toNatClampNeg rfl (o := (0, 37, 0)) (n := 400) ⟨by decide, rfl⟩ rfl rfl g5 dX12_wrongReads_19 ?_
    refine V_callSi X (As := [.int a1, .int (μ (0, 37, 0) x2.toNatClampNeg)]) (M_X12_clockOf) (va_cwS 2 X.2.2.2.2.2.2.1 (gS wm_RX12_389 wst_X12_clockOf win_RX12 wc_X12_clockOf) rfl rfl rfl hd_X12_clockOf.2 ⟨Nat.le_of_ble_eq_true rfl, Nat.le_of_ble_eq_true rfl⟩) rfl (Nat.le_of_ble_eq_true rfl) dX12_wrongReads_20 rfl ?_
    refine V_aload_n X 0 dX12_wrongReads_23 rfl rfl ?_
    refine V_getr X (o := (0, 32, 0)) (i := (0, 37, 0)) (ci := 12) (k := 7) (N := 30) (T := TX12) (C := RX12) ⟨by decide, rfl⟩ rfl rfl rfl (by decide) (mBa inB_X12) (mB wl_RX12_22) dX12_wrongReads_24 ?_
    refine V_iload X 4 dX12_wrongReads_27 rfl ?_
    refine V_iconst X 1 dX12_wrongReads_29 (by decide) ?_
    refine V_iadd X dX12_wrongReads_30 ?_
    obtain ⟨g6, h⟩ := gd_some h
    refine V_iald X (x2 + 1).toNatClampNeg rfl (o := (0, 37, 0)) (n := 400) ⟨by decide, rfl⟩ rfl rfl g6 dX12_wrongReads_31 ?_
    refine V_sipush X 128 dX12_wrongReads_32 (by decide) ?_
    refine V_isub X dX12_wrongReads_35 ?_
    obtain ⟨x8, h1, h⟩ := zl1_some h
    have hk : V X μ 44 [(0, .ref (zad y (0, 32, 0))), (1, .int a1), (2, .int a2), (4, .int x2)] [.int x8, .int x1] := by
      clear h1
      refine V_iadd X dX12_wrongReads_44 ?_
      refine V_istore_n X [(3, .int (x1 + x8)), (0, .ref (zad y (0, 32, 0))), (1, .int a1), (2, .int a2), (4, .int x2)] dX12_wrongReads_45 rfl (by decide) rfl ?_
      refine zlt_el (P := fun (x9 : Int32) => V X μ 46 [(3, .int x9), (0, .ref (zad y (0, 32, 0))), (1, .int a1), (2, .int a2), (4, .int x2)] []) h (fun x9 h => ?_)
      refine V_inc X 4 2 [(4, .int (x2 + 2)), (3, .int x9), (0, .ref (zad y (0, 32, 0))), (1, .int a1), (2, .int a2)] dX12_wrongReads_46 rfl (by decide) (by decide) rfl ?_
      refine V_goto X (tgt := 5) dX12_wrongReads_49 (by decide) ?_
      refine V_sub X [2, 3, 4, 1, 0] (lv' := [(0, .ref (zad y (0, 32, 0))), (1, .int a1), (2, .int a2), (3, .int x9), (4, .int (x2 + 2))]) rfl ?_
      cases h
      exact hz
    replace h := h1
    clear h1
    refine V_icmp_ne X (tgt := 43) dX12_wrongReads_36 (by decide) (fun b7 => ?_) (fun b7 => ?_)
    · replace h := (if_neg b7).symm.trans h
      refine V_iconst X 1 dX12_wrongReads_43 (by decide) ?_
      refine V_sub X [0, 1, 2, 4] (lv' := [(0, .ref (zad y (0, 32, 0))), (1, .int a1), (2, .int a2), (4, .int x2)]) rfl ?_
      obtain rfl := pr1 h
      exact hk
    · replace h := (if_pos b7).symm.trans h
      refine V_iconst X 0 dX12_wrongReads_39 (by decide) ?_
      refine V_goto X (tgt := 44) dX12_wrongReads_40 (by decide) ?_
      refine V_sub X [0, 1, 2, 4] (lv' := [(0, .ref (zad y (0, 32, 0))), (1, .int a1), (2, .int a2), (4, .int x2)]) rfl ?_
      obtain rfl := pr1 h
      exact hk

def f_X12_read (a1 : Int32) (μ : ZMem) : Option (Int32 × ZMem) := bd2 (f_X12_readMany μ) (fun (x2 : Int32) (μ3 : ZMem) => if (μ3 (0, 32, 0) 0) ≤ 0 then bd2 (lp (σ := Int32 × Int32 × Int32 × Int32) (fun q => un4 q (fun (x5 : Int32) (x6 : Int32) (x7 : Int32) (x8 : Int32) => if 1539 ≤ x8 then some (.inr (x5, x6)) else bd (f_X12_wrongReads x8 x2 μ3) (fun (x13 : Int32) => zlt (α := Int32) (if 2 ≤ x13 then 0 else 1) (fun (x15 : Int32) => zlt (x5 + x15) (fun (x16 : Int32) => zl2 (α := Int32) (β := Int32) (if x13 < x7 then (x8, x13) else (x6, x7)) (fun (x18 : Int32) (x19 : Int32) => some (.inl (x16, x18, x19, (x8 + 1))))))))) FU (0, (-1), 2, 0)) (fun (x9 : Int32) (x10 : Int32) => zlt (α := Int32) (if a1 = 0 then x9 else x10) (fun (x21 : Int32) => some (x21, μ3))) else some (0, μ3))
set_option maxRecDepth 100000 in
set_option maxHeartbeats 4000000 in
theorem M_X12_read {l : Launch} {D : va_G} {y : ZLay} {a1 : Int32}  {μ : ZMem} {r : Int32} {μ0 : ZMem} (h : f_X12_read a1 μ = some (r, μ0)) : MI l yX12_read wb_X12_read rm_X12_read D y [.ref (zad y (0, 32, 0)), .int a1] μ r μ0 := by
  unfold f_X12_read at h
  refine MI_of RX12 [(0, .ref (zad y (0, 32, 0))), (1, .int a1)] (by decide) rfl rfl (Nat.le_of_ble_eq_true rfl) rfl ?_
  intro p e s m args below meth c A X
  refine V_aload_n X 0 dX12_read_0 rfl rfl ?_
  obtain ⟨x2, μ3, c1, h⟩ := bd2_some h
  refine V_callVi X (As := []) (M_X12_readMany c1) (cwV 0 X.2.2.2.2.2.2.1 (gV wm_RX12_392 wi_X12_readMany wse_X12_readMany win_RX12 wc_X12_readMany) rfl rfl rfl hd_X12_readMany ⟨Nat.le_of_ble_eq_true rfl, Nat.le_of_ble_eq_true rfl⟩) (b := (0, 32, 0)) ⟨by decide, rfl⟩ rfl rfl rfl rfl (Nat.le_of_ble_eq_true rfl) dX12_read_1 rfl ?_
  refine V_istore_n X [(2, .int x2), (0, .ref (zad y (0, 32, 0))), (1, .int a1)] dX12_read_4 rfl (by decide) rfl ?_
  refine V_aload_n X 1 dX12_read_5 rfl rfl ?_
  refine V_geti X (o := (0, 32, 0)) (ci := 12) (k := 0) (N := 30) (T := TX12) (C := RX12) ⟨by decide, rfl⟩ rfl rfl rfl (by decide) (mBa inB_X12) (mB wl_RX12_59) dX12_read_6 ?_
  refine V_if_le X (tgt := 14) dX12_read_9 (by decide) (fun b4 => ?_) (fun b4 => ?_)
  · replace h := (if_pos b4).symm.trans h
    refine V_iconst X 0 dX12_read_14 (by decide) ?_
    refine V_istore_n X [(3, .int 0), (2, .int x2), (0, .ref (zad y (0, 32, 0))), (1, .int a1)] dX12_read_15 rfl (by decide) rfl ?_
    refine V_iconst X (-1) dX12_read_16 (by decide) ?_
    refine V_istore X [(4, .int (-1)), (3, .int 0), (2, .int x2), (0, .ref (zad y (0, 32, 0))), (1, .int a1)] dX12_read_17 (by decide) rfl ?_
    refine V_iconst X 2 dX12_read_19 (by decide) ?_
    refine V_istore X [(5, .int 2), (4, .int (-1)), (3, .int 0), (2, .int x2), (0, .ref (zad y (0, 32, 0))), (1, .int a1)] dX12_read_20 (by decide) rfl ?_
    refine V_iconst X 0 dX12_read_22 (by decide) ?_
    refine V_istore X [(6, .int 0), (5, .int 2), (4, .int (-1)), (3, .int 0), (2, .int x2), (0, .ref (zad y (0, 32, 0))), (1, .int a1)] dX12_read_23 (by decide) rfl ?_
    refine V_sub X [5, 6, 4, 3, 2, 1, 0] (lv' := [(0, .ref (zad y (0, 32, 0))), (1, .int a1), (2, .int x2), (3, .int 0), (4, .int (-1)), (5, .int 2), (6, .int 0)]) rfl ?_
    obtain ⟨x9, x10, hl, h⟩ := bd2_some h
    have hk : V X μ3 80 [(1, .int a1), (3, .int x9), (4, .int x10)] [] := by
      clear hl
      refine V_iload_n X 0 dX12_read_80 rfl rfl ?_
      obtain ⟨x21, h1, h⟩ := zl1_some h
      have hk : V X μ3 90 [] [.int x21] := by
        clear h1
        exact V_iretW X h dX12_read_90
      replace h := h1
      clear h1
      refine V_if_eq X (tgt := 89) dX12_read_81 (by decide) (fun b20 => ?_) (fun b20 => ?_)
      · replace h := (if_pos b20).symm.trans h
        refine V_iload_n X 1 dX12_read_89 rfl rfl ?_
        refine V_sub X [] (lv' := []) rfl ?_
        obtain rfl := pr1 h
        exact hk
      · replace h := (if_neg b20).symm.trans h
        refine V_iload X 2 dX12_read_84 rfl ?_
        refine V_goto X (tgt := 90) dX12_read_86 (by decide) ?_
        refine V_sub X [] (lv' := []) rfl ?_
        obtain rfl := pr1 h
        exact hk
    refine lp_ind (P := fun q => V X μ3 25 [(0, .ref (zad y (0, 32, 0))), (1, .int a1), (2, .int x2), (3, .int q.1), (4, .int q.2.1), (5, .int q.2.2.1), (6, .int q.2.2.2)] []) (fun q z h hz => ?_) hl
    obtain ⟨x5, x6, x7, x8⟩ := q
    replace h := un4_eq h
    show V X μ3 25 [(0, .ref (zad y (0, 32, 0))), (1, .int a1), (2, .int x2), (3, .int x5), (4, .int x6), (5, .int x7), (6, .int x8)] []
    refine V_iload X 6 dX12_read_25 rfl ?_
    refine V_sipush X 1539 dX12_read_27 (by decide) ?_
    refine V_icmp_ge X (tgt := 80) dX12_read_30 (by decide) (fun b11 => ?_) (fun b11 => ?_)
    · replace h := (if_pos b11).symm.trans h
      refine V_sub X [1, 3, 4] (lv' := [(1, .int a1), (3, .int x5), (4, .int x6)]) rfl ?_
      cases h
      obtain ⟨rfl, rfl⟩ := pr2 hz
      exact hk
    · replace h := (if_neg b11).symm.trans h
      refine V_aload_n X 0 dX12_read_33 rfl rfl ?_
      refine V_iload X 6 dX12_read_34 rfl ?_
      refine V_iload_n X 2 dX12_read_36 rfl rfl ?_
      obtain ⟨x13, c12, h⟩ := bd_some h
      refine V_callVi X (As := [.int x8, .int x2]) (M_X12_wrongReads c12) (cwV 2 X.2.2.2.2.2.2.1 (gV wm_RX12_395 wi_X12_wrongReads wse_X12_wrongReads win_RX12 wc_X12_wrongReads) rfl rfl rfl hd_X12_wrongReads ⟨Nat.le_of_ble_eq_true rfl, Nat.le_of_ble_eq_true rfl⟩) (b := (0, 32, 0)) ⟨by decide, rfl⟩ rfl rfl rfl rfl (Nat.le_of_ble_eq_true rfl) dX12_read_37 rfl ?_
      refine V_istore X [(7, .int x13), (0, .ref (zad y (0, 32, 0))), (1, .int a1), (2, .int x2), (3, .int x5), (4, .int x6), (5, .int x7), (6, .int x8)] dX12_read_40 (by decide) rfl ?_
      refine V_iload_n X 4 dX12_read_42 rfl rfl ?_
      refine V_iload X 0 dX12_read_43 rfl ?_
      refine V_iconst X 2 dX12_read_45 (by decide) ?_
      obtain ⟨x15, h1, h⟩ := zl1_some h
      have hk : V X μ3 54 [(0, .ref (zad y (0, 32, 0))), (1, .int a1), (2, .int x2), (4, .int x6), (5, .int x7), (6, .int x8), (7, .int x13)] [.int x15, .int x5] := by
        clear h1
        refine V_iadd X dX12_read_54 ?_
        refine V_istore_n X [(3, .int (x5 + x15)), (0, .ref (zad y (0, 32, 0))), (1, .int a1), (2, .int x2), (4, .int x6), (5, .int x7), (6, .int x8), (7, .int x13)] dX12_read_55 rfl (by decide) rfl ?_
        refine zlt_el (P := fun (x16 : Int32) => V X μ3 56 [(3, .int x16), (0, .ref (zad y (0, 32, 0))), (1, .int a1), (2, .int x2), (4, .int x6), (5, .int x7), (6, .int x8), (7, .int x13)] []) h (fun x16 h => ?_)
        refine V_iload X 7 dX12_read_56 rfl ?_
        refine V_iload X 5 dX12_read_58 rfl ?_
        obtain ⟨x18, x19, h1, h⟩ := zl2_some h
        have hk : V X μ3 74 [(0, .ref (zad y (0, 32, 0))), (1, .int a1), (2, .int x2), (3, .int x16), (4, .int x18), (5, .int x19), (6, .int x8)] [] := by
          clear h1
          refine V_inc X 6 1 [(6, .int (x8 + 1)), (0, .ref (zad y (0, 32, 0))), (1, .int a1), (2, .int x2), (3, .int x16), (4, .int x18), (5, .int x19)] dX12_read_74 rfl (by decide) (by decide) rfl ?_
          refine V_goto X (tgt := 25) dX12_read_77 (by decide) ?_
          refine V_sub X [1, 2, 3, 4, 5, 6, 0] (lv' := [(0, .ref (zad y (0, 32, 0))), (1, .int a1), (2, .int x2), (3, .int x16), (4, .int x18), (5, .int x19), (6, .int (x8 + 1))]) rfl ?_
          cases h
          exact hz
        replace h := h1
        clear h1
        refine V_icmp_lt X (tgt := 66) dX12_read_60 (by decide) (fun b17 => ?_) (fun b17 => ?_)
        · replace h := (if_pos b17).symm.trans h
          refine V_iload X 7 dX12_read_66 rfl ?_
          refine V_istore X [(5, .int x13), (3, .int x16), (0, .ref (zad y (0, 32, 0))), (1, .int a1), (2, .int x2), (4, .int x6), (6, .int x8), (7, .int x13)] dX12_read_68 (by decide) rfl ?_
          refine V_iload X 6 dX12_read_70 rfl ?_
          refine V_istore X [(4, .int x8), (5, .int x13), (3, .int x16), (0, .ref (zad y (0, 32, 0))), (1, .int a1), (2, .int x2), (6, .int x8), (7, .int x13)] dX12_read_72 (by decide) rfl ?_
          refine V_sub X [3, 4, 5, 2, 0, 1, 6] (lv' := [(0, .ref (zad y (0, 32, 0))), (1, .int a1), (2, .int x2), (3, .int x16), (4, .int x8), (5, .int x13), (6, .int x8)]) rfl ?_
          obtain ⟨rfl, rfl⟩ := pr2 h
          exact hk
        · replace h := (if_neg b17).symm.trans h
          refine V_goto X (tgt := 74) dX12_read_63 (by decide) ?_
          refine V_sub X [1, 2, 3, 0, 4, 5, 6] (lv' := [(0, .ref (zad y (0, 32, 0))), (1, .int a1), (2, .int x2), (3, .int x16), (4, .int x6), (5, .int x7), (6, .int x8)]) rfl ?_
          obtain ⟨rfl, rfl⟩ := pr2 h
          exact hk
      replace h := h1
      clear h1
      refine V_icmp_ge X (tgt := 53) dX12_read_46 (by decide) (fun b14 => ?_) (fun b14 => ?_)
      · replace h := (if_pos b14).symm.trans h
        refine V_iconst X 0 dX12_read_53 (by decide) ?_
        refine V_sub X [1, 2, 3, 5, 6, 7, 0] (lv' := [(0, .ref (zad y (0, 32, 0))), (1, .int a1), (2, .int x2), (4, .int x6), (5, .int x7), (6, .int x8), (7, .int x13)]) rfl ?_
        obtain rfl := pr1 h
        exact hk
      · replace h := (if_neg b14).symm.trans h
        refine V_iconst X 1 dX12_read_49 (by decide) ?_
        refine V_goto X (tgt := 54) dX12_read_50 (by decide) ?_
        refine V_sub X [1, 2, 3, 5, 6, 7, 0] (lv' := [(0, .ref (zad y (0, 32, 0))), (1, .int a1), (2, .int x2), (4, .int x6), (5, .int x7), (6, .int x8), (7, .int x13)]) rfl ?_
        obtain rfl := pr1 h
        exact hk
  · replace h := (if_neg b4).symm.trans h
    refine V_iconst X 0 dX12_read_12 (by decide) ?_
    exact V_iretW X h dX12_read_13

def f_X12_when (μ : ZMem) : Option (Int32 × ZMem) := bd2 (f_X12_readMany μ) (fun (x2 : Int32) (μ3 : ZMem) => if (μ3 (0, 32, 0) 0) ≤ 0 then bd2 (lp (σ := Int32 × Int32 × Int32 × ZMem) (fun q => un4 q (fun (x5 : Int32) (x6 : Int32) (x7 : Int32) (μ8 : ZMem) => if 10 ≤ x7 then some (.inr (x5, μ8)) else bd (lp (σ := Int32 × ZMem) (fun q => un2 q (fun (x12 : Int32) (μ13 : ZMem) => if 243 ≤ x12 then some (.inr μ13) else gd (zin x12 243) (zlt (mset μ13 (0, 47, 0) x12.toNatClampNeg 0) (fun (μ17 : ZMem) => some (.inl ((x12 + 1), μ17)))))) FU (0, μ8)) (fun (μ14 : ZMem) => bd3 (lp (σ := Int32 × Int32 × Int32 × ZMem) (fun q => un4 q (fun (x18 : Int32) (x19 : Int32) (x20 : Int32) (μ21 : ZMem) => if 1539 ≤ x20 then some (.inr (x18, x19, μ21)) else bd (f_X12_wrongReads x20 x2 μ21) (fun (x27 : Int32) => bd3 (α := Int32) (β := Int32) (γ := ZMem) (if x27 ≤ 1 then zlt ((f_X12_clockOf x20 x7) + 121) (fun (x32 : Int32) => gd (zin x32 243) (zlt (mset μ21 (0, 47, 0) x32.toNatClampNeg ((μ21 (0, 47, 0) x32.toNatClampNeg) + 1)) (fun (μ34 : ZMem) => zlt (f_X12_greater x19 (μ34 (0, 47, 0) x32.toNatClampNeg)) (fun (x35 : Int32) => some ((x18 + 1), x35, μ34))))) else some (x18, x19, μ21)) (fun (x29 : Int32) (x30 : Int32) (μ31 : ZMem) => some (.inl (x29, x30, (x20 + 1), μ31)))))) FU (0, 0, 0, μ14)) (fun (x22 : Int32) (x23 : Int32) (μ24 : ZMem) => zl2 (α := Int32) (β := Int32) (if x22 < 2 then (x5, x6) else if x23 < x6 then (x7, x23) else (x5, x6)) (fun (x37 : Int32) (x38 : Int32) => some (.inl (x37, x38, (x7 + 1), μ24))))))) FU ((-1), 2000000000, 0, μ3)) (fun (x9 : Int32) (μ10 : ZMem) => some (x9, μ10)) else some (0, μ3))
set_option maxRecDepth 100000 in
set_option maxHeartbeats 4000000 in
theorem M_X12_when {l : Launch} {D : va_G} {y : ZLay}   {μ : ZMem} {r : Int32} {μ0 : ZMem} (h : f_X12_when μ = some (r, μ0)) : MI l yX12_when wb_X12_when rm_X12_when D y [.ref (zad y (0, 32, 0))] μ r μ0 := by
  unfold f_X12_when at h
  refine MI_of RX12 [(0, .ref (zad y (0, 32, 0)))] (by decide) rfl rfl (Nat.le_of_ble_eq_true rfl) rfl ?_
  intro p e s m args below meth c A X
  refine V_aload_n X 0 dX12_when_0 rfl rfl ?_
  obtain ⟨x2, μ3, c1, h⟩ := bd2_some h
  refine V_callVi X (As := []) (M_X12_readMany c1) (cwV 0 X.2.2.2.2.2.2.1 (gV wm_RX12_392 wi_X12_readMany wse_X12_readMany win_RX12 wc_X12_readMany) rfl rfl rfl hd_X12_readMany ⟨Nat.le_of_ble_eq_true rfl, Nat.le_of_ble_eq_true rfl⟩) (b := (0, 32, 0)) ⟨by decide, rfl⟩ rfl rfl rfl rfl (Nat.le_of_ble_eq_true rfl) dX12_when_1 rfl ?_
  refine V_istore_n X [(1, .int x2), (0, .ref (zad y (0, 32, 0)))] dX12_when_4 rfl (by decide) rfl ?_
  refine V_aload_n X 1 dX12_when_5 rfl rfl ?_
  refine V_geti X (o := (0, 32, 0)) (ci := 12) (k := 0) (N := 30) (T := TX12) (C := RX12) ⟨by decide, rfl⟩ rfl rfl rfl (by decide) (mBa inB_X12) (mB wl_RX12_59) dX12_when_6 ?_
  refine V_if_le X (tgt := 14) dX12_when_9 (by decide) (fun b4 => ?_) (fun b4 => ?_)
  · replace h := (if_pos b4).symm.trans h
    refine V_iconst X (-1) dX12_when_14 (by decide) ?_
    refine V_istore_n X [(2, .int (-1)), (1, .int x2), (0, .ref (zad y (0, 32, 0)))] dX12_when_15 rfl (by decide) rfl ?_
    refine V_ldcw X (ix := 339) (v := 2000000000) (mB wk_RX12_339) dX12_when_16 ?_
    refine V_istore_n X [(3, .int 2000000000), (2, .int (-1)), (1, .int x2), (0, .ref (zad y (0, 32, 0)))] dX12_when_19 rfl (by decide) rfl ?_
    refine V_iconst X 0 dX12_when_20 (by decide) ?_
    refine V_istore X [(4, .int 0), (3, .int 2000000000), (2, .int (-1)), (1, .int x2), (0, .ref (zad y (0, 32, 0)))] dX12_when_21 (by decide) rfl ?_
    refine V_sub X [4, 3, 2, 1, 0] (lv' := [(0, .ref (zad y (0, 32, 0))), (1, .int x2), (2, .int (-1)), (3, .int 2000000000), (4, .int 0)]) rfl ?_
    obtain ⟨x9, μ10, hl, h⟩ := bd2_some h
    have hk : V X μ10 159 [(2, .int x9)] [] := by
      clear hl
      refine V_iload_n X 0 dX12_when_159 rfl rfl ?_
      exact V_iretW X h dX12_when_160
    refine lp_ind (P := fun q => V X q.2.2.2 23 [(0, .ref (zad y (0, 32, 0))), (1, .int x2), (2, .int q.1), (3, .int q.2.1), (4, .int q.2.2.1)] []) (fun q z h hz => ?_) hl
    obtain ⟨x5, x6, x7, μ8⟩ := q
    replace h := un4_eq h
    show V X μ8 23 [(0, .ref (zad y (0, 32, 0))), (1, .int x2), (2, .int x5), (3, .int x6), (4, .int x7)] []
    refine V_iload X 4 dX12_when_23 rfl ?_
    refine V_bipush X 10 dX12_when_25 (by decide) ?_
    refine V_icmp_ge X (tgt := 159) dX12_when_27 (by decide) (fun b11 => ?_) (fun b11 => ?_)
    · replace h := (if_pos b11).symm.trans h
      refine V_sub X [2] (lv' := [(2, .int x5)]) rfl ?_
      cases h
      obtain ⟨rfl, rfl⟩ := pr2 hz
      exact hk
    · replace h := (if_neg b11).symm.trans h
      refine V_iconst X 0 dX12_when_30 (by decide) ?_
      refine V_istore X [(5, .int 0), (0, .ref (zad y (0, 32, 0))), (1, .int x2), (2, .int x5), (3, .int x6), (4, .int x7)] dX12_when_31 (by decide) rfl ?_
      refine V_sub X [1, 2, 3, 4, 5, 0] (lv' := [(0, .ref (zad y (0, 32, 0))), (1, .int x2), (2, .int x5), (3, .int x6), (4, .int x7), (5, .int 0)]) rfl ?_
      obtain ⟨μ14, hl, h⟩ := bd_some h
      have hk : V X μ14 55 [(0, .ref (zad y (0, 32, 0))), (1, .int x2), (2, .int x5), (3, .int x6), (4, .int x7)] [] := by
        clear hl
        refine V_iconst X 0 dX12_when_55 (by decide) ?_
        refine V_istore X [(5, .int 0), (0, .ref (zad y (0, 32, 0))), (1, .int x2), (2, .int x5), (3, .int x6), (4, .int x7)] dX12_when_56 (by decide) rfl ?_
        refine V_iconst X 0 dX12_when_58 (by decide) ?_
        refine V_istore X [(6, .int 0), (5, .int 0), (0, .ref (zad y (0, 32, 0))), (1, .int x2), (2, .int x5), (3, .int x6), (4, .int x7)] dX12_when_59 (by decide) rfl ?_
        refine V_iconst X 0 dX12_when_61 (by decide) ?_
        refine V_istore X [(7, .int 0), (6, .int 0), (5, .int 0), (0, .ref (zad y (0, 32, 0))), (1, .int x2), (2, .int x5), (3, .int x6), (4, .int x7)] dX12_when_62 (by decide) rfl ?_
        refine V_sub X [3, 4, 5, 6, 7, 2, 1, 0] (lv' := [(0, .ref (zad y (0, 32, 0))), (1, .int x2), (2, .int x5), (3, .int x6), (4, .int x7), (5, .int 0), (6, .int 0), (7, .int 0)]) rfl ?_
        obtain ⟨x22, x23, μ24, hl, h⟩ := bd3_some h
        have hk : V X μ24 132 [(0, .ref (zad y (0, 32, 0))), (1, .int x2), (2, .int x5), (3, .int x6), (4, .int x7), (5, .int x22), (6, .int x23)] [] := by
          clear hl
          refine V_iload X 5 dX12_when_132 rfl ?_
          refine V_iconst X 2 dX12_when_134 (by decide) ?_
          obtain ⟨x37, x38, h1, h⟩ := zl2_some h
          have hk : V X μ24 153 [(0, .ref (zad y (0, 32, 0))), (1, .int x2), (2, .int x37), (3, .int x38), (4, .int x7)] [] := by
            clear h1
            refine V_inc X 4 1 [(4, .int (x7 + 1)), (0, .ref (zad y (0, 32, 0))), (1, .int x2), (2, .int x37), (3, .int x38)] dX12_when_153 rfl (by decide) (by decide) rfl ?_
            refine V_goto X (tgt := 23) dX12_when_156 (by decide) ?_
            refine V_sub X [1, 2, 3, 4, 0] (lv' := [(0, .ref (zad y (0, 32, 0))), (1, .int x2), (2, .int x37), (3, .int x38), (4, .int (x7 + 1))]) rfl ?_
            cases h
            exact hz
          replace h := h1
          clear h1
          refine V_icmp_lt X (tgt := 153) dX12_when_135 (by decide) (fun b36 => ?_) (fun b36 => ?_)
          · replace h := (if_pos b36).symm.trans h
            refine V_sub X [0, 1, 2, 3, 4] (lv' := [(0, .ref (zad y (0, 32, 0))), (1, .int x2), (2, .int x5), (3, .int x6), (4, .int x7)]) rfl ?_
            obtain ⟨rfl, rfl⟩ := pr2 h
            exact hk
          · replace h := (if_neg b36).symm.trans h
            refine V_iload X 6 dX12_when_138 rfl ?_
            refine V_iload_n X 3 dX12_when_140 rfl rfl ?_
            refine V_icmp_lt X (tgt := 147) dX12_when_141 (by decide) (fun b39 => ?_) (fun b39 => ?_)
            · replace h := (if_pos b39).symm.trans h
              refine V_iload X 6 dX12_when_147 rfl ?_
              refine V_istore_n X [(3, .int x23), (0, .ref (zad y (0, 32, 0))), (1, .int x2), (2, .int x5), (4, .int x7), (5, .int x22), (6, .int x23)] dX12_when_149 rfl (by decide) rfl ?_
              refine V_iload X 4 dX12_when_150 rfl ?_
              refine V_istore_n X [(2, .int x7), (3, .int x23), (0, .ref (zad y (0, 32, 0))), (1, .int x2), (4, .int x7), (5, .int x22), (6, .int x23)] dX12_when_152 rfl (by decide) rfl ?_
              refine V_sub X [2, 3, 0, 1, 4] (lv' := [(0, .ref (zad y (0, 32, 0))), (1, .int x2), (2, .int x7), (3, .int x23), (4, .int x7)]) rfl ?_
              obtain ⟨rfl, rfl⟩ := pr2 h
              exact hk
            · replace h := (if_neg b39).symm.trans h
              refine V_goto X (tgt := 153) dX12_when_144 (by decide) ?_
              refine V_sub X [0, 1, 2, 3, 4] (lv' := [(0, .ref (zad y (0, 32, 0))), (1, .int x2), (2, .int x5), (3, .int x6), (4, .int x7)]) rfl ?_
              obtain ⟨rfl, rfl⟩ := pr2 h
              exact hk
        refine lp_ind (P := fun q => V X q.2.2.2 64 [(0, .ref (zad y (0, 32, 0))), (1, .int x2), (2, .int x5), (3, .int x6), (4, .int x7), (5, .int q.1), (6, .int q.2.1), (7, .int q.2.2.1)] []) (fun q z h hz => ?_) hl
        obtain ⟨x18, x19, x20, μ21⟩ := q
        replace h := un4_eq h
        show V X μ21 64 [(0, .ref (zad y (0, 32, 0))), (1, .int x2), (2, .int x5), (3, .int x6), (4, .int x7), (5, .int x18), (6, .int x19), (7, .int x20)] []
        refine V_iload X 7 dX12_when_64 rfl ?_
        refine V_sipush X 1539 dX12_when_66 (by decide) ?_
        refine V_icmp_ge X (tgt := 132) dX12_when_69 (by decide) (fun b25 => ?_) (fun b25 => ?_)
        · replace h := (if_pos b25).symm.trans h
          refine V_sub X [0, 1, 2, 3, 4, 5, 6] (lv' := [(0, .ref (zad y (0, 32, 0))), (1, .int x2), (2, .int x5), (3, .int x6), (4, .int x7), (5, .int x18), (6, .int x19)]) rfl ?_
          cases h
          obtain ⟨rfl, rfl, rfl⟩ := pr3 hz
          exact hk
        · replace h := (if_neg b25).symm.trans h
          refine V_aload_n X 0 dX12_when_72 rfl rfl ?_
          refine V_iload X 7 dX12_when_73 rfl ?_
          refine V_iload_n X 1 dX12_when_75 rfl rfl ?_
          obtain ⟨x27, c26, h⟩ := bd_some h
          refine V_callVi X (As := [.int x20, .int x2]) (M_X12_wrongReads c26) (cwV 2 X.2.2.2.2.2.2.1 (gV wm_RX12_395 wi_X12_wrongReads wse_X12_wrongReads win_RX12 wc_X12_wrongReads) rfl rfl rfl hd_X12_wrongReads ⟨Nat.le_of_ble_eq_true rfl, Nat.le_of_ble_eq_true rfl⟩) (b := (0, 32, 0)) ⟨by decide, rfl⟩ rfl rfl rfl rfl (Nat.le_of_ble_eq_true rfl) dX12_when_76 rfl ?_
          refine V_iconst X 1 dX12_when_79 (by decide) ?_
          obtain ⟨x29, x30, μ31, h1, h⟩ := bd3_some h
          have hk : V X μ31 126 [(0, .ref (zad y (0, 32, 0))), (1, .int x2), (2, .int x5), (3, .int x6), (4, .int x7), (5, .int x29), (6, .int x30), (7, .int x20)] [] := by
            clear h1
            refine V_inc X 7 1 [(7, .int (x20 + 1)), (0, .ref (zad y (0, 32, 0))), (1, .int x2), (2, .int x5), (3, .int x6), (4, .int x7), (5, .int x29), (6, .int x30)] dX12_when_126 rfl (by decide) (by decide) rfl ?_
            refine V_goto X (tgt := 64) dX12_when_129 (by decide) ?_
            refine V_sub X [1, 2, 3, 4, 5, 6, 7, 0] (lv' := [(0, .ref (zad y (0, 32, 0))), (1, .int x2), (2, .int x5), (3, .int x6), (4, .int x7), (5, .int x29), (6, .int x30), (7, .int (x20 + 1))]) rfl ?_
            cases h
            exact hz
          replace h := h1
          clear h1
          refine V_icmp_le X (tgt := 86) dX12_when_80 (by decide) (fun b28 => ?_) (fun b28 => ?_)
          · replace h := (if_pos b28).symm.trans h
            refine V_iload X 7 dX12_when_86 rfl ?_
            refine V_iload X 4 dX12_when_88 rfl ?_
            refine V_callSi X (As := [.int x20, .int x7]) (M_X12_clockOf) (va_cwS 2 X.2.2.2.2.2.2.1 (gS wm_RX12_389 wst_X12_clockOf win_RX12 wc_X12_clockOf) rfl rfl rfl hd_X12_clockOf.2 ⟨Nat.le_of_ble_eq_true rfl, Nat.le_of_ble_eq_true rfl⟩) rfl (Nat.le_of_ble_eq_true rfl) dX12_when_90 rfl ?_
            refine V_bipush X 121 dX12_when_93 (by decide) ?_
            refine V_iadd X dX12_when_95 ?_
            refine V_istore X [(8, .int ((f_X12_clockOf x20 x7) + 121)), (0, .ref (zad y (0, 32, 0))), (1, .int x2), (2, .int x5), (3, .int x6), (4, .int x7), (5, .int x18), (6, .int x19), (7, .int x20)] dX12_when_96 (by decide) rfl ?_
            refine zlt_el (P := fun (x32 : Int32) => V X μ21 98 [(8, .int x32), (0, .ref (zad y (0, 32, 0))), (1, .int x2), (2, .int x5), (3, .int x6), (4, .int x7), (5, .int x18), (6, .int x19), (7, .int x20)] []) h (fun x32 h => ?_)
            refine V_aload_n X 1 dX12_when_98 rfl rfl ?_
            refine V_getr X (o := (0, 32, 0)) (i := (0, 47, 0)) (ci := 12) (k := 29) (N := 30) (T := TX12) (C := RX12) ⟨by decide, rfl⟩ rfl rfl rfl (by decide) (mBa inB_X12) (mB wl_RX12_56) dX12_when_99 ?_
            refine V_iload X 0 dX12_when_102 rfl ?_
            refine V_dup2 X dX12_when_104 rfl rfl ?_
            obtain ⟨g33, h⟩ := gd_some h
            refine V_iald X x32.toNatClampNeg rfl (o := (0, 47, 0)) (n := 243) ⟨by decide, rfl⟩ rfl rfl g33 dX12_when_105 ?_
            refine V_iconst X 1 dX12_when_106 (by decide) ?_
            refine V_iadd X dX12_when_107 ?_
            refine V_iast X x32.toNatClampNeg rfl (o := (0, 47, 0)) (n := 243) ⟨by decide, rfl⟩ rfl rfl g33 dX12_when_108 ?_
            refine zlt_el (P := fun (μ34 : ZMem) => V X μ34 109 [(8, .int x32), (0, .ref (zad y (0, 32, 0))), (1, .int x2), (2, .int x5), (3, .int x6), (4, .int x7), (5, .int x18), (6, .int x19), (7, .int x20)] []) h (fun μ34 h => ?_)
            refine V_inc X 6 1 [(5, .int (x18 + 1)), (8, .int x32), (0, .ref (zad y (0, 32, 0))), (1, .int x2), (2, .int x5), (3, .int x6), (4, .int x7), (6, .int x19), (7, .int x20)] dX12_when_109 rfl (by decide) (by decide) rfl ?_
            refine V_iload X 7 dX12_when_112 rfl ?_
            refine V_aload_n X 2 dX12_when_114 rfl rfl ?_
            refine V_getr X (o := (0, 32, 0)) (i := (0, 47, 0)) (ci := 12) (k := 29) (N := 30) (T := TX12) (C := RX12) ⟨by decide, rfl⟩ rfl rfl rfl (by decide) (mBa inB_X12) (mB wl_RX12_56) dX12_when_115 ?_
            refine V_iload X 1 dX12_when_118 rfl ?_
            refine V_iald X x32.toNatClampNeg rfl (o := (0, 47, 0)) (n := 243) ⟨by decide, rfl⟩ rfl rfl g33 dX12_when_120 ?_
            refine V_callSi X (As := [.int x19, .int (μ34 (0, 47, 0) x32.toNatClampNeg)]) (M_X12_greater) (va_cwS 2 X.2.2.2.2.2.2.1 (gS wm_RX12_73 wst_X12_greater win_RX12 wc_X12_greater) rfl rfl rfl hd_X12_greater.2 ⟨Nat.le_of_ble_eq_true rfl, Nat.le_of_ble_eq_true rfl⟩) rfl (Nat.le_of_ble_eq_true rfl) dX12_when_121 rfl ?_
            refine V_istore X [(6, .int (f_X12_greater x19 (μ34 (0, 47, 0) x32.toNatClampNeg))), (5, .int (x18 + 1)), (8, .int x32), (0, .ref (zad y (0, 32, 0))), (1, .int x2), (2, .int x5), (3, .int x6), (4, .int x7), (7, .int x20)] dX12_when_124 (by decide) rfl ?_
            refine zlt_el (P := fun (x35 : Int32) => V X μ34 126 [(6, .int x35), (5, .int (x18 + 1)), (8, .int x32), (0, .ref (zad y (0, 32, 0))), (1, .int x2), (2, .int x5), (3, .int x6), (4, .int x7), (7, .int x20)] []) h (fun x35 h => ?_)
            refine V_sub X [3, 4, 5, 6, 7, 1, 0, 8] (lv' := [(0, .ref (zad y (0, 32, 0))), (1, .int x2), (2, .int x5), (3, .int x6), (4, .int x7), (5, .int (x18 + 1)), (6, .int x35), (7, .int x20)]) rfl ?_
            obtain ⟨rfl, rfl, rfl⟩ := so3 h
            exact hk
          · replace h := (if_neg b28).symm.trans h
            refine V_goto X (tgt := 126) dX12_when_83 (by decide) ?_
            obtain ⟨rfl, rfl, rfl⟩ := so3 h
            exact hk
      refine lp_ind (P := fun q => V X q.2 33 [(0, .ref (zad y (0, 32, 0))), (1, .int x2), (2, .int x5), (3, .int x6), (4, .int x7), (5, .int q.1)] []) (fun q z h hz => ?_) hl
      obtain ⟨x12, μ13⟩ := q
      replace h := un2_eq h
      show V X μ13 33 [(0, .ref (zad y (0, 32, 0))), (1, .int x2), (2, .int x5), (3, .int x6), (4, .int x7), (5, .int x12)] []
      refine V_iload X 5 dX12_when_33 rfl ?_
      refine V_sipush X 243 dX12_when_35 (by decide) ?_
      refine V_icmp_ge X (tgt := 55) dX12_when_38 (by decide) (fun b15 => ?_) (fun b15 => ?_)
      · replace h := (if_pos b15).symm.trans h
        refine V_sub X [0, 1, 2, 3, 4] (lv' := [(0, .ref (zad y (0, 32, 0))), (1, .int x2), (2, .int x5), (3, .int x6), (4, .int x7)]) rfl ?_
        cases h
        obtain rfl := pr1 hz
        exact hk
      · replace h := (if_neg b15).symm.trans h
        refine V_aload_n X 0 dX12_when_41 rfl rfl ?_
        refine V_getr X (o := (0, 32, 0)) (i := (0, 47, 0)) (ci := 12) (k := 29) (N := 30) (T := TX12) (C := RX12) ⟨by decide, rfl⟩ rfl rfl rfl (by decide) (mBa inB_X12) (mB wl_RX12_56) dX12_when_42 ?_
        refine V_iload X 5 dX12_when_45 rfl ?_
        refine V_iconst X 0 dX12_when_47 (by decide) ?_
        obtain ⟨g16, h⟩ := gd_some h
        refine V_iast X x12.toNatClampNeg rfl (o := (0, 47, 0)) (n := 243) ⟨by decide, rfl⟩ rfl rfl g16 dX12_when_48 ?_
        refine zlt_el (P := fun (μ17 : ZMem) => V X μ17 49 [(0, .ref (zad y (0, 32, 0))), (1, .int x2), (2, .int x5), (3, .int x6), (4, .int x7), (5, .int x12)] []) h (fun μ17 h => ?_)
        refine V_inc X 5 1 [(5, .int (x12 + 1)), (0, .ref (zad y (0, 32, 0))), (1, .int x2), (2, .int x5), (3, .int x6), (4, .int x7)] dX12_when_49 rfl (by decide) (by decide) rfl ?_
        refine V_goto X (tgt := 33) dX12_when_52 (by decide) ?_
        refine V_sub X [1, 2, 3, 4, 5, 0] (lv' := [(0, .ref (zad y (0, 32, 0))), (1, .int x2), (2, .int x5), (3, .int x6), (4, .int x7), (5, .int (x12 + 1))]) rfl ?_
        cases h
        exact hz
  · replace h := (if_neg b4).symm.trans h
    refine V_iconst X 0 dX12_when_12 (by decide) ?_
    exact V_iretW X h dX12_when_13

def f_X12_wouldHear (a0 : Int32) (a1 : Int32) (a2 : Int32) : Option (Int32) := bd (α := Int32) (jk (some 0) (fun k3 => if a0 = (1 + a1) then k3 else if a0 = (9 + a2) then k3 else some 1)) (fun (x2 : Int32) => gd (zbo x2) (some x2))
set_option maxRecDepth 100000 in
set_option maxHeartbeats 4000000 in
theorem M_X12_wouldHear {l : Launch} {D : va_G} {y : ZLay} {a0 : Int32} {a1 : Int32} {a2 : Int32}  {μ : ZMem} {r : Int32} (h : f_X12_wouldHear a0 a1 a2 = some r) : MI l yX12_wouldHear wb_X12_wouldHear rm_X12_wouldHear D y [.int a0, .int a1, .int a2] μ r μ := by
  unfold f_X12_wouldHear at h
  refine MI_of RX12 [(0, .int a0), (1, .int a1), (2, .int a2)] (by decide) rfl rfl (Nat.le_of_ble_eq_true rfl) rfl ?_
  intro p e s m args below meth c A X
  refine V_iload_n X 0 dX12_wouldHear_0 rfl rfl ?_
  refine V_iconst X 1 dX12_wouldHear_1 (by decide) ?_
  refine V_iload_n X 1 dX12_wouldHear_2 rfl rfl ?_
  refine V_iadd X dX12_wouldHear_3 ?_
  obtain ⟨x2, h1, h⟩ := bd_some h
  have hk : V X μ 20 [] [.int x2] := by
    clear h1
    obtain ⟨hzb, h⟩ := gd_some h
    exact V_zretR X h hzb dX12_wouldHear_20
  replace h := h1
  clear h1
  refine jk0_el (P := V X μ 19 [] []) h (fun h => ?_) (fun k3 hk3 h => ?_)
  · refine V_iconst X 0 dX12_wouldHear_19 (by decide) ?_
    obtain rfl := so1 h
    exact hk
  · refine V_icmp_eq X (tgt := 19) dX12_wouldHear_4 (by decide) (fun b1 => ?_) (fun b1 => ?_)
    · replace h := (if_pos b1).symm.trans h
      refine V_sub X [] (lv' := []) rfl ?_
      exact hk3 h
    · replace h := (if_neg b1).symm.trans h
      refine V_iload_n X 0 dX12_wouldHear_7 rfl rfl ?_
      refine V_bipush X 9 dX12_wouldHear_8 (by decide) ?_
      refine V_iload_n X 2 dX12_wouldHear_10 rfl rfl ?_
      refine V_iadd X dX12_wouldHear_11 ?_
      refine V_icmp_eq X (tgt := 19) dX12_wouldHear_12 (by decide) (fun b4 => ?_) (fun b4 => ?_)
      · replace h := (if_pos b4).symm.trans h
        refine V_sub X [] (lv' := []) rfl ?_
        exact hk3 h
      · replace h := (if_neg b4).symm.trans h
        refine V_iconst X 1 dX12_wouldHear_15 (by decide) ?_
        refine V_goto X (tgt := 20) dX12_wouldHear_16 (by decide) ?_
        refine V_sub X [] (lv' := []) rfl ?_
        obtain rfl := so1 h
        exact hk

