def f_X4_readAllLines (μ : ZMem) : Option (ZMem) := zlt (mset μ (0, 24, 0) 5 0) (fun (μ1 : ZMem) => zlt (mset μ1 (0, 24, 0) 6 0) (fun (μ2 : ZMem) => bd (f_X8_isAt 3001 μ2) (fun (x4 : Int32) => if x4 = 0 then bd (lp (σ := Int32 × ZMem) (fun q => un2 q (fun (x6 : Int32) (μ7 : ZMem) => if 12 ≤ x6 then some (.inr (.inl μ7)) else bd (f_X4_readLine x6 μ7) (fun (μ11 : ZMem) => bd2 (f_X8_takes 2059 μ11) (fun (x13 : Int32) (μ14 : ZMem) => if x13 = 0 then bd (f_X8_isAt 3001 μ14) (fun (x17 : Int32) => bd (α := ZMem) (if x17 = 0 then bd (f_X8_fail μ14) (fun (μ21 : ZMem) => some μ21) else some μ14) (fun (μ19 : ZMem) => some (.inr (.inr μ19)))) else some (.inl ((x6 + 1), μ14)))))) FU (0, μ2)) (fun z => sm z (fun (μ8 : ZMem) => bd (f_X8_fail μ8) (fun (μ23 : ZMem) => some μ23)) (fun r0 => some r0)) else some μ2)))
set_option maxRecDepth 100000 in
set_option maxHeartbeats 4000000 in
theorem M_X4_readAllLines {l : Launch} {D : va_G} {y : ZLay}   {μ : ZMem} {μ0 : ZMem} (h : f_X4_readAllLines μ = some μ0) : MV l yX4_readAllLines wb_X4_readAllLines rm_X4_readAllLines D y [.ref (zad y (0, 24, 0))] μ μ0 := by
  unfold f_X4_readAllLines at h
  refine MV_of RX4 [(0, .ref (zad y (0, 24, 0)))] (by decide) rfl rfl (Nat.le_of_ble_eq_true rfl) rfl ?_
  intro p e s m args below meth c A X
  refine V_aload_n X 0 dX4_readAllLines_0 rfl rfl ?_
  refine V_iconst X 0 dX4_readAllLines_1 (by decide) ?_
  refine V_puti X tyX4 .int (o := (0, 24, 0)) (ci := 4) (k := 5) (N := 7) (T := TX4) (C := RX4) ⟨by decide, rfl⟩ rfl rfl rfl (by decide) (mBa inB_X4) tyX4_ok nmX4 (mB wl_RX4_30) rfl rfl rfl rfl dX4_readAllLines_2 ?_
  refine zlt_el (P := fun (μ1 : ZMem) => V X μ1 5 [(0, .ref (zad y (0, 24, 0)))] []) h (fun μ1 h => ?_)
  refine V_aload_n X 0 dX4_readAllLines_5 rfl rfl ?_
  refine V_iconst X 0 dX4_readAllLines_6 (by decide) ?_
  refine V_puti X tyX4 .int (o := (0, 24, 0)) (ci := 4) (k := 6) (N := 7) (T := TX4) (C := RX4) ⟨by decide, rfl⟩ rfl rfl rfl (by decide) (mBa inB_X4) tyX4_ok nmX4 (mB wl_RX4_38) rfl rfl rfl rfl dX4_readAllLines_7 ?_
  refine zlt_el (P := fun (μ2 : ZMem) => V X μ2 10 [(0, .ref (zad y (0, 24, 0)))] []) h (fun μ2 h => ?_)
  refine V_aload_n X 0 dX4_readAllLines_10 rfl rfl ?_
  refine V_getr X (o := (0, 24, 0)) (i := (0, 20, 0)) (ci := 4) (k := 0) (N := 7) (T := TX4) (C := RX4) ⟨by decide, rfl⟩ rfl rfl rfl (by decide) (mBa inB_X4) (mB wl_RX4_24) dX4_readAllLines_11 ?_
  refine V_sipush X 3001 dX4_readAllLines_14 (by decide) ?_
  obtain ⟨x4, c3, h⟩ := bd_some h
  refine V_callVi X (As := [.int 3001]) (M_X8_isAt c3) (cwV 1 X.2.2.2.2.2.2.1 (gV wm_RX4_59 wi_X8_isAt wse_X8_isAt win_RX8 wc_X8_isAt) rfl rfl rfl hd_X8_isAt ⟨Nat.le_of_ble_eq_true rfl, Nat.le_of_ble_eq_true rfl⟩) (b := (0, 20, 0)) ⟨by decide, rfl⟩ rfl rfl rfl rfl (Nat.le_of_ble_eq_true rfl) dX4_readAllLines_17 rfl ?_
  refine V_if_eq X (tgt := 24) dX4_readAllLines_20 (by decide) (fun b5 => ?_) (fun b5 => ?_)
  · replace h := (if_pos b5).symm.trans h
    refine V_iconst X 0 dX4_readAllLines_24 (by decide) ?_
    refine V_istore_n X [(1, .int 0), (0, .ref (zad y (0, 24, 0)))] dX4_readAllLines_25 rfl (by decide) rfl ?_
    refine V_sub X [1, 0] (lv' := [(0, .ref (zad y (0, 24, 0))), (1, .int 0)]) rfl ?_
    obtain ⟨zz, hl, h⟩ := bd_some h
    have hk : ∀ (μ8 : ZMem), .inl μ8 = zz → V X μ8 77 [(0, .ref (zad y (0, 24, 0)))] [] := by
      intro μ8 hzz
      subst hzz
      clear hl
      replace h := sm_l h
      refine V_aload_n X 0 dX4_readAllLines_77 rfl rfl ?_
      refine V_getr X (o := (0, 24, 0)) (i := (0, 20, 0)) (ci := 4) (k := 0) (N := 7) (T := TX4) (C := RX4) ⟨by decide, rfl⟩ rfl rfl rfl (by decide) (mBa inB_X4) (mB wl_RX4_24) dX4_readAllLines_78 ?_
      obtain ⟨μ23, c22, h⟩ := bd_some h
      refine V_callVv X (As := []) (M_X8_fail c22) (cwV 0 X.2.2.2.2.2.2.1 (gV wm_RX4_72 wi_X8_fail wse_X8_fail win_RX8 wc_X8_fail) rfl rfl rfl hd_X8_fail ⟨Nat.le_of_ble_eq_true rfl, Nat.le_of_ble_eq_true rfl⟩) (b := (0, 20, 0)) ⟨by decide, rfl⟩ rfl rfl rfl rfl (Nat.le_of_ble_eq_true rfl) dX4_readAllLines_81 rfl ?_
      exact V_vretW X h dX4_readAllLines_84
    have hr : ∀ r0, .inr r0 = zz → some r0 = some μ0 := by
      intro r0 hzz
      subst hzz
      exact h
    refine lp_ind (P := fun q => V X q.2 26 [(0, .ref (zad y (0, 24, 0))), (1, .int q.1)] []) (fun q z h hz => ?_) hl
    obtain ⟨x6, μ7⟩ := q
    replace h := un2_eq h
    show V X μ7 26 [(0, .ref (zad y (0, 24, 0))), (1, .int x6)] []
    refine V_iload_n X 1 dX4_readAllLines_26 rfl rfl ?_
    refine V_bipush X 12 dX4_readAllLines_27 (by decide) ?_
    refine V_icmp_ge X (tgt := 77) dX4_readAllLines_29 (by decide) (fun b9 => ?_) (fun b9 => ?_)
    · replace h := (if_pos b9).symm.trans h
      refine V_sub X [0] (lv' := [(0, .ref (zad y (0, 24, 0)))]) rfl ?_
      cases h
      exact hk _ hz
    · replace h := (if_neg b9).symm.trans h
      refine V_aload_n X 0 dX4_readAllLines_32 rfl rfl ?_
      refine V_iload_n X 1 dX4_readAllLines_33 rfl rfl ?_
      obtain ⟨μ11, c10, h⟩ := bd_some h
      refine V_callVv X (As := [.int x6]) (M_X4_readLine c10) (cwV 1 X.2.2.2.2.2.2.1 (gV wm_RX4_65 wi_X4_readLine wse_X4_readLine win_RX4 wc_X4_readLine) rfl rfl rfl hd_X4_readLine ⟨Nat.le_of_ble_eq_true rfl, Nat.le_of_ble_eq_true rfl⟩) (b := (0, 24, 0)) ⟨by decide, rfl⟩ rfl rfl rfl rfl (Nat.le_of_ble_eq_true rfl) dX4_readAllLines_34 rfl ?_
      refine V_aload_n X 0 dX4_readAllLines_37 rfl rfl ?_
      refine V_getr X (o := (0, 24, 0)) (i := (0, 20, 0)) (ci := 4) (k := 0) (N := 7) (T := TX4) (C := RX4) ⟨by decide, rfl⟩ rfl rfl rfl (by decide) (mBa inB_X4) (mB wl_RX4_24) dX4_readAllLines_38 ?_
      refine V_sipush X 2059 dX4_readAllLines_41 (by decide) ?_
      obtain ⟨x13, μ14, c12, h⟩ := bd2_some h
      refine V_callVi X (As := [.int 2059]) (M_X8_takes c12) (cwV 1 X.2.2.2.2.2.2.1 (gV wm_RX4_69 wi_X8_takes wse_X8_takes win_RX8 wc_X8_takes) rfl rfl rfl hd_X8_takes ⟨Nat.le_of_ble_eq_true rfl, Nat.le_of_ble_eq_true rfl⟩) (b := (0, 20, 0)) ⟨by decide, rfl⟩ rfl rfl rfl rfl (Nat.le_of_ble_eq_true rfl) dX4_readAllLines_44 rfl ?_
      refine V_if_ne X (tgt := 71) dX4_readAllLines_47 (by decide) (fun b15 => ?_) (fun b15 => ?_)
      · replace h := (if_neg b15).symm.trans h
        refine V_inc X 1 1 [(1, .int (x6 + 1)), (0, .ref (zad y (0, 24, 0)))] dX4_readAllLines_71 rfl (by decide) (by decide) rfl ?_
        refine V_goto X (tgt := 26) dX4_readAllLines_74 (by decide) ?_
        refine V_sub X [1, 0] (lv' := [(0, .ref (zad y (0, 24, 0))), (1, .int (x6 + 1))]) rfl ?_
        cases h
        exact hz
      · replace h := (if_pos b15).symm.trans h
        refine V_aload_n X 0 dX4_readAllLines_50 rfl rfl ?_
        refine V_getr X (o := (0, 24, 0)) (i := (0, 20, 0)) (ci := 4) (k := 0) (N := 7) (T := TX4) (C := RX4) ⟨by decide, rfl⟩ rfl rfl rfl (by decide) (mBa inB_X4) (mB wl_RX4_24) dX4_readAllLines_51 ?_
        refine V_sipush X 3001 dX4_readAllLines_54 (by decide) ?_
        obtain ⟨x17, c16, h⟩ := bd_some h
        refine V_callVi X (As := [.int 3001]) (M_X8_isAt c16) (cwV 1 X.2.2.2.2.2.2.1 (gV wm_RX4_59 wi_X8_isAt wse_X8_isAt win_RX8 wc_X8_isAt) rfl rfl rfl hd_X8_isAt ⟨Nat.le_of_ble_eq_true rfl, Nat.le_of_ble_eq_true rfl⟩) (b := (0, 20, 0)) ⟨by decide, rfl⟩ rfl rfl rfl rfl (Nat.le_of_ble_eq_true rfl) dX4_readAllLines_57 rfl ?_
        obtain ⟨μ19, h1, h⟩ := bd_some h
        have hk : V X μ19 70 [] [] := by
          clear h1
          cases h
          have h := hr _ hz
          exact V_vretW X h dX4_readAllLines_70
        replace h := h1
        clear h1
        refine V_if_ne X (tgt := 70) dX4_readAllLines_60 (by decide) (fun b18 => ?_) (fun b18 => ?_)
        · replace h := (if_neg b18).symm.trans h
          refine V_sub X [] (lv' := []) rfl ?_
          obtain rfl := so1 h
          exact hk
        · replace h := (if_pos b18).symm.trans h
          refine V_aload_n X 0 dX4_readAllLines_63 rfl rfl ?_
          refine V_getr X (o := (0, 24, 0)) (i := (0, 20, 0)) (ci := 4) (k := 0) (N := 7) (T := TX4) (C := RX4) ⟨by decide, rfl⟩ rfl rfl rfl (by decide) (mBa inB_X4) (mB wl_RX4_24) dX4_readAllLines_64 ?_
          obtain ⟨μ21, c20, h⟩ := bd_some h
          refine V_callVv X (As := []) (M_X8_fail c20) (cwV 0 X.2.2.2.2.2.2.1 (gV wm_RX4_72 wi_X8_fail wse_X8_fail win_RX8 wc_X8_fail) rfl rfl rfl hd_X8_fail ⟨Nat.le_of_ble_eq_true rfl, Nat.le_of_ble_eq_true rfl⟩) (b := (0, 20, 0)) ⟨by decide, rfl⟩ rfl rfl rfl rfl (Nat.le_of_ble_eq_true rfl) dX4_readAllLines_67 rfl ?_
          refine V_sub X [] (lv' := []) rfl ?_
          obtain rfl := so1 h
          exact hk
  · replace h := (if_neg b5).symm.trans h
    exact V_vretW X h dX4_readAllLines_23

def f_X5_copyFrom (s0 : Nat) (i0 : Nat) (s1 : Nat) (i1 : Nat) (μ : ZMem) : Option (ZMem) := zlt (mset μ (3, s0, i0) 0 (μ (3, s1, i1) 0)) (fun (μ1 : ZMem) => zlt (mset μ1 (3, s0, i0) 1 (μ1 (3, s1, i1) 1)) (fun (μ2 : ZMem) => zlt (mset μ2 (3, s0, i0) 2 (μ2 (3, s1, i1) 2)) (fun (μ3 : ZMem) => zlt (mset μ3 (3, s0, i0) 3 (μ3 (3, s1, i1) 3)) (fun (μ4 : ZMem) => zlt (mset μ4 (3, s0, i0) 4 (μ4 (3, s1, i1) 4)) (fun (μ5 : ZMem) => zlt (mset μ5 (3, s0, i0) 5 (μ5 (3, s1, i1) 5)) (fun (μ6 : ZMem) => zlt (mset μ6 (3, s0, i0) 6 (μ6 (3, s1, i1) 6)) (fun (μ7 : ZMem) => zlt (mset μ7 (3, s0, i0) 7 (μ7 (3, s1, i1) 7)) (fun (μ8 : ZMem) => zlt (mset μ8 (3, s0, i0) 8 (μ8 (3, s1, i1) 8)) (fun (μ9 : ZMem) => zlt (mset μ9 (3, s0, i0) 9 (μ9 (3, s1, i1) 9)) (fun (μ10 : ZMem) => zlt (mset μ10 (3, s0, i0) 10 (μ10 (3, s1, i1) 10)) (fun (μ11 : ZMem) => some μ11)))))))))))
set_option maxRecDepth 100000 in
set_option maxHeartbeats 4000000 in
theorem M_X5_copyFrom {l : Launch} {D : va_G} {y : ZLay} {s0 : Nat} {i0 : Nat} {s1 : Nat} {i1 : Nat} (hs0 : s0 < 15) (hi0 : i0 < 8) (hs1 : s1 < 15) (hi1 : i1 < 8) {μ : ZMem} {μ0 : ZMem} (h : f_X5_copyFrom s0 i0 s1 i1 μ = some μ0) : MV l yX5_copyFrom wb_X5_copyFrom rm_X5_copyFrom D y [.ref (zad y (3, s0, i0)), .ref (zad y (3, s1, i1))] μ μ0 := by
  unfold f_X5_copyFrom at h
  refine MV_of RX5 [(0, .ref (zad y (3, s0, i0))), (1, .ref (zad y (3, s1, i1)))] (by decide) rfl rfl (Nat.le_of_ble_eq_true rfl) rfl ?_
  intro p e s m args below meth c A X
  refine V_aload_n X 0 dX5_copyFrom_0 rfl rfl ?_
  refine V_aload_n X 1 dX5_copyFrom_1 rfl rfl ?_
  refine V_geti X (o := (3, s1, i1)) (ci := 5) (k := 0) (N := 11) (T := TX5) (C := RX5) ⟨hs1, hi1⟩ rfl rfl rfl (by decide) (mBa inB_X5) (mB wl_RX5_18) dX5_copyFrom_2 ?_
  refine V_puti X tyX5 .int (o := (3, s0, i0)) (ci := 5) (k := 0) (N := 11) (T := TX5) (C := RX5) ⟨hs0, hi0⟩ rfl rfl rfl (by decide) (mBa inB_X5) tyX5_ok nmX5 (mB wl_RX5_18) rfl rfl rfl rfl dX5_copyFrom_5 ?_
  refine zlt_el (P := fun (μ1 : ZMem) => V X μ1 8 [(0, .ref (zad y (3, s0, i0))), (1, .ref (zad y (3, s1, i1)))] []) h (fun μ1 h => ?_)
  refine V_aload_n X 0 dX5_copyFrom_8 rfl rfl ?_
  refine V_aload_n X 1 dX5_copyFrom_9 rfl rfl ?_
  refine V_geti X (o := (3, s1, i1)) (ci := 5) (k := 1) (N := 11) (T := TX5) (C := RX5) ⟨hs1, hi1⟩ rfl rfl rfl (by decide) (mBa inB_X5) (mB wl_RX5_21) dX5_copyFrom_10 ?_
  refine V_puti X tyX5 .int (o := (3, s0, i0)) (ci := 5) (k := 1) (N := 11) (T := TX5) (C := RX5) ⟨hs0, hi0⟩ rfl rfl rfl (by decide) (mBa inB_X5) tyX5_ok nmX5 (mB wl_RX5_21) rfl rfl rfl rfl dX5_copyFrom_13 ?_
  refine zlt_el (P := fun (μ2 : ZMem) => V X μ2 16 [(0, .ref (zad y (3, s0, i0))), (1, .ref (zad y (3, s1, i1)))] []) h (fun μ2 h => ?_)
  refine V_aload_n X 0 dX5_copyFrom_16 rfl rfl ?_
  refine V_aload_n X 1 dX5_copyFrom_17 rfl rfl ?_
  refine V_geti X (o := (3, s1, i1)) (ci := 5) (k := 2) (N := 11) (T := TX5) (C := RX5) ⟨hs1, hi1⟩ rfl rfl rfl (by decide) (mBa inB_X5) (mB wl_RX5_24) dX5_copyFrom_18 ?_
  refine V_puti X tyX5 .int (o := (3, s0, i0)) (ci := 5) (k := 2) (N := 11) (T := TX5) (C := RX5) ⟨hs0, hi0⟩ rfl rfl rfl (by decide) (mBa inB_X5) tyX5_ok nmX5 (mB wl_RX5_24) rfl rfl rfl rfl dX5_copyFrom_21 ?_
  refine zlt_el (P := fun (μ3 : ZMem) => V X μ3 24 [(0, .ref (zad y (3, s0, i0))), (1, .ref (zad y (3, s1, i1)))] []) h (fun μ3 h => ?_)
  refine V_aload_n X 0 dX5_copyFrom_24 rfl rfl ?_
  refine V_aload_n X 1 dX5_copyFrom_25 rfl rfl ?_
  refine V_geti X (o := (3, s1, i1)) (ci := 5) (k := 3) (N := 11) (T := TX5) (C := RX5) ⟨hs1, hi1⟩ rfl rfl rfl (by decide) (mBa inB_X5) (mB wl_RX5_9) dX5_copyFrom_26 ?_
  refine V_puti X tyX5 .int (o := (3, s0, i0)) (ci := 5) (k := 3) (N := 11) (T := TX5) (C := RX5) ⟨hs0, hi0⟩ rfl rfl rfl (by decide) (mBa inB_X5) tyX5_ok nmX5 (mB wl_RX5_9) rfl rfl rfl rfl dX5_copyFrom_29 ?_
  refine zlt_el (P := fun (μ4 : ZMem) => V X μ4 32 [(0, .ref (zad y (3, s0, i0))), (1, .ref (zad y (3, s1, i1)))] []) h (fun μ4 h => ?_)
  refine V_aload_n X 0 dX5_copyFrom_32 rfl rfl ?_
  refine V_aload_n X 1 dX5_copyFrom_33 rfl rfl ?_
  refine V_geti X (o := (3, s1, i1)) (ci := 5) (k := 4) (N := 11) (T := TX5) (C := RX5) ⟨hs1, hi1⟩ rfl rfl rfl (by decide) (mBa inB_X5) (mB wl_RX5_27) dX5_copyFrom_34 ?_
  refine V_puti X tyX5 .int (o := (3, s0, i0)) (ci := 5) (k := 4) (N := 11) (T := TX5) (C := RX5) ⟨hs0, hi0⟩ rfl rfl rfl (by decide) (mBa inB_X5) tyX5_ok nmX5 (mB wl_RX5_27) rfl rfl rfl rfl dX5_copyFrom_37 ?_
  refine zlt_el (P := fun (μ5 : ZMem) => V X μ5 40 [(0, .ref (zad y (3, s0, i0))), (1, .ref (zad y (3, s1, i1)))] []) h (fun μ5 h => ?_)
  refine V_aload_n X 0 dX5_copyFrom_40 rfl rfl ?_
  refine V_aload_n X 1 dX5_copyFrom_41 rfl rfl ?_
  refine V_geti X (o := (3, s1, i1)) (ci := 5) (k := 5) (N := 11) (T := TX5) (C := RX5) ⟨hs1, hi1⟩ rfl rfl rfl (by decide) (mBa inB_X5) (mB wl_RX5_30) dX5_copyFrom_42 ?_
  refine V_puti X tyX5 .int (o := (3, s0, i0)) (ci := 5) (k := 5) (N := 11) (T := TX5) (C := RX5) ⟨hs0, hi0⟩ rfl rfl rfl (by decide) (mBa inB_X5) tyX5_ok nmX5 (mB wl_RX5_30) rfl rfl rfl rfl dX5_copyFrom_45 ?_
  refine zlt_el (P := fun (μ6 : ZMem) => V X μ6 48 [(0, .ref (zad y (3, s0, i0))), (1, .ref (zad y (3, s1, i1)))] []) h (fun μ6 h => ?_)
  refine V_aload_n X 0 dX5_copyFrom_48 rfl rfl ?_
  refine V_aload_n X 1 dX5_copyFrom_49 rfl rfl ?_
  refine V_geti X (o := (3, s1, i1)) (ci := 5) (k := 6) (N := 11) (T := TX5) (C := RX5) ⟨hs1, hi1⟩ rfl rfl rfl (by decide) (mBa inB_X5) (mB wl_RX5_33) dX5_copyFrom_50 ?_
  refine V_puti X tyX5 .int (o := (3, s0, i0)) (ci := 5) (k := 6) (N := 11) (T := TX5) (C := RX5) ⟨hs0, hi0⟩ rfl rfl rfl (by decide) (mBa inB_X5) tyX5_ok nmX5 (mB wl_RX5_33) rfl rfl rfl rfl dX5_copyFrom_53 ?_
  refine zlt_el (P := fun (μ7 : ZMem) => V X μ7 56 [(0, .ref (zad y (3, s0, i0))), (1, .ref (zad y (3, s1, i1)))] []) h (fun μ7 h => ?_)
  refine V_aload_n X 0 dX5_copyFrom_56 rfl rfl ?_
  refine V_aload_n X 1 dX5_copyFrom_57 rfl rfl ?_
  refine V_geti X (o := (3, s1, i1)) (ci := 5) (k := 7) (N := 11) (T := TX5) (C := RX5) ⟨hs1, hi1⟩ rfl rfl rfl (by decide) (mBa inB_X5) (mB wl_RX5_36) dX5_copyFrom_58 ?_
  refine V_puti X tyX5 .int (o := (3, s0, i0)) (ci := 5) (k := 7) (N := 11) (T := TX5) (C := RX5) ⟨hs0, hi0⟩ rfl rfl rfl (by decide) (mBa inB_X5) tyX5_ok nmX5 (mB wl_RX5_36) rfl rfl rfl rfl dX5_copyFrom_61 ?_
  refine zlt_el (P := fun (μ8 : ZMem) => V X μ8 64 [(0, .ref (zad y (3, s0, i0))), (1, .ref (zad y (3, s1, i1)))] []) h (fun μ8 h => ?_)
  refine V_aload_n X 0 dX5_copyFrom_64 rfl rfl ?_
  refine V_aload_n X 1 dX5_copyFrom_65 rfl rfl ?_
  refine V_geti X (o := (3, s1, i1)) (ci := 5) (k := 8) (N := 11) (T := TX5) (C := RX5) ⟨hs1, hi1⟩ rfl rfl rfl (by decide) (mBa inB_X5) (mB wl_RX5_39) dX5_copyFrom_66 ?_
  refine V_puti X tyX5 .int (o := (3, s0, i0)) (ci := 5) (k := 8) (N := 11) (T := TX5) (C := RX5) ⟨hs0, hi0⟩ rfl rfl rfl (by decide) (mBa inB_X5) tyX5_ok nmX5 (mB wl_RX5_39) rfl rfl rfl rfl dX5_copyFrom_69 ?_
  refine zlt_el (P := fun (μ9 : ZMem) => V X μ9 72 [(0, .ref (zad y (3, s0, i0))), (1, .ref (zad y (3, s1, i1)))] []) h (fun μ9 h => ?_)
  refine V_aload_n X 0 dX5_copyFrom_72 rfl rfl ?_
  refine V_aload_n X 1 dX5_copyFrom_73 rfl rfl ?_
  refine V_geti X (o := (3, s1, i1)) (ci := 5) (k := 9) (N := 11) (T := TX5) (C := RX5) ⟨hs1, hi1⟩ rfl rfl rfl (by decide) (mBa inB_X5) (mB wl_RX5_15) dX5_copyFrom_74 ?_
  refine V_puti X tyX5 .int (o := (3, s0, i0)) (ci := 5) (k := 9) (N := 11) (T := TX5) (C := RX5) ⟨hs0, hi0⟩ rfl rfl rfl (by decide) (mBa inB_X5) tyX5_ok nmX5 (mB wl_RX5_15) rfl rfl rfl rfl dX5_copyFrom_77 ?_
  refine zlt_el (P := fun (μ10 : ZMem) => V X μ10 80 [(0, .ref (zad y (3, s0, i0))), (1, .ref (zad y (3, s1, i1)))] []) h (fun μ10 h => ?_)
  refine V_aload_n X 0 dX5_copyFrom_80 rfl rfl ?_
  refine V_aload_n X 1 dX5_copyFrom_81 rfl rfl ?_
  refine V_geti X (o := (3, s1, i1)) (ci := 5) (k := 10) (N := 11) (T := TX5) (C := RX5) ⟨hs1, hi1⟩ rfl rfl rfl (by decide) (mBa inB_X5) (mB wl_RX5_42) dX5_copyFrom_82 ?_
  refine V_puti X tyX5 .int (o := (3, s0, i0)) (ci := 5) (k := 10) (N := 11) (T := TX5) (C := RX5) ⟨hs0, hi0⟩ rfl rfl rfl (by decide) (mBa inB_X5) tyX5_ok nmX5 (mB wl_RX5_42) rfl rfl rfl rfl dX5_copyFrom_85 ?_
  refine zlt_el (P := fun (μ11 : ZMem) => V X μ11 88 [(0, .ref (zad y (3, s0, i0))), (1, .ref (zad y (3, s1, i1)))] []) h (fun μ11 h => ?_)
  exact V_vretW X h dX5_copyFrom_88

def f_X5_told (s0 : Nat) (i0 : Nat) (a1 : Int32) (μ : ZMem) : Int32 := if a1 = 0 then (μ (3, s0, i0) 0) else if a1 = 1 then (μ (3, s0, i0) 1) else if a1 = 2 then (μ (3, s0, i0) 2) else if a1 = 3 then (μ (3, s0, i0) 3) else if a1 = 4 then (μ (3, s0, i0) 4) else if a1 = 5 then (μ (3, s0, i0) 5) else if a1 = 6 then (μ (3, s0, i0) 6) else if a1 = 7 then (μ (3, s0, i0) 7) else if a1 = 8 then (μ (3, s0, i0) 8) else if a1 = 9 then (μ (3, s0, i0) 9) else (μ (3, s0, i0) 10)
set_option maxRecDepth 100000 in
set_option maxHeartbeats 4000000 in
theorem M_X5_told {l : Launch} {D : va_G} {y : ZLay} {s0 : Nat} {i0 : Nat} {a1 : Int32} (hs0 : s0 < 15) (hi0 : i0 < 8) {μ : ZMem} : MI l yX5_told wb_X5_told rm_X5_told D y [.ref (zad y (3, s0, i0)), .int a1] μ (f_X5_told s0 i0 a1 μ) μ := by
  obtain ⟨r, h⟩ : ∃ r, f_X5_told s0 i0 a1 μ = r := ⟨_, rfl⟩
  rw [h]
  unfold f_X5_told at h
  refine MI_of RX5 [(0, .ref (zad y (3, s0, i0))), (1, .int a1)] (by decide) rfl rfl (Nat.le_of_ble_eq_true rfl) rfl ?_
  intro p e s m args below meth c A X
  refine V_iload_n X 1 dX5_told_0 rfl rfl ?_
  by_cases b1 : a1 = 0
  · replace h := (if_pos b1).symm.trans h
    refine V_tblIn X (tgt := 56) dX5_told_1 (by rw [b1]; decide) (by rw [b1]; decide) (by rw [b1]; try rfl) (by decide) ?_
    refine V_aload_n X 0 dX5_told_56 rfl rfl ?_
    refine V_geti X (o := (3, s0, i0)) (ci := 5) (k := 0) (N := 11) (T := TX5) (C := RX5) ⟨hs0, hi0⟩ rfl rfl rfl (by decide) (mBa inB_X5) (mB wl_RX5_18) dX5_told_57 ?_
    exact V_iretT X h dX5_told_60
  · replace h := (if_neg b1).symm.trans h
    by_cases b2 : a1 = 1
    · replace h := (if_pos b2).symm.trans h
      refine V_tblIn X (tgt := 61) dX5_told_1 (by rw [b2]; decide) (by rw [b2]; decide) (by rw [b2]; try rfl) (by decide) ?_
      refine V_aload_n X 0 dX5_told_61 rfl rfl ?_
      refine V_geti X (o := (3, s0, i0)) (ci := 5) (k := 1) (N := 11) (T := TX5) (C := RX5) ⟨hs0, hi0⟩ rfl rfl rfl (by decide) (mBa inB_X5) (mB wl_RX5_21) dX5_told_62 ?_
      exact V_iretT X h dX5_told_65
    · replace h := (if_neg b2).symm.trans h
      by_cases b3 : a1 = 2
      · replace h := (if_pos b3).symm.trans h
        refine V_tblIn X (tgt := 66) dX5_told_1 (by rw [b3]; decide) (by rw [b3]; decide) (by rw [b3]; try rfl) (by decide) ?_
        refine V_aload_n X 0 dX5_told_66 rfl rfl ?_
        refine V_geti X (o := (3, s0, i0)) (ci := 5) (k := 2) (N := 11) (T := TX5) (C := RX5) ⟨hs0, hi0⟩ rfl rfl rfl (by decide) (mBa inB_X5) (mB wl_RX5_24) dX5_told_67 ?_
        exact V_iretT X h dX5_told_70
      · replace h := (if_neg b3).symm.trans h
        by_cases b4 : a1 = 3
        · replace h := (if_pos b4).symm.trans h
          refine V_tblIn X (tgt := 71) dX5_told_1 (by rw [b4]; decide) (by rw [b4]; decide) (by rw [b4]; try rfl) (by decide) ?_
          refine V_aload_n X 0 dX5_told_71 rfl rfl ?_
          refine V_geti X (o := (3, s0, i0)) (ci := 5) (k := 3) (N := 11) (T := TX5) (C := RX5) ⟨hs0, hi0⟩ rfl rfl rfl (by decide) (mBa inB_X5) (mB wl_RX5_9) dX5_told_72 ?_
          exact V_iretT X h dX5_told_75
        · replace h := (if_neg b4).symm.trans h
          by_cases b5 : a1 = 4
          · replace h := (if_pos b5).symm.trans h
            refine V_tblIn X (tgt := 76) dX5_told_1 (by rw [b5]; decide) (by rw [b5]; decide) (by rw [b5]; try rfl) (by decide) ?_
            refine V_aload_n X 0 dX5_told_76 rfl rfl ?_
            refine V_geti X (o := (3, s0, i0)) (ci := 5) (k := 4) (N := 11) (T := TX5) (C := RX5) ⟨hs0, hi0⟩ rfl rfl rfl (by decide) (mBa inB_X5) (mB wl_RX5_27) dX5_told_77 ?_
            exact V_iretT X h dX5_told_80
          · replace h := (if_neg b5).symm.trans h
            by_cases b6 : a1 = 5
            · replace h := (if_pos b6).symm.trans h
              refine V_tblIn X (tgt := 81) dX5_told_1 (by rw [b6]; decide) (by rw [b6]; decide) (by rw [b6]; try rfl) (by decide) ?_
              refine V_aload_n X 0 dX5_told_81 rfl rfl ?_
              refine V_geti X (o := (3, s0, i0)) (ci := 5) (k := 5) (N := 11) (T := TX5) (C := RX5) ⟨hs0, hi0⟩ rfl rfl rfl (by decide) (mBa inB_X5) (mB wl_RX5_30) dX5_told_82 ?_
              exact V_iretT X h dX5_told_85
            · replace h := (if_neg b6).symm.trans h
              by_cases b7 : a1 = 6
              · replace h := (if_pos b7).symm.trans h
                refine V_tblIn X (tgt := 86) dX5_told_1 (by rw [b7]; decide) (by rw [b7]; decide) (by rw [b7]; try rfl) (by decide) ?_
                refine V_aload_n X 0 dX5_told_86 rfl rfl ?_
                refine V_geti X (o := (3, s0, i0)) (ci := 5) (k := 6) (N := 11) (T := TX5) (C := RX5) ⟨hs0, hi0⟩ rfl rfl rfl (by decide) (mBa inB_X5) (mB wl_RX5_33) dX5_told_87 ?_
                exact V_iretT X h dX5_told_90
              · replace h := (if_neg b7).symm.trans h
                by_cases b8 : a1 = 7
                · replace h := (if_pos b8).symm.trans h
                  refine V_tblIn X (tgt := 91) dX5_told_1 (by rw [b8]; decide) (by rw [b8]; decide) (by rw [b8]; try rfl) (by decide) ?_
                  refine V_aload_n X 0 dX5_told_91 rfl rfl ?_
                  refine V_geti X (o := (3, s0, i0)) (ci := 5) (k := 7) (N := 11) (T := TX5) (C := RX5) ⟨hs0, hi0⟩ rfl rfl rfl (by decide) (mBa inB_X5) (mB wl_RX5_36) dX5_told_92 ?_
                  exact V_iretT X h dX5_told_95
                · replace h := (if_neg b8).symm.trans h
                  by_cases b9 : a1 = 8
                  · replace h := (if_pos b9).symm.trans h
                    refine V_tblIn X (tgt := 96) dX5_told_1 (by rw [b9]; decide) (by rw [b9]; decide) (by rw [b9]; try rfl) (by decide) ?_
                    refine V_aload_n X 0 dX5_told_96 rfl rfl ?_
                    refine V_geti X (o := (3, s0, i0)) (ci := 5) (k := 8) (N := 11) (T := TX5) (C := RX5) ⟨hs0, hi0⟩ rfl rfl rfl (by decide) (mBa inB_X5) (mB wl_RX5_39) dX5_told_97 ?_
                    exact V_iretT X h dX5_told_100
                  · replace h := (if_neg b9).symm.trans h
                    by_cases b10 : a1 = 9
                    · replace h := (if_pos b10).symm.trans h
                      refine V_tblIn X (tgt := 101) dX5_told_1 (by rw [b10]; decide) (by rw [b10]; decide) (by rw [b10]; try rfl) (by decide) ?_
                      refine V_aload_n X 0 dX5_told_101 rfl rfl ?_
                      refine V_geti X (o := (3, s0, i0)) (ci := 5) (k := 9) (N := 11) (T := TX5) (C := RX5) ⟨hs0, hi0⟩ rfl rfl rfl (by decide) (mBa inB_X5) (mB wl_RX5_15) dX5_told_102 ?_
                      exact V_iretT X h dX5_told_105
                    · replace h := (if_neg b10).symm.trans h
                      have hd0 := tne (j := 0) (by decide) b1
                      have hd1 := tne (j := 1) (by decide) b2
                      have hd2 := tne (j := 2) (by decide) b3
                      have hd3 := tne (j := 3) (by decide) b4
                      have hd4 := tne (j := 4) (by decide) b5
                      have hd5 := tne (j := 5) (by decide) b6
                      have hd6 := tne (j := 6) (by decide) b7
                      have hd7 := tne (j := 7) (by decide) b8
                      have hd8 := tne (j := 8) (by decide) b9
                      have hd9 := tne (j := 9) (by decide) b10
                      refine V_tblOut X (tgt := 106) dX5_told_1 (by omega) (by decide) ?_
                      refine V_aload_n X 0 dX5_told_106 rfl rfl ?_
                      refine V_geti X (o := (3, s0, i0)) (ci := 5) (k := 10) (N := 11) (T := TX5) (C := RX5) ⟨hs0, hi0⟩ rfl rfl rfl (by decide) (mBa inB_X5) (mB wl_RX5_42) dX5_told_107 ?_
                      exact V_iretT X h dX5_told_110

def f_X7_copyFrom (s0 : Nat) (s1 : Nat) (μ : ZMem) : Option (ZMem) := bd (lp (σ := Int32 × ZMem) (fun q => un2 q (fun (x1 : Int32) (μ2 : ZMem) => if 8 ≤ x1 then some (.inr μ2) else gd (zin x1 8) (bd (f_X5_copyFrom s0 x1.toNatClampNeg s1 x1.toNatClampNeg μ2) (fun (μ7 : ZMem) => some (.inl ((x1 + 1), μ7)))))) FU (0, μ)) (fun (μ3 : ZMem) => zlt (mcpy μ3 (4, s1, 0) (4, s0, 0) 0 0 240) (fun (μ8 : ZMem) => zlt (mset μ8 (1, s0, 0) 2 (μ8 (1, s1, 0) 2)) (fun (μ9 : ZMem) => zlt (mset μ9 (1, s0, 0) 3 (μ9 (1, s1, 0) 3)) (fun (μ10 : ZMem) => zlt (mset μ10 (1, s0, 0) 4 (μ10 (1, s1, 0) 4)) (fun (μ11 : ZMem) => zlt (mset μ11 (1, s0, 0) 5 (μ11 (1, s1, 0) 5)) (fun (μ12 : ZMem) => zlt (mset μ12 (1, s0, 0) 6 (μ12 (1, s1, 0) 6)) (fun (μ13 : ZMem) => zlt (mset μ13 (1, s0, 0) 7 (μ13 (1, s1, 0) 7)) (fun (μ14 : ZMem) => zlt (mset μ14 (1, s0, 0) 8 (μ14 (1, s1, 0) 8)) (fun (μ15 : ZMem) => zlt (mset μ15 (1, s0, 0) 9 (μ15 (1, s1, 0) 9)) (fun (μ16 : ZMem) => zlt (mset μ16 (1, s0, 0) 10 (μ16 (1, s1, 0) 10)) (fun (μ18 : ZMem) => some μ18)))))))))))
set_option maxRecDepth 100000 in
set_option maxHeartbeats 4000000 in
theorem M_X7_copyFrom {l : Launch} {D : va_G} {y : ZLay} {s0 : Nat} {s1 : Nat} (hs0 : s0 < 15) (hs1 : s1 < 15) {μ : ZMem} {μ0 : ZMem} (h : f_X7_copyFrom s0 s1 μ = some μ0) : MV l yX7_copyFrom wb_X7_copyFrom rm_X7_copyFrom D y [.ref (zad y (1, s0, 0)), .ref (zad y (1, s1, 0))] μ μ0 := by
  unfold f_X7_copyFrom at h
  refine MV_of RX7 [(0, .ref (zad y (1, s0, 0))), (1, .ref (zad y (1, s1, 0)))] (by decide) rfl rfl (Nat.le_of_ble_eq_true rfl) rfl ?_
  intro p e s m args below meth c A X
  refine V_iconst X 0 dX7_copyFrom_0 (by decide) ?_
  refine V_istore_n X [(2, .int 0), (0, .ref (zad y (1, s0, 0))), (1, .ref (zad y (1, s1, 0)))] dX7_copyFrom_1 rfl (by decide) rfl ?_
  refine V_sub X [1, 2, 0] (lv' := [(0, .ref (zad y (1, s0, 0))), (1, .ref (zad y (1, s1, 0))), (2, .int 0)]) rfl ?_
  obtain ⟨μ3, hl, h⟩ := bd_some h
  have hk : V X μ3 32 [(0, .ref (zad y (1, s0, 0))), (1, .ref (zad y (1, s1, 0)))] [] := by
    clear hl
    refine V_aload_n X 1 dX7_copyFrom_32 rfl rfl ?_
    refine V_getr X (o := (1, s1, 0)) (i := (4, s1, 0)) (ci := 7) (k := 1) (N := 11) (T := TX7) (C := RX7) ⟨hs1, rfl⟩ rfl rfl rfl (by decide) (mBa inB_X7) (mB wl_RX7_17) dX7_copyFrom_33 ?_
    refine V_iconst X 0 dX7_copyFrom_36 (by decide) ?_
    refine V_aload_n X 0 dX7_copyFrom_37 rfl rfl ?_
    refine V_getr X (o := (1, s0, 0)) (i := (4, s0, 0)) (ci := 7) (k := 1) (N := 11) (T := TX7) (C := RX7) ⟨hs0, rfl⟩ rfl rfl rfl (by decide) (mBa inB_X7) (mB wl_RX7_17) dX7_copyFrom_38 ?_
    refine V_iconst X 0 dX7_copyFrom_41 (by decide) ?_
    refine V_aload_n X 0 dX7_copyFrom_42 rfl rfl ?_
    refine V_getr X (o := (1, s0, 0)) (i := (4, s0, 0)) (ci := 7) (k := 1) (N := 11) (T := TX7) (C := RX7) ⟨hs0, rfl⟩ rfl rfl rfl (by decide) (mBa inB_X7) (mB wl_RX7_17) dX7_copyFrom_43 ?_
    refine V_alen X 240 (o := (4, s0, 0)) (n := 240) ⟨hs0, rfl⟩ rfl rfl (by decide) dX7_copyFrom_46 ?_
    refine V_copy X (o0 := (4, s1, 0)) (o1 := (4, s0, 0)) (ix := 40) (n0 := 240) (n1 := 240) 0 0 240 (mB wm_RX7_40) (mB wnat_copy) (mB wst_copy) (mB win_System) ⟨hs1, rfl⟩ ⟨hs0, rfl⟩ rfl rfl rfl rfl (by decide) (by decide) (by decide) (by decide) (by decide) (by decide) (by decide) (by decide) (Nat.le_of_ble_eq_true rfl) (Nat.le_of_ble_eq_true rfl) dX7_copyFrom_47 ?_
    refine zlt_el (P := fun (μ8 : ZMem) => V X μ8 50 [(0, .ref (zad y (1, s0, 0))), (1, .ref (zad y (1, s1, 0)))] []) h (fun μ8 h => ?_)
    refine V_aload_n X 0 dX7_copyFrom_50 rfl rfl ?_
    refine V_aload_n X 1 dX7_copyFrom_51 rfl rfl ?_
    refine V_geti X (o := (1, s1, 0)) (ci := 7) (k := 2) (N := 11) (T := TX7) (C := RX7) ⟨hs1, rfl⟩ rfl rfl rfl (by decide) (mBa inB_X7) (mB wl_RX7_46) dX7_copyFrom_52 ?_
    refine V_puti X tyX7 .int (o := (1, s0, 0)) (ci := 7) (k := 2) (N := 11) (T := TX7) (C := RX7) ⟨hs0, rfl⟩ rfl rfl rfl (by decide) (mBa inB_X7) tyX7_ok nmX7 (mB wl_RX7_46) rfl rfl rfl rfl dX7_copyFrom_55 ?_
    refine zlt_el (P := fun (μ9 : ZMem) => V X μ9 58 [(0, .ref (zad y (1, s0, 0))), (1, .ref (zad y (1, s1, 0)))] []) h (fun μ9 h => ?_)
    refine V_aload_n X 0 dX7_copyFrom_58 rfl rfl ?_
    refine V_aload_n X 1 dX7_copyFrom_59 rfl rfl ?_
    refine V_geti X (o := (1, s1, 0)) (ci := 7) (k := 3) (N := 11) (T := TX7) (C := RX7) ⟨hs1, rfl⟩ rfl rfl rfl (by decide) (mBa inB_X7) (mB wl_RX7_49) dX7_copyFrom_60 ?_
    refine V_puti X tyX7 .int (o := (1, s0, 0)) (ci := 7) (k := 3) (N := 11) (T := TX7) (C := RX7) ⟨hs0, rfl⟩ rfl rfl rfl (by decide) (mBa inB_X7) tyX7_ok nmX7 (mB wl_RX7_49) rfl rfl rfl rfl dX7_copyFrom_63 ?_
    refine zlt_el (P := fun (μ10 : ZMem) => V X μ10 66 [(0, .ref (zad y (1, s0, 0))), (1, .ref (zad y (1, s1, 0)))] []) h (fun μ10 h => ?_)
    refine V_aload_n X 0 dX7_copyFrom_66 rfl rfl ?_
    refine V_aload_n X 1 dX7_copyFrom_67 rfl rfl ?_
    refine V_geti X (o := (1, s1, 0)) (ci := 7) (k := 4) (N := 11) (T := TX7) (C := RX7) ⟨hs1, rfl⟩ rfl rfl rfl (by decide) (mBa inB_X7) (mB wl_RX7_52) dX7_copyFrom_68 ?_
    refine V_puti X tyX7 .int (o := (1, s0, 0)) (ci := 7) (k := 4) (N := 11) (T := TX7) (C := RX7) ⟨hs0, rfl⟩ rfl rfl rfl (by decide) (mBa inB_X7) tyX7_ok nmX7 (mB wl_RX7_52) rfl rfl rfl rfl dX7_copyFrom_71 ?_
    refine zlt_el (P := fun (μ11 : ZMem) => V X μ11 74 [(0, .ref (zad y (1, s0, 0))), (1, .ref (zad y (1, s1, 0)))] []) h (fun μ11 h => ?_)
    refine V_aload_n X 0 dX7_copyFrom_74 rfl rfl ?_
    refine V_aload_n X 1 dX7_copyFrom_75 rfl rfl ?_
    refine V_geti X (o := (1, s1, 0)) (ci := 7) (k := 5) (N := 11) (T := TX7) (C := RX7) ⟨hs1, rfl⟩ rfl rfl rfl (by decide) (mBa inB_X7) (mB wl_RX7_21) dX7_copyFrom_76 ?_
    refine V_puti X tyX7 .int (o := (1, s0, 0)) (ci := 7) (k := 5) (N := 11) (T := TX7) (C := RX7) ⟨hs0, rfl⟩ rfl rfl rfl (by decide) (mBa inB_X7) tyX7_ok nmX7 (mB wl_RX7_21) rfl rfl rfl rfl dX7_copyFrom_79 ?_
    refine zlt_el (P := fun (μ12 : ZMem) => V X μ12 82 [(0, .ref (zad y (1, s0, 0))), (1, .ref (zad y (1, s1, 0)))] []) h (fun μ12 h => ?_)
    refine V_aload_n X 0 dX7_copyFrom_82 rfl rfl ?_
    refine V_aload_n X 1 dX7_copyFrom_83 rfl rfl ?_
    refine V_geti X (o := (1, s1, 0)) (ci := 7) (k := 6) (N := 11) (T := TX7) (C := RX7) ⟨hs1, rfl⟩ rfl rfl rfl (by decide) (mBa inB_X7) (mB wl_RX7_25) dX7_copyFrom_84 ?_
    refine V_puti X tyX7 .int (o := (1, s0, 0)) (ci := 7) (k := 6) (N := 11) (T := TX7) (C := RX7) ⟨hs0, rfl⟩ rfl rfl rfl (by decide) (mBa inB_X7) tyX7_ok nmX7 (mB wl_RX7_25) rfl rfl rfl rfl dX7_copyFrom_87 ?_
    refine zlt_el (P := fun (μ13 : ZMem) => V X μ13 90 [(0, .ref (zad y (1, s0, 0))), (1, .ref (zad y (1, s1, 0)))] []) h (fun μ13 h => ?_)
    refine V_aload_n X 0 dX7_copyFrom_90 rfl rfl ?_
    refine V_aload_n X 1 dX7_copyFrom_91 rfl rfl ?_
    refine V_geti X (o := (1, s1, 0)) (ci := 7) (k := 7) (N := 11) (T := TX7) (C := RX7) ⟨hs1, rfl⟩ rfl rfl rfl (by decide) (mBa inB_X7) (mB wl_RX7_55) dX7_copyFrom_92 ?_
    refine V_puti X tyX7 .int (o := (1, s0, 0)) (ci := 7) (k := 7) (N := 11) (T := TX7) (C := RX7) ⟨hs0, rfl⟩ rfl rfl rfl (by decide) (mBa inB_X7) tyX7_ok nmX7 (mB wl_RX7_55) rfl rfl rfl rfl dX7_copyFrom_95 ?_
    refine zlt_el (P := fun (μ14 : ZMem) => V X μ14 98 [(0, .ref (zad y (1, s0, 0))), (1, .ref (zad y (1, s1, 0)))] []) h (fun μ14 h => ?_)
    refine V_aload_n X 0 dX7_copyFrom_98 rfl rfl ?_
    refine V_aload_n X 1 dX7_copyFrom_99 rfl rfl ?_
    refine V_geti X (o := (1, s1, 0)) (ci := 7) (k := 8) (N := 11) (T := TX7) (C := RX7) ⟨hs1, rfl⟩ rfl rfl rfl (by decide) (mBa inB_X7) (mB wl_RX7_28) dX7_copyFrom_100 ?_
    refine V_puti X tyX7 .int (o := (1, s0, 0)) (ci := 7) (k := 8) (N := 11) (T := TX7) (C := RX7) ⟨hs0, rfl⟩ rfl rfl rfl (by decide) (mBa inB_X7) tyX7_ok nmX7 (mB wl_RX7_28) rfl rfl rfl rfl dX7_copyFrom_103 ?_
    refine zlt_el (P := fun (μ15 : ZMem) => V X μ15 106 [(0, .ref (zad y (1, s0, 0))), (1, .ref (zad y (1, s1, 0)))] []) h (fun μ15 h => ?_)
    refine V_aload_n X 0 dX7_copyFrom_106 rfl rfl ?_
    refine V_aload_n X 1 dX7_copyFrom_107 rfl rfl ?_
    refine V_geti X (o := (1, s1, 0)) (ci := 7) (k := 9) (N := 11) (T := TX7) (C := RX7) ⟨hs1, rfl⟩ rfl rfl rfl (by decide) (mBa inB_X7) (mB wl_RX7_58) dX7_copyFrom_108 ?_
    refine V_puti X tyX7 .int (o := (1, s0, 0)) (ci := 7) (k := 9) (N := 11) (T := TX7) (C := RX7) ⟨hs0, rfl⟩ rfl rfl rfl (by decide) (mBa inB_X7) tyX7_ok nmX7 (mB wl_RX7_58) rfl rfl rfl rfl dX7_copyFrom_111 ?_
    refine zlt_el (P := fun (μ16 : ZMem) => V X μ16 114 [(0, .ref (zad y (1, s0, 0))), (1, .ref (zad y (1, s1, 0)))] []) h (fun μ16 h => ?_)
    refine V_aload_n X 0 dX7_copyFrom_114 rfl rfl ?_
    refine V_aload_n X 1 dX7_copyFrom_115 rfl rfl ?_
    refine V_getl X hs1 (mBa inB_X7) (mB wl_RX7_31) dX7_copyFrom_116 (fun hn17 => ?_)
    refine V_putl X (x := (μ16 (1, s1, 0) 10)) hs0 hn17 (mBa inB_X7) (mB wl_RX7_31) dX7_copyFrom_119 ?_
    refine zlt_el (P := fun (μ18 : ZMem) => V X μ18 122 [(0, .ref (zad y (1, s0, 0))), (1, .ref (zad y (1, s1, 0)))] []) h (fun μ18 h => ?_)
    exact V_vretW X h dX7_copyFrom_122
  refine lp_ind (P := fun q => V X q.2 2 [(0, .ref (zad y (1, s0, 0))), (1, .ref (zad y (1, s1, 0))), (2, .int q.1)] []) (fun q z h hz => ?_) hl
  obtain ⟨x1, μ2⟩ := q
  replace h := un2_eq h
  show V X μ2 2 [(0, .ref (zad y (1, s0, 0))), (1, .ref (zad y (1, s1, 0))), (2, .int x1)] []
  refine V_iload_n X 2 dX7_copyFrom_2 rfl rfl ?_
  refine V_aload_n X 0 dX7_copyFrom_3 rfl rfl ?_
  refine V_getr X (o := (1, s0, 0)) (i := (2, s0, 0)) (ci := 7) (k := 0) (N := 11) (T := TX7) (C := RX7) ⟨hs0, rfl⟩ rfl rfl rfl (by decide) (mBa inB_X7) (mB wl_RX7_11) dX7_copyFrom_4 ?_
  refine V_alenr X 8 (o := (2, s0, 0)) ⟨hs0, rfl⟩ rfl rfl rfl (by decide) dX7_copyFrom_7 ?_
  refine V_icmp_ge X (tgt := 32) dX7_copyFrom_8 (by decide) (fun b4 => ?_) (fun b4 => ?_)
  · replace h := (if_pos b4).symm.trans h
    refine V_sub X [0, 1] (lv' := [(0, .ref (zad y (1, s0, 0))), (1, .ref (zad y (1, s1, 0)))]) rfl ?_
    cases h
    obtain rfl := pr1 hz
    exact hk
  · replace h := (if_neg b4).symm.trans h
    refine V_aload_n X 0 dX7_copyFrom_11 rfl rfl ?_
    refine V_getr X (o := (1, s0, 0)) (i := (2, s0, 0)) (ci := 7) (k := 0) (N := 11) (T := TX7) (C := RX7) ⟨hs0, rfl⟩ rfl rfl rfl (by decide) (mBa inB_X7) (mB wl_RX7_11) dX7_copyFrom_12 ?_
    refine V_iload_n X 2 dX7_copyFrom_15 rfl rfl ?_
    obtain ⟨g5, h⟩ := gd_some h
    refine V_aald X x1.toNatClampNeg rfl (o := (2, s0, 0)) ⟨hs0, rfl⟩ rfl rfl rfl rfl g5 dX7_copyFrom_16 ?_
    refine V_aload_n X 1 dX7_copyFrom_17 rfl rfl ?_
    refine V_getr X (o := (1, s1, 0)) (i := (2, s1, 0)) (ci := 7) (k := 0) (N := 11) (T := TX7) (C := RX7) ⟨hs1, rfl⟩ rfl rfl rfl (by decide) (mBa inB_X7) (mB wl_RX7_11) dX7_copyFrom_18 ?_
    refine V_iload_n X 2 dX7_copyFrom_21 rfl rfl ?_
    refine V_aald X x1.toNatClampNeg rfl (o := (2, s1, 0)) ⟨hs1, rfl⟩ rfl rfl rfl rfl g5 dX7_copyFrom_22 ?_
    obtain ⟨μ7, c6, h⟩ := bd_some h
    refine V_callVv X (As := [.ref (zad y (3, s1, x1.toNatClampNeg))]) (M_X5_copyFrom hs0 (zin_lt g5) hs1 (zin_lt g5) c6) (cwV 1 X.2.2.2.2.2.2.1 (gV wm_RX7_36 wi_X5_copyFrom wse_X5_copyFrom win_RX5 wc_X5_copyFrom) rfl rfl rfl hd_X5_copyFrom ⟨Nat.le_of_ble_eq_true rfl, Nat.le_of_ble_eq_true rfl⟩) (b := (3, s0, x1.toNatClampNeg)) ⟨hs0, zin_lt g5⟩ rfl rfl rfl rfl (Nat.le_of_ble_eq_true rfl) dX7_copyFrom_23 rfl ?_
    refine V_inc X 2 1 [(2, .int (x1 + 1)), (0, .ref (zad y (1, s0, 0))), (1, .ref (zad y (1, s1, 0)))] dX7_copyFrom_26 rfl (by decide) (by decide) rfl ?_
    refine V_goto X (tgt := 2) dX7_copyFrom_29 (by decide) ?_
    refine V_sub X [1, 2, 0] (lv' := [(0, .ref (zad y (1, s0, 0))), (1, .ref (zad y (1, s1, 0))), (2, .int (x1 + 1))]) rfl ?_
    cases h
    exact hz

def f_X6_remember (s1 : Nat) (μ : ZMem) : Option (ZMem) := gd (zin (μ (0, 2, 0) 1) 12) (bd (f_X7_copyFrom (3 + (μ (0, 2, 0) 1).toNatClampNeg) s1 μ) (fun (μ3 : ZMem) => zlt (mset μ3 (0, 2, 0) 1 (zrem ((μ3 (0, 2, 0) 1) + 1) 12)) (fun (μ4 : ZMem) => zlt (mset μ4 (0, 2, 0) 2 (zmin 12 ((μ4 (0, 2, 0) 2) + 1))) (fun (μ5 : ZMem) => some μ5))))
set_option maxRecDepth 100000 in
set_option maxHeartbeats 4000000 in
theorem M_X6_remember {l : Launch} {D : va_G} {y : ZLay} {s1 : Nat} (hs1 : s1 < 15) {μ : ZMem} {μ0 : ZMem} (h : f_X6_remember s1 μ = some μ0) : MV l yX6_remember wb_X6_remember rm_X6_remember D y [.ref (zad y (0, 2, 0)), .ref (zad y (1, s1, 0))] μ μ0 := by
  unfold f_X6_remember at h
  refine MV_of RX6 [(0, .ref (zad y (0, 2, 0))), (1, .ref (zad y (1, s1, 0)))] (by decide) rfl rfl (Nat.le_of_ble_eq_true rfl) rfl ?_
  intro p e s m args below meth c A X
  refine V_aload_n X 0 dX6_remember_0 rfl rfl ?_
  refine V_getr X (o := (0, 2, 0)) (i := (0, 3, 0)) (ci := 6) (k := 0) (N := 3) (T := TX6) (C := RX6) ⟨by decide, rfl⟩ rfl rfl rfl (by decide) (mBa inB_X6) (mB wl_RX6_11) dX6_remember_1 ?_
  refine V_aload_n X 0 dX6_remember_4 rfl rfl ?_
  refine V_geti X (o := (0, 2, 0)) (ci := 6) (k := 1) (N := 3) (T := TX6) (C := RX6) ⟨by decide, rfl⟩ rfl rfl rfl (by decide) (mBa inB_X6) (mB wl_RX6_20) dX6_remember_5 ?_
  obtain ⟨g1, h⟩ := gd_some h
  refine V_aald X (μ (0, 2, 0) 1).toNatClampNeg rfl (o := (0, 3, 0)) ⟨by decide, rfl⟩ rfl rfl rfl rfl g1 dX6_remember_8 ?_
  refine V_aload_n X 1 dX6_remember_9 rfl rfl ?_
  obtain ⟨μ3, c2, h⟩ := bd_some h
  refine V_callVv X (As := [.ref (zad y (1, s1, 0))]) (M_X7_copyFrom (by have := zin_lt g1; omega) hs1 c2) (cwV 1 X.2.2.2.2.2.2.1 (gV wm_RX6_24 wi_X7_copyFrom wse_X7_copyFrom win_RX7 wc_X7_copyFrom) rfl rfl rfl hd_X7_copyFrom ⟨Nat.le_of_ble_eq_true rfl, Nat.le_of_ble_eq_true rfl⟩) (b := (1, (3 + (μ (0, 2, 0) 1).toNatClampNeg), 0)) ⟨(by have := zin_lt g1; omega), rfl⟩ rfl rfl rfl rfl (Nat.le_of_ble_eq_true rfl) dX6_remember_10 rfl ?_
  refine V_aload_n X 0 dX6_remember_13 rfl rfl ?_
  refine V_aload_n X 0 dX6_remember_14 rfl rfl ?_
  refine V_geti X (o := (0, 2, 0)) (ci := 6) (k := 1) (N := 3) (T := TX6) (C := RX6) ⟨by decide, rfl⟩ rfl rfl rfl (by decide) (mBa inB_X6) (mB wl_RX6_20) dX6_remember_15 ?_
  refine V_iconst X 1 dX6_remember_18 (by decide) ?_
  refine V_iadd X dX6_remember_19 ?_
  refine V_bipush X 12 dX6_remember_20 (by decide) ?_
  refine V_rem X dX6_remember_22 (by decide) ?_
  refine V_puti X tyX6 .int (o := (0, 2, 0)) (ci := 6) (k := 1) (N := 3) (T := TX6) (C := RX6) ⟨by decide, rfl⟩ rfl rfl rfl (by decide) (mBa inB_X6) tyX6_ok nmX6 (mB wl_RX6_20) rfl rfl rfl rfl dX6_remember_23 ?_
  refine zlt_el (P := fun (μ4 : ZMem) => V X μ4 26 [(0, .ref (zad y (0, 2, 0))), (1, .ref (zad y (1, s1, 0)))] []) h (fun μ4 h => ?_)
  refine V_aload_n X 0 dX6_remember_26 rfl rfl ?_
  refine V_bipush X 12 dX6_remember_27 (by decide) ?_
  refine V_aload_n X 0 dX6_remember_29 rfl rfl ?_
  refine V_geti X (o := (0, 2, 0)) (ci := 6) (k := 2) (N := 3) (T := TX6) (C := RX6) ⟨by decide, rfl⟩ rfl rfl rfl (by decide) (mBa inB_X6) (mB wl_RX6_28) dX6_remember_30 ?_
  refine V_iconst X 1 dX6_remember_33 (by decide) ?_
  refine V_iadd X dX6_remember_34 ?_
  refine V_zmin X (ix := 31) (mB wm_RX6_31) (mB wst_Math_min) (mB win_Math) (mB wc_Math_min) (Nat.le_of_ble_eq_true rfl) (Nat.le_of_ble_eq_true rfl) dX6_remember_35 ?_
  refine V_puti X tyX6 .int (o := (0, 2, 0)) (ci := 6) (k := 2) (N := 3) (T := TX6) (C := RX6) ⟨by decide, rfl⟩ rfl rfl rfl (by decide) (mBa inB_X6) tyX6_ok nmX6 (mB wl_RX6_28) rfl rfl rfl rfl dX6_remember_38 ?_
  refine zlt_el (P := fun (μ5 : ZMem) => V X μ5 41 [(0, .ref (zad y (0, 2, 0))), (1, .ref (zad y (1, s1, 0)))] []) h (fun μ5 h => ?_)
  exact V_vretW X h dX6_remember_41

def f_X6_recall (s1 : Nat) (μ : ZMem) : Option (Int32 × ZMem) := if 1 ≤ (μ (0, 2, 0) 2) then zlt (mset μ (0, 2, 0) 1 (zrem (((μ (0, 2, 0) 1) + 12) - 1) 12)) (fun (μ2 : ZMem) => zlt (mset μ2 (0, 2, 0) 2 ((μ2 (0, 2, 0) 2) - 1)) (fun (μ3 : ZMem) => gd (zin (μ3 (0, 2, 0) 1) 12) (bd (f_X7_copyFrom s1 (3 + (μ3 (0, 2, 0) 1).toNatClampNeg) μ3) (fun (μ6 : ZMem) => some (1, μ6))))) else some (0, μ)
set_option maxRecDepth 100000 in
set_option maxHeartbeats 4000000 in
theorem M_X6_recall {l : Launch} {D : va_G} {y : ZLay} {s1 : Nat} (hs1 : s1 < 15) {μ : ZMem} {r : Int32} {μ0 : ZMem} (h : f_X6_recall s1 μ = some (r, μ0)) : MI l yX6_recall wb_X6_recall rm_X6_recall D y [.ref (zad y (0, 2, 0)), .ref (zad y (1, s1, 0))] μ r μ0 := by
  unfold f_X6_recall at h
  refine MI_of RX6 [(0, .ref (zad y (0, 2, 0))), (1, .ref (zad y (1, s1, 0)))] (by decide) rfl rfl (Nat.le_of_ble_eq_true rfl) rfl ?_
  intro p e s m args below meth c A X
  refine V_aload_n X 0 dX6_recall_0 rfl rfl ?_
  refine V_geti X (o := (0, 2, 0)) (ci := 6) (k := 2) (N := 3) (T := TX6) (C := RX6) ⟨by decide, rfl⟩ rfl rfl rfl (by decide) (mBa inB_X6) (mB wl_RX6_28) dX6_recall_1 ?_
  refine V_iconst X 1 dX6_recall_4 (by decide) ?_
  refine V_icmp_ge X (tgt := 10) dX6_recall_5 (by decide) (fun b1 => ?_) (fun b1 => ?_)
  · replace h := (if_pos b1).symm.trans h
    refine V_aload_n X 0 dX6_recall_10 rfl rfl ?_
    refine V_aload_n X 0 dX6_recall_11 rfl rfl ?_
    refine V_geti X (o := (0, 2, 0)) (ci := 6) (k := 1) (N := 3) (T := TX6) (C := RX6) ⟨by decide, rfl⟩ rfl rfl rfl (by decide) (mBa inB_X6) (mB wl_RX6_20) dX6_recall_12 ?_
    refine V_bipush X 12 dX6_recall_15 (by decide) ?_
    refine V_iadd X dX6_recall_17 ?_
    refine V_iconst X 1 dX6_recall_18 (by decide) ?_
    refine V_isub X dX6_recall_19 ?_
    refine V_bipush X 12 dX6_recall_20 (by decide) ?_
    refine V_rem X dX6_recall_22 (by decide) ?_
    refine V_puti X tyX6 .int (o := (0, 2, 0)) (ci := 6) (k := 1) (N := 3) (T := TX6) (C := RX6) ⟨by decide, rfl⟩ rfl rfl rfl (by decide) (mBa inB_X6) tyX6_ok nmX6 (mB wl_RX6_20) rfl rfl rfl rfl dX6_recall_23 ?_
    refine zlt_el (P := fun (μ2 : ZMem) => V X μ2 26 [(0, .ref (zad y (0, 2, 0))), (1, .ref (zad y (1, s1, 0)))] []) h (fun μ2 h => ?_)
    refine V_aload_n X 0 dX6_recall_26 rfl rfl ?_
    refine V_dup X dX6_recall_27 rfl ?_
    refine V_geti X (o := (0, 2, 0)) (ci := 6) (k := 2) (N := 3) (T := TX6) (C := RX6) ⟨by decide, rfl⟩ rfl rfl rfl (by decide) (mBa inB_X6) (mB wl_RX6_28) dX6_recall_28 ?_
    refine V_iconst X 1 dX6_recall_31 (by decide) ?_
    refine V_isub X dX6_recall_32 ?_
    refine V_puti X tyX6 .int (o := (0, 2, 0)) (ci := 6) (k := 2) (N := 3) (T := TX6) (C := RX6) ⟨by decide, rfl⟩ rfl rfl rfl (by decide) (mBa inB_X6) tyX6_ok nmX6 (mB wl_RX6_28) rfl rfl rfl rfl dX6_recall_33 ?_
    refine zlt_el (P := fun (μ3 : ZMem) => V X μ3 36 [(0, .ref (zad y (0, 2, 0))), (1, .ref (zad y (1, s1, 0)))] []) h (fun μ3 h => ?_)
    refine V_aload_n X 1 dX6_recall_36 rfl rfl ?_
    refine V_aload_n X 0 dX6_recall_37 rfl rfl ?_
    refine V_getr X (o := (0, 2, 0)) (i := (0, 3, 0)) (ci := 6) (k := 0) (N := 3) (T := TX6) (C := RX6) ⟨by decide, rfl⟩ rfl rfl rfl (by decide) (mBa inB_X6) (mB wl_RX6_11) dX6_recall_38 ?_
    refine V_aload_n X 0 dX6_recall_41 rfl rfl ?_
    refine V_geti X (o := (0, 2, 0)) (ci := 6) (k := 1) (N := 3) (T := TX6) (C := RX6) ⟨by decide, rfl⟩ rfl rfl rfl (by decide) (mBa inB_X6) (mB wl_RX6_20) dX6_recall_42 ?_
    obtain ⟨g4, h⟩ := gd_some h
    refine V_aald X (μ3 (0, 2, 0) 1).toNatClampNeg rfl (o := (0, 3, 0)) ⟨by decide, rfl⟩ rfl rfl rfl rfl g4 dX6_recall_45 ?_
    obtain ⟨μ6, c5, h⟩ := bd_some h
    refine V_callVv X (As := [.ref (zad y (1, (3 + (μ3 (0, 2, 0) 1).toNatClampNeg), 0))]) (M_X7_copyFrom hs1 (by have := zin_lt g4; omega) c5) (cwV 1 X.2.2.2.2.2.2.1 (gV wm_RX6_24 wi_X7_copyFrom wse_X7_copyFrom win_RX7 wc_X7_copyFrom) rfl rfl rfl hd_X7_copyFrom ⟨Nat.le_of_ble_eq_true rfl, Nat.le_of_ble_eq_true rfl⟩) (b := (1, s1, 0)) ⟨hs1, rfl⟩ rfl rfl rfl rfl (Nat.le_of_ble_eq_true rfl) dX6_recall_46 rfl ?_
    refine V_iconst X 1 dX6_recall_49 (by decide) ?_
    exact V_zretW X h (by decide) dX6_recall_50
  · replace h := (if_neg b1).symm.trans h
    refine V_iconst X 0 dX6_recall_8 (by decide) ?_
    exact V_zretW X h (by decide) dX6_recall_9

def f_X6_forget (μ : ZMem) : Option (ZMem) := zlt (mset μ (0, 2, 0) 2 0) (fun (μ1 : ZMem) => some μ1)
set_option maxRecDepth 100000 in
set_option maxHeartbeats 4000000 in
theorem M_X6_forget {l : Launch} {D : va_G} {y : ZLay}   {μ : ZMem} {μ0 : ZMem} (h : f_X6_forget μ = some μ0) : MV l yX6_forget wb_X6_forget rm_X6_forget D y [.ref (zad y (0, 2, 0))] μ μ0 := by
  unfold f_X6_forget at h
  refine MV_of RX6 [(0, .ref (zad y (0, 2, 0)))] (by decide) rfl rfl (Nat.le_of_ble_eq_true rfl) rfl ?_
  intro p e s m args below meth c A X
  refine V_aload_n X 0 dX6_forget_0 rfl rfl ?_
  refine V_iconst X 0 dX6_forget_1 (by decide) ?_
  refine V_puti X tyX6 .int (o := (0, 2, 0)) (ci := 6) (k := 2) (N := 3) (T := TX6) (C := RX6) ⟨by decide, rfl⟩ rfl rfl rfl (by decide) (mBa inB_X6) tyX6_ok nmX6 (mB wl_RX6_28) rfl rfl rfl rfl dX6_forget_2 ?_
  refine zlt_el (P := fun (μ1 : ZMem) => V X μ1 5 [(0, .ref (zad y (0, 2, 0)))] []) h (fun μ1 h => ?_)
  exact V_vretW X h dX6_forget_5

def f_X7_knowing (s0 : Nat) (a1 : Int32) (μ : ZMem) : Option (Int32) := bd (lp (σ := Int32 × Int32) (fun q => un2 q (fun (x1 : Int32) (x2 : Int32) => if (μ (1, s0, 0) 4) ≤ x2 then some (.inr x1) else gd (zin x2 8) (bd (f_X11_isIn (μ (3, s0, x2.toNatClampNeg) 5) a1) (fun (x7 : Int32) => zlt (α := Int32) (if x7 = 0 then x1 else zlt (x1 ||| (f_X11_bit x2)) (fun (x10 : Int32) => x10)) (fun (x9 : Int32) => some (.inl (x9, (x2 + 1)))))))) FU (0, 0)) (fun (x3 : Int32) => some x3)
set_option maxRecDepth 100000 in
set_option maxHeartbeats 4000000 in
theorem M_X7_knowing {l : Launch} {D : va_G} {y : ZLay} {s0 : Nat} {a1 : Int32} (hs0 : s0 < 15) {μ : ZMem} {r : Int32} (h : f_X7_knowing s0 a1 μ = some r) : MI l yX7_knowing wb_X7_knowing rm_X7_knowing D y [.ref (zad y (1, s0, 0)), .int a1] μ r μ := by
  unfold f_X7_knowing at h
  refine MI_of RX7 [(0, .ref (zad y (1, s0, 0))), (1, .int a1)] (by decide) rfl rfl (Nat.le_of_ble_eq_true rfl) rfl ?_
  intro p e s m args below meth c A X
  refine V_iconst X 0 dX7_knowing_0 (by decide) ?_
  refine V_istore_n X [(2, .int 0), (0, .ref (zad y (1, s0, 0))), (1, .int a1)] dX7_knowing_1 rfl (by decide) rfl ?_
  refine V_iconst X 0 dX7_knowing_2 (by decide) ?_
  refine V_istore_n X [(3, .int 0), (2, .int 0), (0, .ref (zad y (1, s0, 0))), (1, .int a1)] dX7_knowing_3 rfl (by decide) rfl ?_
  refine V_sub X [2, 3, 1, 0] (lv' := [(0, .ref (zad y (1, s0, 0))), (1, .int a1), (2, .int 0), (3, .int 0)]) rfl ?_
  obtain ⟨x3, hl, h⟩ := bd_some h
  have hk : V X μ 41 [(2, .int x3)] [] := by
    clear hl
    refine V_iload_n X 0 dX7_knowing_41 rfl rfl ?_
    exact V_iretR X h dX7_knowing_42
  refine lp_ind (P := fun q => V X μ 4 [(0, .ref (zad y (1, s0, 0))), (1, .int a1), (2, .int q.1), (3, .int q.2)] []) (fun q z h hz => ?_) hl
  obtain ⟨x1, x2⟩ := q
  replace h := un2_eq h
  show V X μ 4 [(0, .ref (zad y (1, s0, 0))), (1, .int a1), (2, .int x1), (3, .int x2)] []
  refine V_iload_n X 3 dX7_knowing_4 rfl rfl ?_
  refine V_aload_n X 0 dX7_knowing_5 rfl rfl ?_
  refine V_geti X (o := (1, s0, 0)) (ci := 7) (k := 4) (N := 11) (T := TX7) (C := RX7) ⟨hs0, rfl⟩ rfl rfl rfl (by decide) (mBa inB_X7) (mB wl_RX7_52) dX7_knowing_6 ?_
  refine V_icmp_ge X (tgt := 41) dX7_knowing_9 (by decide) (fun b4 => ?_) (fun b4 => ?_)
  · replace h := (if_pos b4).symm.trans h
    refine V_sub X [2] (lv' := [(2, .int x1)]) rfl ?_
    cases h
    obtain rfl := pr1 hz
    exact hk
  · replace h := (if_neg b4).symm.trans h
    refine V_aload_n X 0 dX7_knowing_12 rfl rfl ?_
    refine V_getr X (o := (1, s0, 0)) (i := (2, s0, 0)) (ci := 7) (k := 0) (N := 11) (T := TX7) (C := RX7) ⟨hs0, rfl⟩ rfl rfl rfl (by decide) (mBa inB_X7) (mB wl_RX7_11) dX7_knowing_13 ?_
    refine V_iload_n X 3 dX7_knowing_16 rfl rfl ?_
    obtain ⟨g5, h⟩ := gd_some h
    refine V_aald X x2.toNatClampNeg rfl (o := (2, s0, 0)) ⟨hs0, rfl⟩ rfl rfl rfl rfl g5 dX7_knowing_17 ?_
    refine V_geti X (o := (3, s0, x2.toNatClampNeg)) (ci := 5) (k := 5) (N := 11) (T := TX5) (C := RX5) ⟨hs0, zin_lt g5⟩ rfl rfl rfl (by decide) (mBa inB_X5) (mB wl_RX7_72) dX7_knowing_18 ?_
    refine V_iload_n X 1 dX7_knowing_21 rfl rfl ?_
    obtain ⟨x7, c6, h⟩ := bd_some h
    refine V_callSNi X (As := [.int (μ (3, s0, x2.toNatClampNeg) 5), .int a1]) (M_X11_isIn c6) ⟨va_cnB (host := "SlotCluster") 2 X.2.2.2.2.2.2.1 (gN wc_X11_isIn) rfl rfl rfl (X.2.2.2.2.2.2.2.2.1 _ (List.mem_of_getElem? wn_RX7_75)) (X.2.2.2.2.2.2.1 (.initialized RX11) (mB win_RX11)) hd_X11_isIn.2 ⟨Nat.le_of_ble_eq_true rfl, Nat.le_of_ble_eq_true rfl⟩, X.2.2.2.2.2.2.1 (.static yX11_isIn) (mB wst_X11_isIn), trivial⟩ rfl (Nat.le_of_ble_eq_true rfl) dX7_knowing_22 rfl ?_
    obtain ⟨x9, h1, h⟩ := zl1_some h
    have hk : V X μ 35 [(0, .ref (zad y (1, s0, 0))), (1, .int a1), (2, .int x9), (3, .int x2)] [] := by
      clear h1
      refine V_inc X 3 1 [(3, .int (x2 + 1)), (0, .ref (zad y (1, s0, 0))), (1, .int a1), (2, .int x9)] dX7_knowing_35 rfl (by decide) (by decide) rfl ?_
      refine V_goto X (tgt := 4) dX7_knowing_38 (by decide) ?_
      refine V_sub X [1, 2, 3, 0] (lv' := [(0, .ref (zad y (1, s0, 0))), (1, .int a1), (2, .int x9), (3, .int (x2 + 1))]) rfl ?_
      cases h
      exact hz
    replace h := h1
    clear h1
    refine V_if_eq X (tgt := 35) dX7_knowing_25 (by decide) (fun b8 => ?_) (fun b8 => ?_)
    · replace h := (if_pos b8).symm.trans h
      obtain rfl := pr1 h
      exact hk
    · replace h := (if_neg b8).symm.trans h
      refine V_iload_n X 2 dX7_knowing_28 rfl rfl ?_
      refine V_iload_n X 3 dX7_knowing_29 rfl rfl ?_
      refine V_callSNi X (As := [.int x2]) (M_X11_bit) ⟨va_cnB (host := "SlotCluster") 1 X.2.2.2.2.2.2.1 (gN wc_X11_bit) rfl rfl rfl (X.2.2.2.2.2.2.2.2.1 _ (List.mem_of_getElem? wn_RX7_68)) (X.2.2.2.2.2.2.1 (.initialized RX11) (mB win_RX11)) hd_X11_bit.2 ⟨Nat.le_of_ble_eq_true rfl, Nat.le_of_ble_eq_true rfl⟩, X.2.2.2.2.2.2.1 (.static yX11_bit) (mB wst_X11_bit), trivial⟩ rfl (Nat.le_of_ble_eq_true rfl) dX7_knowing_30 rfl ?_
      refine V_ior X dX7_knowing_33 ?_
      refine V_istore_n X [(2, .int (x1 ||| (f_X11_bit x2))), (0, .ref (zad y (1, s0, 0))), (1, .int a1), (3, .int x2)] dX7_knowing_34 rfl (by decide) rfl ?_
      refine zlt_el (P := fun (x10 : Int32) => V X μ 35 [(2, .int x10), (0, .ref (zad y (1, s0, 0))), (1, .int a1), (3, .int x2)] []) h (fun x10 h => ?_)
      refine V_sub X [1, 2, 0, 3] (lv' := [(0, .ref (zad y (1, s0, 0))), (1, .int a1), (2, .int x10), (3, .int x2)]) rfl ?_
      obtain rfl := pr1 h
      exact hk

def f_X7_spreadOfClocks (s0 : Nat) (μ : ZMem) : Option (Int32) := bd2 (lp (σ := Int32 × Int32 × Int32 × Int32) (fun q => un4 q (fun (x1 : Int32) (x2 : Int32) (x3 : Int32) (x4 : Int32) => if (μ (1, s0, 0) 4) ≤ x4 then some (.inr (x2, x3)) else gd (zin x4 8) (zl3 (α := Int32) (β := Int32) (γ := Int32) (if (μ (3, s0, x4.toNatClampNeg) 3) = 2 then zlt (μ (3, s0, x4.toNatClampNeg) 0) (fun (x13 : Int32) => zlt (α := Int32) (if x1 = 0 then x13 else (zmin x2 x13)) (fun (x15 : Int32) => zlt (α := Int32) (if x1 = 0 then x13 else (zmax x3 x13)) (fun (x17 : Int32) => (1, x15, x17)))) else (x1, x2, x3)) (fun (x10 : Int32) (x11 : Int32) (x12 : Int32) => some (.inl (x10, x11, x12, (x4 + 1))))))) FU (0, 0, 0, 0)) (fun (x5 : Int32) (x6 : Int32) => some (x6 - x5))
set_option maxRecDepth 100000 in
set_option maxHeartbeats 4000000 in
theorem M_X7_spreadOfClocks {l : Launch} {D : va_G} {y : ZLay} {s0 : Nat} (hs0 : s0 < 15) {μ : ZMem} {r : Int32} (h : f_X7_spreadOfClocks s0 μ = some r) : MI l yX7_spreadOfClocks wb_X7_spreadOfClocks rm_X7_spreadOfClocks D y [.ref (zad y (1, s0, 0))] μ r μ := by
  unfold f_X7_spreadOfClocks at h
  refine MI_of RX7 [(0, .ref (zad y (1, s0, 0)))] (by decide) rfl rfl (Nat.le_of_ble_eq_true rfl) rfl ?_
  intro p e s m args below meth c A X
  refine V_iconst X 0 dX7_spreadOfClocks_0 (by decide) ?_
  refine V_istore_n X [(1, .int 0), (0, .ref (zad y (1, s0, 0)))] dX7_spreadOfClocks_1 rfl (by decide) rfl ?_
  refine V_iconst X 0 dX7_spreadOfClocks_2 (by decide) ?_
  refine V_istore_n X [(2, .int 0), (1, .int 0), (0, .ref (zad y (1, s0, 0)))] dX7_spreadOfClocks_3 rfl (by decide) rfl ?_
  refine V_iconst X 0 dX7_spreadOfClocks_4 (by decide) ?_
  refine V_istore_n X [(3, .int 0), (2, .int 0), (1, .int 0), (0, .ref (zad y (1, s0, 0)))] dX7_spreadOfClocks_5 rfl (by decide) rfl ?_
  refine V_iconst X 0 dX7_spreadOfClocks_6 (by decide) ?_
  refine V_istore X [(4, .int 0), (3, .int 0), (2, .int 0), (1, .int 0), (0, .ref (zad y (1, s0, 0)))] dX7_spreadOfClocks_7 (by decide) rfl ?_
  refine V_sub X [4, 3, 2, 1, 0] (lv' := [(0, .ref (zad y (1, s0, 0))), (1, .int 0), (2, .int 0), (3, .int 0), (4, .int 0)]) rfl ?_
  obtain ⟨x5, x6, hl, h⟩ := bd2_some h
  have hk : V X μ 84 [(2, .int x5), (3, .int x6)] [] := by
    clear hl
    refine V_iload_n X 1 dX7_spreadOfClocks_84 rfl rfl ?_
    refine V_iload_n X 0 dX7_spreadOfClocks_85 rfl rfl ?_
    refine V_isub X dX7_spreadOfClocks_86 ?_
    exact V_iretR X h dX7_spreadOfClocks_87
  refine lp_ind (P := fun q => V X μ 9 [(0, .ref (zad y (1, s0, 0))), (1, .int q.1), (2, .int q.2.1), (3, .int q.2.2.1), (4, .int q.2.2.2)] []) (fun q z h hz => ?_) hl
  obtain ⟨x1, x2, x3, x4⟩ := q
  replace h := un4_eq h
  show V X μ 9 [(0, .ref (zad y (1, s0, 0))), (1, .int x1), (2, .int x2), (3, .int x3), (4, .int x4)] []
  refine V_iload X 4 dX7_spreadOfClocks_9 rfl ?_
  refine V_aload_n X 0 dX7_spreadOfClocks_11 rfl rfl ?_
  refine V_geti X (o := (1, s0, 0)) (ci := 7) (k := 4) (N := 11) (T := TX7) (C := RX7) ⟨hs0, rfl⟩ rfl rfl rfl (by decide) (mBa inB_X7) (mB wl_RX7_52) dX7_spreadOfClocks_12 ?_
  refine V_icmp_ge X (tgt := 84) dX7_spreadOfClocks_15 (by decide) (fun b7 => ?_) (fun b7 => ?_)
  · replace h := (if_pos b7).symm.trans h
    refine V_sub X [2, 3] (lv' := [(2, .int x2), (3, .int x3)]) rfl ?_
    cases h
    obtain ⟨rfl, rfl⟩ := pr2 hz
    exact hk
  · replace h := (if_neg b7).symm.trans h
    refine V_aload_n X 0 dX7_spreadOfClocks_18 rfl rfl ?_
    refine V_getr X (o := (1, s0, 0)) (i := (2, s0, 0)) (ci := 7) (k := 0) (N := 11) (T := TX7) (C := RX7) ⟨hs0, rfl⟩ rfl rfl rfl (by decide) (mBa inB_X7) (mB wl_RX7_11) dX7_spreadOfClocks_19 ?_
    refine V_iload X 4 dX7_spreadOfClocks_22 rfl ?_
    obtain ⟨g8, h⟩ := gd_some h
    refine V_aald X x4.toNatClampNeg rfl (o := (2, s0, 0)) ⟨hs0, rfl⟩ rfl rfl rfl rfl g8 dX7_spreadOfClocks_24 ?_
    refine V_geti X (o := (3, s0, x4.toNatClampNeg)) (ci := 5) (k := 3) (N := 11) (T := TX5) (C := RX5) ⟨hs0, zin_lt g8⟩ rfl rfl rfl (by decide) (mBa inB_X5) (mB wl_RX7_65) dX7_spreadOfClocks_25 ?_
    refine V_iconst X 2 dX7_spreadOfClocks_28 (by decide) ?_
    obtain ⟨x10, x11, x12, h1, h⟩ := zl3_some h
    have hk : V X μ 78 [(0, .ref (zad y (1, s0, 0))), (1, .int x10), (2, .int x11), (3, .int x12), (4, .int x4)] [] := by
      clear h1
      refine V_inc X 4 1 [(4, .int (x4 + 1)), (0, .ref (zad y (1, s0, 0))), (1, .int x10), (2, .int x11), (3, .int x12)] dX7_spreadOfClocks_78 rfl (by decide) (by decide) rfl ?_
      refine V_goto X (tgt := 9) dX7_spreadOfClocks_81 (by decide) ?_
      refine V_sub X [1, 2, 3, 4, 0] (lv' := [(0, .ref (zad y (1, s0, 0))), (1, .int x10), (2, .int x11), (3, .int x12), (4, .int (x4 + 1))]) rfl ?_
      cases h
      exact hz
    replace h := h1
    clear h1
    refine V_icmp_ne X (tgt := 78) dX7_spreadOfClocks_29 (by decide) (fun b9 => ?_) (fun b9 => ?_)
    · replace h := (if_neg b9).symm.trans h
      obtain ⟨rfl, rfl, rfl⟩ := pr3 h
      exact hk
    · replace h := (if_pos b9).symm.trans h
      refine V_aload_n X 0 dX7_spreadOfClocks_32 rfl rfl ?_
      refine V_getr X (o := (1, s0, 0)) (i := (2, s0, 0)) (ci := 7) (k := 0) (N := 11) (T := TX7) (C := RX7) ⟨hs0, rfl⟩ rfl rfl rfl (by decide) (mBa inB_X7) (mB wl_RX7_11) dX7_spreadOfClocks_33 ?_
      refine V_iload X 4 dX7_spreadOfClocks_36 rfl ?_
      refine V_aald X x4.toNatClampNeg rfl (o := (2, s0, 0)) ⟨hs0, rfl⟩ rfl rfl rfl rfl g8 dX7_spreadOfClocks_38 ?_
      refine V_geti X (o := (3, s0, x4.toNatClampNeg)) (ci := 5) (k := 0) (N := 11) (T := TX5) (C := RX5) ⟨hs0, zin_lt g8⟩ rfl rfl rfl (by decide) (mBa inB_X5) (mB wl_RX7_79) dX7_spreadOfClocks_39 ?_
      refine V_istore X [(5, .int (μ (3, s0, x4.toNatClampNeg) 0)), (0, .ref (zad y (1, s0, 0))), (1, .int x1), (2, .int x2), (3, .int x3), (4, .int x4)] dX7_spreadOfClocks_42 (by decide) rfl ?_
      refine zlt_el (P := fun (x13 : Int32) => V X μ 44 [(5, .int x13), (0, .ref (zad y (1, s0, 0))), (1, .int x1), (2, .int x2), (3, .int x3), (4, .int x4)] []) h (fun x13 h => ?_)
      refine V_iload_n X 2 dX7_spreadOfClocks_44 rfl rfl ?_
      obtain ⟨x15, h1, h⟩ := zl1_some h
      have hk : V X μ 59 [(0, .ref (zad y (1, s0, 0))), (1, .int x1), (3, .int x3), (4, .int x4), (5, .int x13)] [.int x15] := by
        clear h1
        refine V_istore_n X [(2, .int x15), (0, .ref (zad y (1, s0, 0))), (1, .int x1), (3, .int x3), (4, .int x4), (5, .int x13)] dX7_spreadOfClocks_59 rfl (by decide) rfl ?_
        refine V_iload_n X 2 dX7_spreadOfClocks_60 rfl rfl ?_
        obtain ⟨x17, h1, h⟩ := zl1_some h
        have hk : V X μ 75 [(0, .ref (zad y (1, s0, 0))), (2, .int x15), (4, .int x4)] [.int x17] := by
          clear h1
          refine V_istore_n X [(3, .int x17), (0, .ref (zad y (1, s0, 0))), (2, .int x15), (4, .int x4)] dX7_spreadOfClocks_75 rfl (by decide) rfl ?_
          refine V_iconst X 1 dX7_spreadOfClocks_76 (by decide) ?_
          refine V_istore_n X [(1, .int 1), (3, .int x17), (0, .ref (zad y (1, s0, 0))), (2, .int x15), (4, .int x4)] dX7_spreadOfClocks_77 rfl (by decide) rfl ?_
          refine V_sub X [2, 0, 3, 1, 4] (lv' := [(0, .ref (zad y (1, s0, 0))), (1, .int 1), (2, .int x15), (3, .int x17), (4, .int x4)]) rfl ?_
          obtain ⟨rfl, rfl, rfl⟩ := pr3 h
          exact hk
        replace h := h1
        clear h1
        refine V_if_eq X (tgt := 73) dX7_spreadOfClocks_61 (by decide) (fun b16 => ?_) (fun b16 => ?_)
        · replace h := (if_pos b16).symm.trans h
          refine V_iload X 5 dX7_spreadOfClocks_73 rfl ?_
          refine V_sub X [1, 0, 4] (lv' := [(0, .ref (zad y (1, s0, 0))), (2, .int x15), (4, .int x4)]) rfl ?_
          obtain rfl := pr1 h
          exact hk
        · replace h := (if_neg b16).symm.trans h
          refine V_iload_n X 3 dX7_spreadOfClocks_64 rfl rfl ?_
          refine V_iload X 5 dX7_spreadOfClocks_65 rfl ?_
          refine V_zmax X (ix := 88) (mB wm_RX7_88) (mB wst_Math_max) (mB win_Math) (mB wc_Math_max) (Nat.le_of_ble_eq_true rfl) (Nat.le_of_ble_eq_true rfl) dX7_spreadOfClocks_67 ?_
          refine V_goto X (tgt := 75) dX7_spreadOfClocks_70 (by decide) ?_
          refine V_sub X [1, 0, 4] (lv' := [(0, .ref (zad y (1, s0, 0))), (2, .int x15), (4, .int x4)]) rfl ?_
          obtain rfl := pr1 h
          exact hk
      replace h := h1
      clear h1
      refine V_if_eq X (tgt := 57) dX7_spreadOfClocks_45 (by decide) (fun b14 => ?_) (fun b14 => ?_)
      · replace h := (if_pos b14).symm.trans h
        refine V_iload X 0 dX7_spreadOfClocks_57 rfl ?_
        refine V_sub X [1, 2, 4, 5, 0] (lv' := [(0, .ref (zad y (1, s0, 0))), (1, .int x1), (3, .int x3), (4, .int x4), (5, .int x13)]) rfl ?_
        obtain rfl := pr1 h
        exact hk
      · replace h := (if_neg b14).symm.trans h
        refine V_iload_n X 3 dX7_spreadOfClocks_48 rfl rfl ?_
        refine V_iload X 0 dX7_spreadOfClocks_49 rfl ?_
        refine V_zmin X (ix := 82) (mB wm_RX7_82) (mB wst_Math_min) (mB win_Math) (mB wc_Math_min) (Nat.le_of_ble_eq_true rfl) (Nat.le_of_ble_eq_true rfl) dX7_spreadOfClocks_51 ?_
        refine V_goto X (tgt := 59) dX7_spreadOfClocks_54 (by decide) ?_
        refine V_sub X [1, 2, 4, 5, 0] (lv' := [(0, .ref (zad y (1, s0, 0))), (1, .int x1), (3, .int x3), (4, .int x4), (5, .int x13)]) rfl ?_
        obtain rfl := pr1 h
        exact hk

def f_X7_draw (s0 : Nat) (μ : ZMem) : Option (Int32 × ZMem) := zlt (mset μ (1, s0, 0) 8 ((1103515245 * (μ (1, s0, 0) 8)) + 12345)) (fun (μ1 : ZMem) => some (((zushr (μ1 (1, s0, 0) 8) 16) &&& 32767), μ1))
set_option maxRecDepth 100000 in
set_option maxHeartbeats 4000000 in
theorem M_X7_draw {l : Launch} {D : va_G} {y : ZLay} {s0 : Nat} (hs0 : s0 < 15) {μ : ZMem} {r : Int32} {μ0 : ZMem} (h : f_X7_draw s0 μ = some (r, μ0)) : MI l yX7_draw wb_X7_draw rm_X7_draw D y [.ref (zad y (1, s0, 0))] μ r μ0 := by
  unfold f_X7_draw at h
  refine MI_of RX7 [(0, .ref (zad y (1, s0, 0)))] (by decide) rfl rfl (Nat.le_of_ble_eq_true rfl) rfl ?_
  intro p e s m args below meth c A X
  refine V_aload_n X 0 dX7_draw_0 rfl rfl ?_
  refine V_ldc X (ix := 91) (v := 1103515245) (mB wk_RX7_91) dX7_draw_1 ?_
  refine V_aload_n X 0 dX7_draw_3 rfl rfl ?_
  refine V_geti X (o := (1, s0, 0)) (ci := 7) (k := 8) (N := 11) (T := TX7) (C := RX7) ⟨hs0, rfl⟩ rfl rfl rfl (by decide) (mBa inB_X7) (mB wl_RX7_28) dX7_draw_4 ?_
  refine V_imul X dX7_draw_7 ?_
  refine V_sipush X 12345 dX7_draw_8 (by decide) ?_
  refine V_iadd X dX7_draw_11 ?_
  refine V_puti X tyX7 .int (o := (1, s0, 0)) (ci := 7) (k := 8) (N := 11) (T := TX7) (C := RX7) ⟨hs0, rfl⟩ rfl rfl rfl (by decide) (mBa inB_X7) tyX7_ok nmX7 (mB wl_RX7_28) rfl rfl rfl rfl dX7_draw_12 ?_
  refine zlt_el (P := fun (μ1 : ZMem) => V X μ1 15 [(0, .ref (zad y (1, s0, 0)))] []) h (fun μ1 h => ?_)
  refine V_aload_n X 0 dX7_draw_15 rfl rfl ?_
  refine V_geti X (o := (1, s0, 0)) (ci := 7) (k := 8) (N := 11) (T := TX7) (C := RX7) ⟨hs0, rfl⟩ rfl rfl rfl (by decide) (mBa inB_X7) (mB wl_RX7_28) dX7_draw_16 ?_
  refine V_bipush X 16 dX7_draw_19 (by decide) ?_
  refine V_iushr X dX7_draw_21 ?_
  refine V_sipush X 32767 dX7_draw_22 (by decide) ?_
  refine V_iand X dX7_draw_25 ?_
  exact V_iretW X h dX7_draw_26

def f_X7_note (s0 : Nat) (a1 : Int32) (a2 : Int32) (a3 : Int32) (μ : ZMem) : Option (ZMem) := zlt (4 * (μ (1, s0, 0) 3)) (fun (x1 : Int32) => jk (some μ) (fun k3 => if x1 < 0 then k3 else if (x1 + 3) < 240 then gd (zin x1 240) (zlt (mset μ (4, s0, 0) x1.toNatClampNeg (μ (1, s0, 0) 7)) (fun (μ6 : ZMem) => gd (zin (x1 + 1) 240) (zlt (mset μ6 (4, s0, 0) (x1 + 1).toNatClampNeg a1) (fun (μ8 : ZMem) => gd (zin (x1 + 2) 240) (zlt (mset μ8 (4, s0, 0) (x1 + 2).toNatClampNeg a2) (fun (μ10 : ZMem) => gd (zin (x1 + 3) 240) (zlt (mset μ10 (4, s0, 0) (x1 + 3).toNatClampNeg a3) (fun (μ12 : ZMem) => zlt (mset μ12 (1, s0, 0) 3 (zrem ((μ12 (1, s0, 0) 3) + 1) 60)) (fun (μ13 : ZMem) => zlt (mset μ13 (1, s0, 0) 2 (zmin 60 ((μ13 (1, s0, 0) 2) + 1))) (fun (μ14 : ZMem) => some μ14)))))))))) else k3))
set_option maxRecDepth 100000 in
set_option maxHeartbeats 4000000 in
theorem M_X7_note {l : Launch} {D : va_G} {y : ZLay} {s0 : Nat} {a1 : Int32} {a2 : Int32} {a3 : Int32} (hs0 : s0 < 15) {μ : ZMem} {μ0 : ZMem} (h : f_X7_note s0 a1 a2 a3 μ = some μ0) : MV l yX7_note wb_X7_note rm_X7_note D y [.ref (zad y (1, s0, 0)), .int a1, .int a2, .int a3] μ μ0 := by
  unfold f_X7_note at h
  refine MV_of RX7 [(0, .ref (zad y (1, s0, 0))), (1, .int a1), (2, .int a2), (3, .int a3)] (by decide) rfl rfl (Nat.le_of_ble_eq_true rfl) rfl ?_
  intro p e s m args below meth c A X
  refine V_iconst X 4 dX7_note_0 (by decide) ?_
  refine V_aload_n X 0 dX7_note_1 rfl rfl ?_
  refine V_geti X (o := (1, s0, 0)) (ci := 7) (k := 3) (N := 11) (T := TX7) (C := RX7) ⟨hs0, rfl⟩ rfl rfl rfl (by decide) (mBa inB_X7) (mB wl_RX7_49) dX7_note_2 ?_
  refine V_imul X dX7_note_5 ?_
  refine V_istore X [(4, .int (4 * (μ (1, s0, 0) 3))), (0, .ref (zad y (1, s0, 0))), (1, .int a1), (2, .int a2), (3, .int a3)] dX7_note_6 (by decide) rfl ?_
  refine zlt_el (P := fun (x1 : Int32) => V X μ 8 [(4, .int x1), (0, .ref (zad y (1, s0, 0))), (1, .int a1), (2, .int a2), (3, .int a3)] []) h (fun x1 h => ?_)
  refine V_iload X 0 dX7_note_8 rfl ?_
  refine jk0_el (P := V X μ 25 [] []) h (fun h => ?_) (fun k3 hk3 h => ?_)
  · exact V_vretW X h dX7_note_25
  · refine V_if_lt X (tgt := 25) dX7_note_10 (by decide) (fun b2 => ?_) (fun b2 => ?_)
    · replace h := (if_pos b2).symm.trans h
      refine V_sub X [] (lv' := []) rfl ?_
      exact hk3 h
    · replace h := (if_neg b2).symm.trans h
      refine V_iload X 0 dX7_note_13 rfl ?_
      refine V_iconst X 3 dX7_note_15 (by decide) ?_
      refine V_iadd X dX7_note_16 ?_
      refine V_aload_n X 1 dX7_note_17 rfl rfl ?_
      refine V_getr X (o := (1, s0, 0)) (i := (4, s0, 0)) (ci := 7) (k := 1) (N := 11) (T := TX7) (C := RX7) ⟨hs0, rfl⟩ rfl rfl rfl (by decide) (mBa inB_X7) (mB wl_RX7_17) dX7_note_18 ?_
      refine V_alen X 240 (o := (4, s0, 0)) (n := 240) ⟨hs0, rfl⟩ rfl rfl (by decide) dX7_note_21 ?_
      refine V_icmp_lt X (tgt := 26) dX7_note_22 (by decide) (fun b4 => ?_) (fun b4 => ?_)
      · replace h := (if_pos b4).symm.trans h
        refine V_aload_n X 1 dX7_note_26 rfl rfl ?_
        refine V_getr X (o := (1, s0, 0)) (i := (4, s0, 0)) (ci := 7) (k := 1) (N := 11) (T := TX7) (C := RX7) ⟨hs0, rfl⟩ rfl rfl rfl (by decide) (mBa inB_X7) (mB wl_RX7_17) dX7_note_27 ?_
        refine V_iload X 0 dX7_note_30 rfl ?_
        refine V_aload_n X 1 dX7_note_32 rfl rfl ?_
        refine V_geti X (o := (1, s0, 0)) (ci := 7) (k := 7) (N := 11) (T := TX7) (C := RX7) ⟨hs0, rfl⟩ rfl rfl rfl (by decide) (mBa inB_X7) (mB wl_RX7_55) dX7_note_33 ?_
        obtain ⟨g5, h⟩ := gd_some h
        refine V_iast X x1.toNatClampNeg rfl (o := (4, s0, 0)) (n := 240) ⟨hs0, rfl⟩ rfl rfl g5 dX7_note_36 ?_
        refine zlt_el (P := fun (μ6 : ZMem) => V X μ6 37 [(4, .int x1), (0, .ref (zad y (1, s0, 0))), (1, .int a1), (2, .int a2), (3, .int a3)] []) h (fun μ6 h => ?_)
        refine V_aload_n X 1 dX7_note_37 rfl rfl ?_
        refine V_getr X (o := (1, s0, 0)) (i := (4, s0, 0)) (ci := 7) (k := 1) (N := 11) (T := TX7) (C := RX7) ⟨hs0, rfl⟩ rfl rfl rfl (by decide) (mBa inB_X7) (mB wl_RX7_17) dX7_note_38 ?_
        refine V_iload X 0 dX7_note_41 rfl ?_
        refine V_iconst X 1 dX7_note_43 (by decide) ?_
        refine V_iadd X dX7_note_44 ?_
        refine V_iload_n X 2 dX7_note_45 rfl rfl ?_
        obtain ⟨g7, h⟩ := gd_some h
        refine V_iast X (x1 + 1).toNatClampNeg rfl (o := (4, s0, 0)) (n := 240) ⟨hs0, rfl⟩ rfl rfl g7 dX7_note_46 ?_
        refine zlt_el (P := fun (μ8 : ZMem) => V X μ8 47 [(4, .int x1), (0, .ref (zad y (1, s0, 0))), (1, .int a1), (2, .int a2), (3, .int a3)] []) h (fun μ8 h => ?_)
        refine V_aload_n X 1 dX7_note_47 rfl rfl ?_
        refine V_getr X (o := (1, s0, 0)) (i := (4, s0, 0)) (ci := 7) (k := 1) (N := 11) (T := TX7) (C := RX7) ⟨hs0, rfl⟩ rfl rfl rfl (by decide) (mBa inB_X7) (mB wl_RX7_17) dX7_note_48 ?_
        refine V_iload X 0 dX7_note_51 rfl ?_
        refine V_iconst X 2 dX7_note_53 (by decide) ?_
        refine V_iadd X dX7_note_54 ?_
        refine V_iload_n X 3 dX7_note_55 rfl rfl ?_
        obtain ⟨g9, h⟩ := gd_some h
        refine V_iast X (x1 + 2).toNatClampNeg rfl (o := (4, s0, 0)) (n := 240) ⟨hs0, rfl⟩ rfl rfl g9 dX7_note_56 ?_
        refine zlt_el (P := fun (μ10 : ZMem) => V X μ10 57 [(4, .int x1), (0, .ref (zad y (1, s0, 0))), (1, .int a1), (2, .int a2), (3, .int a3)] []) h (fun μ10 h => ?_)
        refine V_aload_n X 1 dX7_note_57 rfl rfl ?_
        refine V_getr X (o := (1, s0, 0)) (i := (4, s0, 0)) (ci := 7) (k := 1) (N := 11) (T := TX7) (C := RX7) ⟨hs0, rfl⟩ rfl rfl rfl (by decide) (mBa inB_X7) (mB wl_RX7_17) dX7_note_58 ?_
        refine V_iload X 0 dX7_note_61 rfl ?_
        refine V_iconst X 3 dX7_note_63 (by decide) ?_
        refine V_iadd X dX7_note_64 ?_
        refine V_iload_n X 4 dX7_note_65 rfl rfl ?_
        obtain ⟨g11, h⟩ := gd_some h
        refine V_iast X (x1 + 3).toNatClampNeg rfl (o := (4, s0, 0)) (n := 240) ⟨hs0, rfl⟩ rfl rfl g11 dX7_note_66 ?_
        refine zlt_el (P := fun (μ12 : ZMem) => V X μ12 67 [(4, .int x1), (0, .ref (zad y (1, s0, 0))), (1, .int a1), (2, .int a2), (3, .int a3)] []) h (fun μ12 h => ?_)
        refine V_aload_n X 1 dX7_note_67 rfl rfl ?_
        refine V_aload_n X 1 dX7_note_68 rfl rfl ?_
        refine V_geti X (o := (1, s0, 0)) (ci := 7) (k := 3) (N := 11) (T := TX7) (C := RX7) ⟨hs0, rfl⟩ rfl rfl rfl (by decide) (mBa inB_X7) (mB wl_RX7_49) dX7_note_69 ?_
        refine V_iconst X 1 dX7_note_72 (by decide) ?_
        refine V_iadd X dX7_note_73 ?_
        refine V_bipush X 60 dX7_note_74 (by decide) ?_
        refine V_rem X dX7_note_76 (by decide) ?_
        refine V_puti X tyX7 .int (o := (1, s0, 0)) (ci := 7) (k := 3) (N := 11) (T := TX7) (C := RX7) ⟨hs0, rfl⟩ rfl rfl rfl (by decide) (mBa inB_X7) tyX7_ok nmX7 (mB wl_RX7_49) rfl rfl rfl rfl dX7_note_77 ?_
        refine zlt_el (P := fun (μ13 : ZMem) => V X μ13 80 [(4, .int x1), (0, .ref (zad y (1, s0, 0))), (1, .int a1), (2, .int a2), (3, .int a3)] []) h (fun μ13 h => ?_)
        refine V_aload_n X 1 dX7_note_80 rfl rfl ?_
        refine V_bipush X 60 dX7_note_81 (by decide) ?_
        refine V_aload_n X 1 dX7_note_83 rfl rfl ?_
        refine V_geti X (o := (1, s0, 0)) (ci := 7) (k := 2) (N := 11) (T := TX7) (C := RX7) ⟨hs0, rfl⟩ rfl rfl rfl (by decide) (mBa inB_X7) (mB wl_RX7_46) dX7_note_84 ?_
        refine V_iconst X 1 dX7_note_87 (by decide) ?_
        refine V_iadd X dX7_note_88 ?_
        refine V_zmin X (ix := 82) (mB wm_RX7_82) (mB wst_Math_min) (mB win_Math) (mB wc_Math_min) (Nat.le_of_ble_eq_true rfl) (Nat.le_of_ble_eq_true rfl) dX7_note_89 ?_
        refine V_puti X tyX7 .int (o := (1, s0, 0)) (ci := 7) (k := 2) (N := 11) (T := TX7) (C := RX7) ⟨hs0, rfl⟩ rfl rfl rfl (by decide) (mBa inB_X7) tyX7_ok nmX7 (mB wl_RX7_46) rfl rfl rfl rfl dX7_note_92 ?_
        refine zlt_el (P := fun (μ14 : ZMem) => V X μ14 95 [(4, .int x1), (0, .ref (zad y (1, s0, 0))), (1, .int a1), (2, .int a2), (3, .int a3)] []) h (fun μ14 h => ?_)
        exact V_vretW X h dX7_note_95
      · replace h := (if_neg b4).symm.trans h
        refine V_sub X [] (lv' := []) rfl ?_
        exact hk3 h

def f_X7_rowOf (s0 : Nat) (a1 : Int32) (a2 : Int32) (μ : ZMem) : Option (Int32) := jk (some (-1)) (fun k2 => if a1 < 0 then k2 else if (μ (1, s0, 0) 2) ≤ a1 then k2 else if a2 < 0 then k2 else if a2 ≤ 3 then zlt (zrem ((((μ (1, s0, 0) 3) + 60) - 1) - a1) 60) (fun (x6 : Int32) => zlt ((4 * x6) + a2) (fun (x7 : Int32) => bd (α := Int32) (jk (some (-1)) (fun k10 => if x7 < 0 then k10 else if 240 ≤ x7 then k10 else gd (zin x7 240) (some (μ (4, s0, 0) x7.toNatClampNeg)))) (fun (x9 : Int32) => some x9))) else k2)
set_option maxRecDepth 100000 in
set_option maxHeartbeats 4000000 in
theorem M_X7_rowOf {l : Launch} {D : va_G} {y : ZLay} {s0 : Nat} {a1 : Int32} {a2 : Int32} (hs0 : s0 < 15) {μ : ZMem} {r : Int32} (h : f_X7_rowOf s0 a1 a2 μ = some r) : MI l yX7_rowOf wb_X7_rowOf rm_X7_rowOf D y [.ref (zad y (1, s0, 0)), .int a1, .int a2] μ r μ := by
  unfold f_X7_rowOf at h
  refine MI_of RX7 [(0, .ref (zad y (1, s0, 0))), (1, .int a1), (2, .int a2)] (by decide) rfl rfl (Nat.le_of_ble_eq_true rfl) rfl ?_
  intro p e s m args below meth c A X
  refine V_iload_n X 1 dX7_rowOf_0 rfl rfl ?_
  refine jk0_el (P := V X μ 21 [] []) h (fun h => ?_) (fun k2 hk2 h => ?_)
  · refine V_iconst X (-1) dX7_rowOf_21 (by decide) ?_
    exact V_iretR X h dX7_rowOf_22
  · refine V_if_lt X (tgt := 21) dX7_rowOf_1 (by decide) (fun b1 => ?_) (fun b1 => ?_)
    · replace h := (if_pos b1).symm.trans h
      refine V_sub X [] (lv' := []) rfl ?_
      exact hk2 h
    · replace h := (if_neg b1).symm.trans h
      refine V_iload_n X 1 dX7_rowOf_4 rfl rfl ?_
      refine V_aload_n X 0 dX7_rowOf_5 rfl rfl ?_
      refine V_geti X (o := (1, s0, 0)) (ci := 7) (k := 2) (N := 11) (T := TX7) (C := RX7) ⟨hs0, rfl⟩ rfl rfl rfl (by decide) (mBa inB_X7) (mB wl_RX7_46) dX7_rowOf_6 ?_
      refine V_icmp_ge X (tgt := 21) dX7_rowOf_9 (by decide) (fun b3 => ?_) (fun b3 => ?_)
      · replace h := (if_pos b3).symm.trans h
        refine V_sub X [] (lv' := []) rfl ?_
        exact hk2 h
      · replace h := (if_neg b3).symm.trans h
        refine V_iload_n X 2 dX7_rowOf_12 rfl rfl ?_
        refine V_if_lt X (tgt := 21) dX7_rowOf_13 (by decide) (fun b4 => ?_) (fun b4 => ?_)
        · replace h := (if_pos b4).symm.trans h
          refine V_sub X [] (lv' := []) rfl ?_
          exact hk2 h
        · replace h := (if_neg b4).symm.trans h
          refine V_iload_n X 2 dX7_rowOf_16 rfl rfl ?_
          refine V_iconst X 3 dX7_rowOf_17 (by decide) ?_
          refine V_icmp_le X (tgt := 23) dX7_rowOf_18 (by decide) (fun b5 => ?_) (fun b5 => ?_)
          · replace h := (if_pos b5).symm.trans h
            refine V_aload_n X 0 dX7_rowOf_23 rfl rfl ?_
            refine V_geti X (o := (1, s0, 0)) (ci := 7) (k := 3) (N := 11) (T := TX7) (C := RX7) ⟨hs0, rfl⟩ rfl rfl rfl (by decide) (mBa inB_X7) (mB wl_RX7_49) dX7_rowOf_24 ?_
            refine V_bipush X 60 dX7_rowOf_27 (by decide) ?_
            refine V_iadd X dX7_rowOf_29 ?_
            refine V_iconst X 1 dX7_rowOf_30 (by decide) ?_
            refine V_isub X dX7_rowOf_31 ?_
            refine V_iload_n X 1 dX7_rowOf_32 rfl rfl ?_
            refine V_isub X dX7_rowOf_33 ?_
            refine V_bipush X 60 dX7_rowOf_34 (by decide) ?_
            refine V_rem X dX7_rowOf_36 (by decide) ?_
            refine V_istore_n X [(3, .int (zrem ((((μ (1, s0, 0) 3) + 60) - 1) - a1) 60)), (0, .ref (zad y (1, s0, 0))), (1, .int a1), (2, .int a2)] dX7_rowOf_37 rfl (by decide) rfl ?_
            refine zlt_el (P := fun (x6 : Int32) => V X μ 38 [(3, .int x6), (0, .ref (zad y (1, s0, 0))), (1, .int a1), (2, .int a2)] []) h (fun x6 h => ?_)
            refine V_iconst X 4 dX7_rowOf_38 (by decide) ?_
            refine V_iload_n X 0 dX7_rowOf_39 rfl rfl ?_
            refine V_imul X dX7_rowOf_40 ?_
            refine V_iload_n X 3 dX7_rowOf_41 rfl rfl ?_
            refine V_iadd X dX7_rowOf_42 ?_
            refine V_istore X [(4, .int ((4 * x6) + a2)), (3, .int x6), (0, .ref (zad y (1, s0, 0))), (1, .int a1), (2, .int a2)] dX7_rowOf_43 (by decide) rfl ?_
            refine zlt_el (P := fun (x7 : Int32) => V X μ 45 [(4, .int x7), (3, .int x6), (0, .ref (zad y (1, s0, 0))), (1, .int a1), (2, .int a2)] []) h (fun x7 h => ?_)
            refine V_iload X 0 dX7_rowOf_45 rfl ?_
            obtain ⟨x9, h1, h⟩ := bd_some h
            have hk : V X μ 71 [] [.int x9] := by
              clear h1
              exact V_iretR X h dX7_rowOf_71
            replace h := h1
            clear h1
            refine jk0_el (P := V X μ 70 [] []) h (fun h => ?_) (fun k10 hk10 h => ?_)
            · refine V_iconst X (-1) dX7_rowOf_70 (by decide) ?_
              obtain rfl := so1 h
              exact hk
            · refine V_if_lt X (tgt := 70) dX7_rowOf_47 (by decide) (fun b8 => ?_) (fun b8 => ?_)
              · replace h := (if_pos b8).symm.trans h
                refine V_sub X [] (lv' := []) rfl ?_
                exact hk10 h
              · replace h := (if_neg b8).symm.trans h
                refine V_iload X 0 dX7_rowOf_50 rfl ?_
                refine V_aload_n X 2 dX7_rowOf_52 rfl rfl ?_
                refine V_getr X (o := (1, s0, 0)) (i := (4, s0, 0)) (ci := 7) (k := 1) (N := 11) (T := TX7) (C := RX7) ⟨hs0, rfl⟩ rfl rfl rfl (by decide) (mBa inB_X7) (mB wl_RX7_17) dX7_rowOf_53 ?_
                refine V_alen X 240 (o := (4, s0, 0)) (n := 240) ⟨hs0, rfl⟩ rfl rfl (by decide) dX7_rowOf_56 ?_
                refine V_icmp_ge X (tgt := 70) dX7_rowOf_57 (by decide) (fun b11 => ?_) (fun b11 => ?_)
                · replace h := (if_pos b11).symm.trans h
                  refine V_sub X [] (lv' := []) rfl ?_
                  exact hk10 h
                · replace h := (if_neg b11).symm.trans h
                  refine V_aload_n X 2 dX7_rowOf_60 rfl rfl ?_
                  refine V_getr X (o := (1, s0, 0)) (i := (4, s0, 0)) (ci := 7) (k := 1) (N := 11) (T := TX7) (C := RX7) ⟨hs0, rfl⟩ rfl rfl rfl (by decide) (mBa inB_X7) (mB wl_RX7_17) dX7_rowOf_61 ?_
                  refine V_iload X 0 dX7_rowOf_64 rfl ?_
                  obtain ⟨g12, h⟩ := gd_some h
                  refine V_iald X x7.toNatClampNeg rfl (o := (4, s0, 0)) (n := 240) ⟨hs0, rfl⟩ rfl rfl g12 dX7_rowOf_66 ?_
                  refine V_goto X (tgt := 71) dX7_rowOf_67 (by decide) ?_
                  refine V_sub X [] (lv' := []) rfl ?_
                  obtain rfl := so1 h
                  exact hk
          · replace h := (if_neg b5).symm.trans h
            refine V_sub X [] (lv' := []) rfl ?_
            exact hk2 h

def f_X8_isLetter (a0 : Int32) : Option (Int32) := bd (α := Int32) (jk (some 0) (fun k3 => if a0 < 97 then k3 else if 122 < a0 then k3 else some 1)) (fun (x2 : Int32) => gd (zbo x2) (some x2))
set_option maxRecDepth 100000 in
set_option maxHeartbeats 4000000 in
theorem M_X8_isLetter {l : Launch} {D : va_G} {y : ZLay} {a0 : Int32}  {μ : ZMem} {r : Int32} (h : f_X8_isLetter a0 = some r) : MI l yX8_isLetter wb_X8_isLetter rm_X8_isLetter D y [.int a0] μ r μ := by
  unfold f_X8_isLetter at h
  refine MI_of RX8 [(0, .int a0)] (by decide) rfl rfl (Nat.le_of_ble_eq_true rfl) rfl ?_
  intro p e s m args below meth c A X
  refine V_iload_n X 0 dX8_isLetter_0 rfl rfl ?_
  refine V_bipush X 97 dX8_isLetter_1 (by decide) ?_
  obtain ⟨x2, h1, h⟩ := bd_some h
  have hk : V X μ 17 [] [.int x2] := by
    clear h1
    obtain ⟨hzb, h⟩ := gd_some h
    exact V_zretR X h hzb dX8_isLetter_17
  replace h := h1
  clear h1
  refine jk0_el (P := V X μ 16 [] []) h (fun h => ?_) (fun k3 hk3 h => ?_)
  · refine V_iconst X 0 dX8_isLetter_16 (by decide) ?_
    obtain rfl := so1 h
    exact hk
  · refine V_icmp_lt X (tgt := 16) dX8_isLetter_3 (by decide) (fun b1 => ?_) (fun b1 => ?_)
    · replace h := (if_pos b1).symm.trans h
      refine V_sub X [] (lv' := []) rfl ?_
      exact hk3 h
    · replace h := (if_neg b1).symm.trans h
      refine V_iload_n X 0 dX8_isLetter_6 rfl rfl ?_
      refine V_bipush X 122 dX8_isLetter_7 (by decide) ?_
      refine V_icmp_gt X (tgt := 16) dX8_isLetter_9 (by decide) (fun b4 => ?_) (fun b4 => ?_)
      · replace h := (if_pos b4).symm.trans h
        refine V_sub X [] (lv' := []) rfl ?_
        exact hk3 h
      · replace h := (if_neg b4).symm.trans h
        refine V_iconst X 1 dX8_isLetter_12 (by decide) ?_
        refine V_goto X (tgt := 17) dX8_isLetter_13 (by decide) ?_
        refine V_sub X [] (lv' := []) rfl ?_
        obtain rfl := so1 h
        exact hk

def f_X8_isDigit (a0 : Int32) : Option (Int32) := bd (α := Int32) (jk (some 0) (fun k3 => if a0 < 48 then k3 else if 57 < a0 then k3 else some 1)) (fun (x2 : Int32) => gd (zbo x2) (some x2))
set_option maxRecDepth 100000 in
set_option maxHeartbeats 4000000 in
theorem M_X8_isDigit {l : Launch} {D : va_G} {y : ZLay} {a0 : Int32}  {μ : ZMem} {r : Int32} (h : f_X8_isDigit a0 = some r) : MI l yX8_isDigit wb_X8_isDigit rm_X8_isDigit D y [.int a0] μ r μ := by
  unfold f_X8_isDigit at h
  refine MI_of RX8 [(0, .int a0)] (by decide) rfl rfl (Nat.le_of_ble_eq_true rfl) rfl ?_
  intro p e s m args below meth c A X
  refine V_iload_n X 0 dX8_isDigit_0 rfl rfl ?_
  refine V_bipush X 48 dX8_isDigit_1 (by decide) ?_
  obtain ⟨x2, h1, h⟩ := bd_some h
  have hk : V X μ 17 [] [.int x2] := by
    clear h1
    obtain ⟨hzb, h⟩ := gd_some h
    exact V_zretR X h hzb dX8_isDigit_17
  replace h := h1
  clear h1
  refine jk0_el (P := V X μ 16 [] []) h (fun h => ?_) (fun k3 hk3 h => ?_)
  · refine V_iconst X 0 dX8_isDigit_16 (by decide) ?_
    obtain rfl := so1 h
    exact hk
  · refine V_icmp_lt X (tgt := 16) dX8_isDigit_3 (by decide) (fun b1 => ?_) (fun b1 => ?_)
    · replace h := (if_pos b1).symm.trans h
      refine V_sub X [] (lv' := []) rfl ?_
      exact hk3 h
    · replace h := (if_neg b1).symm.trans h
      refine V_iload_n X 0 dX8_isDigit_6 rfl rfl ?_
      refine V_bipush X 57 dX8_isDigit_7 (by decide) ?_
      refine V_icmp_gt X (tgt := 16) dX8_isDigit_9 (by decide) (fun b4 => ?_) (fun b4 => ?_)
      · replace h := (if_pos b4).symm.trans h
        refine V_sub X [] (lv' := []) rfl ?_
        exact hk3 h
      · replace h := (if_neg b4).symm.trans h
        refine V_iconst X 1 dX8_isDigit_12 (by decide) ?_
        refine V_goto X (tgt := 17) dX8_isDigit_13 (by decide) ?_
        refine V_sub X [] (lv' := []) rfl ?_
        obtain rfl := so1 h
        exact hk

def f_X8_wordAt (y : ZLay) (o0 : ZId) (a1 : Int32) (a2 : Int32) (μ : ZMem) : Option (Int32) := bd (lp (σ := Int32 × Int32 × Int32 × Int32) (fun q => un4 q (fun (x1 : Int32) (x2 : Int32) (x3 : Int32) (x4 : Int32) => if (zsl 0) ≤ x4 then some (.inr (.inl ())) else gd (zin x4 (zLen.getD 0 0)) (zlt (zchr 0 x4) (fun (x7 : Int32) => jk (fun (x9 : Int32) (x10 : Int32) (x11 : Int32) => some (.inl (x9, x10, x11, (x4 + 1)))) (fun k12 => if x7 = 32 then jk (k12 a1 1 (x3 + 1)) (fun k14 => if x2 = 0 then k14 else jk (some (.inr (.inr x3))) (fun k16 => if a2 ≤ x1 then k16 else gd (zin x1 (zlen y o0)) (bd (f_X8_isLetter (μ o0 x1.toNatClampNeg)) (fun (x19 : Int32) => if x19 = 0 then k16 else k14)))) else bd (α := Int32) (jk (some 0) (fun k23 => if x2 = 0 then k23 else if a2 ≤ x1 then k23 else gd (zin x1 (zlen y o0)) (if (μ o0 x1.toNatClampNeg) = x7 then some 1 else k23))) (fun (x22 : Int32) => k12 (x1 + 1) x22 x3)))))) FU (a1, 1, 1000, 0)) (fun z => sm z (fun (_ : Unit) => some 3000) (fun r0 => some r0))
set_option maxRecDepth 100000 in
set_option maxHeartbeats 4000000 in
theorem M_X8_wordAt {l : Launch} {D : va_G} {y : ZLay} {o0 : ZId} {a1 : Int32} {a2 : Int32} (ho0 : okI y o0) (hz0 : zisI o0 = true) {μ : ZMem} {r : Int32} (h : f_X8_wordAt y o0 a1 a2 μ = some r) : MI l yX8_wordAt wb_X8_wordAt rm_X8_wordAt D y [.ref (zad y o0), .int a1, .int a2] μ r μ := by
  unfold f_X8_wordAt at h
  refine MI_of RX8 [(0, .ref (zad y o0)), (1, .int a1), (2, .int a2)] (by decide) rfl rfl (Nat.le_of_ble_eq_true rfl) rfl ?_
  intro p e s m args below meth c A X
  refine V_iload_n X 1 dX8_wordAt_0 rfl rfl ?_
  refine V_istore_n X [(3, .int a1), (0, .ref (zad y o0)), (1, .int a1), (2, .int a2)] dX8_wordAt_1 rfl (by decide) rfl ?_
  refine V_iconst X 1 dX8_wordAt_2 (by decide) ?_
  refine V_istore X [(4, .int 1), (3, .int a1), (0, .ref (zad y o0)), (1, .int a1), (2, .int a2)] dX8_wordAt_3 (by decide) rfl ?_
  refine V_sipush X 1000 dX8_wordAt_5 (by decide) ?_
  refine V_istore X [(5, .int 1000), (4, .int 1), (3, .int a1), (0, .ref (zad y o0)), (1, .int a1), (2, .int a2)] dX8_wordAt_8 (by decide) rfl ?_
  refine V_iconst X 0 dX8_wordAt_10 (by decide) ?_
  refine V_istore X [(6, .int 0), (5, .int 1000), (4, .int 1), (3, .int a1), (0, .ref (zad y o0)), (1, .int a1), (2, .int a2)] dX8_wordAt_11 (by decide) rfl ?_
  refine V_sub X [4, 5, 6, 3, 2, 1, 0] (lv' := [(0, .ref (zad y o0)), (1, .int a1), (2, .int a2), (3, .int a1), (4, .int 1), (5, .int 1000), (6, .int 0)]) rfl ?_
  obtain ⟨zz, hl, h⟩ := bd_some h
  have hk : ∀ (_ : Unit), .inl () = zz → V X μ 106 [] [] := by
    intro _ hzz
    subst hzz
    clear hl
    replace h := sm_l h
    refine V_sipush X 3000 dX8_wordAt_106 (by decide) ?_
    exact V_iretR X h dX8_wordAt_109
  have hr : ∀ r0, .inr r0 = zz → some r0 = some r := by
    intro r0 hzz
    subst hzz
    exact h
  refine lp_ind (P := fun q => V X μ 13 [(0, .ref (zad y o0)), (1, .int a1), (2, .int a2), (3, .int q.1), (4, .int q.2.1), (5, .int q.2.2.1), (6, .int q.2.2.2)] []) (fun q z h hz => ?_) hl
  obtain ⟨x1, x2, x3, x4⟩ := q
  replace h := un4_eq h
  show V X μ 13 [(0, .ref (zad y o0)), (1, .int a1), (2, .int a2), (3, .int x1), (4, .int x2), (5, .int x3), (6, .int x4)] []
  refine V_iload X 6 dX8_wordAt_13 rfl ?_
  refine V_ldcS X (i := 0) (ix := 52) rfl dX8_wordAt_15 ?_
  refine V_calls X (As := []) (by decide) (M_J0_length (by decide)) (cwV 0 X.2.2.2.2.2.2.1 (gV wm_RX8_54 wi_J0_length_8abf5 wse_J0_length_8abf5 win_RJ0 wc_J0_length_8abf5) rfl rfl rfl hd_J0_length ⟨Nat.le_of_ble_eq_true rfl, Nat.le_of_ble_eq_true rfl⟩) rfl (Nat.le_of_ble_eq_true rfl) dX8_wordAt_17 rfl ?_
  refine V_icmp_ge X (tgt := 106) dX8_wordAt_20 (by decide) (fun b5 => ?_) (fun b5 => ?_)
  · replace h := (if_pos b5).symm.trans h
    refine V_sub X [] (lv' := []) rfl ?_
    cases h
    exact hk () hz
  · replace h := (if_neg b5).symm.trans h
    refine V_ldcS X (i := 0) (ix := 52) rfl dX8_wordAt_23 ?_
    refine V_iload X 6 dX8_wordAt_25 rfl ?_
    obtain ⟨g6, h⟩ := gd_some h
    refine V_calls X (As := [.int x4]) (by decide) (M_J0_charAt (by decide) g6) (cwV 1 X.2.2.2.2.2.2.1 (gV wm_RX8_60 wi_J0_charAt_5068e wse_J0_charAt_5068e win_RJ0 wc_J0_charAt_5068e) rfl rfl rfl hd_J0_charAt ⟨Nat.le_of_ble_eq_true rfl, Nat.le_of_ble_eq_true rfl⟩) rfl (Nat.le_of_ble_eq_true rfl) dX8_wordAt_27 rfl ?_
    refine V_istore X [(7, .int (zchr 0 x4)), (0, .ref (zad y o0)), (1, .int a1), (2, .int a2), (3, .int x1), (4, .int x2), (5, .int x3), (6, .int x4)] dX8_wordAt_30 (by decide) rfl ?_
    refine zlt_el (P := fun (x7 : Int32) => V X μ 32 [(7, .int x7), (0, .ref (zad y o0)), (1, .int a1), (2, .int a2), (3, .int x1), (4, .int x2), (5, .int x3), (6, .int x4)] []) h (fun x7 h => ?_)
    refine V_iload X 0 dX8_wordAt_32 rfl ?_
    refine V_bipush X 32 dX8_wordAt_34 (by decide) ?_
    refine jk3_el (P := fun (x9 : Int32) (x10 : Int32) (x11 : Int32) => V X μ 100 [(0, .ref (zad y o0)), (1, .int a1), (2, .int a2), (3, .int x9), (4, .int x10), (5, .int x11), (6, .int x4)] []) h (fun x9 x10 x11 h => ?_) (fun k12 hk12 h => ?_)
    · refine V_inc X 6 1 [(6, .int (x4 + 1)), (0, .ref (zad y o0)), (1, .int a1), (2, .int a2), (3, .int x9), (4, .int x10), (5, .int x11)] dX8_wordAt_100 rfl (by decide) (by decide) rfl ?_
      refine V_goto X (tgt := 13) dX8_wordAt_103 (by decide) ?_
      refine V_sub X [1, 2, 3, 4, 5, 6, 0] (lv' := [(0, .ref (zad y o0)), (1, .int a1), (2, .int a2), (3, .int x9), (4, .int x10), (5, .int x11), (6, .int (x4 + 1))]) rfl ?_
      cases h
      exact hz
    · refine V_icmp_eq X (tgt := 70) dX8_wordAt_36 (by decide) (fun b8 => ?_) (fun b8 => ?_)
      · replace h := (if_pos b8).symm.trans h
        refine V_iload X 5 dX8_wordAt_70 rfl ?_
        refine jk0_el (P := V X μ 92 [(0, .ref (zad y o0)), (1, .int a1), (2, .int a2), (5, .int x3), (6, .int x4)] []) h (fun h => ?_) (fun k14 hk14 h => ?_)
        · refine V_inc X 3 1 [(5, .int (x3 + 1)), (0, .ref (zad y o0)), (1, .int a1), (2, .int a2), (6, .int x4)] dX8_wordAt_92 rfl (by decide) (by decide) rfl ?_
          refine V_iload_n X 2 dX8_wordAt_95 rfl rfl ?_
          refine V_istore_n X [(3, .int a1), (5, .int (x3 + 1)), (0, .ref (zad y o0)), (1, .int a1), (2, .int a2), (6, .int x4)] dX8_wordAt_96 rfl (by decide) rfl ?_
          refine V_iconst X 1 dX8_wordAt_97 (by decide) ?_
          refine V_istore X [(4, .int 1), (3, .int a1), (5, .int (x3 + 1)), (0, .ref (zad y o0)), (1, .int a1), (2, .int a2), (6, .int x4)] dX8_wordAt_98 (by decide) rfl ?_
          refine V_sub X [3, 4, 5, 1, 0, 2, 6] (lv' := [(0, .ref (zad y o0)), (1, .int a1), (2, .int a2), (3, .int a1), (4, .int 1), (5, .int (x3 + 1)), (6, .int x4)]) rfl ?_
          exact hk12 _ _ _ h
        · refine V_if_eq X (tgt := 92) dX8_wordAt_72 (by decide) (fun b13 => ?_) (fun b13 => ?_)
          · replace h := (if_pos b13).symm.trans h
            refine V_sub X [1, 2, 3, 6, 7] (lv' := [(0, .ref (zad y o0)), (1, .int a1), (2, .int a2), (5, .int x3), (6, .int x4)]) rfl ?_
            exact hk14 h
          · replace h := (if_neg b13).symm.trans h
            refine V_iload_n X 4 dX8_wordAt_75 rfl rfl ?_
            refine V_iload_n X 3 dX8_wordAt_76 rfl rfl ?_
            refine jk0_el (P := V X μ 89 [(5, .int x3)] []) h (fun h => ?_) (fun k16 hk16 h => ?_)
            · refine V_iload X 0 dX8_wordAt_89 rfl ?_
              cases h
              have h := hr _ hz
              exact V_iretR X h dX8_wordAt_91
            · refine V_icmp_ge X (tgt := 89) dX8_wordAt_77 (by decide) (fun b15 => ?_) (fun b15 => ?_)
              · replace h := (if_pos b15).symm.trans h
                refine V_sub X [6] (lv' := [(5, .int x3)]) rfl ?_
                exact hk16 h
              · replace h := (if_neg b15).symm.trans h
                refine V_aload_n X 1 dX8_wordAt_80 rfl rfl ?_
                refine V_iload_n X 4 dX8_wordAt_81 rfl rfl ?_
                obtain ⟨g17, h⟩ := gd_some h
                refine V_iald X x1.toNatClampNeg rfl (o := o0) (n := (zlen y o0)) ho0 hz0 rfl g17 dX8_wordAt_82 ?_
                obtain ⟨x19, c18, h⟩ := bd_some h
                refine V_callSi X (As := [.int (μ o0 x1.toNatClampNeg)]) (M_X8_isLetter c18) (va_cwS 1 X.2.2.2.2.2.2.1 (gS wm_RX8_34 wst_X8_isLetter win_RX8 wc_X8_isLetter) rfl rfl rfl hd_X8_isLetter.2 ⟨Nat.le_of_ble_eq_true rfl, Nat.le_of_ble_eq_true rfl⟩) rfl (Nat.le_of_ble_eq_true rfl) dX8_wordAt_83 rfl ?_
                refine V_if_ne X (tgt := 92) dX8_wordAt_86 (by decide) (fun b20 => ?_) (fun b20 => ?_)
                · replace h := (if_neg b20).symm.trans h
                  refine V_sub X [1, 2, 3, 6, 7] (lv' := [(0, .ref (zad y o0)), (1, .int a1), (2, .int a2), (5, .int x3), (6, .int x4)]) rfl ?_
                  exact hk14 h
                · replace h := (if_pos b20).symm.trans h
                  refine V_sub X [6] (lv' := [(5, .int x3)]) rfl ?_
                  exact hk16 h
      · replace h := (if_neg b8).symm.trans h
        refine V_iload X 5 dX8_wordAt_39 rfl ?_
        obtain ⟨x22, h1, h⟩ := bd_some h
        have hk : V X μ 62 [(0, .ref (zad y o0)), (1, .int a1), (2, .int a2), (3, .int x1), (5, .int x3), (6, .int x4)] [.int x22] := by
          clear h1
          refine V_istore X [(4, .int x22), (0, .ref (zad y o0)), (1, .int a1), (2, .int a2), (3, .int x1), (5, .int x3), (6, .int x4)] dX8_wordAt_62 (by decide) rfl ?_
          refine V_inc X 4 1 [(3, .int (x1 + 1)), (4, .int x22), (0, .ref (zad y o0)), (1, .int a1), (2, .int a2), (5, .int x3), (6, .int x4)] dX8_wordAt_64 rfl (by decide) (by decide) rfl ?_
          refine V_goto X (tgt := 100) dX8_wordAt_67 (by decide) ?_
          refine V_sub X [2, 3, 4, 0, 1, 5, 6] (lv' := [(0, .ref (zad y o0)), (1, .int a1), (2, .int a2), (3, .int (x1 + 1)), (4, .int x22), (5, .int x3), (6, .int x4)]) rfl ?_
          exact hk12 _ _ _ h
        replace h := h1
        clear h1
        refine jk0_el (P := V X μ 61 [(0, .ref (zad y o0)), (1, .int a1), (2, .int a2), (3, .int x1), (5, .int x3), (6, .int x4)] []) h (fun h => ?_) (fun k23 hk23 h => ?_)
        · refine V_iconst X 0 dX8_wordAt_61 (by decide) ?_
          obtain rfl := so1 h
          exact hk
        · refine V_if_eq X (tgt := 61) dX8_wordAt_41 (by decide) (fun b21 => ?_) (fun b21 => ?_)
          · replace h := (if_pos b21).symm.trans h
            refine V_sub X [1, 2, 3, 4, 6, 7] (lv' := [(0, .ref (zad y o0)), (1, .int a1), (2, .int a2), (3, .int x1), (5, .int x3), (6, .int x4)]) rfl ?_
            exact hk23 h
          · replace h := (if_neg b21).symm.trans h
            refine V_iload_n X 4 dX8_wordAt_44 rfl rfl ?_
            refine V_iload_n X 3 dX8_wordAt_45 rfl rfl ?_
            refine V_icmp_ge X (tgt := 61) dX8_wordAt_46 (by decide) (fun b24 => ?_) (fun b24 => ?_)
            · replace h := (if_pos b24).symm.trans h
              refine V_sub X [1, 2, 3, 4, 6, 7] (lv' := [(0, .ref (zad y o0)), (1, .int a1), (2, .int a2), (3, .int x1), (5, .int x3), (6, .int x4)]) rfl ?_
              exact hk23 h
            · replace h := (if_neg b24).symm.trans h
              refine V_aload_n X 1 dX8_wordAt_49 rfl rfl ?_
              refine V_iload_n X 4 dX8_wordAt_50 rfl rfl ?_
              obtain ⟨g25, h⟩ := gd_some h
              refine V_iald X x1.toNatClampNeg rfl (o := o0) (n := (zlen y o0)) ho0 hz0 rfl g25 dX8_wordAt_51 ?_
              refine V_iload X 0 dX8_wordAt_52 rfl ?_
              refine V_icmp_ne X (tgt := 61) dX8_wordAt_54 (by decide) (fun b26 => ?_) (fun b26 => ?_)
              · replace h := (if_neg b26).symm.trans h
                refine V_sub X [1, 2, 3, 4, 6, 7] (lv' := [(0, .ref (zad y o0)), (1, .int a1), (2, .int a2), (3, .int x1), (5, .int x3), (6, .int x4)]) rfl ?_
                exact hk23 h
              · replace h := (if_pos b26).symm.trans h
                refine V_iconst X 1 dX8_wordAt_57 (by decide) ?_
                refine V_goto X (tgt := 62) dX8_wordAt_58 (by decide) ?_
                refine V_sub X [1, 2, 3, 4, 6, 7] (lv' := [(0, .ref (zad y o0)), (1, .int a1), (2, .int a2), (3, .int x1), (5, .int x3), (6, .int x4)]) rfl ?_
                obtain rfl := so1 h
                exact hk

def f_X8_numberAt (y : ZLay) (o0 : ZId) (a1 : Int32) (a2 : Int32) (μ : ZMem) : Option (Int32) := bd2 (lp (σ := Int32 × Int32 × Int32) (fun q => un3 q (fun (x1 : Int32) (x2 : Int32) (x3 : Int32) => if a2 ≤ x3 then some (.inr (x1, x2)) else gd (zin x3 (zlen y o0)) (bd (f_X8_isDigit (μ o0 x3.toNatClampNeg)) (fun (x9 : Int32) => if x9 = 0 then some (.inr (x1, x2)) else zlt (α := Int32) (if 3 ≤ x2 then x1 else (((10 * x1) + (μ o0 x3.toNatClampNeg)) - 48)) (fun (x12 : Int32) => some (.inl (x12, (x2 + 1), (x3 + 1)))))))) FU (0, 0, a1)) (fun (x4 : Int32) (x5 : Int32) => zlt (α := Int32) (if x5 ≤ 3 then x4 else 3000) (fun (x14 : Int32) => some x14))
set_option maxRecDepth 100000 in
set_option maxHeartbeats 4000000 in
theorem M_X8_numberAt {l : Launch} {D : va_G} {y : ZLay} {o0 : ZId} {a1 : Int32} {a2 : Int32} (ho0 : okI y o0) (hz0 : zisI o0 = true) {μ : ZMem} {r : Int32} (h : f_X8_numberAt y o0 a1 a2 μ = some r) : MI l yX8_numberAt wb_X8_numberAt rm_X8_numberAt D y [.ref (zad y o0), .int a1, .int a2] μ r μ := by
  unfold f_X8_numberAt at h
  refine MI_of RX8 [(0, .ref (zad y o0)), (1, .int a1), (2, .int a2)] (by decide) rfl rfl (Nat.le_of_ble_eq_true rfl) rfl ?_
  intro p e s m args below meth c A X
  refine V_iconst X 0 dX8_numberAt_0 (by decide) ?_
  refine V_istore_n X [(3, .int 0), (0, .ref (zad y o0)), (1, .int a1), (2, .int a2)] dX8_numberAt_1 rfl (by decide) rfl ?_
  refine V_iconst X 0 dX8_numberAt_2 (by decide) ?_
  refine V_istore X [(4, .int 0), (3, .int 0), (0, .ref (zad y o0)), (1, .int a1), (2, .int a2)] dX8_numberAt_3 (by decide) rfl ?_
  refine V_iload_n X 3 dX8_numberAt_5 rfl rfl ?_
  refine V_istore X [(5, .int a1), (4, .int 0), (3, .int 0), (0, .ref (zad y o0)), (1, .int a1), (2, .int a2)] dX8_numberAt_6 (by decide) rfl ?_
  refine V_sub X [3, 5, 2, 1, 0] (lv' := [(0, .ref (zad y o0)), (2, .int a2), (3, .int 0), (4, .int 0), (5, .int a1)]) rfl ?_
  obtain ⟨x4, x5, hl, h⟩ := bd2_some h
  have hk : V X μ 56 [(3, .int x4), (4, .int x5)] [] := by
    clear hl
    refine V_iload X 1 dX8_numberAt_56 rfl ?_
    refine V_iconst X 3 dX8_numberAt_58 (by decide) ?_
    obtain ⟨x14, h1, h⟩ := zl1_some h
    have hk : V X μ 69 [] [.int x14] := by
      clear h1
      exact V_iretR X h dX8_numberAt_69
    replace h := h1
    clear h1
    refine V_icmp_le X (tgt := 68) dX8_numberAt_59 (by decide) (fun b13 => ?_) (fun b13 => ?_)
    · replace h := (if_pos b13).symm.trans h
      refine V_iload_n X 0 dX8_numberAt_68 rfl rfl ?_
      refine V_sub X [] (lv' := []) rfl ?_
      obtain rfl := pr1 h
      exact hk
    · replace h := (if_neg b13).symm.trans h
      refine V_sipush X 3000 dX8_numberAt_62 (by decide) ?_
      refine V_goto X (tgt := 69) dX8_numberAt_65 (by decide) ?_
      refine V_sub X [] (lv' := []) rfl ?_
      obtain rfl := pr1 h
      exact hk
  refine lp_ind (P := fun q => V X μ 8 [(0, .ref (zad y o0)), (2, .int a2), (3, .int q.1), (4, .int q.2.1), (5, .int q.2.2)] []) (fun q z h hz => ?_) hl
  obtain ⟨x1, x2, x3⟩ := q
  replace h := un3_eq h
  show V X μ 8 [(0, .ref (zad y o0)), (2, .int a2), (3, .int x1), (4, .int x2), (5, .int x3)] []
  refine V_iload X 4 dX8_numberAt_8 rfl ?_
  refine V_iload_n X 1 dX8_numberAt_10 rfl rfl ?_
  refine V_icmp_ge X (tgt := 56) dX8_numberAt_11 (by decide) (fun b6 => ?_) (fun b6 => ?_)
  · replace h := (if_pos b6).symm.trans h
    refine V_sub X [2, 3] (lv' := [(3, .int x1), (4, .int x2)]) rfl ?_
    cases h
    obtain ⟨rfl, rfl⟩ := pr2 hz
    exact hk
  · replace h := (if_neg b6).symm.trans h
    refine V_aload_n X 0 dX8_numberAt_14 rfl rfl ?_
    refine V_iload X 4 dX8_numberAt_15 rfl ?_
    obtain ⟨g7, h⟩ := gd_some h
    refine V_iald X x3.toNatClampNeg rfl (o := o0) (n := (zlen y o0)) ho0 hz0 rfl g7 dX8_numberAt_17 ?_
    obtain ⟨x9, c8, h⟩ := bd_some h
    refine V_callSi X (As := [.int (μ o0 x3.toNatClampNeg)]) (M_X8_isDigit c8) (va_cwS 1 X.2.2.2.2.2.2.1 (gS wm_RX8_38 wst_X8_isDigit win_RX8 wc_X8_isDigit) rfl rfl rfl hd_X8_isDigit.2 ⟨Nat.le_of_ble_eq_true rfl, Nat.le_of_ble_eq_true rfl⟩) rfl (Nat.le_of_ble_eq_true rfl) dX8_numberAt_18 rfl ?_
    refine V_if_eq X (tgt := 56) dX8_numberAt_21 (by decide) (fun b10 => ?_) (fun b10 => ?_)
    · replace h := (if_pos b10).symm.trans h
      refine V_sub X [2, 3] (lv' := [(3, .int x1), (4, .int x2)]) rfl ?_
      cases h
      obtain ⟨rfl, rfl⟩ := pr2 hz
      exact hk
    · replace h := (if_neg b10).symm.trans h
      refine V_iload X 3 dX8_numberAt_24 rfl ?_
      refine V_iconst X 3 dX8_numberAt_26 (by decide) ?_
      obtain ⟨x12, h1, h⟩ := zl1_some h
      have hk : V X μ 46 [(0, .ref (zad y o0)), (2, .int a2), (4, .int x2), (5, .int x3)] [.int x12] := by
        clear h1
        refine V_istore_n X [(3, .int x12), (0, .ref (zad y o0)), (2, .int a2), (4, .int x2), (5, .int x3)] dX8_numberAt_46 rfl (by decide) rfl ?_
        refine V_inc X 3 1 [(4, .int (x2 + 1)), (3, .int x12), (0, .ref (zad y o0)), (2, .int a2), (5, .int x3)] dX8_numberAt_47 rfl (by decide) (by decide) rfl ?_
        refine V_inc X 4 1 [(5, .int (x3 + 1)), (4, .int (x2 + 1)), (3, .int x12), (0, .ref (zad y o0)), (2, .int a2)] dX8_numberAt_50 rfl (by decide) (by decide) rfl ?_
        refine V_goto X (tgt := 8) dX8_numberAt_53 (by decide) ?_
        refine V_sub X [3, 4, 2, 1, 0] (lv' := [(0, .ref (zad y o0)), (2, .int a2), (3, .int x12), (4, .int (x2 + 1)), (5, .int (x3 + 1))]) rfl ?_
        cases h
        exact hz
      replace h := h1
      clear h1
      refine V_icmp_ge X (tgt := 45) dX8_numberAt_27 (by decide) (fun b11 => ?_) (fun b11 => ?_)
      · replace h := (if_pos b11).symm.trans h
        refine V_iload_n X 2 dX8_numberAt_45 rfl rfl ?_
        refine V_sub X [0, 1, 3, 4] (lv' := [(0, .ref (zad y o0)), (2, .int a2), (4, .int x2), (5, .int x3)]) rfl ?_
        obtain rfl := pr1 h
        exact hk
      · replace h := (if_neg b11).symm.trans h
        refine V_bipush X 10 dX8_numberAt_30 (by decide) ?_
        refine V_iload_n X 2 dX8_numberAt_32 rfl rfl ?_
        refine V_imul X dX8_numberAt_33 ?_
        refine V_aload_n X 0 dX8_numberAt_34 rfl rfl ?_
        refine V_iload X 4 dX8_numberAt_35 rfl ?_
        refine V_iald X x3.toNatClampNeg rfl (o := o0) (n := (zlen y o0)) ho0 hz0 rfl g7 dX8_numberAt_37 ?_
        refine V_iadd X dX8_numberAt_38 ?_
        refine V_bipush X 48 dX8_numberAt_39 (by decide) ?_
        refine V_isub X dX8_numberAt_41 ?_
        refine V_goto X (tgt := 46) dX8_numberAt_42 (by decide) ?_
        refine V_sub X [0, 1, 3, 4] (lv' := [(0, .ref (zad y o0)), (2, .int a2), (4, .int x2), (5, .int x3)]) rfl ?_
        obtain rfl := pr1 h
        exact hk

def f_X8_put (a1 : Int32) (a2 : Int32) (μ : ZMem) : Option (ZMem) := bd (α := ZMem) (if 401 ≤ (μ (0, 20, 0) 3) then some μ else gd (zin (μ (0, 20, 0) 3) 401) (zlt (mset μ (0, 21, 0) (μ (0, 20, 0) 3).toNatClampNeg a2) (fun (μ4 : ZMem) => gd (zin (μ4 (0, 20, 0) 3) 401) (zlt (mset μ4 (0, 22, 0) (μ4 (0, 20, 0) 3).toNatClampNeg a1) (fun (μ6 : ZMem) => zlt (mset μ6 (0, 20, 0) 3 ((μ6 (0, 20, 0) 3) + 1)) (fun (μ7 : ZMem) => some μ7)))))) (fun (μ2 : ZMem) => some μ2)
set_option maxRecDepth 100000 in
set_option maxHeartbeats 4000000 in
theorem M_X8_put {l : Launch} {D : va_G} {y : ZLay} {a1 : Int32} {a2 : Int32}  {μ : ZMem} {μ0 : ZMem} (h : f_X8_put a1 a2 μ = some μ0) : MV l yX8_put wb_X8_put rm_X8_put D y [.ref (zad y (0, 20, 0)), .int a1, .int a2] μ μ0 := by
  unfold f_X8_put at h
  refine MV_of RX8 [(0, .ref (zad y (0, 20, 0))), (1, .int a1), (2, .int a2)] (by decide) rfl rfl (Nat.le_of_ble_eq_true rfl) rfl ?_
  intro p e s m args below meth c A X
  refine V_aload_n X 0 dX8_put_0 rfl rfl ?_
  refine V_geti X (o := (0, 20, 0)) (ci := 8) (k := 3) (N := 5) (T := TX8) (C := RX8) ⟨by decide, rfl⟩ rfl rfl rfl (by decide) (mBa inB_X8) (mB wl_RX8_22) dX8_put_1 ?_
  refine V_aload_n X 0 dX8_put_4 rfl rfl ?_
  refine V_getr X (o := (0, 20, 0)) (i := (0, 21, 0)) (ci := 8) (k := 1) (N := 5) (T := TX8) (C := RX8) ⟨by decide, rfl⟩ rfl rfl rfl (by decide) (mBa inB_X8) (mB wl_RX8_15) dX8_put_5 ?_
  refine V_alen X 401 (o := (0, 21, 0)) (n := 401) ⟨by decide, rfl⟩ rfl rfl (by decide) dX8_put_8 ?_
  obtain ⟨μ2, h1, h⟩ := bd_some h
  have hk : V X μ2 42 [] [] := by
    clear h1
    exact V_vretW X h dX8_put_42
  replace h := h1
  clear h1
  refine V_icmp_ge X (tgt := 42) dX8_put_9 (by decide) (fun b1 => ?_) (fun b1 => ?_)
  · replace h := (if_pos b1).symm.trans h
    refine V_sub X [] (lv' := []) rfl ?_
    obtain rfl := so1 h
    exact hk
  · replace h := (if_neg b1).symm.trans h
    refine V_aload_n X 0 dX8_put_12 rfl rfl ?_
    refine V_getr X (o := (0, 20, 0)) (i := (0, 21, 0)) (ci := 8) (k := 1) (N := 5) (T := TX8) (C := RX8) ⟨by decide, rfl⟩ rfl rfl rfl (by decide) (mBa inB_X8) (mB wl_RX8_15) dX8_put_13 ?_
    refine V_aload_n X 0 dX8_put_16 rfl rfl ?_
    refine V_geti X (o := (0, 20, 0)) (ci := 8) (k := 3) (N := 5) (T := TX8) (C := RX8) ⟨by decide, rfl⟩ rfl rfl rfl (by decide) (mBa inB_X8) (mB wl_RX8_22) dX8_put_17 ?_
    refine V_iload_n X 2 dX8_put_20 rfl rfl ?_
    obtain ⟨g3, h⟩ := gd_some h
    refine V_iast X (μ (0, 20, 0) 3).toNatClampNeg rfl (o := (0, 21, 0)) (n := 401) ⟨by decide, rfl⟩ rfl rfl g3 dX8_put_21 ?_
    refine zlt_el (P := fun (μ4 : ZMem) => V X μ4 22 [(0, .ref (zad y (0, 20, 0))), (1, .int a1), (2, .int a2)] []) h (fun μ4 h => ?_)
    refine V_aload_n X 0 dX8_put_22 rfl rfl ?_
    refine V_getr X (o := (0, 20, 0)) (i := (0, 22, 0)) (ci := 8) (k := 2) (N := 5) (T := TX8) (C := RX8) ⟨by decide, rfl⟩ rfl rfl rfl (by decide) (mBa inB_X8) (mB wl_RX8_19) dX8_put_23 ?_
    refine V_aload_n X 0 dX8_put_26 rfl rfl ?_
    refine V_geti X (o := (0, 20, 0)) (ci := 8) (k := 3) (N := 5) (T := TX8) (C := RX8) ⟨by decide, rfl⟩ rfl rfl rfl (by decide) (mBa inB_X8) (mB wl_RX8_22) dX8_put_27 ?_
    refine V_iload_n X 1 dX8_put_30 rfl rfl ?_
    obtain ⟨g5, h⟩ := gd_some h
    refine V_iast X (μ4 (0, 20, 0) 3).toNatClampNeg rfl (o := (0, 22, 0)) (n := 401) ⟨by decide, rfl⟩ rfl rfl g5 dX8_put_31 ?_
    refine zlt_el (P := fun (μ6 : ZMem) => V X μ6 32 [(0, .ref (zad y (0, 20, 0))), (1, .int a1), (2, .int a2)] []) h (fun μ6 h => ?_)
    refine V_aload_n X 0 dX8_put_32 rfl rfl ?_
    refine V_dup X dX8_put_33 rfl ?_
    refine V_geti X (o := (0, 20, 0)) (ci := 8) (k := 3) (N := 5) (T := TX8) (C := RX8) ⟨by decide, rfl⟩ rfl rfl rfl (by decide) (mBa inB_X8) (mB wl_RX8_22) dX8_put_34 ?_
    refine V_iconst X 1 dX8_put_37 (by decide) ?_
    refine V_iadd X dX8_put_38 ?_
    refine V_puti X tyX8 .int (o := (0, 20, 0)) (ci := 8) (k := 3) (N := 5) (T := TX8) (C := RX8) ⟨by decide, rfl⟩ rfl rfl rfl (by decide) (mBa inB_X8) tyX8_ok nmX8 (mB wl_RX8_22) rfl rfl rfl rfl dX8_put_39 ?_
    refine zlt_el (P := fun (μ7 : ZMem) => V X μ7 42 [(0, .ref (zad y (0, 20, 0))), (1, .int a1), (2, .int a2)] []) h (fun μ7 h => ?_)
    refine V_sub X [] (lv' := []) rfl ?_
    obtain rfl := so1 h
    exact hk

def f_X8_load (y : ZLay) (o1 : ZId) (a2 : Int32) (μ : ZMem) : Option (ZMem) := zlt (mset μ (0, 20, 0) 3 0) (fun (μ1 : ZMem) => zlt (mset μ1 (0, 20, 0) 4 0) (fun (μ2 : ZMem) => zlt (mset μ2 (0, 20, 0) 0 (-1)) (fun (μ3 : ZMem) => zlt (zmin a2 (Int32.ofNat (zlen y o1))) (fun (x4 : Int32) => bd (lp (σ := Int32 × Int32 × ZMem) (fun q => un3 q (fun (x5 : Int32) (x6 : Int32) (μ7 : ZMem) => if x4 ≤ x6 then some (.inr μ7) else gd (zin x6 (zlen y o1)) (zlt (μ7 o1 x6.toNatClampNeg) (fun (x11 : Int32) => bd (f_X8_isLetter x11) (fun (x13 : Int32) => bd (α := Int32) (jk (some 1) (fun k16 => jk (bd (f_X8_isDigit x11) (fun (x22 : Int32) => jk (some 0) (fun k24 => if x22 = 0 then k24 else bd (f_X8_isDigit x5) (fun (x26 : Int32) => if x26 = 0 then k24 else k16)))) (fun k17 => if x13 = 0 then k17 else bd (f_X8_isLetter x5) (fun (x19 : Int32) => if x19 = 0 then k17 else k16)))) (fun (x15 : Int32) => bd (α := ZMem) (if x11 = 32 then some μ7 else if x15 = 0 then bd (f_X8_isLetter x11) (fun (x32 : Int32) => bd (α := Int32) (if x32 = 0 then bd (f_X8_isDigit x11) (fun (x36 : Int32) => if x36 = 0 then some (2000 + x11) else bd (f_X8_numberAt y o1 x6 x4 μ7) (fun (x39 : Int32) => some x39)) else bd (f_X8_wordAt y o1 x6 x4 μ7) (fun (x41 : Int32) => some x41)) (fun (x34 : Int32) => bd (f_X8_put x6 x34 μ7) (fun (μ43 : ZMem) => some μ43))) else some μ7) (fun (μ29 : ZMem) => some (.inl (x11, (x6 + 1), μ29))))))))) FU (32, 0, μ3)) (fun (μ8 : ZMem) => bd (f_X8_put x4 3001 μ8) (fun (μ45 : ZMem) => some μ45))))))
set_option maxRecDepth 100000 in
set_option maxHeartbeats 4000000 in
theorem M_X8_load {l : Launch} {D : va_G} {y : ZLay} {o1 : ZId} {a2 : Int32} (ho1 : okI y o1) (hz1 : zisI o1 = true) {μ : ZMem} {μ0 : ZMem} (h : f_X8_load y o1 a2 μ = some μ0) : MV l yX8_load wb_X8_load rm_X8_load D y [.ref (zad y (0, 20, 0)), .ref (zad y o1), .int a2] μ μ0 := by
  unfold f_X8_load at h
  refine MV_of RX8 [(0, .ref (zad y (0, 20, 0))), (1, .ref (zad y o1)), (2, .int a2)] (by decide) rfl rfl (Nat.le_of_ble_eq_true rfl) rfl ?_
  intro p e s m args below meth c A X
  refine V_aload_n X 0 dX8_load_0 rfl rfl ?_
  refine V_iconst X 0 dX8_load_1 (by decide) ?_
  refine V_puti X tyX8 .int (o := (0, 20, 0)) (ci := 8) (k := 3) (N := 5) (T := TX8) (C := RX8) ⟨by decide, rfl⟩ rfl rfl rfl (by decide) (mBa inB_X8) tyX8_ok nmX8 (mB wl_RX8_22) rfl rfl rfl rfl dX8_load_2 ?_
  refine zlt_el (P := fun (μ1 : ZMem) => V X μ1 5 [(0, .ref (zad y (0, 20, 0))), (1, .ref (zad y o1)), (2, .int a2)] []) h (fun μ1 h => ?_)
  refine V_aload_n X 0 dX8_load_5 rfl rfl ?_
  refine V_iconst X 0 dX8_load_6 (by decide) ?_
  refine V_puti X tyX8 .int (o := (0, 20, 0)) (ci := 8) (k := 4) (N := 5) (T := TX8) (C := RX8) ⟨by decide, rfl⟩ rfl rfl rfl (by decide) (mBa inB_X8) tyX8_ok nmX8 (mB wl_RX8_25) rfl rfl rfl rfl dX8_load_7 ?_
  refine zlt_el (P := fun (μ2 : ZMem) => V X μ2 10 [(0, .ref (zad y (0, 20, 0))), (1, .ref (zad y o1)), (2, .int a2)] []) h (fun μ2 h => ?_)
  refine V_aload_n X 0 dX8_load_10 rfl rfl ?_
  refine V_iconst X (-1) dX8_load_11 (by decide) ?_
  refine V_puti X tyX8 .int (o := (0, 20, 0)) (ci := 8) (k := 0) (N := 5) (T := TX8) (C := RX8) ⟨by decide, rfl⟩ rfl rfl rfl (by decide) (mBa inB_X8) tyX8_ok nmX8 (mB wl_RX8_9) rfl rfl rfl rfl dX8_load_12 ?_
  refine zlt_el (P := fun (μ3 : ZMem) => V X μ3 15 [(0, .ref (zad y (0, 20, 0))), (1, .ref (zad y o1)), (2, .int a2)] []) h (fun μ3 h => ?_)
  refine V_iload_n X 2 dX8_load_15 rfl rfl ?_
  refine V_aload_n X 1 dX8_load_16 rfl rfl ?_
  refine V_alen X (Int32.ofNat (zlen y o1)) (o := o1) (n := (zlen y o1)) ho1 hz1 rfl rfl dX8_load_17 ?_
  refine V_zmin X (ix := 28) (mB wm_RX8_28) (mB wst_Math_min) (mB win_Math) (mB wc_Math_min) (Nat.le_of_ble_eq_true rfl) (Nat.le_of_ble_eq_true rfl) dX8_load_18 ?_
  refine V_istore_n X [(3, .int (zmin a2 (Int32.ofNat (zlen y o1)))), (0, .ref (zad y (0, 20, 0))), (1, .ref (zad y o1)), (2, .int a2)] dX8_load_21 rfl (by decide) rfl ?_
  refine zlt_el (P := fun (x4 : Int32) => V X μ3 22 [(3, .int x4), (0, .ref (zad y (0, 20, 0))), (1, .ref (zad y o1)), (2, .int a2)] []) h (fun x4 h => ?_)
  refine V_bipush X 32 dX8_load_22 (by decide) ?_
  refine V_istore X [(4, .int 32), (3, .int x4), (0, .ref (zad y (0, 20, 0))), (1, .ref (zad y o1)), (2, .int a2)] dX8_load_24 (by decide) rfl ?_
  refine V_iconst X 0 dX8_load_26 (by decide) ?_
  refine V_istore X [(5, .int 0), (4, .int 32), (3, .int x4), (0, .ref (zad y (0, 20, 0))), (1, .ref (zad y o1)), (2, .int a2)] dX8_load_27 (by decide) rfl ?_
  refine V_sub X [3, 4, 2, 1, 0] (lv' := [(0, .ref (zad y (0, 20, 0))), (1, .ref (zad y o1)), (3, .int x4), (4, .int 32), (5, .int 0)]) rfl ?_
  obtain ⟨μ8, hl, h⟩ := bd_some h
  have hk : V X μ8 150 [(0, .ref (zad y (0, 20, 0))), (3, .int x4)] [] := by
    clear hl
    refine V_aload_n X 0 dX8_load_150 rfl rfl ?_
    refine V_iload_n X 1 dX8_load_151 rfl rfl ?_
    refine V_sipush X 3001 dX8_load_152 (by decide) ?_
    obtain ⟨μ45, c44, h⟩ := bd_some h
    refine V_callVv X (As := [.int x4, .int 3001]) (M_X8_put c44) (cwV 2 X.2.2.2.2.2.2.1 (gV wm_RX8_48 wi_X8_put wse_X8_put win_RX8 wc_X8_put) rfl rfl rfl hd_X8_put ⟨Nat.le_of_ble_eq_true rfl, Nat.le_of_ble_eq_true rfl⟩) (b := (0, 20, 0)) ⟨by decide, rfl⟩ rfl rfl rfl rfl (Nat.le_of_ble_eq_true rfl) dX8_load_155 rfl ?_
    exact V_vretW X h dX8_load_158
  refine lp_ind (P := fun q => V X q.2.2 29 [(0, .ref (zad y (0, 20, 0))), (1, .ref (zad y o1)), (3, .int x4), (4, .int q.1), (5, .int q.2.1)] []) (fun q z h hz => ?_) hl
  obtain ⟨x5, x6, μ7⟩ := q
  replace h := un3_eq h
  show V X μ7 29 [(0, .ref (zad y (0, 20, 0))), (1, .ref (zad y o1)), (3, .int x4), (4, .int x5), (5, .int x6)] []
  refine V_iload X 4 dX8_load_29 rfl ?_
  refine V_iload_n X 2 dX8_load_31 rfl rfl ?_
  refine V_icmp_ge X (tgt := 150) dX8_load_32 (by decide) (fun b9 => ?_) (fun b9 => ?_)
  · replace h := (if_pos b9).symm.trans h
    refine V_sub X [0, 2] (lv' := [(0, .ref (zad y (0, 20, 0))), (3, .int x4)]) rfl ?_
    cases h
    obtain rfl := pr1 hz
    exact hk
  · replace h := (if_neg b9).symm.trans h
    refine V_aload_n X 1 dX8_load_35 rfl rfl ?_
    refine V_iload X 4 dX8_load_36 rfl ?_
    obtain ⟨g10, h⟩ := gd_some h
    refine V_iald X x6.toNatClampNeg rfl (o := o1) (n := (zlen y o1)) ho1 hz1 rfl g10 dX8_load_38 ?_
    refine V_istore X [(6, .int (μ7 o1 x6.toNatClampNeg)), (0, .ref (zad y (0, 20, 0))), (1, .ref (zad y o1)), (3, .int x4), (4, .int x5), (5, .int x6)] dX8_load_39 (by decide) rfl ?_
    refine zlt_el (P := fun (x11 : Int32) => V X μ7 41 [(6, .int x11), (0, .ref (zad y (0, 20, 0))), (1, .ref (zad y o1)), (3, .int x4), (4, .int x5), (5, .int x6)] []) h (fun x11 h => ?_)
    refine V_iload X 0 dX8_load_41 rfl ?_
    obtain ⟨x13, c12, h⟩ := bd_some h
    refine V_callSi X (As := [.int x11]) (M_X8_isLetter c12) (va_cwS 1 X.2.2.2.2.2.2.1 (gS wm_RX8_34 wst_X8_isLetter win_RX8 wc_X8_isLetter) rfl rfl rfl hd_X8_isLetter.2 ⟨Nat.le_of_ble_eq_true rfl, Nat.le_of_ble_eq_true rfl⟩) rfl (Nat.le_of_ble_eq_true rfl) dX8_load_43 rfl ?_
    obtain ⟨x15, h1, h⟩ := bd_some h
    have hk : V X μ7 78 [(0, .ref (zad y (0, 20, 0))), (1, .ref (zad y o1)), (3, .int x4), (5, .int x6), (6, .int x11)] [.int x15] := by
      clear h1
      refine V_istore X [(7, .int x15), (0, .ref (zad y (0, 20, 0))), (1, .ref (zad y o1)), (3, .int x4), (5, .int x6), (6, .int x11)] dX8_load_78 (by decide) rfl ?_
      refine V_iload X 5 dX8_load_80 rfl ?_
      refine V_bipush X 32 dX8_load_82 (by decide) ?_
      obtain ⟨μ29, h1, h⟩ := bd_some h
      have hk : V X μ29 140 [(0, .ref (zad y (0, 20, 0))), (1, .ref (zad y o1)), (3, .int x4), (5, .int x6), (6, .int x11)] [] := by
        clear h1
        refine V_iload X 4 dX8_load_140 rfl ?_
        refine V_istore X [(4, .int x11), (0, .ref (zad y (0, 20, 0))), (1, .ref (zad y o1)), (3, .int x4), (5, .int x6), (6, .int x11)] dX8_load_142 (by decide) rfl ?_
        refine V_inc X 4 1 [(5, .int (x6 + 1)), (4, .int x11), (0, .ref (zad y (0, 20, 0))), (1, .ref (zad y o1)), (3, .int x4), (6, .int x11)] dX8_load_144 rfl (by decide) (by decide) rfl ?_
        refine V_goto X (tgt := 29) dX8_load_147 (by decide) ?_
        refine V_sub X [2, 3, 4, 1, 0] (lv' := [(0, .ref (zad y (0, 20, 0))), (1, .ref (zad y o1)), (3, .int x4), (4, .int x11), (5, .int (x6 + 1))]) rfl ?_
        cases h
        exact hz
      replace h := h1
      clear h1
      refine V_icmp_eq X (tgt := 140) dX8_load_84 (by decide) (fun b28 => ?_) (fun b28 => ?_)
      · replace h := (if_pos b28).symm.trans h
        refine V_sub X [1, 2, 3, 4, 5] (lv' := [(0, .ref (zad y (0, 20, 0))), (1, .ref (zad y o1)), (3, .int x4), (5, .int x6), (6, .int x11)]) rfl ?_
        obtain rfl := so1 h
        exact hk
      · replace h := (if_neg b28).symm.trans h
        refine V_iload X 0 dX8_load_87 rfl ?_
        refine V_if_ne X (tgt := 140) dX8_load_89 (by decide) (fun b30 => ?_) (fun b30 => ?_)
        · replace h := (if_neg b30).symm.trans h
          refine V_sub X [1, 2, 3, 4, 5] (lv' := [(0, .ref (zad y (0, 20, 0))), (1, .ref (zad y o1)), (3, .int x4), (5, .int x6), (6, .int x11)]) rfl ?_
          obtain rfl := so1 h
          exact hk
        · replace h := (if_pos b30).symm.trans h
          refine V_aload_n X 1 dX8_load_92 rfl rfl ?_
          refine V_iload X 4 dX8_load_93 rfl ?_
          refine V_iload X 5 dX8_load_95 rfl ?_
          obtain ⟨x32, c31, h⟩ := bd_some h
          refine V_callSi X (As := [.int x11]) (M_X8_isLetter c31) (va_cwS 1 X.2.2.2.2.2.2.1 (gS wm_RX8_34 wst_X8_isLetter win_RX8 wc_X8_isLetter) rfl rfl rfl hd_X8_isLetter.2 ⟨Nat.le_of_ble_eq_true rfl, Nat.le_of_ble_eq_true rfl⟩) rfl (Nat.le_of_ble_eq_true rfl) dX8_load_97 rfl ?_
          obtain ⟨x34, h1, h⟩ := bd_some h
          have hk : V X μ7 137 [(0, .ref (zad y (0, 20, 0))), (1, .ref (zad y o1)), (3, .int x4), (5, .int x6), (6, .int x11)] [.int x34, .int x6, .ref (zad y (0, 20, 0))] := by
            clear h1
            obtain ⟨μ43, c42, h⟩ := bd_some h
            refine V_callVv X (As := [.int x6, .int x34]) (M_X8_put c42) (cwV 2 X.2.2.2.2.2.2.1 (gV wm_RX8_48 wi_X8_put wse_X8_put win_RX8 wc_X8_put) rfl rfl rfl hd_X8_put ⟨Nat.le_of_ble_eq_true rfl, Nat.le_of_ble_eq_true rfl⟩) (b := (0, 20, 0)) ⟨by decide, rfl⟩ rfl rfl rfl rfl (Nat.le_of_ble_eq_true rfl) dX8_load_137 rfl ?_
            obtain rfl := so1 h
            exact hk
          replace h := h1
          clear h1
          refine V_if_eq X (tgt := 113) dX8_load_100 (by decide) (fun b33 => ?_) (fun b33 => ?_)
          · replace h := (if_pos b33).symm.trans h
            refine V_iload X 5 dX8_load_113 rfl ?_
            obtain ⟨x36, c35, h⟩ := bd_some h
            refine V_callSi X (As := [.int x11]) (M_X8_isDigit c35) (va_cwS 1 X.2.2.2.2.2.2.1 (gS wm_RX8_38 wst_X8_isDigit win_RX8 wc_X8_isDigit) rfl rfl rfl hd_X8_isDigit.2 ⟨Nat.le_of_ble_eq_true rfl, Nat.le_of_ble_eq_true rfl⟩) rfl (Nat.le_of_ble_eq_true rfl) dX8_load_115 rfl ?_
            refine V_if_eq X (tgt := 131) dX8_load_118 (by decide) (fun b37 => ?_) (fun b37 => ?_)
            · replace h := (if_pos b37).symm.trans h
              refine V_sipush X 2000 dX8_load_131 (by decide) ?_
              refine V_iload X 5 dX8_load_134 rfl ?_
              refine V_iadd X dX8_load_136 ?_
              refine V_sub X [1, 2, 3, 4, 5] (lv' := [(0, .ref (zad y (0, 20, 0))), (1, .ref (zad y o1)), (3, .int x4), (5, .int x6), (6, .int x11)]) rfl ?_
              obtain rfl := so1 h
              exact hk
            · replace h := (if_neg b37).symm.trans h
              refine V_aload_n X 2 dX8_load_121 rfl rfl ?_
              refine V_iload X 4 dX8_load_122 rfl ?_
              refine V_iload_n X 3 dX8_load_124 rfl rfl ?_
              obtain ⟨x39, c38, h⟩ := bd_some h
              refine V_callSi X (As := [.ref (zad y o1), .int x6, .int x4]) (M_X8_numberAt (show okI y o1 from ho1) hz1 c38) (va_cwS 3 X.2.2.2.2.2.2.1 (gS wm_RX8_45 wst_X8_numberAt win_RX8 wc_X8_numberAt) rfl rfl rfl hd_X8_numberAt.2 ⟨Nat.le_of_ble_eq_true rfl, Nat.le_of_ble_eq_true rfl⟩) rfl (Nat.le_of_ble_eq_true rfl) dX8_load_125 rfl ?_
              refine V_goto X (tgt := 137) dX8_load_128 (by decide) ?_
              refine V_sub X [1, 2, 3, 4, 5] (lv' := [(0, .ref (zad y (0, 20, 0))), (1, .ref (zad y o1)), (3, .int x4), (5, .int x6), (6, .int x11)]) rfl ?_
              obtain rfl := so1 h
              exact hk
          · replace h := (if_neg b33).symm.trans h
            refine V_aload_n X 2 dX8_load_103 rfl rfl ?_
            refine V_iload X 4 dX8_load_104 rfl ?_
            refine V_iload_n X 3 dX8_load_106 rfl rfl ?_
            obtain ⟨x41, c40, h⟩ := bd_some h
            refine V_callSi X (As := [.ref (zad y o1), .int x6, .int x4]) (M_X8_wordAt (show okI y o1 from ho1) hz1 c40) (va_cwS 3 X.2.2.2.2.2.2.1 (gS wm_RX8_41 wst_X8_wordAt win_RX8 wc_X8_wordAt) rfl rfl rfl hd_X8_wordAt.2 ⟨Nat.le_of_ble_eq_true rfl, Nat.le_of_ble_eq_true rfl⟩) rfl (Nat.le_of_ble_eq_true rfl) dX8_load_107 rfl ?_
            refine V_goto X (tgt := 137) dX8_load_110 (by decide) ?_
            refine V_sub X [1, 2, 3, 4, 5] (lv' := [(0, .ref (zad y (0, 20, 0))), (1, .ref (zad y o1)), (3, .int x4), (5, .int x6), (6, .int x11)]) rfl ?_
            obtain rfl := so1 h
            exact hk
    replace h := h1
    clear h1
    refine jk0_el (P := V X μ7 73 [(0, .ref (zad y (0, 20, 0))), (1, .ref (zad y o1)), (3, .int x4), (5, .int x6), (6, .int x11)] []) h (fun h => ?_) (fun k16 hk16 h => ?_)
    · refine V_iconst X 1 dX8_load_73 (by decide) ?_
      refine V_goto X (tgt := 78) dX8_load_74 (by decide) ?_
      obtain rfl := so1 h
      exact hk
    · refine jk0_el (P := V X μ7 57 [(0, .ref (zad y (0, 20, 0))), (1, .ref (zad y o1)), (3, .int x4), (4, .int x5), (5, .int x6), (6, .int x11)] []) h (fun h => ?_) (fun k17 hk17 h => ?_)
      · refine V_iload X 5 dX8_load_57 rfl ?_
        obtain ⟨x22, c21, h⟩ := bd_some h
        refine V_callSi X (As := [.int x11]) (M_X8_isDigit c21) (va_cwS 1 X.2.2.2.2.2.2.1 (gS wm_RX8_38 wst_X8_isDigit win_RX8 wc_X8_isDigit) rfl rfl rfl hd_X8_isDigit.2 ⟨Nat.le_of_ble_eq_true rfl, Nat.le_of_ble_eq_true rfl⟩) rfl (Nat.le_of_ble_eq_true rfl) dX8_load_59 rfl ?_
        refine jk0_el (P := V X μ7 77 [(0, .ref (zad y (0, 20, 0))), (1, .ref (zad y o1)), (3, .int x4), (5, .int x6), (6, .int x11)] []) h (fun h => ?_) (fun k24 hk24 h => ?_)
        · refine V_iconst X 0 dX8_load_77 (by decide) ?_
          obtain rfl := so1 h
          exact hk
        · refine V_if_eq X (tgt := 77) dX8_load_62 (by decide) (fun b23 => ?_) (fun b23 => ?_)
          · replace h := (if_pos b23).symm.trans h
            refine V_sub X [0, 1, 2, 4, 5] (lv' := [(0, .ref (zad y (0, 20, 0))), (1, .ref (zad y o1)), (3, .int x4), (5, .int x6), (6, .int x11)]) rfl ?_
            exact hk24 h
          · replace h := (if_neg b23).symm.trans h
            refine V_iload X 3 dX8_load_65 rfl ?_
            obtain ⟨x26, c25, h⟩ := bd_some h
            refine V_callSi X (As := [.int x5]) (M_X8_isDigit c25) (va_cwS 1 X.2.2.2.2.2.2.1 (gS wm_RX8_38 wst_X8_isDigit win_RX8 wc_X8_isDigit) rfl rfl rfl hd_X8_isDigit.2 ⟨Nat.le_of_ble_eq_true rfl, Nat.le_of_ble_eq_true rfl⟩) rfl (Nat.le_of_ble_eq_true rfl) dX8_load_67 rfl ?_
            refine V_if_eq X (tgt := 77) dX8_load_70 (by decide) (fun b27 => ?_) (fun b27 => ?_)
            · replace h := (if_pos b27).symm.trans h
              refine V_sub X [0, 1, 2, 4, 5] (lv' := [(0, .ref (zad y (0, 20, 0))), (1, .ref (zad y o1)), (3, .int x4), (5, .int x6), (6, .int x11)]) rfl ?_
              exact hk24 h
            · replace h := (if_neg b27).symm.trans h
              refine V_sub X [0, 1, 2, 4, 5] (lv' := [(0, .ref (zad y (0, 20, 0))), (1, .ref (zad y o1)), (3, .int x4), (5, .int x6), (6, .int x11)]) rfl ?_
              exact hk16 h
      · refine V_if_eq X (tgt := 57) dX8_load_46 (by decide) (fun b14 => ?_) (fun b14 => ?_)
        · replace h := (if_pos b14).symm.trans h
          refine V_sub X [1, 2, 3, 4, 5, 0] (lv' := [(0, .ref (zad y (0, 20, 0))), (1, .ref (zad y o1)), (3, .int x4), (4, .int x5), (5, .int x6), (6, .int x11)]) rfl ?_
          exact hk17 h
        · replace h := (if_neg b14).symm.trans h
          refine V_iload X 4 dX8_load_49 rfl ?_
          obtain ⟨x19, c18, h⟩ := bd_some h
          refine V_callSi X (As := [.int x5]) (M_X8_isLetter c18) (va_cwS 1 X.2.2.2.2.2.2.1 (gS wm_RX8_34 wst_X8_isLetter win_RX8 wc_X8_isLetter) rfl rfl rfl hd_X8_isLetter.2 ⟨Nat.le_of_ble_eq_true rfl, Nat.le_of_ble_eq_true rfl⟩) rfl (Nat.le_of_ble_eq_true rfl) dX8_load_51 rfl ?_
          refine V_if_ne X (tgt := 73) dX8_load_54 (by decide) (fun b20 => ?_) (fun b20 => ?_)
          · replace h := (if_neg b20).symm.trans h
            refine V_sub X [1, 2, 3, 5, 0] (lv' := [(0, .ref (zad y (0, 20, 0))), (1, .ref (zad y o1)), (3, .int x4), (5, .int x6), (6, .int x11)]) rfl ?_
            exact hk16 h
          · replace h := (if_pos b20).symm.trans h
            refine V_sub X [1, 2, 3, 4, 5, 0] (lv' := [(0, .ref (zad y (0, 20, 0))), (1, .ref (zad y o1)), (3, .int x4), (4, .int x5), (5, .int x6), (6, .int x11)]) rfl ?_
            exact hk17 h

