def f_X8_isAt (a1 : Int32) (μ : ZMem) : Option (Int32) := bd (α := Int32) (jk (some 0) (fun k3 => if (μ (0, 20, 0) 0) = (-1) then if (μ (0, 20, 0) 3) ≤ (μ (0, 20, 0) 4) then k3 else gd (zin (μ (0, 20, 0) 4) 401) (if (μ (0, 21, 0) (μ (0, 20, 0) 4).toNatClampNeg) = a1 then some 1 else k3) else k3)) (fun (x2 : Int32) => gd (zbo x2) (some x2))
set_option maxRecDepth 100000 in
set_option maxHeartbeats 4000000 in
theorem M_X8_isAt {l : Launch} {D : va_G} {y : ZLay} {a1 : Int32}  {μ : ZMem} {r : Int32} (h : f_X8_isAt a1 μ = some r) : MI l yX8_isAt wb_X8_isAt rm_X8_isAt D y [.ref (zad y (0, 20, 0)), .int a1] μ r μ := by
  unfold f_X8_isAt at h
  refine MI_of RX8 [(0, .ref (zad y (0, 20, 0))), (1, .int a1)] (by decide) rfl rfl (Nat.le_of_ble_eq_true rfl) rfl ?_
  intro p e s m args below meth c A X
  refine V_aload_n X 0 dX8_isAt_0 rfl rfl ?_
  refine V_geti X (o := (0, 20, 0)) (ci := 8) (k := 0) (N := 5) (T := TX8) (C := RX8) ⟨by decide, rfl⟩ rfl rfl rfl (by decide) (mBa inB_X8) (mB wl_RX8_9) dX8_isAt_1 ?_
  refine V_iconst X (-1) dX8_isAt_4 (by decide) ?_
  obtain ⟨x2, h1, h⟩ := bd_some h
  have hk : V X μ 37 [] [.int x2] := by
    clear h1
    obtain ⟨hzb, h⟩ := gd_some h
    exact V_zretR X h hzb dX8_isAt_37
  replace h := h1
  clear h1
  refine jk0_el (P := V X μ 36 [] []) h (fun h => ?_) (fun k3 hk3 h => ?_)
  · refine V_iconst X 0 dX8_isAt_36 (by decide) ?_
    obtain rfl := so1 h
    exact hk
  · refine V_icmp_ne X (tgt := 36) dX8_isAt_5 (by decide) (fun b1 => ?_) (fun b1 => ?_)
    · replace h := (if_neg b1).symm.trans h
      refine V_sub X [] (lv' := []) rfl ?_
      exact hk3 h
    · replace h := (if_pos b1).symm.trans h
      refine V_aload_n X 0 dX8_isAt_8 rfl rfl ?_
      refine V_geti X (o := (0, 20, 0)) (ci := 8) (k := 4) (N := 5) (T := TX8) (C := RX8) ⟨by decide, rfl⟩ rfl rfl rfl (by decide) (mBa inB_X8) (mB wl_RX8_25) dX8_isAt_9 ?_
      refine V_aload_n X 0 dX8_isAt_12 rfl rfl ?_
      refine V_geti X (o := (0, 20, 0)) (ci := 8) (k := 3) (N := 5) (T := TX8) (C := RX8) ⟨by decide, rfl⟩ rfl rfl rfl (by decide) (mBa inB_X8) (mB wl_RX8_22) dX8_isAt_13 ?_
      refine V_icmp_ge X (tgt := 36) dX8_isAt_16 (by decide) (fun b4 => ?_) (fun b4 => ?_)
      · replace h := (if_pos b4).symm.trans h
        refine V_sub X [] (lv' := []) rfl ?_
        exact hk3 h
      · replace h := (if_neg b4).symm.trans h
        refine V_aload_n X 0 dX8_isAt_19 rfl rfl ?_
        refine V_getr X (o := (0, 20, 0)) (i := (0, 21, 0)) (ci := 8) (k := 1) (N := 5) (T := TX8) (C := RX8) ⟨by decide, rfl⟩ rfl rfl rfl (by decide) (mBa inB_X8) (mB wl_RX8_15) dX8_isAt_20 ?_
        refine V_aload_n X 0 dX8_isAt_23 rfl rfl ?_
        refine V_geti X (o := (0, 20, 0)) (ci := 8) (k := 4) (N := 5) (T := TX8) (C := RX8) ⟨by decide, rfl⟩ rfl rfl rfl (by decide) (mBa inB_X8) (mB wl_RX8_25) dX8_isAt_24 ?_
        obtain ⟨g5, h⟩ := gd_some h
        refine V_iald X (μ (0, 20, 0) 4).toNatClampNeg rfl (o := (0, 21, 0)) (n := 401) ⟨by decide, rfl⟩ rfl rfl g5 dX8_isAt_27 ?_
        refine V_iload_n X 1 dX8_isAt_28 rfl rfl ?_
        refine V_icmp_ne X (tgt := 36) dX8_isAt_29 (by decide) (fun b6 => ?_) (fun b6 => ?_)
        · replace h := (if_neg b6).symm.trans h
          refine V_sub X [] (lv' := []) rfl ?_
          exact hk3 h
        · replace h := (if_pos b6).symm.trans h
          refine V_iconst X 1 dX8_isAt_32 (by decide) ?_
          refine V_goto X (tgt := 37) dX8_isAt_33 (by decide) ?_
          refine V_sub X [] (lv' := []) rfl ?_
          obtain rfl := so1 h
          exact hk

def f_X8_fail (μ : ZMem) : Option (ZMem) := bd (α := ZMem) (if (μ (0, 20, 0) 0) = (-1) then if (μ (0, 20, 0) 3) ≤ (μ (0, 20, 0) 4) then some μ else gd (zin (μ (0, 20, 0) 4) 401) (zlt (mset μ (0, 20, 0) 0 (μ (0, 22, 0) (μ (0, 20, 0) 4).toNatClampNeg)) (fun (μ5 : ZMem) => some μ5)) else some μ) (fun (μ2 : ZMem) => some μ2)
set_option maxRecDepth 100000 in
set_option maxHeartbeats 4000000 in
theorem M_X8_fail {l : Launch} {D : va_G} {y : ZLay}   {μ : ZMem} {μ0 : ZMem} (h : f_X8_fail μ = some μ0) : MV l yX8_fail wb_X8_fail rm_X8_fail D y [.ref (zad y (0, 20, 0))] μ μ0 := by
  unfold f_X8_fail at h
  refine MV_of RX8 [(0, .ref (zad y (0, 20, 0)))] (by decide) rfl rfl (Nat.le_of_ble_eq_true rfl) rfl ?_
  intro p e s m args below meth c A X
  refine V_aload_n X 0 dX8_fail_0 rfl rfl ?_
  refine V_geti X (o := (0, 20, 0)) (ci := 8) (k := 0) (N := 5) (T := TX8) (C := RX8) ⟨by decide, rfl⟩ rfl rfl rfl (by decide) (mBa inB_X8) (mB wl_RX8_9) dX8_fail_1 ?_
  refine V_iconst X (-1) dX8_fail_4 (by decide) ?_
  obtain ⟨μ2, h1, h⟩ := bd_some h
  have hk : V X μ2 32 [] [] := by
    clear h1
    exact V_vretW X h dX8_fail_32
  replace h := h1
  clear h1
  refine V_icmp_ne X (tgt := 32) dX8_fail_5 (by decide) (fun b1 => ?_) (fun b1 => ?_)
  · replace h := (if_neg b1).symm.trans h
    refine V_sub X [] (lv' := []) rfl ?_
    obtain rfl := so1 h
    exact hk
  · replace h := (if_pos b1).symm.trans h
    refine V_aload_n X 0 dX8_fail_8 rfl rfl ?_
    refine V_geti X (o := (0, 20, 0)) (ci := 8) (k := 4) (N := 5) (T := TX8) (C := RX8) ⟨by decide, rfl⟩ rfl rfl rfl (by decide) (mBa inB_X8) (mB wl_RX8_25) dX8_fail_9 ?_
    refine V_aload_n X 0 dX8_fail_12 rfl rfl ?_
    refine V_geti X (o := (0, 20, 0)) (ci := 8) (k := 3) (N := 5) (T := TX8) (C := RX8) ⟨by decide, rfl⟩ rfl rfl rfl (by decide) (mBa inB_X8) (mB wl_RX8_22) dX8_fail_13 ?_
    refine V_icmp_ge X (tgt := 32) dX8_fail_16 (by decide) (fun b3 => ?_) (fun b3 => ?_)
    · replace h := (if_pos b3).symm.trans h
      refine V_sub X [] (lv' := []) rfl ?_
      obtain rfl := so1 h
      exact hk
    · replace h := (if_neg b3).symm.trans h
      refine V_aload_n X 0 dX8_fail_19 rfl rfl ?_
      refine V_aload_n X 0 dX8_fail_20 rfl rfl ?_
      refine V_getr X (o := (0, 20, 0)) (i := (0, 22, 0)) (ci := 8) (k := 2) (N := 5) (T := TX8) (C := RX8) ⟨by decide, rfl⟩ rfl rfl rfl (by decide) (mBa inB_X8) (mB wl_RX8_19) dX8_fail_21 ?_
      refine V_aload_n X 0 dX8_fail_24 rfl rfl ?_
      refine V_geti X (o := (0, 20, 0)) (ci := 8) (k := 4) (N := 5) (T := TX8) (C := RX8) ⟨by decide, rfl⟩ rfl rfl rfl (by decide) (mBa inB_X8) (mB wl_RX8_25) dX8_fail_25 ?_
      obtain ⟨g4, h⟩ := gd_some h
      refine V_iald X (μ (0, 20, 0) 4).toNatClampNeg rfl (o := (0, 22, 0)) (n := 401) ⟨by decide, rfl⟩ rfl rfl g4 dX8_fail_28 ?_
      refine V_puti X tyX8 .int (o := (0, 20, 0)) (ci := 8) (k := 0) (N := 5) (T := TX8) (C := RX8) ⟨by decide, rfl⟩ rfl rfl rfl (by decide) (mBa inB_X8) tyX8_ok nmX8 (mB wl_RX8_9) rfl rfl rfl rfl dX8_fail_29 ?_
      refine zlt_el (P := fun (μ5 : ZMem) => V X μ5 32 [(0, .ref (zad y (0, 20, 0)))] []) h (fun μ5 h => ?_)
      refine V_sub X [] (lv' := []) rfl ?_
      obtain rfl := so1 h
      exact hk

def f_X8_takes (a1 : Int32) (μ : ZMem) : Option (Int32 × ZMem) := bd (α := Int32) (jk (some 0) (fun k3 => if (μ (0, 20, 0) 0) = (-1) then if (μ (0, 20, 0) 3) ≤ (μ (0, 20, 0) 4) then k3 else gd (zin (μ (0, 20, 0) 4) 401) (if (μ (0, 21, 0) (μ (0, 20, 0) 4).toNatClampNeg) = a1 then some 1 else k3) else k3)) (fun (x2 : Int32) => bd (α := Int32) (jk (some 0) (fun k9 => if x2 = 0 then k9 else if (μ (0, 20, 0) 3) ≤ ((μ (0, 20, 0) 4) + 1) then k9 else some 1)) (fun (x8 : Int32) => zlt (mset μ (0, 20, 0) 4 ((μ (0, 20, 0) 4) + x8)) (fun (μ11 : ZMem) => gd (zbo x2) (some (x2, μ11)))))
set_option maxRecDepth 100000 in
set_option maxHeartbeats 4000000 in
theorem M_X8_takes {l : Launch} {D : va_G} {y : ZLay} {a1 : Int32}  {μ : ZMem} {r : Int32} {μ0 : ZMem} (h : f_X8_takes a1 μ = some (r, μ0)) : MI l yX8_takes wb_X8_takes rm_X8_takes D y [.ref (zad y (0, 20, 0)), .int a1] μ r μ0 := by
  unfold f_X8_takes at h
  refine MI_of RX8 [(0, .ref (zad y (0, 20, 0))), (1, .int a1)] (by decide) rfl rfl (Nat.le_of_ble_eq_true rfl) rfl ?_
  intro p e s m args below meth c A X
  refine V_aload_n X 0 dX8_takes_0 rfl rfl ?_
  refine V_geti X (o := (0, 20, 0)) (ci := 8) (k := 0) (N := 5) (T := TX8) (C := RX8) ⟨by decide, rfl⟩ rfl rfl rfl (by decide) (mBa inB_X8) (mB wl_RX8_9) dX8_takes_1 ?_
  refine V_iconst X (-1) dX8_takes_4 (by decide) ?_
  obtain ⟨x2, h1, h⟩ := bd_some h
  have hk : V X μ 37 [(0, .ref (zad y (0, 20, 0)))] [.int x2] := by
    clear h1
    refine V_istore_n X [(2, .int x2), (0, .ref (zad y (0, 20, 0)))] dX8_takes_37 rfl (by decide) rfl ?_
    refine V_aload_n X 1 dX8_takes_38 rfl rfl ?_
    refine V_dup X dX8_takes_39 rfl ?_
    refine V_geti X (o := (0, 20, 0)) (ci := 8) (k := 4) (N := 5) (T := TX8) (C := RX8) ⟨by decide, rfl⟩ rfl rfl rfl (by decide) (mBa inB_X8) (mB wl_RX8_25) dX8_takes_40 ?_
    refine V_iload_n X 0 dX8_takes_43 rfl rfl ?_
    obtain ⟨x8, h1, h⟩ := bd_some h
    have hk : V X μ 65 [(2, .int x2)] [.int x8, .int (μ (0, 20, 0) 4), .ref (zad y (0, 20, 0))] := by
      clear h1
      refine V_iadd X dX8_takes_65 ?_
      refine V_puti X tyX8 .int (o := (0, 20, 0)) (ci := 8) (k := 4) (N := 5) (T := TX8) (C := RX8) ⟨by decide, rfl⟩ rfl rfl rfl (by decide) (mBa inB_X8) tyX8_ok nmX8 (mB wl_RX8_25) rfl rfl rfl rfl dX8_takes_66 ?_
      refine zlt_el (P := fun (μ11 : ZMem) => V X μ11 69 [(2, .int x2)] []) h (fun μ11 h => ?_)
      refine V_iload_n X 0 dX8_takes_69 rfl rfl ?_
      obtain ⟨hzb, h⟩ := gd_some h
      exact V_zretW X h hzb dX8_takes_70
    replace h := h1
    clear h1
    refine jk0_el (P := V X μ 64 [(2, .int x2)] [.int (μ (0, 20, 0) 4), .ref (zad y (0, 20, 0))]) h (fun h => ?_) (fun k9 hk9 h => ?_)
    · refine V_iconst X 0 dX8_takes_64 (by decide) ?_
      obtain rfl := so1 h
      exact hk
    · refine V_if_eq X (tgt := 64) dX8_takes_44 (by decide) (fun b7 => ?_) (fun b7 => ?_)
      · replace h := (if_pos b7).symm.trans h
        refine V_sub X [0] (lv' := [(2, .int x2)]) rfl ?_
        exact hk9 h
      · replace h := (if_neg b7).symm.trans h
        refine V_aload_n X 1 dX8_takes_47 rfl rfl ?_
        refine V_geti X (o := (0, 20, 0)) (ci := 8) (k := 4) (N := 5) (T := TX8) (C := RX8) ⟨by decide, rfl⟩ rfl rfl rfl (by decide) (mBa inB_X8) (mB wl_RX8_25) dX8_takes_48 ?_
        refine V_iconst X 1 dX8_takes_51 (by decide) ?_
        refine V_iadd X dX8_takes_52 ?_
        refine V_aload_n X 1 dX8_takes_53 rfl rfl ?_
        refine V_geti X (o := (0, 20, 0)) (ci := 8) (k := 3) (N := 5) (T := TX8) (C := RX8) ⟨by decide, rfl⟩ rfl rfl rfl (by decide) (mBa inB_X8) (mB wl_RX8_22) dX8_takes_54 ?_
        refine V_icmp_ge X (tgt := 64) dX8_takes_57 (by decide) (fun b10 => ?_) (fun b10 => ?_)
        · replace h := (if_pos b10).symm.trans h
          refine V_sub X [0] (lv' := [(2, .int x2)]) rfl ?_
          exact hk9 h
        · replace h := (if_neg b10).symm.trans h
          refine V_iconst X 1 dX8_takes_60 (by decide) ?_
          refine V_goto X (tgt := 65) dX8_takes_61 (by decide) ?_
          refine V_sub X [0] (lv' := [(2, .int x2)]) rfl ?_
          obtain rfl := so1 h
          exact hk
  replace h := h1
  clear h1
  refine jk0_el (P := V X μ 36 [(0, .ref (zad y (0, 20, 0)))] []) h (fun h => ?_) (fun k3 hk3 h => ?_)
  · refine V_iconst X 0 dX8_takes_36 (by decide) ?_
    obtain rfl := so1 h
    exact hk
  · refine V_icmp_ne X (tgt := 36) dX8_takes_5 (by decide) (fun b1 => ?_) (fun b1 => ?_)
    · replace h := (if_neg b1).symm.trans h
      refine V_sub X [0] (lv' := [(0, .ref (zad y (0, 20, 0)))]) rfl ?_
      exact hk3 h
    · replace h := (if_pos b1).symm.trans h
      refine V_aload_n X 0 dX8_takes_8 rfl rfl ?_
      refine V_geti X (o := (0, 20, 0)) (ci := 8) (k := 4) (N := 5) (T := TX8) (C := RX8) ⟨by decide, rfl⟩ rfl rfl rfl (by decide) (mBa inB_X8) (mB wl_RX8_25) dX8_takes_9 ?_
      refine V_aload_n X 0 dX8_takes_12 rfl rfl ?_
      refine V_geti X (o := (0, 20, 0)) (ci := 8) (k := 3) (N := 5) (T := TX8) (C := RX8) ⟨by decide, rfl⟩ rfl rfl rfl (by decide) (mBa inB_X8) (mB wl_RX8_22) dX8_takes_13 ?_
      refine V_icmp_ge X (tgt := 36) dX8_takes_16 (by decide) (fun b4 => ?_) (fun b4 => ?_)
      · replace h := (if_pos b4).symm.trans h
        refine V_sub X [0] (lv' := [(0, .ref (zad y (0, 20, 0)))]) rfl ?_
        exact hk3 h
      · replace h := (if_neg b4).symm.trans h
        refine V_aload_n X 0 dX8_takes_19 rfl rfl ?_
        refine V_getr X (o := (0, 20, 0)) (i := (0, 21, 0)) (ci := 8) (k := 1) (N := 5) (T := TX8) (C := RX8) ⟨by decide, rfl⟩ rfl rfl rfl (by decide) (mBa inB_X8) (mB wl_RX8_15) dX8_takes_20 ?_
        refine V_aload_n X 0 dX8_takes_23 rfl rfl ?_
        refine V_geti X (o := (0, 20, 0)) (ci := 8) (k := 4) (N := 5) (T := TX8) (C := RX8) ⟨by decide, rfl⟩ rfl rfl rfl (by decide) (mBa inB_X8) (mB wl_RX8_25) dX8_takes_24 ?_
        obtain ⟨g5, h⟩ := gd_some h
        refine V_iald X (μ (0, 20, 0) 4).toNatClampNeg rfl (o := (0, 21, 0)) (n := 401) ⟨by decide, rfl⟩ rfl rfl g5 dX8_takes_27 ?_
        refine V_iload_n X 1 dX8_takes_28 rfl rfl ?_
        refine V_icmp_ne X (tgt := 36) dX8_takes_29 (by decide) (fun b6 => ?_) (fun b6 => ?_)
        · replace h := (if_neg b6).symm.trans h
          refine V_sub X [0] (lv' := [(0, .ref (zad y (0, 20, 0)))]) rfl ?_
          exact hk3 h
        · replace h := (if_pos b6).symm.trans h
          refine V_iconst X 1 dX8_takes_32 (by decide) ?_
          refine V_goto X (tgt := 37) dX8_takes_33 (by decide) ?_
          refine V_sub X [0] (lv' := [(0, .ref (zad y (0, 20, 0)))]) rfl ?_
          obtain rfl := so1 h
          exact hk

def f_X5_reset (s0 : Nat) (i0 : Nat) (a1 : Int32) (a2 : Int32) (μ : ZMem) : Option (ZMem) := zlt (mset μ (3, s0, i0) 0 0) (fun (μ1 : ZMem) => zlt (mset μ1 (3, s0, i0) 1 a2) (fun (μ2 : ZMem) => zlt (mset μ2 (3, s0, i0) 2 0) (fun (μ3 : ZMem) => zlt (mset μ3 (3, s0, i0) 3 1) (fun (μ4 : ZMem) => zlt (mset μ4 (3, s0, i0) 4 (2 + a1)) (fun (μ5 : ZMem) => zlt (mset μ5 (3, s0, i0) 5 0) (fun (μ6 : ZMem) => zlt (mset μ6 (3, s0, i0) 6 0) (fun (μ7 : ZMem) => zlt (mset μ7 (3, s0, i0) 7 0) (fun (μ8 : ZMem) => zlt (mset μ8 (3, s0, i0) 8 0) (fun (μ9 : ZMem) => zlt (mset μ9 (3, s0, i0) 9 0) (fun (μ10 : ZMem) => zlt (mset μ10 (3, s0, i0) 10 0) (fun (μ11 : ZMem) => some μ11)))))))))))
set_option maxRecDepth 100000 in
set_option maxHeartbeats 4000000 in
theorem M_X5_reset {l : Launch} {D : va_G} {y : ZLay} {s0 : Nat} {i0 : Nat} {a1 : Int32} {a2 : Int32} (hs0 : s0 < 15) (hi0 : i0 < 8) {μ : ZMem} {μ0 : ZMem} (h : f_X5_reset s0 i0 a1 a2 μ = some μ0) : MV l yX5_reset wb_X5_reset rm_X5_reset D y [.ref (zad y (3, s0, i0)), .int a1, .int a2] μ μ0 := by
  unfold f_X5_reset at h
  refine MV_of RX5 [(0, .ref (zad y (3, s0, i0))), (1, .int a1), (2, .int a2)] (by decide) rfl rfl (Nat.le_of_ble_eq_true rfl) rfl ?_
  intro p e s m args below meth c A X
  refine V_aload_n X 0 dX5_reset_0 rfl rfl ?_
  refine V_iconst X 0 dX5_reset_1 (by decide) ?_
  refine V_puti X tyX5 .int (o := (3, s0, i0)) (ci := 5) (k := 0) (N := 11) (T := TX5) (C := RX5) ⟨hs0, hi0⟩ rfl rfl rfl (by decide) (mBa inB_X5) tyX5_ok nmX5 (mB wl_RX5_18) rfl rfl rfl rfl dX5_reset_2 ?_
  refine zlt_el (P := fun (μ1 : ZMem) => V X μ1 5 [(0, .ref (zad y (3, s0, i0))), (1, .int a1), (2, .int a2)] []) h (fun μ1 h => ?_)
  refine V_aload_n X 0 dX5_reset_5 rfl rfl ?_
  refine V_iload_n X 2 dX5_reset_6 rfl rfl ?_
  refine V_puti X tyX5 .int (o := (3, s0, i0)) (ci := 5) (k := 1) (N := 11) (T := TX5) (C := RX5) ⟨hs0, hi0⟩ rfl rfl rfl (by decide) (mBa inB_X5) tyX5_ok nmX5 (mB wl_RX5_21) rfl rfl rfl rfl dX5_reset_7 ?_
  refine zlt_el (P := fun (μ2 : ZMem) => V X μ2 10 [(0, .ref (zad y (3, s0, i0))), (1, .int a1), (2, .int a2)] []) h (fun μ2 h => ?_)
  refine V_aload_n X 0 dX5_reset_10 rfl rfl ?_
  refine V_iconst X 0 dX5_reset_11 (by decide) ?_
  refine V_puti X tyX5 .int (o := (3, s0, i0)) (ci := 5) (k := 2) (N := 11) (T := TX5) (C := RX5) ⟨hs0, hi0⟩ rfl rfl rfl (by decide) (mBa inB_X5) tyX5_ok nmX5 (mB wl_RX5_24) rfl rfl rfl rfl dX5_reset_12 ?_
  refine zlt_el (P := fun (μ3 : ZMem) => V X μ3 15 [(0, .ref (zad y (3, s0, i0))), (1, .int a1), (2, .int a2)] []) h (fun μ3 h => ?_)
  refine V_aload_n X 0 dX5_reset_15 rfl rfl ?_
  refine V_iconst X 1 dX5_reset_16 (by decide) ?_
  refine V_puti X tyX5 .int (o := (3, s0, i0)) (ci := 5) (k := 3) (N := 11) (T := TX5) (C := RX5) ⟨hs0, hi0⟩ rfl rfl rfl (by decide) (mBa inB_X5) tyX5_ok nmX5 (mB wl_RX5_9) rfl rfl rfl rfl dX5_reset_17 ?_
  refine zlt_el (P := fun (μ4 : ZMem) => V X μ4 20 [(0, .ref (zad y (3, s0, i0))), (1, .int a1), (2, .int a2)] []) h (fun μ4 h => ?_)
  refine V_aload_n X 0 dX5_reset_20 rfl rfl ?_
  refine V_iconst X 2 dX5_reset_21 (by decide) ?_
  refine V_iload_n X 1 dX5_reset_22 rfl rfl ?_
  refine V_iadd X dX5_reset_23 ?_
  refine V_puti X tyX5 .int (o := (3, s0, i0)) (ci := 5) (k := 4) (N := 11) (T := TX5) (C := RX5) ⟨hs0, hi0⟩ rfl rfl rfl (by decide) (mBa inB_X5) tyX5_ok nmX5 (mB wl_RX5_27) rfl rfl rfl rfl dX5_reset_24 ?_
  refine zlt_el (P := fun (μ5 : ZMem) => V X μ5 27 [(0, .ref (zad y (3, s0, i0))), (1, .int a1), (2, .int a2)] []) h (fun μ5 h => ?_)
  refine V_aload_n X 0 dX5_reset_27 rfl rfl ?_
  refine V_iconst X 0 dX5_reset_28 (by decide) ?_
  refine V_puti X tyX5 .int (o := (3, s0, i0)) (ci := 5) (k := 5) (N := 11) (T := TX5) (C := RX5) ⟨hs0, hi0⟩ rfl rfl rfl (by decide) (mBa inB_X5) tyX5_ok nmX5 (mB wl_RX5_30) rfl rfl rfl rfl dX5_reset_29 ?_
  refine zlt_el (P := fun (μ6 : ZMem) => V X μ6 32 [(0, .ref (zad y (3, s0, i0))), (1, .int a1), (2, .int a2)] []) h (fun μ6 h => ?_)
  refine V_aload_n X 0 dX5_reset_32 rfl rfl ?_
  refine V_iconst X 0 dX5_reset_33 (by decide) ?_
  refine V_puti X tyX5 .int (o := (3, s0, i0)) (ci := 5) (k := 6) (N := 11) (T := TX5) (C := RX5) ⟨hs0, hi0⟩ rfl rfl rfl (by decide) (mBa inB_X5) tyX5_ok nmX5 (mB wl_RX5_33) rfl rfl rfl rfl dX5_reset_34 ?_
  refine zlt_el (P := fun (μ7 : ZMem) => V X μ7 37 [(0, .ref (zad y (3, s0, i0))), (1, .int a1), (2, .int a2)] []) h (fun μ7 h => ?_)
  refine V_aload_n X 0 dX5_reset_37 rfl rfl ?_
  refine V_iconst X 0 dX5_reset_38 (by decide) ?_
  refine V_puti X tyX5 .int (o := (3, s0, i0)) (ci := 5) (k := 7) (N := 11) (T := TX5) (C := RX5) ⟨hs0, hi0⟩ rfl rfl rfl (by decide) (mBa inB_X5) tyX5_ok nmX5 (mB wl_RX5_36) rfl rfl rfl rfl dX5_reset_39 ?_
  refine zlt_el (P := fun (μ8 : ZMem) => V X μ8 42 [(0, .ref (zad y (3, s0, i0))), (1, .int a1), (2, .int a2)] []) h (fun μ8 h => ?_)
  refine V_aload_n X 0 dX5_reset_42 rfl rfl ?_
  refine V_iconst X 0 dX5_reset_43 (by decide) ?_
  refine V_puti X tyX5 .int (o := (3, s0, i0)) (ci := 5) (k := 8) (N := 11) (T := TX5) (C := RX5) ⟨hs0, hi0⟩ rfl rfl rfl (by decide) (mBa inB_X5) tyX5_ok nmX5 (mB wl_RX5_39) rfl rfl rfl rfl dX5_reset_44 ?_
  refine zlt_el (P := fun (μ9 : ZMem) => V X μ9 47 [(0, .ref (zad y (3, s0, i0))), (1, .int a1), (2, .int a2)] []) h (fun μ9 h => ?_)
  refine V_aload_n X 0 dX5_reset_47 rfl rfl ?_
  refine V_iconst X 0 dX5_reset_48 (by decide) ?_
  refine V_puti X tyX5 .int (o := (3, s0, i0)) (ci := 5) (k := 9) (N := 11) (T := TX5) (C := RX5) ⟨hs0, hi0⟩ rfl rfl rfl (by decide) (mBa inB_X5) tyX5_ok nmX5 (mB wl_RX5_15) rfl rfl rfl rfl dX5_reset_49 ?_
  refine zlt_el (P := fun (μ10 : ZMem) => V X μ10 52 [(0, .ref (zad y (3, s0, i0))), (1, .int a1), (2, .int a2)] []) h (fun μ10 h => ?_)
  refine V_aload_n X 0 dX5_reset_52 rfl rfl ?_
  refine V_iconst X 0 dX5_reset_53 (by decide) ?_
  refine V_puti X tyX5 .int (o := (3, s0, i0)) (ci := 5) (k := 10) (N := 11) (T := TX5) (C := RX5) ⟨hs0, hi0⟩ rfl rfl rfl (by decide) (mBa inB_X5) tyX5_ok nmX5 (mB wl_RX5_42) rfl rfl rfl rfl dX5_reset_54 ?_
  refine zlt_el (P := fun (μ11 : ZMem) => V X μ11 57 [(0, .ref (zad y (3, s0, i0))), (1, .int a1), (2, .int a2)] []) h (fun μ11 h => ?_)
  exact V_vretW X h dX5_reset_57

def f_X7_addNode (s0 : Nat) (a1 : Int32) (μ : ZMem) : Option (Int32 × ZMem) := if (μ (1, s0, 0) 4) < 8 then zlt (μ (1, s0, 0) 4) (fun (x2 : Int32) => gd (zin x2 8) (bd (f_X5_reset s0 x2.toNatClampNeg x2 a1 μ) (fun (μ5 : ZMem) => zlt (mset μ5 (1, s0, 0) 4 ((μ5 (1, s0, 0) 4) + 1)) (fun (μ6 : ZMem) => some (x2, μ6))))) else some ((-1), μ)
set_option maxRecDepth 100000 in
set_option maxHeartbeats 4000000 in
theorem M_X7_addNode {l : Launch} {D : va_G} {y : ZLay} {s0 : Nat} {a1 : Int32} (hs0 : s0 < 15) {μ : ZMem} {r : Int32} {μ0 : ZMem} (h : f_X7_addNode s0 a1 μ = some (r, μ0)) : MI l yX7_addNode wb_X7_addNode rm_X7_addNode D y [.ref (zad y (1, s0, 0)), .int a1] μ r μ0 := by
  unfold f_X7_addNode at h
  refine MI_of RX7 [(0, .ref (zad y (1, s0, 0))), (1, .int a1)] (by decide) rfl rfl (Nat.le_of_ble_eq_true rfl) rfl ?_
  intro p e s m args below meth c A X
  refine V_aload_n X 0 dX7_addNode_0 rfl rfl ?_
  refine V_geti X (o := (1, s0, 0)) (ci := 7) (k := 4) (N := 11) (T := TX7) (C := RX7) ⟨hs0, rfl⟩ rfl rfl rfl (by decide) (mBa inB_X7) (mB wl_RX7_52) dX7_addNode_1 ?_
  refine V_aload_n X 0 dX7_addNode_4 rfl rfl ?_
  refine V_getr X (o := (1, s0, 0)) (i := (2, s0, 0)) (ci := 7) (k := 0) (N := 11) (T := TX7) (C := RX7) ⟨hs0, rfl⟩ rfl rfl rfl (by decide) (mBa inB_X7) (mB wl_RX7_11) dX7_addNode_5 ?_
  refine V_alenr X 8 (o := (2, s0, 0)) ⟨hs0, rfl⟩ rfl rfl rfl (by decide) dX7_addNode_8 ?_
  refine V_icmp_lt X (tgt := 14) dX7_addNode_9 (by decide) (fun b1 => ?_) (fun b1 => ?_)
  · replace h := (if_pos b1).symm.trans h
    refine V_aload_n X 0 dX7_addNode_14 rfl rfl ?_
    refine V_geti X (o := (1, s0, 0)) (ci := 7) (k := 4) (N := 11) (T := TX7) (C := RX7) ⟨hs0, rfl⟩ rfl rfl rfl (by decide) (mBa inB_X7) (mB wl_RX7_52) dX7_addNode_15 ?_
    refine V_istore_n X [(2, .int (μ (1, s0, 0) 4)), (0, .ref (zad y (1, s0, 0))), (1, .int a1)] dX7_addNode_18 rfl (by decide) rfl ?_
    refine zlt_el (P := fun (x2 : Int32) => V X μ 19 [(2, .int x2), (0, .ref (zad y (1, s0, 0))), (1, .int a1)] []) h (fun x2 h => ?_)
    refine V_aload_n X 1 dX7_addNode_19 rfl rfl ?_
    refine V_getr X (o := (1, s0, 0)) (i := (2, s0, 0)) (ci := 7) (k := 0) (N := 11) (T := TX7) (C := RX7) ⟨hs0, rfl⟩ rfl rfl rfl (by decide) (mBa inB_X7) (mB wl_RX7_11) dX7_addNode_20 ?_
    refine V_iload_n X 0 dX7_addNode_23 rfl rfl ?_
    obtain ⟨g3, h⟩ := gd_some h
    refine V_aald X x2.toNatClampNeg rfl (o := (2, s0, 0)) ⟨hs0, rfl⟩ rfl rfl rfl rfl g3 dX7_addNode_24 ?_
    refine V_iload_n X 0 dX7_addNode_25 rfl rfl ?_
    refine V_iload_n X 2 dX7_addNode_26 rfl rfl ?_
    obtain ⟨μ5, c4, h⟩ := bd_some h
    refine V_callVv X (As := [.int x2, .int a1]) (M_X5_reset hs0 (zin_lt g3) c4) (cwV 2 X.2.2.2.2.2.2.1 (gV wm_RX7_61 wi_X5_reset wse_X5_reset win_RX5 wc_X5_reset) rfl rfl rfl hd_X5_reset ⟨Nat.le_of_ble_eq_true rfl, Nat.le_of_ble_eq_true rfl⟩) (b := (3, s0, x2.toNatClampNeg)) ⟨hs0, zin_lt g3⟩ rfl rfl rfl rfl (Nat.le_of_ble_eq_true rfl) dX7_addNode_27 rfl ?_
    refine V_aload_n X 1 dX7_addNode_30 rfl rfl ?_
    refine V_dup X dX7_addNode_31 rfl ?_
    refine V_geti X (o := (1, s0, 0)) (ci := 7) (k := 4) (N := 11) (T := TX7) (C := RX7) ⟨hs0, rfl⟩ rfl rfl rfl (by decide) (mBa inB_X7) (mB wl_RX7_52) dX7_addNode_32 ?_
    refine V_iconst X 1 dX7_addNode_35 (by decide) ?_
    refine V_iadd X dX7_addNode_36 ?_
    refine V_puti X tyX7 .int (o := (1, s0, 0)) (ci := 7) (k := 4) (N := 11) (T := TX7) (C := RX7) ⟨hs0, rfl⟩ rfl rfl rfl (by decide) (mBa inB_X7) tyX7_ok nmX7 (mB wl_RX7_52) rfl rfl rfl rfl dX7_addNode_37 ?_
    refine zlt_el (P := fun (μ6 : ZMem) => V X μ6 40 [(2, .int x2), (0, .ref (zad y (1, s0, 0))), (1, .int a1)] []) h (fun μ6 h => ?_)
    refine V_iload_n X 0 dX7_addNode_40 rfl rfl ?_
    exact V_iretW X h dX7_addNode_41
  · replace h := (if_neg b1).symm.trans h
    refine V_iconst X (-1) dX7_addNode_12 (by decide) ?_
    exact V_iretW X h dX7_addNode_13

def f_X8_takeNumber (a1 : Int32) (a2 : Int32) (μ : ZMem) : Option (Int32 × ZMem) := bd (α := Int32) (jk (some (-1)) (fun k3 => if (μ (0, 20, 0) 0) = (-1) then if (μ (0, 20, 0) 3) ≤ (μ (0, 20, 0) 4) then k3 else gd (zin (μ (0, 20, 0) 4) 401) (some (μ (0, 21, 0) (μ (0, 20, 0) 4).toNatClampNeg)) else k3)) (fun (x2 : Int32) => jk (bd (f_X8_fail μ) (fun (μ13 : ZMem) => some ((-1), μ13))) (fun k7 => if x2 < a1 then k7 else if x2 ≤ a2 then zlt (α := Int32) (if (μ (0, 20, 0) 3) ≤ ((μ (0, 20, 0) 4) + 1) then 0 else 1) (fun (x10 : Int32) => zlt (mset μ (0, 20, 0) 4 ((μ (0, 20, 0) 4) + x10)) (fun (μ11 : ZMem) => some (x2, μ11))) else k7))
set_option maxRecDepth 100000 in
set_option maxHeartbeats 4000000 in
theorem M_X8_takeNumber {l : Launch} {D : va_G} {y : ZLay} {a1 : Int32} {a2 : Int32}  {μ : ZMem} {r : Int32} {μ0 : ZMem} (h : f_X8_takeNumber a1 a2 μ = some (r, μ0)) : MI l yX8_takeNumber wb_X8_takeNumber rm_X8_takeNumber D y [.ref (zad y (0, 20, 0)), .int a1, .int a2] μ r μ0 := by
  unfold f_X8_takeNumber at h
  refine MI_of RX8 [(0, .ref (zad y (0, 20, 0))), (1, .int a1), (2, .int a2)] (by decide) rfl rfl (Nat.le_of_ble_eq_true rfl) rfl ?_
  intro p e s m args below meth c A X
  refine V_aload_n X 0 dX8_takeNumber_0 rfl rfl ?_
  refine V_geti X (o := (0, 20, 0)) (ci := 8) (k := 0) (N := 5) (T := TX8) (C := RX8) ⟨by decide, rfl⟩ rfl rfl rfl (by decide) (mBa inB_X8) (mB wl_RX8_9) dX8_takeNumber_1 ?_
  refine V_iconst X (-1) dX8_takeNumber_4 (by decide) ?_
  obtain ⟨x2, h1, h⟩ := bd_some h
  have hk : V X μ 32 [(0, .ref (zad y (0, 20, 0))), (1, .int a1), (2, .int a2)] [.int x2] := by
    clear h1
    refine V_istore_n X [(3, .int x2), (0, .ref (zad y (0, 20, 0))), (1, .int a1), (2, .int a2)] dX8_takeNumber_32 rfl (by decide) rfl ?_
    refine V_iload_n X 0 dX8_takeNumber_33 rfl rfl ?_
    refine V_iload_n X 2 dX8_takeNumber_34 rfl rfl ?_
    refine jk0_el (P := V X μ 43 [(0, .ref (zad y (0, 20, 0)))] []) h (fun h => ?_) (fun k7 hk7 h => ?_)
    · refine V_aload_n X 0 dX8_takeNumber_43 rfl rfl ?_
      obtain ⟨μ13, c12, h⟩ := bd_some h
      refine V_callVv X (As := []) (M_X8_fail c12) (cwV 0 X.2.2.2.2.2.2.1 (gV wm_RX8_64 wi_X8_fail wse_X8_fail win_RX8 wc_X8_fail) rfl rfl rfl hd_X8_fail ⟨Nat.le_of_ble_eq_true rfl, Nat.le_of_ble_eq_true rfl⟩) (b := (0, 20, 0)) ⟨by decide, rfl⟩ rfl rfl rfl rfl (Nat.le_of_ble_eq_true rfl) dX8_takeNumber_44 rfl ?_
      refine V_iconst X (-1) dX8_takeNumber_47 (by decide) ?_
      exact V_iretW X h dX8_takeNumber_48
    · refine V_icmp_lt X (tgt := 43) dX8_takeNumber_35 (by decide) (fun b6 => ?_) (fun b6 => ?_)
      · replace h := (if_pos b6).symm.trans h
        refine V_sub X [1] (lv' := [(0, .ref (zad y (0, 20, 0)))]) rfl ?_
        exact hk7 h
      · replace h := (if_neg b6).symm.trans h
        refine V_iload_n X 0 dX8_takeNumber_38 rfl rfl ?_
        refine V_iload_n X 3 dX8_takeNumber_39 rfl rfl ?_
        refine V_icmp_le X (tgt := 49) dX8_takeNumber_40 (by decide) (fun b8 => ?_) (fun b8 => ?_)
        · replace h := (if_pos b8).symm.trans h
          refine V_aload_n X 1 dX8_takeNumber_49 rfl rfl ?_
          refine V_dup X dX8_takeNumber_50 rfl ?_
          refine V_geti X (o := (0, 20, 0)) (ci := 8) (k := 4) (N := 5) (T := TX8) (C := RX8) ⟨by decide, rfl⟩ rfl rfl rfl (by decide) (mBa inB_X8) (mB wl_RX8_25) dX8_takeNumber_51 ?_
          refine V_aload_n X 1 dX8_takeNumber_54 rfl rfl ?_
          refine V_geti X (o := (0, 20, 0)) (ci := 8) (k := 4) (N := 5) (T := TX8) (C := RX8) ⟨by decide, rfl⟩ rfl rfl rfl (by decide) (mBa inB_X8) (mB wl_RX8_25) dX8_takeNumber_55 ?_
          refine V_iconst X 1 dX8_takeNumber_58 (by decide) ?_
          refine V_iadd X dX8_takeNumber_59 ?_
          refine V_aload_n X 1 dX8_takeNumber_60 rfl rfl ?_
          refine V_geti X (o := (0, 20, 0)) (ci := 8) (k := 3) (N := 5) (T := TX8) (C := RX8) ⟨by decide, rfl⟩ rfl rfl rfl (by decide) (mBa inB_X8) (mB wl_RX8_22) dX8_takeNumber_61 ?_
          obtain ⟨x10, h1, h⟩ := zl1_some h
          have hk : V X μ 72 [(3, .int x2)] [.int x10, .int (μ (0, 20, 0) 4), .ref (zad y (0, 20, 0))] := by
            clear h1
            refine V_iadd X dX8_takeNumber_72 ?_
            refine V_puti X tyX8 .int (o := (0, 20, 0)) (ci := 8) (k := 4) (N := 5) (T := TX8) (C := RX8) ⟨by decide, rfl⟩ rfl rfl rfl (by decide) (mBa inB_X8) tyX8_ok nmX8 (mB wl_RX8_25) rfl rfl rfl rfl dX8_takeNumber_73 ?_
            refine zlt_el (P := fun (μ11 : ZMem) => V X μ11 76 [(3, .int x2)] []) h (fun μ11 h => ?_)
            refine V_iload_n X 0 dX8_takeNumber_76 rfl rfl ?_
            exact V_iretW X h dX8_takeNumber_77
          replace h := h1
          clear h1
          refine V_icmp_ge X (tgt := 71) dX8_takeNumber_64 (by decide) (fun b9 => ?_) (fun b9 => ?_)
          · replace h := (if_pos b9).symm.trans h
            refine V_iconst X 0 dX8_takeNumber_71 (by decide) ?_
            refine V_sub X [0] (lv' := [(3, .int x2)]) rfl ?_
            obtain rfl := pr1 h
            exact hk
          · replace h := (if_neg b9).symm.trans h
            refine V_iconst X 1 dX8_takeNumber_67 (by decide) ?_
            refine V_goto X (tgt := 72) dX8_takeNumber_68 (by decide) ?_
            refine V_sub X [0] (lv' := [(3, .int x2)]) rfl ?_
            obtain rfl := pr1 h
            exact hk
        · replace h := (if_neg b8).symm.trans h
          refine V_sub X [1] (lv' := [(0, .ref (zad y (0, 20, 0)))]) rfl ?_
          exact hk7 h
  replace h := h1
  clear h1
  refine jk0_el (P := V X μ 31 [(0, .ref (zad y (0, 20, 0))), (1, .int a1), (2, .int a2)] []) h (fun h => ?_) (fun k3 hk3 h => ?_)
  · refine V_iconst X (-1) dX8_takeNumber_31 (by decide) ?_
    obtain rfl := so1 h
    exact hk
  · refine V_icmp_ne X (tgt := 31) dX8_takeNumber_5 (by decide) (fun b1 => ?_) (fun b1 => ?_)
    · replace h := (if_neg b1).symm.trans h
      exact hk3 h
    · replace h := (if_pos b1).symm.trans h
      refine V_aload_n X 0 dX8_takeNumber_8 rfl rfl ?_
      refine V_geti X (o := (0, 20, 0)) (ci := 8) (k := 4) (N := 5) (T := TX8) (C := RX8) ⟨by decide, rfl⟩ rfl rfl rfl (by decide) (mBa inB_X8) (mB wl_RX8_25) dX8_takeNumber_9 ?_
      refine V_aload_n X 0 dX8_takeNumber_12 rfl rfl ?_
      refine V_geti X (o := (0, 20, 0)) (ci := 8) (k := 3) (N := 5) (T := TX8) (C := RX8) ⟨by decide, rfl⟩ rfl rfl rfl (by decide) (mBa inB_X8) (mB wl_RX8_22) dX8_takeNumber_13 ?_
      refine V_icmp_ge X (tgt := 31) dX8_takeNumber_16 (by decide) (fun b4 => ?_) (fun b4 => ?_)
      · replace h := (if_pos b4).symm.trans h
        exact hk3 h
      · replace h := (if_neg b4).symm.trans h
        refine V_aload_n X 0 dX8_takeNumber_19 rfl rfl ?_
        refine V_getr X (o := (0, 20, 0)) (i := (0, 21, 0)) (ci := 8) (k := 1) (N := 5) (T := TX8) (C := RX8) ⟨by decide, rfl⟩ rfl rfl rfl (by decide) (mBa inB_X8) (mB wl_RX8_15) dX8_takeNumber_20 ?_
        refine V_aload_n X 0 dX8_takeNumber_23 rfl rfl ?_
        refine V_geti X (o := (0, 20, 0)) (ci := 8) (k := 4) (N := 5) (T := TX8) (C := RX8) ⟨by decide, rfl⟩ rfl rfl rfl (by decide) (mBa inB_X8) (mB wl_RX8_25) dX8_takeNumber_24 ?_
        obtain ⟨g5, h⟩ := gd_some h
        refine V_iald X (μ (0, 20, 0) 4).toNatClampNeg rfl (o := (0, 21, 0)) (n := 401) ⟨by decide, rfl⟩ rfl rfl g5 dX8_takeNumber_27 ?_
        refine V_goto X (tgt := 32) dX8_takeNumber_28 (by decide) ?_
        obtain rfl := so1 h
        exact hk

def f_X11_bit (a0 : Int32) : Int32 := (1 <<< (a0 &&& 31))
set_option maxRecDepth 100000 in
set_option maxHeartbeats 4000000 in
theorem M_X11_bit {l : Launch} {D : va_G} {y : ZLay} {a0 : Int32}  {μ : ZMem} : MI l yX11_bit wb_X11_bit rm_X11_bit D y [.int a0] μ (f_X11_bit a0) μ := by
  obtain ⟨r, h⟩ : ∃ r, f_X11_bit a0 = r := ⟨_, rfl⟩
  rw [h]
  unfold f_X11_bit at h
  refine MI_of RX11 [(0, .int a0)] (by decide) rfl rfl (Nat.le_of_ble_eq_true rfl) rfl ?_
  intro p e s m args below meth c A X
  refine V_iconst X 1 dX11_bit_0 (by decide) ?_
  refine V_iload_n X 0 dX11_bit_1 rfl rfl ?_
  refine V_ishl X dX11_bit_2 ?_
  exact V_iretT X h dX11_bit_3

def f_X0_readNode (s1 : Nat) (a2 : Int32) (μ : ZMem) : Option (ZMem) := jk (some μ) (fun k2 => if a2 < 0 then k2 else if a2 < (μ (1, s1, 0) 4) then gd (zin a2 8) (bd2 (f_X8_takes 1017 μ) (fun (x6 : Int32) (μ7 : ZMem) => bd (α := ZMem) (if x6 = 0 then bd2 (f_X8_takes 1018 μ7) (fun (x11 : Int32) (μ12 : ZMem) => if x11 = 0 then some μ12 else bd2 (f_X8_takeNumber 0 999 μ12) (fun (x15 : Int32) (μ16 : ZMem) => zlt (mset μ16 (3, s1, a2.toNatClampNeg) 0 (-x15)) (fun (μ17 : ZMem) => some μ17))) else bd2 (f_X8_takeNumber 0 999 μ7) (fun (x19 : Int32) (μ20 : ZMem) => zlt (mset μ20 (3, s1, a2.toNatClampNeg) 0 x19) (fun (μ21 : ZMem) => some μ21))) (fun (μ9 : ZMem) => bd2 (f_X8_takes 1001 μ9) (fun (x23 : Int32) (μ24 : ZMem) => bd (α := ZMem) (if x23 = 0 then bd2 (f_X8_takes 1002 μ24) (fun (x28 : Int32) (μ29 : ZMem) => if x28 = 0 then some μ29 else bd2 (f_X8_takeNumber 0 9 μ29) (fun (x32 : Int32) (μ33 : ZMem) => zlt (mset μ33 (3, s1, a2.toNatClampNeg) 1 (-x32)) (fun (μ34 : ZMem) => some μ34))) else bd2 (f_X8_takeNumber 0 9 μ24) (fun (x36 : Int32) (μ37 : ZMem) => zlt (mset μ37 (3, s1, a2.toNatClampNeg) 1 x36) (fun (μ38 : ZMem) => some μ38))) (fun (μ26 : ZMem) => bd2 (f_X8_takes 1009 μ26) (fun (x40 : Int32) (μ41 : ZMem) => bd (α := ZMem) (if x40 = 0 then some μ41 else bd2 (f_X8_takeNumber 0 100 μ41) (fun (x45 : Int32) (μ46 : ZMem) => zlt (mset μ46 (3, s1, a2.toNatClampNeg) 8 x45) (fun (μ47 : ZMem) => some μ47))) (fun (μ43 : ZMem) => bd2 (f_X8_takes 1010 μ43) (fun (x49 : Int32) (μ50 : ZMem) => bd (α := ZMem) (if x49 = 0 then bd2 (f_X8_takes 1019 μ50) (fun (x54 : Int32) (μ55 : ZMem) => if x54 = 0 then bd2 (f_X8_takes 1020 μ55) (fun (x58 : Int32) (μ59 : ZMem) => if x58 = 0 then some μ59 else zlt (mset μ59 (3, s1, a2.toNatClampNeg) 9 3) (fun (μ61 : ZMem) => bd2 (f_X8_takeNumber 0 99 μ61) (fun (x63 : Int32) (μ64 : ZMem) => zlt (mset μ64 (3, s1, a2.toNatClampNeg) 10 x63) (fun (μ65 : ZMem) => some μ65)))) else zlt (mset μ55 (3, s1, a2.toNatClampNeg) 9 2) (fun (μ66 : ZMem) => some μ66)) else zlt (mset μ50 (3, s1, a2.toNatClampNeg) 9 1) (fun (μ67 : ZMem) => bd2 (f_X8_takeNumber 0 99 μ67) (fun (x69 : Int32) (μ70 : ZMem) => zlt (mset μ70 (3, s1, a2.toNatClampNeg) 10 x69) (fun (μ71 : ZMem) => some μ71)))) (fun (μ52 : ZMem) => bd2 (f_X8_takes 1021 μ52) (fun (x73 : Int32) (μ74 : ZMem) => bd (α := ZMem) (if x73 = 0 then bd2 (f_X8_takes 1022 μ74) (fun (x78 : Int32) (μ79 : ZMem) => if x78 = 0 then some μ79 else zlt (mset μ79 (3, s1, a2.toNatClampNeg) 3 2) (fun (μ81 : ZMem) => zlt (mset μ81 (3, s1, a2.toNatClampNeg) 5 (f_X11_bit a2)) (fun (μ82 : ZMem) => some μ82))) else zlt (mset μ74 (3, s1, a2.toNatClampNeg) 3 0) (fun (μ83 : ZMem) => some μ83)) (fun (μ76 : ZMem) => some μ76))))))))))) else k2)
set_option maxRecDepth 100000 in
set_option maxHeartbeats 4000000 in
theorem M_X0_readNode {l : Launch} {D : va_G} {y : ZLay} {s1 : Nat} {a2 : Int32} (hs1 : s1 < 15) {μ : ZMem} {μ0 : ZMem} (h : f_X0_readNode s1 a2 μ = some μ0) : MV l yX0_readNode wb_X0_readNode rm_X0_readNode D y [.ref (zad y (0, 23, 0)), .ref (zad y (1, s1, 0)), .int a2] μ μ0 := by
  unfold f_X0_readNode at h
  refine MV_of RX0 [(0, .ref (zad y (0, 23, 0))), (1, .ref (zad y (1, s1, 0))), (2, .int a2)] (by decide) rfl rfl (Nat.le_of_ble_eq_true rfl) rfl ?_
  intro p e s m args below meth c A X
  refine V_iload_n X 2 dX0_readNode_0 rfl rfl ?_
  refine jk0_el (P := V X μ 12 [] []) h (fun h => ?_) (fun k2 hk2 h => ?_)
  · exact V_vretW X h dX0_readNode_12
  · refine V_if_lt X (tgt := 12) dX0_readNode_1 (by decide) (fun b1 => ?_) (fun b1 => ?_)
    · replace h := (if_pos b1).symm.trans h
      refine V_sub X [] (lv' := []) rfl ?_
      exact hk2 h
    · replace h := (if_neg b1).symm.trans h
      refine V_iload_n X 2 dX0_readNode_4 rfl rfl ?_
      refine V_aload_n X 1 dX0_readNode_5 rfl rfl ?_
      refine V_geti X (o := (1, s1, 0)) (ci := 7) (k := 4) (N := 11) (T := TX7) (C := RX7) ⟨hs1, rfl⟩ rfl rfl rfl (by decide) (mBa inB_X7) (mB wl_RX0_31) dX0_readNode_6 ?_
      refine V_icmp_lt X (tgt := 13) dX0_readNode_9 (by decide) (fun b3 => ?_) (fun b3 => ?_)
      · replace h := (if_pos b3).symm.trans h
        refine V_aload_n X 1 dX0_readNode_13 rfl rfl ?_
        refine V_getr X (o := (1, s1, 0)) (i := (2, s1, 0)) (ci := 7) (k := 0) (N := 11) (T := TX7) (C := RX7) ⟨hs1, rfl⟩ rfl rfl rfl (by decide) (mBa inB_X7) (mB wl_RX0_58) dX0_readNode_14 ?_
        refine V_iload_n X 2 dX0_readNode_17 rfl rfl ?_
        obtain ⟨g4, h⟩ := gd_some h
        refine V_aald X a2.toNatClampNeg rfl (o := (2, s1, 0)) ⟨hs1, rfl⟩ rfl rfl rfl rfl g4 dX0_readNode_18 ?_
        refine V_astore_n X [(3, .ref (zad y (3, s1, a2.toNatClampNeg))), (0, .ref (zad y (0, 23, 0))), (1, .ref (zad y (1, s1, 0))), (2, .int a2)] dX0_readNode_19 rfl (by decide) rfl ?_
        refine V_aload_n X 1 dX0_readNode_20 rfl rfl ?_
        refine V_getr X (o := (0, 23, 0)) (i := (0, 20, 0)) (ci := 0) (k := 0) (N := 1) (T := TX0) (C := RX0) ⟨by decide, rfl⟩ rfl rfl rfl (by decide) (mBa inB_X0) (mB wl_RX0_9) dX0_readNode_21 ?_
        refine V_sipush X 1017 dX0_readNode_24 (by decide) ?_
        obtain ⟨x6, μ7, c5, h⟩ := bd2_some h
        refine V_callVi X (As := [.int 1017]) (M_X8_takes c5) (cwV 1 X.2.2.2.2.2.2.1 (gV wm_RX0_25 wi_X8_takes wse_X8_takes win_RX8 wc_X8_takes) rfl rfl rfl hd_X8_takes ⟨Nat.le_of_ble_eq_true rfl, Nat.le_of_ble_eq_true rfl⟩) (b := (0, 20, 0)) ⟨by decide, rfl⟩ rfl rfl rfl rfl (Nat.le_of_ble_eq_true rfl) dX0_readNode_27 rfl ?_
        obtain ⟨μ9, h1, h⟩ := bd_some h
        have hk : V X μ9 80 [(0, .ref (zad y (0, 23, 0))), (2, .int a2), (3, .ref (zad y (3, s1, a2.toNatClampNeg)))] [] := by
          clear h1
          refine V_aload_n X 0 dX0_readNode_80 rfl rfl ?_
          refine V_getr X (o := (0, 23, 0)) (i := (0, 20, 0)) (ci := 0) (k := 0) (N := 1) (T := TX0) (C := RX0) ⟨by decide, rfl⟩ rfl rfl rfl (by decide) (mBa inB_X0) (mB wl_RX0_9) dX0_readNode_81 ?_
          refine V_sipush X 1001 dX0_readNode_84 (by decide) ?_
          obtain ⟨x23, μ24, c22, h⟩ := bd2_some h
          refine V_callVi X (As := [.int 1001]) (M_X8_takes c22) (cwV 1 X.2.2.2.2.2.2.1 (gV wm_RX0_25 wi_X8_takes wse_X8_takes win_RX8 wc_X8_takes) rfl rfl rfl hd_X8_takes ⟨Nat.le_of_ble_eq_true rfl, Nat.le_of_ble_eq_true rfl⟩) (b := (0, 20, 0)) ⟨by decide, rfl⟩ rfl rfl rfl rfl (Nat.le_of_ble_eq_true rfl) dX0_readNode_87 rfl ?_
          obtain ⟨μ26, h1, h⟩ := bd_some h
          have hk : V X μ26 138 [(0, .ref (zad y (0, 23, 0))), (2, .int a2), (3, .ref (zad y (3, s1, a2.toNatClampNeg)))] [] := by
            clear h1
            refine V_aload_n X 0 dX0_readNode_138 rfl rfl ?_
            refine V_getr X (o := (0, 23, 0)) (i := (0, 20, 0)) (ci := 0) (k := 0) (N := 1) (T := TX0) (C := RX0) ⟨by decide, rfl⟩ rfl rfl rfl (by decide) (mBa inB_X0) (mB wl_RX0_9) dX0_readNode_139 ?_
            refine V_sipush X 1009 dX0_readNode_142 (by decide) ?_
            obtain ⟨x40, μ41, c39, h⟩ := bd2_some h
            refine V_callVi X (As := [.int 1009]) (M_X8_takes c39) (cwV 1 X.2.2.2.2.2.2.1 (gV wm_RX0_25 wi_X8_takes wse_X8_takes win_RX8 wc_X8_takes) rfl rfl rfl hd_X8_takes ⟨Nat.le_of_ble_eq_true rfl, Nat.le_of_ble_eq_true rfl⟩) (b := (0, 20, 0)) ⟨by decide, rfl⟩ rfl rfl rfl rfl (Nat.le_of_ble_eq_true rfl) dX0_readNode_145 rfl ?_
            obtain ⟨μ43, h1, h⟩ := bd_some h
            have hk : V X μ43 165 [(0, .ref (zad y (0, 23, 0))), (2, .int a2), (3, .ref (zad y (3, s1, a2.toNatClampNeg)))] [] := by
              clear h1
              refine V_aload_n X 0 dX0_readNode_165 rfl rfl ?_
              refine V_getr X (o := (0, 23, 0)) (i := (0, 20, 0)) (ci := 0) (k := 0) (N := 1) (T := TX0) (C := RX0) ⟨by decide, rfl⟩ rfl rfl rfl (by decide) (mBa inB_X0) (mB wl_RX0_9) dX0_readNode_166 ?_
              refine V_sipush X 1010 dX0_readNode_169 (by decide) ?_
              obtain ⟨x49, μ50, c48, h⟩ := bd2_some h
              refine V_callVi X (As := [.int 1010]) (M_X8_takes c48) (cwV 1 X.2.2.2.2.2.2.1 (gV wm_RX0_25 wi_X8_takes wse_X8_takes win_RX8 wc_X8_takes) rfl rfl rfl hd_X8_takes ⟨Nat.le_of_ble_eq_true rfl, Nat.le_of_ble_eq_true rfl⟩) (b := (0, 20, 0)) ⟨by decide, rfl⟩ rfl rfl rfl rfl (Nat.le_of_ble_eq_true rfl) dX0_readNode_172 rfl ?_
              obtain ⟨μ52, h1, h⟩ := bd_some h
              have hk : V X μ52 253 [(0, .ref (zad y (0, 23, 0))), (2, .int a2), (3, .ref (zad y (3, s1, a2.toNatClampNeg)))] [] := by
                clear h1
                refine V_aload_n X 0 dX0_readNode_253 rfl rfl ?_
                refine V_getr X (o := (0, 23, 0)) (i := (0, 20, 0)) (ci := 0) (k := 0) (N := 1) (T := TX0) (C := RX0) ⟨by decide, rfl⟩ rfl rfl rfl (by decide) (mBa inB_X0) (mB wl_RX0_9) dX0_readNode_254 ?_
                refine V_sipush X 1021 dX0_readNode_257 (by decide) ?_
                obtain ⟨x73, μ74, c72, h⟩ := bd2_some h
                refine V_callVi X (As := [.int 1021]) (M_X8_takes c72) (cwV 1 X.2.2.2.2.2.2.1 (gV wm_RX0_25 wi_X8_takes wse_X8_takes win_RX8 wc_X8_takes) rfl rfl rfl hd_X8_takes ⟨Nat.le_of_ble_eq_true rfl, Nat.le_of_ble_eq_true rfl⟩) (b := (0, 20, 0)) ⟨by decide, rfl⟩ rfl rfl rfl rfl (Nat.le_of_ble_eq_true rfl) dX0_readNode_260 rfl ?_
                obtain ⟨μ76, h1, h⟩ := bd_some h
                have hk : V X μ76 300 [] [] := by
                  clear h1
                  exact V_vretW X h dX0_readNode_300
                replace h := h1
                clear h1
                refine V_if_eq X (tgt := 274) dX0_readNode_263 (by decide) (fun b75 => ?_) (fun b75 => ?_)
                · replace h := (if_pos b75).symm.trans h
                  refine V_aload_n X 0 dX0_readNode_274 rfl rfl ?_
                  refine V_getr X (o := (0, 23, 0)) (i := (0, 20, 0)) (ci := 0) (k := 0) (N := 1) (T := TX0) (C := RX0) ⟨by decide, rfl⟩ rfl rfl rfl (by decide) (mBa inB_X0) (mB wl_RX0_9) dX0_readNode_275 ?_
                  refine V_sipush X 1022 dX0_readNode_278 (by decide) ?_
                  obtain ⟨x78, μ79, c77, h⟩ := bd2_some h
                  refine V_callVi X (As := [.int 1022]) (M_X8_takes c77) (cwV 1 X.2.2.2.2.2.2.1 (gV wm_RX0_25 wi_X8_takes wse_X8_takes win_RX8 wc_X8_takes) rfl rfl rfl hd_X8_takes ⟨Nat.le_of_ble_eq_true rfl, Nat.le_of_ble_eq_true rfl⟩) (b := (0, 20, 0)) ⟨by decide, rfl⟩ rfl rfl rfl rfl (Nat.le_of_ble_eq_true rfl) dX0_readNode_281 rfl ?_
                  refine V_if_eq X (tgt := 300) dX0_readNode_284 (by decide) (fun b80 => ?_) (fun b80 => ?_)
                  · replace h := (if_pos b80).symm.trans h
                    refine V_sub X [] (lv' := []) rfl ?_
                    obtain rfl := so1 h
                    exact hk
                  · replace h := (if_neg b80).symm.trans h
                    refine V_aload_n X 2 dX0_readNode_287 rfl rfl ?_
                    refine V_iconst X 2 dX0_readNode_288 (by decide) ?_
                    refine V_puti X tyX5 .int (o := (3, s1, a2.toNatClampNeg)) (ci := 5) (k := 3) (N := 11) (T := TX5) (C := RX5) ⟨hs1, zin_lt g4⟩ rfl rfl rfl (by decide) (mBa inB_X5) tyX5_ok nmX5 (mB wl_RX0_79) rfl rfl rfl rfl dX0_readNode_289 ?_
                    refine zlt_el (P := fun (μ81 : ZMem) => V X μ81 292 [(0, .ref (zad y (0, 23, 0))), (2, .int a2), (3, .ref (zad y (3, s1, a2.toNatClampNeg)))] []) h (fun μ81 h => ?_)
                    refine V_aload_n X 2 dX0_readNode_292 rfl rfl ?_
                    refine V_iload_n X 1 dX0_readNode_293 rfl rfl ?_
                    refine V_callSNi X (As := [.int a2]) (M_X11_bit) ⟨va_cnB (host := "SlotCluster") 1 X.2.2.2.2.2.2.1 (gN wc_X11_bit) rfl rfl rfl (X.2.2.2.2.2.2.2.2.1 _ (List.mem_of_getElem? wn_RX0_82)) (X.2.2.2.2.2.2.1 (.initialized RX11) (mB win_RX11)) hd_X11_bit.2 ⟨Nat.le_of_ble_eq_true rfl, Nat.le_of_ble_eq_true rfl⟩, X.2.2.2.2.2.2.1 (.static yX11_bit) (mB wst_X11_bit), trivial⟩ rfl (Nat.le_of_ble_eq_true rfl) dX0_readNode_294 rfl ?_
                    refine V_puti X tyX5 .int (o := (3, s1, a2.toNatClampNeg)) (ci := 5) (k := 5) (N := 11) (T := TX5) (C := RX5) ⟨hs1, zin_lt g4⟩ rfl rfl rfl (by decide) (mBa inB_X5) tyX5_ok nmX5 (mB wl_RX0_85) rfl rfl rfl rfl dX0_readNode_297 ?_
                    refine zlt_el (P := fun (μ82 : ZMem) => V X μ82 300 [(0, .ref (zad y (0, 23, 0))), (2, .int a2), (3, .ref (zad y (3, s1, a2.toNatClampNeg)))] []) h (fun μ82 h => ?_)
                    refine V_sub X [] (lv' := []) rfl ?_
                    obtain rfl := so1 h
                    exact hk
                · replace h := (if_neg b75).symm.trans h
                  refine V_aload_n X 2 dX0_readNode_266 rfl rfl ?_
                  refine V_iconst X 0 dX0_readNode_267 (by decide) ?_
                  refine V_puti X tyX5 .int (o := (3, s1, a2.toNatClampNeg)) (ci := 5) (k := 3) (N := 11) (T := TX5) (C := RX5) ⟨hs1, zin_lt g4⟩ rfl rfl rfl (by decide) (mBa inB_X5) tyX5_ok nmX5 (mB wl_RX0_79) rfl rfl rfl rfl dX0_readNode_268 ?_
                  refine zlt_el (P := fun (μ83 : ZMem) => V X μ83 271 [(0, .ref (zad y (0, 23, 0))), (2, .int a2), (3, .ref (zad y (3, s1, a2.toNatClampNeg)))] []) h (fun μ83 h => ?_)
                  refine V_goto X (tgt := 300) dX0_readNode_271 (by decide) ?_
                  refine V_sub X [] (lv' := []) rfl ?_
                  obtain rfl := so1 h
                  exact hk
              replace h := h1
              clear h1
              refine V_if_eq X (tgt := 200) dX0_readNode_175 (by decide) (fun b51 => ?_) (fun b51 => ?_)
              · replace h := (if_pos b51).symm.trans h
                refine V_aload_n X 0 dX0_readNode_200 rfl rfl ?_
                refine V_getr X (o := (0, 23, 0)) (i := (0, 20, 0)) (ci := 0) (k := 0) (N := 1) (T := TX0) (C := RX0) ⟨by decide, rfl⟩ rfl rfl rfl (by decide) (mBa inB_X0) (mB wl_RX0_9) dX0_readNode_201 ?_
                refine V_sipush X 1019 dX0_readNode_204 (by decide) ?_
                obtain ⟨x54, μ55, c53, h⟩ := bd2_some h
                refine V_callVi X (As := [.int 1019]) (M_X8_takes c53) (cwV 1 X.2.2.2.2.2.2.1 (gV wm_RX0_25 wi_X8_takes wse_X8_takes win_RX8 wc_X8_takes) rfl rfl rfl hd_X8_takes ⟨Nat.le_of_ble_eq_true rfl, Nat.le_of_ble_eq_true rfl⟩) (b := (0, 20, 0)) ⟨by decide, rfl⟩ rfl rfl rfl rfl (Nat.le_of_ble_eq_true rfl) dX0_readNode_207 rfl ?_
                refine V_if_eq X (tgt := 221) dX0_readNode_210 (by decide) (fun b56 => ?_) (fun b56 => ?_)
                · replace h := (if_pos b56).symm.trans h
                  refine V_aload_n X 0 dX0_readNode_221 rfl rfl ?_
                  refine V_getr X (o := (0, 23, 0)) (i := (0, 20, 0)) (ci := 0) (k := 0) (N := 1) (T := TX0) (C := RX0) ⟨by decide, rfl⟩ rfl rfl rfl (by decide) (mBa inB_X0) (mB wl_RX0_9) dX0_readNode_222 ?_
                  refine V_sipush X 1020 dX0_readNode_225 (by decide) ?_
                  obtain ⟨x58, μ59, c57, h⟩ := bd2_some h
                  refine V_callVi X (As := [.int 1020]) (M_X8_takes c57) (cwV 1 X.2.2.2.2.2.2.1 (gV wm_RX0_25 wi_X8_takes wse_X8_takes win_RX8 wc_X8_takes) rfl rfl rfl hd_X8_takes ⟨Nat.le_of_ble_eq_true rfl, Nat.le_of_ble_eq_true rfl⟩) (b := (0, 20, 0)) ⟨by decide, rfl⟩ rfl rfl rfl rfl (Nat.le_of_ble_eq_true rfl) dX0_readNode_228 rfl ?_
                  refine V_if_eq X (tgt := 253) dX0_readNode_231 (by decide) (fun b60 => ?_) (fun b60 => ?_)
                  · replace h := (if_pos b60).symm.trans h
                    obtain rfl := so1 h
                    exact hk
                  · replace h := (if_neg b60).symm.trans h
                    refine V_aload_n X 2 dX0_readNode_234 rfl rfl ?_
                    refine V_iconst X 3 dX0_readNode_235 (by decide) ?_
                    refine V_puti X tyX5 .int (o := (3, s1, a2.toNatClampNeg)) (ci := 5) (k := 9) (N := 11) (T := TX5) (C := RX5) ⟨hs1, zin_lt g4⟩ rfl rfl rfl (by decide) (mBa inB_X5) tyX5_ok nmX5 (mB wl_RX0_73) rfl rfl rfl rfl dX0_readNode_236 ?_
                    refine zlt_el (P := fun (μ61 : ZMem) => V X μ61 239 [(0, .ref (zad y (0, 23, 0))), (2, .int a2), (3, .ref (zad y (3, s1, a2.toNatClampNeg)))] []) h (fun μ61 h => ?_)
                    refine V_aload_n X 2 dX0_readNode_239 rfl rfl ?_
                    refine V_aload_n X 0 dX0_readNode_240 rfl rfl ?_
                    refine V_getr X (o := (0, 23, 0)) (i := (0, 20, 0)) (ci := 0) (k := 0) (N := 1) (T := TX0) (C := RX0) ⟨by decide, rfl⟩ rfl rfl rfl (by decide) (mBa inB_X0) (mB wl_RX0_9) dX0_readNode_241 ?_
                    refine V_iconst X 0 dX0_readNode_244 (by decide) ?_
                    refine V_bipush X 99 dX0_readNode_245 (by decide) ?_
                    obtain ⟨x63, μ64, c62, h⟩ := bd2_some h
                    refine V_callVi X (As := [.int 0, .int 99]) (M_X8_takeNumber c62) (cwV 2 X.2.2.2.2.2.2.1 (gV wm_RX0_45 wi_X8_takeNumber wse_X8_takeNumber win_RX8 wc_X8_takeNumber) rfl rfl rfl hd_X8_takeNumber ⟨Nat.le_of_ble_eq_true rfl, Nat.le_of_ble_eq_true rfl⟩) (b := (0, 20, 0)) ⟨by decide, rfl⟩ rfl rfl rfl rfl (Nat.le_of_ble_eq_true rfl) dX0_readNode_247 rfl ?_
                    refine V_puti X tyX5 .int (o := (3, s1, a2.toNatClampNeg)) (ci := 5) (k := 10) (N := 11) (T := TX5) (C := RX5) ⟨hs1, zin_lt g4⟩ rfl rfl rfl (by decide) (mBa inB_X5) tyX5_ok nmX5 (mB wl_RX0_76) rfl rfl rfl rfl dX0_readNode_250 ?_
                    refine zlt_el (P := fun (μ65 : ZMem) => V X μ65 253 [(0, .ref (zad y (0, 23, 0))), (2, .int a2), (3, .ref (zad y (3, s1, a2.toNatClampNeg)))] []) h (fun μ65 h => ?_)
                    obtain rfl := so1 h
                    exact hk
                · replace h := (if_neg b56).symm.trans h
                  refine V_aload_n X 2 dX0_readNode_213 rfl rfl ?_
                  refine V_iconst X 2 dX0_readNode_214 (by decide) ?_
                  refine V_puti X tyX5 .int (o := (3, s1, a2.toNatClampNeg)) (ci := 5) (k := 9) (N := 11) (T := TX5) (C := RX5) ⟨hs1, zin_lt g4⟩ rfl rfl rfl (by decide) (mBa inB_X5) tyX5_ok nmX5 (mB wl_RX0_73) rfl rfl rfl rfl dX0_readNode_215 ?_
                  refine zlt_el (P := fun (μ66 : ZMem) => V X μ66 218 [(0, .ref (zad y (0, 23, 0))), (2, .int a2), (3, .ref (zad y (3, s1, a2.toNatClampNeg)))] []) h (fun μ66 h => ?_)
                  refine V_goto X (tgt := 253) dX0_readNode_218 (by decide) ?_
                  obtain rfl := so1 h
                  exact hk
              · replace h := (if_neg b51).symm.trans h
                refine V_aload_n X 2 dX0_readNode_178 rfl rfl ?_
                refine V_iconst X 1 dX0_readNode_179 (by decide) ?_
                refine V_puti X tyX5 .int (o := (3, s1, a2.toNatClampNeg)) (ci := 5) (k := 9) (N := 11) (T := TX5) (C := RX5) ⟨hs1, zin_lt g4⟩ rfl rfl rfl (by decide) (mBa inB_X5) tyX5_ok nmX5 (mB wl_RX0_73) rfl rfl rfl rfl dX0_readNode_180 ?_
                refine zlt_el (P := fun (μ67 : ZMem) => V X μ67 183 [(0, .ref (zad y (0, 23, 0))), (2, .int a2), (3, .ref (zad y (3, s1, a2.toNatClampNeg)))] []) h (fun μ67 h => ?_)
                refine V_aload_n X 2 dX0_readNode_183 rfl rfl ?_
                refine V_aload_n X 0 dX0_readNode_184 rfl rfl ?_
                refine V_getr X (o := (0, 23, 0)) (i := (0, 20, 0)) (ci := 0) (k := 0) (N := 1) (T := TX0) (C := RX0) ⟨by decide, rfl⟩ rfl rfl rfl (by decide) (mBa inB_X0) (mB wl_RX0_9) dX0_readNode_185 ?_
                refine V_iconst X 0 dX0_readNode_188 (by decide) ?_
                refine V_bipush X 99 dX0_readNode_189 (by decide) ?_
                obtain ⟨x69, μ70, c68, h⟩ := bd2_some h
                refine V_callVi X (As := [.int 0, .int 99]) (M_X8_takeNumber c68) (cwV 2 X.2.2.2.2.2.2.1 (gV wm_RX0_45 wi_X8_takeNumber wse_X8_takeNumber win_RX8 wc_X8_takeNumber) rfl rfl rfl hd_X8_takeNumber ⟨Nat.le_of_ble_eq_true rfl, Nat.le_of_ble_eq_true rfl⟩) (b := (0, 20, 0)) ⟨by decide, rfl⟩ rfl rfl rfl rfl (Nat.le_of_ble_eq_true rfl) dX0_readNode_191 rfl ?_
                refine V_puti X tyX5 .int (o := (3, s1, a2.toNatClampNeg)) (ci := 5) (k := 10) (N := 11) (T := TX5) (C := RX5) ⟨hs1, zin_lt g4⟩ rfl rfl rfl (by decide) (mBa inB_X5) tyX5_ok nmX5 (mB wl_RX0_76) rfl rfl rfl rfl dX0_readNode_194 ?_
                refine zlt_el (P := fun (μ71 : ZMem) => V X μ71 197 [(0, .ref (zad y (0, 23, 0))), (2, .int a2), (3, .ref (zad y (3, s1, a2.toNatClampNeg)))] []) h (fun μ71 h => ?_)
                refine V_goto X (tgt := 253) dX0_readNode_197 (by decide) ?_
                obtain rfl := so1 h
                exact hk
            replace h := h1
            clear h1
            refine V_if_eq X (tgt := 165) dX0_readNode_148 (by decide) (fun b42 => ?_) (fun b42 => ?_)
            · replace h := (if_pos b42).symm.trans h
              obtain rfl := so1 h
              exact hk
            · replace h := (if_neg b42).symm.trans h
              refine V_aload_n X 2 dX0_readNode_151 rfl rfl ?_
              refine V_aload_n X 0 dX0_readNode_152 rfl rfl ?_
              refine V_getr X (o := (0, 23, 0)) (i := (0, 20, 0)) (ci := 0) (k := 0) (N := 1) (T := TX0) (C := RX0) ⟨by decide, rfl⟩ rfl rfl rfl (by decide) (mBa inB_X0) (mB wl_RX0_9) dX0_readNode_153 ?_
              refine V_iconst X 0 dX0_readNode_156 (by decide) ?_
              refine V_bipush X 100 dX0_readNode_157 (by decide) ?_
              obtain ⟨x45, μ46, c44, h⟩ := bd2_some h
              refine V_callVi X (As := [.int 0, .int 100]) (M_X8_takeNumber c44) (cwV 2 X.2.2.2.2.2.2.1 (gV wm_RX0_45 wi_X8_takeNumber wse_X8_takeNumber win_RX8 wc_X8_takeNumber) rfl rfl rfl hd_X8_takeNumber ⟨Nat.le_of_ble_eq_true rfl, Nat.le_of_ble_eq_true rfl⟩) (b := (0, 20, 0)) ⟨by decide, rfl⟩ rfl rfl rfl rfl (Nat.le_of_ble_eq_true rfl) dX0_readNode_159 rfl ?_
              refine V_puti X tyX5 .int (o := (3, s1, a2.toNatClampNeg)) (ci := 5) (k := 8) (N := 11) (T := TX5) (C := RX5) ⟨hs1, zin_lt g4⟩ rfl rfl rfl (by decide) (mBa inB_X5) tyX5_ok nmX5 (mB wl_RX0_70) rfl rfl rfl rfl dX0_readNode_162 ?_
              refine zlt_el (P := fun (μ47 : ZMem) => V X μ47 165 [(0, .ref (zad y (0, 23, 0))), (2, .int a2), (3, .ref (zad y (3, s1, a2.toNatClampNeg)))] []) h (fun μ47 h => ?_)
              obtain rfl := so1 h
              exact hk
          replace h := h1
          clear h1
          refine V_if_eq X (tgt := 110) dX0_readNode_90 (by decide) (fun b25 => ?_) (fun b25 => ?_)
          · replace h := (if_pos b25).symm.trans h
            refine V_aload_n X 0 dX0_readNode_110 rfl rfl ?_
            refine V_getr X (o := (0, 23, 0)) (i := (0, 20, 0)) (ci := 0) (k := 0) (N := 1) (T := TX0) (C := RX0) ⟨by decide, rfl⟩ rfl rfl rfl (by decide) (mBa inB_X0) (mB wl_RX0_9) dX0_readNode_111 ?_
            refine V_sipush X 1002 dX0_readNode_114 (by decide) ?_
            obtain ⟨x28, μ29, c27, h⟩ := bd2_some h
            refine V_callVi X (As := [.int 1002]) (M_X8_takes c27) (cwV 1 X.2.2.2.2.2.2.1 (gV wm_RX0_25 wi_X8_takes wse_X8_takes win_RX8 wc_X8_takes) rfl rfl rfl hd_X8_takes ⟨Nat.le_of_ble_eq_true rfl, Nat.le_of_ble_eq_true rfl⟩) (b := (0, 20, 0)) ⟨by decide, rfl⟩ rfl rfl rfl rfl (Nat.le_of_ble_eq_true rfl) dX0_readNode_117 rfl ?_
            refine V_if_eq X (tgt := 138) dX0_readNode_120 (by decide) (fun b30 => ?_) (fun b30 => ?_)
            · replace h := (if_pos b30).symm.trans h
              obtain rfl := so1 h
              exact hk
            · replace h := (if_neg b30).symm.trans h
              refine V_aload_n X 2 dX0_readNode_123 rfl rfl ?_
              refine V_aload_n X 0 dX0_readNode_124 rfl rfl ?_
              refine V_getr X (o := (0, 23, 0)) (i := (0, 20, 0)) (ci := 0) (k := 0) (N := 1) (T := TX0) (C := RX0) ⟨by decide, rfl⟩ rfl rfl rfl (by decide) (mBa inB_X0) (mB wl_RX0_9) dX0_readNode_125 ?_
              refine V_iconst X 0 dX0_readNode_128 (by decide) ?_
              refine V_bipush X 9 dX0_readNode_129 (by decide) ?_
              obtain ⟨x32, μ33, c31, h⟩ := bd2_some h
              refine V_callVi X (As := [.int 0, .int 9]) (M_X8_takeNumber c31) (cwV 2 X.2.2.2.2.2.2.1 (gV wm_RX0_45 wi_X8_takeNumber wse_X8_takeNumber win_RX8 wc_X8_takeNumber) rfl rfl rfl hd_X8_takeNumber ⟨Nat.le_of_ble_eq_true rfl, Nat.le_of_ble_eq_true rfl⟩) (b := (0, 20, 0)) ⟨by decide, rfl⟩ rfl rfl rfl rfl (Nat.le_of_ble_eq_true rfl) dX0_readNode_131 rfl ?_
              refine V_ineg X dX0_readNode_134 ?_
              refine V_puti X tyX5 .int (o := (3, s1, a2.toNatClampNeg)) (ci := 5) (k := 1) (N := 11) (T := TX5) (C := RX5) ⟨hs1, zin_lt g4⟩ rfl rfl rfl (by decide) (mBa inB_X5) tyX5_ok nmX5 (mB wl_RX0_67) rfl rfl rfl rfl dX0_readNode_135 ?_
              refine zlt_el (P := fun (μ34 : ZMem) => V X μ34 138 [(0, .ref (zad y (0, 23, 0))), (2, .int a2), (3, .ref (zad y (3, s1, a2.toNatClampNeg)))] []) h (fun μ34 h => ?_)
              obtain rfl := so1 h
              exact hk
          · replace h := (if_neg b25).symm.trans h
            refine V_aload_n X 2 dX0_readNode_93 rfl rfl ?_
            refine V_aload_n X 0 dX0_readNode_94 rfl rfl ?_
            refine V_getr X (o := (0, 23, 0)) (i := (0, 20, 0)) (ci := 0) (k := 0) (N := 1) (T := TX0) (C := RX0) ⟨by decide, rfl⟩ rfl rfl rfl (by decide) (mBa inB_X0) (mB wl_RX0_9) dX0_readNode_95 ?_
            refine V_iconst X 0 dX0_readNode_98 (by decide) ?_
            refine V_bipush X 9 dX0_readNode_99 (by decide) ?_
            obtain ⟨x36, μ37, c35, h⟩ := bd2_some h
            refine V_callVi X (As := [.int 0, .int 9]) (M_X8_takeNumber c35) (cwV 2 X.2.2.2.2.2.2.1 (gV wm_RX0_45 wi_X8_takeNumber wse_X8_takeNumber win_RX8 wc_X8_takeNumber) rfl rfl rfl hd_X8_takeNumber ⟨Nat.le_of_ble_eq_true rfl, Nat.le_of_ble_eq_true rfl⟩) (b := (0, 20, 0)) ⟨by decide, rfl⟩ rfl rfl rfl rfl (Nat.le_of_ble_eq_true rfl) dX0_readNode_101 rfl ?_
            refine V_puti X tyX5 .int (o := (3, s1, a2.toNatClampNeg)) (ci := 5) (k := 1) (N := 11) (T := TX5) (C := RX5) ⟨hs1, zin_lt g4⟩ rfl rfl rfl (by decide) (mBa inB_X5) tyX5_ok nmX5 (mB wl_RX0_67) rfl rfl rfl rfl dX0_readNode_104 ?_
            refine zlt_el (P := fun (μ38 : ZMem) => V X μ38 107 [(0, .ref (zad y (0, 23, 0))), (2, .int a2), (3, .ref (zad y (3, s1, a2.toNatClampNeg)))] []) h (fun μ38 h => ?_)
            refine V_goto X (tgt := 138) dX0_readNode_107 (by decide) ?_
            obtain rfl := so1 h
            exact hk
        replace h := h1
        clear h1
        refine V_if_eq X (tgt := 51) dX0_readNode_30 (by decide) (fun b8 => ?_) (fun b8 => ?_)
        · replace h := (if_pos b8).symm.trans h
          refine V_aload_n X 1 dX0_readNode_51 rfl rfl ?_
          refine V_getr X (o := (0, 23, 0)) (i := (0, 20, 0)) (ci := 0) (k := 0) (N := 1) (T := TX0) (C := RX0) ⟨by decide, rfl⟩ rfl rfl rfl (by decide) (mBa inB_X0) (mB wl_RX0_9) dX0_readNode_52 ?_
          refine V_sipush X 1018 dX0_readNode_55 (by decide) ?_
          obtain ⟨x11, μ12, c10, h⟩ := bd2_some h
          refine V_callVi X (As := [.int 1018]) (M_X8_takes c10) (cwV 1 X.2.2.2.2.2.2.1 (gV wm_RX0_25 wi_X8_takes wse_X8_takes win_RX8 wc_X8_takes) rfl rfl rfl hd_X8_takes ⟨Nat.le_of_ble_eq_true rfl, Nat.le_of_ble_eq_true rfl⟩) (b := (0, 20, 0)) ⟨by decide, rfl⟩ rfl rfl rfl rfl (Nat.le_of_ble_eq_true rfl) dX0_readNode_58 rfl ?_
          refine V_if_eq X (tgt := 80) dX0_readNode_61 (by decide) (fun b13 => ?_) (fun b13 => ?_)
          · replace h := (if_pos b13).symm.trans h
            refine V_sub X [1, 3, 0] (lv' := [(0, .ref (zad y (0, 23, 0))), (2, .int a2), (3, .ref (zad y (3, s1, a2.toNatClampNeg)))]) rfl ?_
            obtain rfl := so1 h
            exact hk
          · replace h := (if_neg b13).symm.trans h
            refine V_aload_n X 0 dX0_readNode_64 rfl rfl ?_
            refine V_aload_n X 1 dX0_readNode_65 rfl rfl ?_
            refine V_getr X (o := (0, 23, 0)) (i := (0, 20, 0)) (ci := 0) (k := 0) (N := 1) (T := TX0) (C := RX0) ⟨by decide, rfl⟩ rfl rfl rfl (by decide) (mBa inB_X0) (mB wl_RX0_9) dX0_readNode_66 ?_
            refine V_iconst X 0 dX0_readNode_69 (by decide) ?_
            refine V_sipush X 999 dX0_readNode_70 (by decide) ?_
            obtain ⟨x15, μ16, c14, h⟩ := bd2_some h
            refine V_callVi X (As := [.int 0, .int 999]) (M_X8_takeNumber c14) (cwV 2 X.2.2.2.2.2.2.1 (gV wm_RX0_45 wi_X8_takeNumber wse_X8_takeNumber win_RX8 wc_X8_takeNumber) rfl rfl rfl hd_X8_takeNumber ⟨Nat.le_of_ble_eq_true rfl, Nat.le_of_ble_eq_true rfl⟩) (b := (0, 20, 0)) ⟨by decide, rfl⟩ rfl rfl rfl rfl (Nat.le_of_ble_eq_true rfl) dX0_readNode_73 rfl ?_
            refine V_ineg X dX0_readNode_76 ?_
            refine V_puti X tyX5 .int (o := (3, s1, a2.toNatClampNeg)) (ci := 5) (k := 0) (N := 11) (T := TX5) (C := RX5) ⟨hs1, zin_lt g4⟩ rfl rfl rfl (by decide) (mBa inB_X5) tyX5_ok nmX5 (mB wl_RX0_62) rfl rfl rfl rfl dX0_readNode_77 ?_
            refine zlt_el (P := fun (μ17 : ZMem) => V X μ17 80 [(3, .ref (zad y (3, s1, a2.toNatClampNeg))), (0, .ref (zad y (0, 23, 0))), (1, .ref (zad y (1, s1, 0))), (2, .int a2)] []) h (fun μ17 h => ?_)
            refine V_sub X [1, 3, 0] (lv' := [(0, .ref (zad y (0, 23, 0))), (2, .int a2), (3, .ref (zad y (3, s1, a2.toNatClampNeg)))]) rfl ?_
            obtain rfl := so1 h
            exact hk
        · replace h := (if_neg b8).symm.trans h
          refine V_aload_n X 0 dX0_readNode_33 rfl rfl ?_
          refine V_aload_n X 1 dX0_readNode_34 rfl rfl ?_
          refine V_getr X (o := (0, 23, 0)) (i := (0, 20, 0)) (ci := 0) (k := 0) (N := 1) (T := TX0) (C := RX0) ⟨by decide, rfl⟩ rfl rfl rfl (by decide) (mBa inB_X0) (mB wl_RX0_9) dX0_readNode_35 ?_
          refine V_iconst X 0 dX0_readNode_38 (by decide) ?_
          refine V_sipush X 999 dX0_readNode_39 (by decide) ?_
          obtain ⟨x19, μ20, c18, h⟩ := bd2_some h
          refine V_callVi X (As := [.int 0, .int 999]) (M_X8_takeNumber c18) (cwV 2 X.2.2.2.2.2.2.1 (gV wm_RX0_45 wi_X8_takeNumber wse_X8_takeNumber win_RX8 wc_X8_takeNumber) rfl rfl rfl hd_X8_takeNumber ⟨Nat.le_of_ble_eq_true rfl, Nat.le_of_ble_eq_true rfl⟩) (b := (0, 20, 0)) ⟨by decide, rfl⟩ rfl rfl rfl rfl (Nat.le_of_ble_eq_true rfl) dX0_readNode_42 rfl ?_
          refine V_puti X tyX5 .int (o := (3, s1, a2.toNatClampNeg)) (ci := 5) (k := 0) (N := 11) (T := TX5) (C := RX5) ⟨hs1, zin_lt g4⟩ rfl rfl rfl (by decide) (mBa inB_X5) tyX5_ok nmX5 (mB wl_RX0_62) rfl rfl rfl rfl dX0_readNode_45 ?_
          refine zlt_el (P := fun (μ21 : ZMem) => V X μ21 48 [(3, .ref (zad y (3, s1, a2.toNatClampNeg))), (0, .ref (zad y (0, 23, 0))), (1, .ref (zad y (1, s1, 0))), (2, .int a2)] []) h (fun μ21 h => ?_)
          refine V_goto X (tgt := 80) dX0_readNode_48 (by decide) ?_
          refine V_sub X [1, 3, 0] (lv' := [(0, .ref (zad y (0, 23, 0))), (2, .int a2), (3, .ref (zad y (3, s1, a2.toNatClampNeg)))]) rfl ?_
          obtain rfl := so1 h
          exact hk
      · replace h := (if_neg b3).symm.trans h
        refine V_sub X [] (lv' := []) rfl ?_
        exact hk2 h

def f_X0_readLine (s1 : Nat) (μ : ZMem) : Option (ZMem) := bd (α := ZMem) (jk (fun (μ3 : ZMem) => bd2 (f_X8_takes 1023 μ3) (fun (x15 : Int32) (μ16 : ZMem) => if x15 = 0 then bd2 (f_X8_takes 1024 μ16) (fun (x19 : Int32) (μ20 : ZMem) => if x19 = 0 then bd2 (f_X8_takes 1025 μ20) (fun (x23 : Int32) (μ24 : ZMem) => if x23 = 0 then bd (f_X8_fail μ24) (fun (μ27 : ZMem) => some μ27) else bd2 (f_X8_takeNumber 0 999 μ24) (fun (x29 : Int32) (μ30 : ZMem) => zlt (mset μ30 (1, s1, 0) 7 x29) (fun (μ31 : ZMem) => some μ31))) else bd2 (f_X8_takeNumber 1 999 μ20) (fun (x33 : Int32) (μ34 : ZMem) => zlt (mset μ34 (1, s1, 0) 6 x33) (fun (μ35 : ZMem) => some μ35))) else bd2 (f_X8_takeNumber 1 999 μ16) (fun (x37 : Int32) (μ38 : ZMem) => zlt (mset μ38 (1, s1, 0) 5 x37) (fun (μ39 : ZMem) => some μ39)))) (fun k4 => if 8 ≤ (μ (1, s1, 0) 4) then k4 μ else bd2 (f_X8_takes 1000 μ) (fun (x6 : Int32) (μ7 : ZMem) => if x6 = 0 then k4 μ7 else bd2 (f_X7_addNode s1 0 μ7) (fun (x10 : Int32) (μ11 : ZMem) => bd (f_X0_readNode s1 x10 μ11) (fun (μ13 : ZMem) => some μ13))))) (fun (μ2 : ZMem) => some μ2)
set_option maxRecDepth 100000 in
set_option maxHeartbeats 4000000 in
theorem M_X0_readLine {l : Launch} {D : va_G} {y : ZLay} {s1 : Nat} (hs1 : s1 < 15) {μ : ZMem} {μ0 : ZMem} (h : f_X0_readLine s1 μ = some μ0) : MV l yX0_readLine wb_X0_readLine rm_X0_readLine D y [.ref (zad y (0, 23, 0)), .ref (zad y (1, s1, 0))] μ μ0 := by
  unfold f_X0_readLine at h
  refine MV_of RX0 [(0, .ref (zad y (0, 23, 0))), (1, .ref (zad y (1, s1, 0)))] (by decide) rfl rfl (Nat.le_of_ble_eq_true rfl) rfl ?_
  intro p e s m args below meth c A X
  refine V_aload_n X 1 dX0_readLine_0 rfl rfl ?_
  refine V_geti X (o := (1, s1, 0)) (ci := 7) (k := 4) (N := 11) (T := TX7) (C := RX7) ⟨hs1, rfl⟩ rfl rfl rfl (by decide) (mBa inB_X7) (mB wl_RX0_31) dX0_readLine_1 ?_
  refine V_bipush X 8 dX0_readLine_4 (by decide) ?_
  obtain ⟨μ2, h1, h⟩ := bd_some h
  have hk : V X μ2 135 [] [] := by
    clear h1
    exact V_vretW X h dX0_readLine_135
  replace h := h1
  clear h1
  refine jk1_el (P := fun (μ3 : ZMem) => V X μ3 35 [(0, .ref (zad y (0, 23, 0))), (1, .ref (zad y (1, s1, 0)))] []) h (fun μ3 h => ?_) (fun k4 hk4 h => ?_)
  · refine V_aload_n X 0 dX0_readLine_35 rfl rfl ?_
    refine V_getr X (o := (0, 23, 0)) (i := (0, 20, 0)) (ci := 0) (k := 0) (N := 1) (T := TX0) (C := RX0) ⟨by decide, rfl⟩ rfl rfl rfl (by decide) (mBa inB_X0) (mB wl_RX0_9) dX0_readLine_36 ?_
    refine V_sipush X 1023 dX0_readLine_39 (by decide) ?_
    obtain ⟨x15, μ16, c14, h⟩ := bd2_some h
    refine V_callVi X (As := [.int 1023]) (M_X8_takes c14) (cwV 1 X.2.2.2.2.2.2.1 (gV wm_RX0_25 wi_X8_takes wse_X8_takes win_RX8 wc_X8_takes) rfl rfl rfl hd_X8_takes ⟨Nat.le_of_ble_eq_true rfl, Nat.le_of_ble_eq_true rfl⟩) (b := (0, 20, 0)) ⟨by decide, rfl⟩ rfl rfl rfl rfl (Nat.le_of_ble_eq_true rfl) dX0_readLine_42 rfl ?_
    refine V_if_eq X (tgt := 66) dX0_readLine_45 (by decide) (fun b17 => ?_) (fun b17 => ?_)
    · replace h := (if_pos b17).symm.trans h
      refine V_aload_n X 0 dX0_readLine_66 rfl rfl ?_
      refine V_getr X (o := (0, 23, 0)) (i := (0, 20, 0)) (ci := 0) (k := 0) (N := 1) (T := TX0) (C := RX0) ⟨by decide, rfl⟩ rfl rfl rfl (by decide) (mBa inB_X0) (mB wl_RX0_9) dX0_readLine_67 ?_
      refine V_sipush X 1024 dX0_readLine_70 (by decide) ?_
      obtain ⟨x19, μ20, c18, h⟩ := bd2_some h
      refine V_callVi X (As := [.int 1024]) (M_X8_takes c18) (cwV 1 X.2.2.2.2.2.2.1 (gV wm_RX0_25 wi_X8_takes wse_X8_takes win_RX8 wc_X8_takes) rfl rfl rfl hd_X8_takes ⟨Nat.le_of_ble_eq_true rfl, Nat.le_of_ble_eq_true rfl⟩) (b := (0, 20, 0)) ⟨by decide, rfl⟩ rfl rfl rfl rfl (Nat.le_of_ble_eq_true rfl) dX0_readLine_73 rfl ?_
      refine V_if_eq X (tgt := 97) dX0_readLine_76 (by decide) (fun b21 => ?_) (fun b21 => ?_)
      · replace h := (if_pos b21).symm.trans h
        refine V_aload_n X 0 dX0_readLine_97 rfl rfl ?_
        refine V_getr X (o := (0, 23, 0)) (i := (0, 20, 0)) (ci := 0) (k := 0) (N := 1) (T := TX0) (C := RX0) ⟨by decide, rfl⟩ rfl rfl rfl (by decide) (mBa inB_X0) (mB wl_RX0_9) dX0_readLine_98 ?_
        refine V_sipush X 1025 dX0_readLine_101 (by decide) ?_
        obtain ⟨x23, μ24, c22, h⟩ := bd2_some h
        refine V_callVi X (As := [.int 1025]) (M_X8_takes c22) (cwV 1 X.2.2.2.2.2.2.1 (gV wm_RX0_25 wi_X8_takes wse_X8_takes win_RX8 wc_X8_takes) rfl rfl rfl hd_X8_takes ⟨Nat.le_of_ble_eq_true rfl, Nat.le_of_ble_eq_true rfl⟩) (b := (0, 20, 0)) ⟨by decide, rfl⟩ rfl rfl rfl rfl (Nat.le_of_ble_eq_true rfl) dX0_readLine_104 rfl ?_
        refine V_if_eq X (tgt := 128) dX0_readLine_107 (by decide) (fun b25 => ?_) (fun b25 => ?_)
        · replace h := (if_pos b25).symm.trans h
          refine V_aload_n X 0 dX0_readLine_128 rfl rfl ?_
          refine V_getr X (o := (0, 23, 0)) (i := (0, 20, 0)) (ci := 0) (k := 0) (N := 1) (T := TX0) (C := RX0) ⟨by decide, rfl⟩ rfl rfl rfl (by decide) (mBa inB_X0) (mB wl_RX0_9) dX0_readLine_129 ?_
          obtain ⟨μ27, c26, h⟩ := bd_some h
          refine V_callVv X (As := []) (M_X8_fail c26) (cwV 0 X.2.2.2.2.2.2.1 (gV wm_RX0_28 wi_X8_fail wse_X8_fail win_RX8 wc_X8_fail) rfl rfl rfl hd_X8_fail ⟨Nat.le_of_ble_eq_true rfl, Nat.le_of_ble_eq_true rfl⟩) (b := (0, 20, 0)) ⟨by decide, rfl⟩ rfl rfl rfl rfl (Nat.le_of_ble_eq_true rfl) dX0_readLine_132 rfl ?_
          refine V_sub X [] (lv' := []) rfl ?_
          obtain rfl := so1 h
          exact hk
        · replace h := (if_neg b25).symm.trans h
          refine V_aload_n X 1 dX0_readLine_110 rfl rfl ?_
          refine V_aload_n X 0 dX0_readLine_111 rfl rfl ?_
          refine V_getr X (o := (0, 23, 0)) (i := (0, 20, 0)) (ci := 0) (k := 0) (N := 1) (T := TX0) (C := RX0) ⟨by decide, rfl⟩ rfl rfl rfl (by decide) (mBa inB_X0) (mB wl_RX0_9) dX0_readLine_112 ?_
          refine V_iconst X 0 dX0_readLine_115 (by decide) ?_
          refine V_sipush X 999 dX0_readLine_116 (by decide) ?_
          obtain ⟨x29, μ30, c28, h⟩ := bd2_some h
          refine V_callVi X (As := [.int 0, .int 999]) (M_X8_takeNumber c28) (cwV 2 X.2.2.2.2.2.2.1 (gV wm_RX0_45 wi_X8_takeNumber wse_X8_takeNumber win_RX8 wc_X8_takeNumber) rfl rfl rfl hd_X8_takeNumber ⟨Nat.le_of_ble_eq_true rfl, Nat.le_of_ble_eq_true rfl⟩) (b := (0, 20, 0)) ⟨by decide, rfl⟩ rfl rfl rfl rfl (Nat.le_of_ble_eq_true rfl) dX0_readLine_119 rfl ?_
          refine V_puti X tyX7 .int (o := (1, s1, 0)) (ci := 7) (k := 7) (N := 11) (T := TX7) (C := RX7) ⟨hs1, rfl⟩ rfl rfl rfl (by decide) (mBa inB_X7) tyX7_ok nmX7 (mB wl_RX0_55) rfl rfl rfl rfl dX0_readLine_122 ?_
          refine zlt_el (P := fun (μ31 : ZMem) => V X μ31 125 [(0, .ref (zad y (0, 23, 0))), (1, .ref (zad y (1, s1, 0)))] []) h (fun μ31 h => ?_)
          refine V_goto X (tgt := 135) dX0_readLine_125 (by decide) ?_
          refine V_sub X [] (lv' := []) rfl ?_
          obtain rfl := so1 h
          exact hk
      · replace h := (if_neg b21).symm.trans h
        refine V_aload_n X 1 dX0_readLine_79 rfl rfl ?_
        refine V_aload_n X 0 dX0_readLine_80 rfl rfl ?_
        refine V_getr X (o := (0, 23, 0)) (i := (0, 20, 0)) (ci := 0) (k := 0) (N := 1) (T := TX0) (C := RX0) ⟨by decide, rfl⟩ rfl rfl rfl (by decide) (mBa inB_X0) (mB wl_RX0_9) dX0_readLine_81 ?_
        refine V_iconst X 1 dX0_readLine_84 (by decide) ?_
        refine V_sipush X 999 dX0_readLine_85 (by decide) ?_
        obtain ⟨x33, μ34, c32, h⟩ := bd2_some h
        refine V_callVi X (As := [.int 1, .int 999]) (M_X8_takeNumber c32) (cwV 2 X.2.2.2.2.2.2.1 (gV wm_RX0_45 wi_X8_takeNumber wse_X8_takeNumber win_RX8 wc_X8_takeNumber) rfl rfl rfl hd_X8_takeNumber ⟨Nat.le_of_ble_eq_true rfl, Nat.le_of_ble_eq_true rfl⟩) (b := (0, 20, 0)) ⟨by decide, rfl⟩ rfl rfl rfl rfl (Nat.le_of_ble_eq_true rfl) dX0_readLine_88 rfl ?_
        refine V_puti X tyX7 .int (o := (1, s1, 0)) (ci := 7) (k := 6) (N := 11) (T := TX7) (C := RX7) ⟨hs1, rfl⟩ rfl rfl rfl (by decide) (mBa inB_X7) tyX7_ok nmX7 (mB wl_RX0_52) rfl rfl rfl rfl dX0_readLine_91 ?_
        refine zlt_el (P := fun (μ35 : ZMem) => V X μ35 94 [(0, .ref (zad y (0, 23, 0))), (1, .ref (zad y (1, s1, 0)))] []) h (fun μ35 h => ?_)
        refine V_goto X (tgt := 135) dX0_readLine_94 (by decide) ?_
        refine V_sub X [] (lv' := []) rfl ?_
        obtain rfl := so1 h
        exact hk
    · replace h := (if_neg b17).symm.trans h
      refine V_aload_n X 1 dX0_readLine_48 rfl rfl ?_
      refine V_aload_n X 0 dX0_readLine_49 rfl rfl ?_
      refine V_getr X (o := (0, 23, 0)) (i := (0, 20, 0)) (ci := 0) (k := 0) (N := 1) (T := TX0) (C := RX0) ⟨by decide, rfl⟩ rfl rfl rfl (by decide) (mBa inB_X0) (mB wl_RX0_9) dX0_readLine_50 ?_
      refine V_iconst X 1 dX0_readLine_53 (by decide) ?_
      refine V_sipush X 999 dX0_readLine_54 (by decide) ?_
      obtain ⟨x37, μ38, c36, h⟩ := bd2_some h
      refine V_callVi X (As := [.int 1, .int 999]) (M_X8_takeNumber c36) (cwV 2 X.2.2.2.2.2.2.1 (gV wm_RX0_45 wi_X8_takeNumber wse_X8_takeNumber win_RX8 wc_X8_takeNumber) rfl rfl rfl hd_X8_takeNumber ⟨Nat.le_of_ble_eq_true rfl, Nat.le_of_ble_eq_true rfl⟩) (b := (0, 20, 0)) ⟨by decide, rfl⟩ rfl rfl rfl rfl (Nat.le_of_ble_eq_true rfl) dX0_readLine_57 rfl ?_
      refine V_puti X tyX7 .int (o := (1, s1, 0)) (ci := 7) (k := 5) (N := 11) (T := TX7) (C := RX7) ⟨hs1, rfl⟩ rfl rfl rfl (by decide) (mBa inB_X7) tyX7_ok nmX7 (mB wl_RX0_49) rfl rfl rfl rfl dX0_readLine_60 ?_
      refine zlt_el (P := fun (μ39 : ZMem) => V X μ39 63 [(0, .ref (zad y (0, 23, 0))), (1, .ref (zad y (1, s1, 0)))] []) h (fun μ39 h => ?_)
      refine V_goto X (tgt := 135) dX0_readLine_63 (by decide) ?_
      refine V_sub X [] (lv' := []) rfl ?_
      obtain rfl := so1 h
      exact hk
  · refine V_icmp_ge X (tgt := 35) dX0_readLine_6 (by decide) (fun b1 => ?_) (fun b1 => ?_)
    · replace h := (if_pos b1).symm.trans h
      exact hk4 _ h
    · replace h := (if_neg b1).symm.trans h
      refine V_aload_n X 0 dX0_readLine_9 rfl rfl ?_
      refine V_getr X (o := (0, 23, 0)) (i := (0, 20, 0)) (ci := 0) (k := 0) (N := 1) (T := TX0) (C := RX0) ⟨by decide, rfl⟩ rfl rfl rfl (by decide) (mBa inB_X0) (mB wl_RX0_9) dX0_readLine_10 ?_
      refine V_sipush X 1000 dX0_readLine_13 (by decide) ?_
      obtain ⟨x6, μ7, c5, h⟩ := bd2_some h
      refine V_callVi X (As := [.int 1000]) (M_X8_takes c5) (cwV 1 X.2.2.2.2.2.2.1 (gV wm_RX0_25 wi_X8_takes wse_X8_takes win_RX8 wc_X8_takes) rfl rfl rfl hd_X8_takes ⟨Nat.le_of_ble_eq_true rfl, Nat.le_of_ble_eq_true rfl⟩) (b := (0, 20, 0)) ⟨by decide, rfl⟩ rfl rfl rfl rfl (Nat.le_of_ble_eq_true rfl) dX0_readLine_16 rfl ?_
      refine V_if_eq X (tgt := 35) dX0_readLine_19 (by decide) (fun b8 => ?_) (fun b8 => ?_)
      · replace h := (if_pos b8).symm.trans h
        exact hk4 _ h
      · replace h := (if_neg b8).symm.trans h
        refine V_aload_n X 0 dX0_readLine_22 rfl rfl ?_
        refine V_aload_n X 1 dX0_readLine_23 rfl rfl ?_
        refine V_aload_n X 1 dX0_readLine_24 rfl rfl ?_
        refine V_iconst X 0 dX0_readLine_25 (by decide) ?_
        obtain ⟨x10, μ11, c9, h⟩ := bd2_some h
        refine V_callVi X (As := [.int 0]) (M_X7_addNode hs1 c9) (cwV 1 X.2.2.2.2.2.2.1 (gV wm_RX0_37 wi_X7_addNode wse_X7_addNode win_RX7 wc_X7_addNode) rfl rfl rfl hd_X7_addNode ⟨Nat.le_of_ble_eq_true rfl, Nat.le_of_ble_eq_true rfl⟩) (b := (1, s1, 0)) ⟨hs1, rfl⟩ rfl rfl rfl rfl (Nat.le_of_ble_eq_true rfl) dX0_readLine_26 rfl ?_
        obtain ⟨μ13, c12, h⟩ := bd_some h
        refine V_callVv X (As := [.ref (zad y (1, s1, 0)), .int x10]) (M_X0_readNode hs1 c12) (cwV 2 X.2.2.2.2.2.2.1 (gV wm_RX0_41 wi_X0_readNode wse_X0_readNode win_RX0 wc_X0_readNode) rfl rfl rfl hd_X0_readNode ⟨Nat.le_of_ble_eq_true rfl, Nat.le_of_ble_eq_true rfl⟩) (b := (0, 23, 0)) ⟨by decide, rfl⟩ rfl rfl rfl rfl (Nat.le_of_ble_eq_true rfl) dX0_readLine_29 rfl ?_
        refine V_goto X (tgt := 135) dX0_readLine_32 (by decide) ?_
        refine V_sub X [] (lv' := []) rfl ?_
        obtain rfl := so1 h
        exact hk

def f_X0_readInto (s1 : Nat) (μ : ZMem) : Option (ZMem) := bd (f_X8_isAt 3001 μ) (fun (x2 : Int32) => if x2 = 0 then bd (lp (σ := Int32 × ZMem) (fun q => un2 q (fun (x4 : Int32) (μ5 : ZMem) => if 14 ≤ x4 then some (.inr (.inl μ5)) else bd (f_X0_readLine s1 μ5) (fun (μ9 : ZMem) => bd2 (f_X8_takes 2059 μ9) (fun (x11 : Int32) (μ12 : ZMem) => if x11 = 0 then bd (f_X8_isAt 3001 μ12) (fun (x15 : Int32) => bd (α := ZMem) (if x15 = 0 then bd (f_X8_fail μ12) (fun (μ19 : ZMem) => some μ19) else some μ12) (fun (μ17 : ZMem) => some (.inr (.inr μ17)))) else some (.inl ((x4 + 1), μ12)))))) FU (0, μ)) (fun z => sm z (fun (μ6 : ZMem) => bd (f_X8_fail μ6) (fun (μ21 : ZMem) => some μ21)) (fun r0 => some r0)) else some μ)
set_option maxRecDepth 100000 in
set_option maxHeartbeats 4000000 in
theorem M_X0_readInto {l : Launch} {D : va_G} {y : ZLay} {s1 : Nat} (hs1 : s1 < 15) {μ : ZMem} {μ0 : ZMem} (h : f_X0_readInto s1 μ = some μ0) : MV l yX0_readInto wb_X0_readInto rm_X0_readInto D y [.ref (zad y (0, 23, 0)), .ref (zad y (1, s1, 0))] μ μ0 := by
  unfold f_X0_readInto at h
  refine MV_of RX0 [(0, .ref (zad y (0, 23, 0))), (1, .ref (zad y (1, s1, 0)))] (by decide) rfl rfl (Nat.le_of_ble_eq_true rfl) rfl ?_
  intro p e s m args below meth c A X
  refine V_aload_n X 0 dX0_readInto_0 rfl rfl ?_
  refine V_getr X (o := (0, 23, 0)) (i := (0, 20, 0)) (ci := 0) (k := 0) (N := 1) (T := TX0) (C := RX0) ⟨by decide, rfl⟩ rfl rfl rfl (by decide) (mBa inB_X0) (mB wl_RX0_9) dX0_readInto_1 ?_
  refine V_sipush X 3001 dX0_readInto_4 (by decide) ?_
  obtain ⟨x2, c1, h⟩ := bd_some h
  refine V_callVi X (As := [.int 3001]) (M_X8_isAt c1) (cwV 1 X.2.2.2.2.2.2.1 (gV wm_RX0_15 wi_X8_isAt wse_X8_isAt win_RX8 wc_X8_isAt) rfl rfl rfl hd_X8_isAt ⟨Nat.le_of_ble_eq_true rfl, Nat.le_of_ble_eq_true rfl⟩) (b := (0, 20, 0)) ⟨by decide, rfl⟩ rfl rfl rfl rfl (Nat.le_of_ble_eq_true rfl) dX0_readInto_7 rfl ?_
  refine V_if_eq X (tgt := 14) dX0_readInto_10 (by decide) (fun b3 => ?_) (fun b3 => ?_)
  · replace h := (if_pos b3).symm.trans h
    refine V_iconst X 0 dX0_readInto_14 (by decide) ?_
    refine V_istore_n X [(2, .int 0), (0, .ref (zad y (0, 23, 0))), (1, .ref (zad y (1, s1, 0)))] dX0_readInto_15 rfl (by decide) rfl ?_
    refine V_sub X [1, 2, 0] (lv' := [(0, .ref (zad y (0, 23, 0))), (1, .ref (zad y (1, s1, 0))), (2, .int 0)]) rfl ?_
    obtain ⟨zz, hl, h⟩ := bd_some h
    have hk : ∀ (μ6 : ZMem), .inl μ6 = zz → V X μ6 67 [(0, .ref (zad y (0, 23, 0)))] [] := by
      intro μ6 hzz
      subst hzz
      clear hl
      replace h := sm_l h
      refine V_aload_n X 0 dX0_readInto_67 rfl rfl ?_
      refine V_getr X (o := (0, 23, 0)) (i := (0, 20, 0)) (ci := 0) (k := 0) (N := 1) (T := TX0) (C := RX0) ⟨by decide, rfl⟩ rfl rfl rfl (by decide) (mBa inB_X0) (mB wl_RX0_9) dX0_readInto_68 ?_
      obtain ⟨μ21, c20, h⟩ := bd_some h
      refine V_callVv X (As := []) (M_X8_fail c20) (cwV 0 X.2.2.2.2.2.2.1 (gV wm_RX0_28 wi_X8_fail wse_X8_fail win_RX8 wc_X8_fail) rfl rfl rfl hd_X8_fail ⟨Nat.le_of_ble_eq_true rfl, Nat.le_of_ble_eq_true rfl⟩) (b := (0, 20, 0)) ⟨by decide, rfl⟩ rfl rfl rfl rfl (Nat.le_of_ble_eq_true rfl) dX0_readInto_71 rfl ?_
      exact V_vretW X h dX0_readInto_74
    have hr : ∀ r0, .inr r0 = zz → some r0 = some μ0 := by
      intro r0 hzz
      subst hzz
      exact h
    refine lp_ind (P := fun q => V X q.2 16 [(0, .ref (zad y (0, 23, 0))), (1, .ref (zad y (1, s1, 0))), (2, .int q.1)] []) (fun q z h hz => ?_) hl
    obtain ⟨x4, μ5⟩ := q
    replace h := un2_eq h
    show V X μ5 16 [(0, .ref (zad y (0, 23, 0))), (1, .ref (zad y (1, s1, 0))), (2, .int x4)] []
    refine V_iload_n X 2 dX0_readInto_16 rfl rfl ?_
    refine V_bipush X 14 dX0_readInto_17 (by decide) ?_
    refine V_icmp_ge X (tgt := 67) dX0_readInto_19 (by decide) (fun b7 => ?_) (fun b7 => ?_)
    · replace h := (if_pos b7).symm.trans h
      refine V_sub X [0] (lv' := [(0, .ref (zad y (0, 23, 0)))]) rfl ?_
      cases h
      exact hk _ hz
    · replace h := (if_neg b7).symm.trans h
      refine V_aload_n X 0 dX0_readInto_22 rfl rfl ?_
      refine V_aload_n X 1 dX0_readInto_23 rfl rfl ?_
      obtain ⟨μ9, c8, h⟩ := bd_some h
      refine V_callVv X (As := [.ref (zad y (1, s1, 0))]) (M_X0_readLine hs1 c8) (cwV 1 X.2.2.2.2.2.2.1 (gV wm_RX0_21 wi_X0_readLine wse_X0_readLine win_RX0 wc_X0_readLine) rfl rfl rfl hd_X0_readLine ⟨Nat.le_of_ble_eq_true rfl, Nat.le_of_ble_eq_true rfl⟩) (b := (0, 23, 0)) ⟨by decide, rfl⟩ rfl rfl rfl rfl (Nat.le_of_ble_eq_true rfl) dX0_readInto_24 rfl ?_
      refine V_aload_n X 0 dX0_readInto_27 rfl rfl ?_
      refine V_getr X (o := (0, 23, 0)) (i := (0, 20, 0)) (ci := 0) (k := 0) (N := 1) (T := TX0) (C := RX0) ⟨by decide, rfl⟩ rfl rfl rfl (by decide) (mBa inB_X0) (mB wl_RX0_9) dX0_readInto_28 ?_
      refine V_sipush X 2059 dX0_readInto_31 (by decide) ?_
      obtain ⟨x11, μ12, c10, h⟩ := bd2_some h
      refine V_callVi X (As := [.int 2059]) (M_X8_takes c10) (cwV 1 X.2.2.2.2.2.2.1 (gV wm_RX0_25 wi_X8_takes wse_X8_takes win_RX8 wc_X8_takes) rfl rfl rfl hd_X8_takes ⟨Nat.le_of_ble_eq_true rfl, Nat.le_of_ble_eq_true rfl⟩) (b := (0, 20, 0)) ⟨by decide, rfl⟩ rfl rfl rfl rfl (Nat.le_of_ble_eq_true rfl) dX0_readInto_34 rfl ?_
      refine V_if_ne X (tgt := 61) dX0_readInto_37 (by decide) (fun b13 => ?_) (fun b13 => ?_)
      · replace h := (if_neg b13).symm.trans h
        refine V_inc X 2 1 [(2, .int (x4 + 1)), (0, .ref (zad y (0, 23, 0))), (1, .ref (zad y (1, s1, 0)))] dX0_readInto_61 rfl (by decide) (by decide) rfl ?_
        refine V_goto X (tgt := 16) dX0_readInto_64 (by decide) ?_
        refine V_sub X [1, 2, 0] (lv' := [(0, .ref (zad y (0, 23, 0))), (1, .ref (zad y (1, s1, 0))), (2, .int (x4 + 1))]) rfl ?_
        cases h
        exact hz
      · replace h := (if_pos b13).symm.trans h
        refine V_aload_n X 0 dX0_readInto_40 rfl rfl ?_
        refine V_getr X (o := (0, 23, 0)) (i := (0, 20, 0)) (ci := 0) (k := 0) (N := 1) (T := TX0) (C := RX0) ⟨by decide, rfl⟩ rfl rfl rfl (by decide) (mBa inB_X0) (mB wl_RX0_9) dX0_readInto_41 ?_
        refine V_sipush X 3001 dX0_readInto_44 (by decide) ?_
        obtain ⟨x15, c14, h⟩ := bd_some h
        refine V_callVi X (As := [.int 3001]) (M_X8_isAt c14) (cwV 1 X.2.2.2.2.2.2.1 (gV wm_RX0_15 wi_X8_isAt wse_X8_isAt win_RX8 wc_X8_isAt) rfl rfl rfl hd_X8_isAt ⟨Nat.le_of_ble_eq_true rfl, Nat.le_of_ble_eq_true rfl⟩) (b := (0, 20, 0)) ⟨by decide, rfl⟩ rfl rfl rfl rfl (Nat.le_of_ble_eq_true rfl) dX0_readInto_47 rfl ?_
        obtain ⟨μ17, h1, h⟩ := bd_some h
        have hk : V X μ17 60 [] [] := by
          clear h1
          cases h
          have h := hr _ hz
          exact V_vretW X h dX0_readInto_60
        replace h := h1
        clear h1
        refine V_if_ne X (tgt := 60) dX0_readInto_50 (by decide) (fun b16 => ?_) (fun b16 => ?_)
        · replace h := (if_neg b16).symm.trans h
          refine V_sub X [] (lv' := []) rfl ?_
          obtain rfl := so1 h
          exact hk
        · replace h := (if_pos b16).symm.trans h
          refine V_aload_n X 0 dX0_readInto_53 rfl rfl ?_
          refine V_getr X (o := (0, 23, 0)) (i := (0, 20, 0)) (ci := 0) (k := 0) (N := 1) (T := TX0) (C := RX0) ⟨by decide, rfl⟩ rfl rfl rfl (by decide) (mBa inB_X0) (mB wl_RX0_9) dX0_readInto_54 ?_
          obtain ⟨μ19, c18, h⟩ := bd_some h
          refine V_callVv X (As := []) (M_X8_fail c18) (cwV 0 X.2.2.2.2.2.2.1 (gV wm_RX0_28 wi_X8_fail wse_X8_fail win_RX8 wc_X8_fail) rfl rfl rfl hd_X8_fail ⟨Nat.le_of_ble_eq_true rfl, Nat.le_of_ble_eq_true rfl⟩) (b := (0, 20, 0)) ⟨by decide, rfl⟩ rfl rfl rfl rfl (Nat.le_of_ble_eq_true rfl) dX0_readInto_57 rfl ?_
          refine V_sub X [] (lv' := []) rfl ?_
          obtain rfl := so1 h
          exact hk
  · replace h := (if_neg b3).symm.trans h
    exact V_vretW X h dX0_readInto_13

def f_X11_isIn (a0 : Int32) (a1 : Int32) : Option (Int32) := zlt (α := Int32) (if ((a0 >>> (a1 &&& 31)) &&& 1) = 0 then 0 else 1) (fun (x2 : Int32) => gd (zbo x2) (some x2))
set_option maxRecDepth 100000 in
set_option maxHeartbeats 4000000 in
theorem M_X11_isIn {l : Launch} {D : va_G} {y : ZLay} {a0 : Int32} {a1 : Int32}  {μ : ZMem} {r : Int32} (h : f_X11_isIn a0 a1 = some r) : MI l yX11_isIn wb_X11_isIn rm_X11_isIn D y [.int a0, .int a1] μ r μ := by
  unfold f_X11_isIn at h
  refine MI_of RX11 [(0, .int a0), (1, .int a1)] (by decide) rfl rfl (Nat.le_of_ble_eq_true rfl) rfl ?_
  intro p e s m args below meth c A X
  refine V_iload_n X 0 dX11_isIn_0 rfl rfl ?_
  refine V_iload_n X 1 dX11_isIn_1 rfl rfl ?_
  refine V_ishr X dX11_isIn_2 ?_
  refine V_iconst X 1 dX11_isIn_3 (by decide) ?_
  refine V_iand X dX11_isIn_4 ?_
  obtain ⟨x2, h1, h⟩ := zl1_some h
  have hk : V X μ 13 [] [.int x2] := by
    clear h1
    obtain ⟨hzb, h⟩ := gd_some h
    exact V_zretR X h hzb dX11_isIn_13
  replace h := h1
  clear h1
  refine V_if_eq X (tgt := 12) dX11_isIn_5 (by decide) (fun b1 => ?_) (fun b1 => ?_)
  · replace h := (if_pos b1).symm.trans h
    refine V_iconst X 0 dX11_isIn_12 (by decide) ?_
    refine V_sub X [] (lv' := []) rfl ?_
    obtain rfl := pr1 h
    exact hk
  · replace h := (if_neg b1).symm.trans h
    refine V_iconst X 1 dX11_isIn_8 (by decide) ?_
    refine V_goto X (tgt := 13) dX11_isIn_9 (by decide) ?_
    refine V_sub X [] (lv' := []) rfl ?_
    obtain rfl := pr1 h
    exact hk

def f_X1_load (μ : ZMem) : Option (ZMem) := zlt (mset μ (0, 12, 0) 0 (μ (0, 5, 0) 4)) (fun (μ1 : ZMem) => bd (lp (σ := Int32 × ZMem) (fun q => un2 q (fun (x2 : Int32) (μ3 : ZMem) => if 8 ≤ x2 then some (.inr μ3) else gd (zin x2 8) (zlt (mset μ3 (0, 13, 0) x2.toNatClampNeg 0) (fun (μ7 : ZMem) => bd (lp (σ := Int32 × ZMem) (fun q => un2 q (fun (x8 : Int32) (μ9 : ZMem) => if 8 ≤ x8 then some (.inr μ9) else bd (α := Int32) (jk (some 0) (fun k14 => if x2 = x8 then k14 else bd (f_X11_isIn (μ9 (0, 12, 0) 0) x2) (fun (x16 : Int32) => if x16 = 0 then k14 else bd (f_X11_isIn (μ9 (0, 12, 0) 0) x8) (fun (x19 : Int32) => if x19 = 0 then k14 else some 1)))) (fun (x13 : Int32) => bd (α := ZMem) (if x13 = 0 then some μ9 else bd (f_X11_isIn (μ9 (0, 7, 0) x2.toNatClampNeg) x8) (fun (x24 : Int32) => if x24 = 0 then some μ9 else gd (zin x8 8) (bd (f_X11_isIn (μ9 (0, 7, 0) x8.toNatClampNeg) x2) (fun (x28 : Int32) => if x28 = 0 then some μ9 else zlt (mset μ9 (0, 13, 0) x2.toNatClampNeg ((μ9 (0, 13, 0) x2.toNatClampNeg) ||| (f_X11_bit x8))) (fun (μ30 : ZMem) => some μ30))))) (fun (μ22 : ZMem) => some (.inl ((x8 + 1), μ22)))))) FU (0, μ7)) (fun (μ10 : ZMem) => some (.inl ((x2 + 1), μ10))))))) FU (0, μ1)) (fun (μ4 : ZMem) => some μ4))
set_option maxRecDepth 100000 in
set_option maxHeartbeats 4000000 in
theorem M_X1_load {l : Launch} {D : va_G} {y : ZLay}   {μ : ZMem} {μ0 : ZMem} (h : f_X1_load μ = some μ0) : MV l yX1_load wb_X1_load rm_X1_load D y [.ref (zad y (0, 12, 0)), .ref (zad y (0, 5, 0))] μ μ0 := by
  unfold f_X1_load at h
  refine MV_of RX1 [(0, .ref (zad y (0, 12, 0))), (1, .ref (zad y (0, 5, 0)))] (by decide) rfl rfl (Nat.le_of_ble_eq_true rfl) rfl ?_
  intro p e s m args below meth c A X
  refine V_aload_n X 0 dX1_load_0 rfl rfl ?_
  refine V_aload_n X 1 dX1_load_1 rfl rfl ?_
  refine V_geti X (o := (0, 5, 0)) (ci := 10) (k := 4) (N := 7) (T := TX10) (C := RX10) ⟨by decide, rfl⟩ rfl rfl rfl (by decide) (mBa inB_X10) (mB wl_RX1_24) dX1_load_2 ?_
  refine V_puti X tyX1 .int (o := (0, 12, 0)) (ci := 1) (k := 0) (N := 5) (T := TX1) (C := RX1) ⟨by decide, rfl⟩ rfl rfl rfl (by decide) (mBa inB_X1) tyX1_ok nmX1 (mB wl_RX1_30) rfl rfl rfl rfl dX1_load_5 ?_
  refine zlt_el (P := fun (μ1 : ZMem) => V X μ1 8 [(0, .ref (zad y (0, 12, 0))), (1, .ref (zad y (0, 5, 0)))] []) h (fun μ1 h => ?_)
  refine V_iconst X 0 dX1_load_8 (by decide) ?_
  refine V_istore_n X [(2, .int 0), (0, .ref (zad y (0, 12, 0))), (1, .ref (zad y (0, 5, 0)))] dX1_load_9 rfl (by decide) rfl ?_
  refine V_sub X [1, 2, 0] (lv' := [(0, .ref (zad y (0, 12, 0))), (1, .ref (zad y (0, 5, 0))), (2, .int 0)]) rfl ?_
  obtain ⟨μ4, hl, h⟩ := bd_some h
  have hk : V X μ4 121 [] [] := by
    clear hl
    exact V_vretW X h dX1_load_121
  refine lp_ind (P := fun q => V X q.2 10 [(0, .ref (zad y (0, 12, 0))), (1, .ref (zad y (0, 5, 0))), (2, .int q.1)] []) (fun q z h hz => ?_) hl
  obtain ⟨x2, μ3⟩ := q
  replace h := un2_eq h
  show V X μ3 10 [(0, .ref (zad y (0, 12, 0))), (1, .ref (zad y (0, 5, 0))), (2, .int x2)] []
  refine V_iload_n X 2 dX1_load_10 rfl rfl ?_
  refine V_bipush X 8 dX1_load_11 (by decide) ?_
  refine V_icmp_ge X (tgt := 121) dX1_load_13 (by decide) (fun b5 => ?_) (fun b5 => ?_)
  · replace h := (if_pos b5).symm.trans h
    refine V_sub X [] (lv' := []) rfl ?_
    cases h
    obtain rfl := pr1 hz
    exact hk
  · replace h := (if_neg b5).symm.trans h
    refine V_aload_n X 0 dX1_load_16 rfl rfl ?_
    refine V_getr X (o := (0, 12, 0)) (i := (0, 13, 0)) (ci := 1) (k := 1) (N := 5) (T := TX1) (C := RX1) ⟨by decide, rfl⟩ rfl rfl rfl (by decide) (mBa inB_X1) (mB wl_RX1_9) dX1_load_17 ?_
    refine V_iload_n X 2 dX1_load_20 rfl rfl ?_
    refine V_iconst X 0 dX1_load_21 (by decide) ?_
    obtain ⟨g6, h⟩ := gd_some h
    refine V_iast X x2.toNatClampNeg rfl (o := (0, 13, 0)) (n := 8) ⟨by decide, rfl⟩ rfl rfl g6 dX1_load_22 ?_
    refine zlt_el (P := fun (μ7 : ZMem) => V X μ7 23 [(0, .ref (zad y (0, 12, 0))), (1, .ref (zad y (0, 5, 0))), (2, .int x2)] []) h (fun μ7 h => ?_)
    refine V_iconst X 0 dX1_load_23 (by decide) ?_
    refine V_istore_n X [(3, .int 0), (0, .ref (zad y (0, 12, 0))), (1, .ref (zad y (0, 5, 0))), (2, .int x2)] dX1_load_24 rfl (by decide) rfl ?_
    refine V_sub X [1, 2, 3, 0] (lv' := [(0, .ref (zad y (0, 12, 0))), (1, .ref (zad y (0, 5, 0))), (2, .int x2), (3, .int 0)]) rfl ?_
    obtain ⟨μ10, hl, h⟩ := bd_some h
    have hk : V X μ10 115 [(0, .ref (zad y (0, 12, 0))), (1, .ref (zad y (0, 5, 0))), (2, .int x2)] [] := by
      clear hl
      refine V_inc X 2 1 [(2, .int (x2 + 1)), (0, .ref (zad y (0, 12, 0))), (1, .ref (zad y (0, 5, 0)))] dX1_load_115 rfl (by decide) (by decide) rfl ?_
      refine V_goto X (tgt := 10) dX1_load_118 (by decide) ?_
      refine V_sub X [1, 2, 0] (lv' := [(0, .ref (zad y (0, 12, 0))), (1, .ref (zad y (0, 5, 0))), (2, .int (x2 + 1))]) rfl ?_
      cases h
      exact hz
    refine lp_ind (P := fun q => V X q.2 25 [(0, .ref (zad y (0, 12, 0))), (1, .ref (zad y (0, 5, 0))), (2, .int x2), (3, .int q.1)] []) (fun q z h hz => ?_) hl
    obtain ⟨x8, μ9⟩ := q
    replace h := un2_eq h
    show V X μ9 25 [(0, .ref (zad y (0, 12, 0))), (1, .ref (zad y (0, 5, 0))), (2, .int x2), (3, .int x8)] []
    refine V_iload_n X 3 dX1_load_25 rfl rfl ?_
    refine V_bipush X 8 dX1_load_26 (by decide) ?_
    refine V_icmp_ge X (tgt := 115) dX1_load_28 (by decide) (fun b11 => ?_) (fun b11 => ?_)
    · replace h := (if_pos b11).symm.trans h
      refine V_sub X [0, 1, 2] (lv' := [(0, .ref (zad y (0, 12, 0))), (1, .ref (zad y (0, 5, 0))), (2, .int x2)]) rfl ?_
      cases h
      obtain rfl := pr1 hz
      exact hk
    · replace h := (if_neg b11).symm.trans h
      refine V_iload_n X 2 dX1_load_31 rfl rfl ?_
      refine V_iload_n X 3 dX1_load_32 rfl rfl ?_
      obtain ⟨x13, h1, h⟩ := bd_some h
      have hk : V X μ9 63 [(0, .ref (zad y (0, 12, 0))), (1, .ref (zad y (0, 5, 0))), (2, .int x2), (3, .int x8)] [.int x13] := by
        clear h1
        refine V_istore X [(4, .int x13), (0, .ref (zad y (0, 12, 0))), (1, .ref (zad y (0, 5, 0))), (2, .int x2), (3, .int x8)] dX1_load_63 (by decide) rfl ?_
        refine V_iload X 0 dX1_load_65 rfl ?_
        obtain ⟨μ22, h1, h⟩ := bd_some h
        have hk : V X μ22 109 [(0, .ref (zad y (0, 12, 0))), (1, .ref (zad y (0, 5, 0))), (2, .int x2), (3, .int x8)] [] := by
          clear h1
          refine V_inc X 3 1 [(3, .int (x8 + 1)), (0, .ref (zad y (0, 12, 0))), (1, .ref (zad y (0, 5, 0))), (2, .int x2)] dX1_load_109 rfl (by decide) (by decide) rfl ?_
          refine V_goto X (tgt := 25) dX1_load_112 (by decide) ?_
          refine V_sub X [1, 2, 3, 0] (lv' := [(0, .ref (zad y (0, 12, 0))), (1, .ref (zad y (0, 5, 0))), (2, .int x2), (3, .int (x8 + 1))]) rfl ?_
          cases h
          exact hz
        replace h := h1
        clear h1
        refine V_if_eq X (tgt := 109) dX1_load_67 (by decide) (fun b21 => ?_) (fun b21 => ?_)
        · replace h := (if_pos b21).symm.trans h
          refine V_sub X [1, 2, 3, 4] (lv' := [(0, .ref (zad y (0, 12, 0))), (1, .ref (zad y (0, 5, 0))), (2, .int x2), (3, .int x8)]) rfl ?_
          obtain rfl := so1 h
          exact hk
        · replace h := (if_neg b21).symm.trans h
          refine V_aload_n X 2 dX1_load_70 rfl rfl ?_
          refine V_getr X (o := (0, 5, 0)) (i := (0, 7, 0)) (ci := 10) (k := 1) (N := 7) (T := TX10) (C := RX10) ⟨by decide, rfl⟩ rfl rfl rfl (by decide) (mBa inB_X10) (mB wl_RX1_35) dX1_load_71 ?_
          refine V_iload_n X 3 dX1_load_74 rfl rfl ?_
          refine V_iald X x2.toNatClampNeg rfl (o := (0, 7, 0)) (n := 8) ⟨by decide, rfl⟩ rfl rfl g6 dX1_load_75 ?_
          refine V_iload_n X 4 dX1_load_76 rfl rfl ?_
          obtain ⟨x24, c23, h⟩ := bd_some h
          refine V_callSNi X (As := [.int (μ9 (0, 7, 0) x2.toNatClampNeg), .int x8]) (M_X11_isIn c23) ⟨va_cnB (host := "SlotCluster") 2 X.2.2.2.2.2.2.1 (gN wc_X11_isIn) rfl rfl rfl (X.2.2.2.2.2.2.2.2.1 _ (List.mem_of_getElem? wn_RX1_31)) (X.2.2.2.2.2.2.1 (.initialized RX11) (mB win_RX11)) hd_X11_isIn.2 ⟨Nat.le_of_ble_eq_true rfl, Nat.le_of_ble_eq_true rfl⟩, X.2.2.2.2.2.2.1 (.static yX11_isIn) (mB wst_X11_isIn), trivial⟩ rfl (Nat.le_of_ble_eq_true rfl) dX1_load_77 rfl ?_
          refine V_if_eq X (tgt := 109) dX1_load_80 (by decide) (fun b25 => ?_) (fun b25 => ?_)
          · replace h := (if_pos b25).symm.trans h
            refine V_sub X [1, 2, 3, 4] (lv' := [(0, .ref (zad y (0, 12, 0))), (1, .ref (zad y (0, 5, 0))), (2, .int x2), (3, .int x8)]) rfl ?_
            obtain rfl := so1 h
            exact hk
          · replace h := (if_neg b25).symm.trans h
            refine V_aload_n X 2 dX1_load_83 rfl rfl ?_
            refine V_getr X (o := (0, 5, 0)) (i := (0, 7, 0)) (ci := 10) (k := 1) (N := 7) (T := TX10) (C := RX10) ⟨by decide, rfl⟩ rfl rfl rfl (by decide) (mBa inB_X10) (mB wl_RX1_35) dX1_load_84 ?_
            refine V_iload_n X 4 dX1_load_87 rfl rfl ?_
            obtain ⟨g26, h⟩ := gd_some h
            refine V_iald X x8.toNatClampNeg rfl (o := (0, 7, 0)) (n := 8) ⟨by decide, rfl⟩ rfl rfl g26 dX1_load_88 ?_
            refine V_iload_n X 3 dX1_load_89 rfl rfl ?_
            obtain ⟨x28, c27, h⟩ := bd_some h
            refine V_callSNi X (As := [.int (μ9 (0, 7, 0) x8.toNatClampNeg), .int x2]) (M_X11_isIn c27) ⟨va_cnB (host := "SlotCluster") 2 X.2.2.2.2.2.2.1 (gN wc_X11_isIn) rfl rfl rfl (X.2.2.2.2.2.2.2.2.1 _ (List.mem_of_getElem? wn_RX1_31)) (X.2.2.2.2.2.2.1 (.initialized RX11) (mB win_RX11)) hd_X11_isIn.2 ⟨Nat.le_of_ble_eq_true rfl, Nat.le_of_ble_eq_true rfl⟩, X.2.2.2.2.2.2.1 (.static yX11_isIn) (mB wst_X11_isIn), trivial⟩ rfl (Nat.le_of_ble_eq_true rfl) dX1_load_90 rfl ?_
            refine V_if_eq X (tgt := 109) dX1_load_93 (by decide) (fun b29 => ?_) (fun b29 => ?_)
            · replace h := (if_pos b29).symm.trans h
              refine V_sub X [1, 2, 3, 4] (lv' := [(0, .ref (zad y (0, 12, 0))), (1, .ref (zad y (0, 5, 0))), (2, .int x2), (3, .int x8)]) rfl ?_
              obtain rfl := so1 h
              exact hk
            · replace h := (if_neg b29).symm.trans h
              refine V_aload_n X 1 dX1_load_96 rfl rfl ?_
              refine V_getr X (o := (0, 12, 0)) (i := (0, 13, 0)) (ci := 1) (k := 1) (N := 5) (T := TX1) (C := RX1) ⟨by decide, rfl⟩ rfl rfl rfl (by decide) (mBa inB_X1) (mB wl_RX1_9) dX1_load_97 ?_
              refine V_iload_n X 3 dX1_load_100 rfl rfl ?_
              refine V_dup2 X dX1_load_101 rfl rfl ?_
              refine V_iald X x2.toNatClampNeg rfl (o := (0, 13, 0)) (n := 8) ⟨by decide, rfl⟩ rfl rfl g6 dX1_load_102 ?_
              refine V_iload_n X 4 dX1_load_103 rfl rfl ?_
              refine V_callSNi X (As := [.int x8]) (M_X11_bit) ⟨va_cnB (host := "SlotCluster") 1 X.2.2.2.2.2.2.1 (gN wc_X11_bit) rfl rfl rfl (X.2.2.2.2.2.2.2.2.1 _ (List.mem_of_getElem? wn_RX1_38)) (X.2.2.2.2.2.2.1 (.initialized RX11) (mB win_RX11)) hd_X11_bit.2 ⟨Nat.le_of_ble_eq_true rfl, Nat.le_of_ble_eq_true rfl⟩, X.2.2.2.2.2.2.1 (.static yX11_bit) (mB wst_X11_bit), trivial⟩ rfl (Nat.le_of_ble_eq_true rfl) dX1_load_104 rfl ?_
              refine V_ior X dX1_load_107 ?_
              refine V_iast X x2.toNatClampNeg rfl (o := (0, 13, 0)) (n := 8) ⟨by decide, rfl⟩ rfl rfl g6 dX1_load_108 ?_
              refine zlt_el (P := fun (μ30 : ZMem) => V X μ30 109 [(4, .int x13), (0, .ref (zad y (0, 12, 0))), (1, .ref (zad y (0, 5, 0))), (2, .int x2), (3, .int x8)] []) h (fun μ30 h => ?_)
              refine V_sub X [1, 2, 3, 4] (lv' := [(0, .ref (zad y (0, 12, 0))), (1, .ref (zad y (0, 5, 0))), (2, .int x2), (3, .int x8)]) rfl ?_
              obtain rfl := so1 h
              exact hk
      replace h := h1
      clear h1
      refine jk0_el (P := V X μ9 62 [(0, .ref (zad y (0, 12, 0))), (1, .ref (zad y (0, 5, 0))), (2, .int x2), (3, .int x8)] []) h (fun h => ?_) (fun k14 hk14 h => ?_)
      · refine V_iconst X 0 dX1_load_62 (by decide) ?_
        obtain rfl := so1 h
        exact hk
      · refine V_icmp_eq X (tgt := 62) dX1_load_33 (by decide) (fun b12 => ?_) (fun b12 => ?_)
        · replace h := (if_pos b12).symm.trans h
          exact hk14 h
        · replace h := (if_neg b12).symm.trans h
          refine V_aload_n X 0 dX1_load_36 rfl rfl ?_
          refine V_geti X (o := (0, 12, 0)) (ci := 1) (k := 0) (N := 5) (T := TX1) (C := RX1) ⟨by decide, rfl⟩ rfl rfl rfl (by decide) (mBa inB_X1) (mB wl_RX1_30) dX1_load_37 ?_
          refine V_iload_n X 2 dX1_load_40 rfl rfl ?_
          obtain ⟨x16, c15, h⟩ := bd_some h
          refine V_callSNi X (As := [.int (μ9 (0, 12, 0) 0), .int x2]) (M_X11_isIn c15) ⟨va_cnB (host := "SlotCluster") 2 X.2.2.2.2.2.2.1 (gN wc_X11_isIn) rfl rfl rfl (X.2.2.2.2.2.2.2.2.1 _ (List.mem_of_getElem? wn_RX1_31)) (X.2.2.2.2.2.2.1 (.initialized RX11) (mB win_RX11)) hd_X11_isIn.2 ⟨Nat.le_of_ble_eq_true rfl, Nat.le_of_ble_eq_true rfl⟩, X.2.2.2.2.2.2.1 (.static yX11_isIn) (mB wst_X11_isIn), trivial⟩ rfl (Nat.le_of_ble_eq_true rfl) dX1_load_41 rfl ?_
          refine V_if_eq X (tgt := 62) dX1_load_44 (by decide) (fun b17 => ?_) (fun b17 => ?_)
          · replace h := (if_pos b17).symm.trans h
            exact hk14 h
          · replace h := (if_neg b17).symm.trans h
            refine V_aload_n X 0 dX1_load_47 rfl rfl ?_
            refine V_geti X (o := (0, 12, 0)) (ci := 1) (k := 0) (N := 5) (T := TX1) (C := RX1) ⟨by decide, rfl⟩ rfl rfl rfl (by decide) (mBa inB_X1) (mB wl_RX1_30) dX1_load_48 ?_
            refine V_iload_n X 3 dX1_load_51 rfl rfl ?_
            obtain ⟨x19, c18, h⟩ := bd_some h
            refine V_callSNi X (As := [.int (μ9 (0, 12, 0) 0), .int x8]) (M_X11_isIn c18) ⟨va_cnB (host := "SlotCluster") 2 X.2.2.2.2.2.2.1 (gN wc_X11_isIn) rfl rfl rfl (X.2.2.2.2.2.2.2.2.1 _ (List.mem_of_getElem? wn_RX1_31)) (X.2.2.2.2.2.2.1 (.initialized RX11) (mB win_RX11)) hd_X11_isIn.2 ⟨Nat.le_of_ble_eq_true rfl, Nat.le_of_ble_eq_true rfl⟩, X.2.2.2.2.2.2.1 (.static yX11_isIn) (mB wst_X11_isIn), trivial⟩ rfl (Nat.le_of_ble_eq_true rfl) dX1_load_52 rfl ?_
            refine V_if_eq X (tgt := 62) dX1_load_55 (by decide) (fun b20 => ?_) (fun b20 => ?_)
            · replace h := (if_pos b20).symm.trans h
              exact hk14 h
            · replace h := (if_neg b20).symm.trans h
              refine V_iconst X 1 dX1_load_58 (by decide) ?_
              refine V_goto X (tgt := 63) dX1_load_59 (by decide) ?_
              obtain rfl := so1 h
              exact hk

def f_X1_cliqueOf (a1 : Int32) (μ : ZMem) : Option (Int32) := zlt ((μ (0, 12, 0) 0) &&& (f_X11_bit a1)) (fun (x1 : Int32) => bd (lp (σ := Int32 × Int32) (fun q => un2 q (fun (x2 : Int32) (x3 : Int32) => if 8 ≤ x3 then some (.inr x2) else bd (lp (σ := Int32 × Int32) (fun q => un2 q (fun (x6 : Int32) (x7 : Int32) => if 8 ≤ x7 then some (.inr x6) else bd (f_X11_isIn x6 x7) (fun (x11 : Int32) => bd (α := Int32) (if x11 = 0 then some x6 else gd (zin x7 8) (zlt (x6 ||| (μ (0, 13, 0) x7.toNatClampNeg)) (fun (x15 : Int32) => some x15))) (fun (x13 : Int32) => some (.inl (x13, (x7 + 1))))))) FU (x2, 0)) (fun (x8 : Int32) => some (.inl (x8, (x3 + 1)))))) FU (x1, 0)) (fun (x4 : Int32) => some x4))
set_option maxRecDepth 100000 in
set_option maxHeartbeats 4000000 in
theorem M_X1_cliqueOf {l : Launch} {D : va_G} {y : ZLay} {a1 : Int32}  {μ : ZMem} {r : Int32} (h : f_X1_cliqueOf a1 μ = some r) : MI l yX1_cliqueOf wb_X1_cliqueOf rm_X1_cliqueOf D y [.ref (zad y (0, 12, 0)), .int a1] μ r μ := by
  unfold f_X1_cliqueOf at h
  refine MI_of RX1 [(0, .ref (zad y (0, 12, 0))), (1, .int a1)] (by decide) rfl rfl (Nat.le_of_ble_eq_true rfl) rfl ?_
  intro p e s m args below meth c A X
  refine V_aload_n X 0 dX1_cliqueOf_0 rfl rfl ?_
  refine V_geti X (o := (0, 12, 0)) (ci := 1) (k := 0) (N := 5) (T := TX1) (C := RX1) ⟨by decide, rfl⟩ rfl rfl rfl (by decide) (mBa inB_X1) (mB wl_RX1_30) dX1_cliqueOf_1 ?_
  refine V_iload_n X 1 dX1_cliqueOf_4 rfl rfl ?_
  refine V_callSNi X (As := [.int a1]) (M_X11_bit) ⟨va_cnB (host := "SlotCluster") 1 X.2.2.2.2.2.2.1 (gN wc_X11_bit) rfl rfl rfl (X.2.2.2.2.2.2.2.2.1 _ (List.mem_of_getElem? wn_RX1_38)) (X.2.2.2.2.2.2.1 (.initialized RX11) (mB win_RX11)) hd_X11_bit.2 ⟨Nat.le_of_ble_eq_true rfl, Nat.le_of_ble_eq_true rfl⟩, X.2.2.2.2.2.2.1 (.static yX11_bit) (mB wst_X11_bit), trivial⟩ rfl (Nat.le_of_ble_eq_true rfl) dX1_cliqueOf_5 rfl ?_
  refine V_iand X dX1_cliqueOf_8 ?_
  refine V_istore_n X [(2, .int ((μ (0, 12, 0) 0) &&& (f_X11_bit a1))), (0, .ref (zad y (0, 12, 0))), (1, .int a1)] dX1_cliqueOf_9 rfl (by decide) rfl ?_
  refine zlt_el (P := fun (x1 : Int32) => V X μ 10 [(2, .int x1), (0, .ref (zad y (0, 12, 0))), (1, .int a1)] []) h (fun x1 h => ?_)
  refine V_iconst X 0 dX1_cliqueOf_10 (by decide) ?_
  refine V_istore_n X [(3, .int 0), (2, .int x1), (0, .ref (zad y (0, 12, 0))), (1, .int a1)] dX1_cliqueOf_11 rfl (by decide) rfl ?_
  refine V_sub X [2, 1, 0] (lv' := [(0, .ref (zad y (0, 12, 0))), (2, .int x1), (3, .int 0)]) rfl ?_
  obtain ⟨x4, hl, h⟩ := bd_some h
  have hk : V X μ 59 [(2, .int x4)] [] := by
    clear hl
    refine V_iload_n X 0 dX1_cliqueOf_59 rfl rfl ?_
    exact V_iretR X h dX1_cliqueOf_60
  refine lp_ind (P := fun q => V X μ 12 [(0, .ref (zad y (0, 12, 0))), (2, .int q.1), (3, .int q.2)] []) (fun q z h hz => ?_) hl
  obtain ⟨x2, x3⟩ := q
  replace h := un2_eq h
  show V X μ 12 [(0, .ref (zad y (0, 12, 0))), (2, .int x2), (3, .int x3)] []
  refine V_iload_n X 2 dX1_cliqueOf_12 rfl rfl ?_
  refine V_bipush X 8 dX1_cliqueOf_13 (by decide) ?_
  refine V_icmp_ge X (tgt := 59) dX1_cliqueOf_15 (by decide) (fun b5 => ?_) (fun b5 => ?_)
  · replace h := (if_pos b5).symm.trans h
    refine V_sub X [1] (lv' := [(2, .int x2)]) rfl ?_
    cases h
    obtain rfl := pr1 hz
    exact hk
  · replace h := (if_neg b5).symm.trans h
    refine V_iconst X 0 dX1_cliqueOf_18 (by decide) ?_
    refine V_istore X [(4, .int 0), (0, .ref (zad y (0, 12, 0))), (2, .int x2), (3, .int x3)] dX1_cliqueOf_19 (by decide) rfl ?_
    refine V_sub X [1, 2, 3, 0] (lv' := [(0, .ref (zad y (0, 12, 0))), (2, .int x2), (3, .int x3), (4, .int 0)]) rfl ?_
    obtain ⟨x8, hl, h⟩ := bd_some h
    have hk : V X μ 53 [(0, .ref (zad y (0, 12, 0))), (2, .int x8), (3, .int x3)] [] := by
      clear hl
      refine V_inc X 2 1 [(3, .int (x3 + 1)), (0, .ref (zad y (0, 12, 0))), (2, .int x8)] dX1_cliqueOf_53 rfl (by decide) (by decide) rfl ?_
      refine V_goto X (tgt := 12) dX1_cliqueOf_56 (by decide) ?_
      refine V_sub X [1, 2, 0] (lv' := [(0, .ref (zad y (0, 12, 0))), (2, .int x8), (3, .int (x3 + 1))]) rfl ?_
      cases h
      exact hz
    refine lp_ind (P := fun q => V X μ 21 [(0, .ref (zad y (0, 12, 0))), (2, .int q.1), (3, .int x3), (4, .int q.2)] []) (fun q z h hz => ?_) hl
    obtain ⟨x6, x7⟩ := q
    replace h := un2_eq h
    show V X μ 21 [(0, .ref (zad y (0, 12, 0))), (2, .int x6), (3, .int x3), (4, .int x7)] []
    refine V_iload X 3 dX1_cliqueOf_21 rfl ?_
    refine V_bipush X 8 dX1_cliqueOf_23 (by decide) ?_
    refine V_icmp_ge X (tgt := 53) dX1_cliqueOf_25 (by decide) (fun b9 => ?_) (fun b9 => ?_)
    · replace h := (if_pos b9).symm.trans h
      refine V_sub X [0, 1, 2] (lv' := [(0, .ref (zad y (0, 12, 0))), (2, .int x6), (3, .int x3)]) rfl ?_
      cases h
      obtain rfl := pr1 hz
      exact hk
    · replace h := (if_neg b9).symm.trans h
      refine V_iload_n X 1 dX1_cliqueOf_28 rfl rfl ?_
      refine V_iload X 3 dX1_cliqueOf_29 rfl ?_
      obtain ⟨x11, c10, h⟩ := bd_some h
      refine V_callSNi X (As := [.int x6, .int x7]) (M_X11_isIn c10) ⟨va_cnB (host := "SlotCluster") 2 X.2.2.2.2.2.2.1 (gN wc_X11_isIn) rfl rfl rfl (X.2.2.2.2.2.2.2.2.1 _ (List.mem_of_getElem? wn_RX1_31)) (X.2.2.2.2.2.2.1 (.initialized RX11) (mB win_RX11)) hd_X11_isIn.2 ⟨Nat.le_of_ble_eq_true rfl, Nat.le_of_ble_eq_true rfl⟩, X.2.2.2.2.2.2.1 (.static yX11_isIn) (mB wst_X11_isIn), trivial⟩ rfl (Nat.le_of_ble_eq_true rfl) dX1_cliqueOf_31 rfl ?_
      obtain ⟨x13, h1, h⟩ := bd_some h
      have hk : V X μ 47 [(0, .ref (zad y (0, 12, 0))), (2, .int x13), (3, .int x3), (4, .int x7)] [] := by
        clear h1
        refine V_inc X 3 1 [(4, .int (x7 + 1)), (0, .ref (zad y (0, 12, 0))), (2, .int x13), (3, .int x3)] dX1_cliqueOf_47 rfl (by decide) (by decide) rfl ?_
        refine V_goto X (tgt := 21) dX1_cliqueOf_50 (by decide) ?_
        refine V_sub X [1, 2, 3, 0] (lv' := [(0, .ref (zad y (0, 12, 0))), (2, .int x13), (3, .int x3), (4, .int (x7 + 1))]) rfl ?_
        cases h
        exact hz
      replace h := h1
      clear h1
      refine V_if_eq X (tgt := 47) dX1_cliqueOf_34 (by decide) (fun b12 => ?_) (fun b12 => ?_)
      · replace h := (if_pos b12).symm.trans h
        obtain rfl := so1 h
        exact hk
      · replace h := (if_neg b12).symm.trans h
        refine V_iload_n X 1 dX1_cliqueOf_37 rfl rfl ?_
        refine V_aload_n X 0 dX1_cliqueOf_38 rfl rfl ?_
        refine V_getr X (o := (0, 12, 0)) (i := (0, 13, 0)) (ci := 1) (k := 1) (N := 5) (T := TX1) (C := RX1) ⟨by decide, rfl⟩ rfl rfl rfl (by decide) (mBa inB_X1) (mB wl_RX1_9) dX1_cliqueOf_39 ?_
        refine V_iload X 3 dX1_cliqueOf_42 rfl ?_
        obtain ⟨g14, h⟩ := gd_some h
        refine V_iald X x7.toNatClampNeg rfl (o := (0, 13, 0)) (n := 8) ⟨by decide, rfl⟩ rfl rfl g14 dX1_cliqueOf_44 ?_
        refine V_ior X dX1_cliqueOf_45 ?_
        refine V_istore_n X [(2, .int (x6 ||| (μ (0, 13, 0) x7.toNatClampNeg))), (0, .ref (zad y (0, 12, 0))), (3, .int x3), (4, .int x7)] dX1_cliqueOf_46 rfl (by decide) rfl ?_
        refine zlt_el (P := fun (x15 : Int32) => V X μ 47 [(2, .int x15), (0, .ref (zad y (0, 12, 0))), (3, .int x3), (4, .int x7)] []) h (fun x15 h => ?_)
        refine V_sub X [1, 0, 2, 3] (lv' := [(0, .ref (zad y (0, 12, 0))), (2, .int x15), (3, .int x3), (4, .int x7)]) rfl ?_
        obtain rfl := so1 h
        exact hk

def f_X1_countCliques (μ : ZMem) : Option (Int32) := zlt (μ (0, 12, 0) 0) (fun (x1 : Int32) => bd (lp (σ := Int32 × Int32 × Int32) (fun q => un3 q (fun (x2 : Int32) (x3 : Int32) (x4 : Int32) => if 8 ≤ x4 then some (.inr x3) else bd (f_X11_isIn x2 x4) (fun (x8 : Int32) => bd2 (α := Int32) (β := Int32) (if x8 = 0 then some (x2, x3) else bd (f_X1_cliqueOf x4 μ) (fun (x13 : Int32) => zlt (x2 &&& (x13 ^^^ (-1))) (fun (x14 : Int32) => some (x14, (x3 + 1))))) (fun (x10 : Int32) (x11 : Int32) => some (.inl (x10, x11, (x4 + 1))))))) FU (x1, 0, 0)) (fun (x5 : Int32) => some x5))
set_option maxRecDepth 100000 in
set_option maxHeartbeats 4000000 in
theorem M_X1_countCliques {l : Launch} {D : va_G} {y : ZLay}   {μ : ZMem} {r : Int32} (h : f_X1_countCliques μ = some r) : MI l yX1_countCliques wb_X1_countCliques rm_X1_countCliques D y [.ref (zad y (0, 12, 0))] μ r μ := by
  unfold f_X1_countCliques at h
  refine MI_of RX1 [(0, .ref (zad y (0, 12, 0)))] (by decide) rfl rfl (Nat.le_of_ble_eq_true rfl) rfl ?_
  intro p e s m args below meth c A X
  refine V_aload_n X 0 dX1_countCliques_0 rfl rfl ?_
  refine V_geti X (o := (0, 12, 0)) (ci := 1) (k := 0) (N := 5) (T := TX1) (C := RX1) ⟨by decide, rfl⟩ rfl rfl rfl (by decide) (mBa inB_X1) (mB wl_RX1_30) dX1_countCliques_1 ?_
  refine V_istore_n X [(1, .int (μ (0, 12, 0) 0)), (0, .ref (zad y (0, 12, 0)))] dX1_countCliques_4 rfl (by decide) rfl ?_
  refine zlt_el (P := fun (x1 : Int32) => V X μ 5 [(1, .int x1), (0, .ref (zad y (0, 12, 0)))] []) h (fun x1 h => ?_)
  refine V_iconst X 0 dX1_countCliques_5 (by decide) ?_
  refine V_istore_n X [(2, .int 0), (1, .int x1), (0, .ref (zad y (0, 12, 0)))] dX1_countCliques_6 rfl (by decide) rfl ?_
  refine V_iconst X 0 dX1_countCliques_7 (by decide) ?_
  refine V_istore_n X [(3, .int 0), (2, .int 0), (1, .int x1), (0, .ref (zad y (0, 12, 0)))] dX1_countCliques_8 rfl (by decide) rfl ?_
  refine V_sub X [3, 2, 1, 0] (lv' := [(0, .ref (zad y (0, 12, 0))), (1, .int x1), (2, .int 0), (3, .int 0)]) rfl ?_
  obtain ⟨x5, hl, h⟩ := bd_some h
  have hk : V X μ 42 [(2, .int x5)] [] := by
    clear hl
    refine V_iload_n X 0 dX1_countCliques_42 rfl rfl ?_
    exact V_iretR X h dX1_countCliques_43
  refine lp_ind (P := fun q => V X μ 9 [(0, .ref (zad y (0, 12, 0))), (1, .int q.1), (2, .int q.2.1), (3, .int q.2.2)] []) (fun q z h hz => ?_) hl
  obtain ⟨x2, x3, x4⟩ := q
  replace h := un3_eq h
  show V X μ 9 [(0, .ref (zad y (0, 12, 0))), (1, .int x2), (2, .int x3), (3, .int x4)] []
  refine V_iload_n X 3 dX1_countCliques_9 rfl rfl ?_
  refine V_bipush X 8 dX1_countCliques_10 (by decide) ?_
  refine V_icmp_ge X (tgt := 42) dX1_countCliques_12 (by decide) (fun b6 => ?_) (fun b6 => ?_)
  · replace h := (if_pos b6).symm.trans h
    refine V_sub X [2] (lv' := [(2, .int x3)]) rfl ?_
    cases h
    obtain rfl := pr1 hz
    exact hk
  · replace h := (if_neg b6).symm.trans h
    refine V_iload_n X 1 dX1_countCliques_15 rfl rfl ?_
    refine V_iload_n X 3 dX1_countCliques_16 rfl rfl ?_
    obtain ⟨x8, c7, h⟩ := bd_some h
    refine V_callSNi X (As := [.int x2, .int x4]) (M_X11_isIn c7) ⟨va_cnB (host := "SlotCluster") 2 X.2.2.2.2.2.2.1 (gN wc_X11_isIn) rfl rfl rfl (X.2.2.2.2.2.2.2.2.1 _ (List.mem_of_getElem? wn_RX1_31)) (X.2.2.2.2.2.2.1 (.initialized RX11) (mB win_RX11)) hd_X11_isIn.2 ⟨Nat.le_of_ble_eq_true rfl, Nat.le_of_ble_eq_true rfl⟩, X.2.2.2.2.2.2.1 (.static yX11_isIn) (mB wst_X11_isIn), trivial⟩ rfl (Nat.le_of_ble_eq_true rfl) dX1_countCliques_17 rfl ?_
    obtain ⟨x10, x11, h1, h⟩ := bd2_some h
    have hk : V X μ 36 [(0, .ref (zad y (0, 12, 0))), (1, .int x10), (2, .int x11), (3, .int x4)] [] := by
      clear h1
      refine V_inc X 3 1 [(3, .int (x4 + 1)), (0, .ref (zad y (0, 12, 0))), (1, .int x10), (2, .int x11)] dX1_countCliques_36 rfl (by decide) (by decide) rfl ?_
      refine V_goto X (tgt := 9) dX1_countCliques_39 (by decide) ?_
      refine V_sub X [1, 2, 3, 0] (lv' := [(0, .ref (zad y (0, 12, 0))), (1, .int x10), (2, .int x11), (3, .int (x4 + 1))]) rfl ?_
      cases h
      exact hz
    replace h := h1
    clear h1
    refine V_if_eq X (tgt := 36) dX1_countCliques_20 (by decide) (fun b9 => ?_) (fun b9 => ?_)
    · replace h := (if_pos b9).symm.trans h
      obtain ⟨rfl, rfl⟩ := so2 h
      exact hk
    · replace h := (if_neg b9).symm.trans h
      refine V_iload_n X 1 dX1_countCliques_23 rfl rfl ?_
      refine V_aload_n X 0 dX1_countCliques_24 rfl rfl ?_
      refine V_iload_n X 3 dX1_countCliques_25 rfl rfl ?_
      obtain ⟨x13, c12, h⟩ := bd_some h
      refine V_callVi X (As := [.int x4]) (M_X1_cliqueOf c12) (cwV 1 X.2.2.2.2.2.2.1 (gV wm_RX1_42 wi_X1_cliqueOf wse_X1_cliqueOf win_RX1 wc_X1_cliqueOf) rfl rfl rfl hd_X1_cliqueOf ⟨Nat.le_of_ble_eq_true rfl, Nat.le_of_ble_eq_true rfl⟩) (b := (0, 12, 0)) ⟨by decide, rfl⟩ rfl rfl rfl rfl (Nat.le_of_ble_eq_true rfl) dX1_countCliques_26 rfl ?_
      refine V_iconst X (-1) dX1_countCliques_29 (by decide) ?_
      refine V_ixor X dX1_countCliques_30 ?_
      refine V_iand X dX1_countCliques_31 ?_
      refine V_istore_n X [(1, .int (x2 &&& (x13 ^^^ (-1)))), (0, .ref (zad y (0, 12, 0))), (2, .int x3), (3, .int x4)] dX1_countCliques_32 rfl (by decide) rfl ?_
      refine zlt_el (P := fun (x14 : Int32) => V X μ 33 [(1, .int x14), (0, .ref (zad y (0, 12, 0))), (2, .int x3), (3, .int x4)] []) h (fun x14 h => ?_)
      refine V_inc X 2 1 [(2, .int (x3 + 1)), (1, .int x14), (0, .ref (zad y (0, 12, 0))), (3, .int x4)] dX1_countCliques_33 rfl (by decide) (by decide) rfl ?_
      refine V_sub X [2, 1, 0, 3] (lv' := [(0, .ref (zad y (0, 12, 0))), (1, .int x14), (2, .int (x3 + 1)), (3, .int x4)]) rfl ?_
      obtain ⟨rfl, rfl⟩ := so2 h
      exact hk

def f_J6_bitCount_0f7a4 (a0 : Int32) : Int32 := zlt (a0 - ((zushr a0 1) &&& 1431655765)) (fun (x1 : Int32) => zlt ((x1 &&& 858993459) + ((zushr x1 2) &&& 858993459)) (fun (x2 : Int32) => zlt ((x2 + (zushr x2 4)) &&& 252645135) (fun (x3 : Int32) => zlt (x3 + (zushr x3 8)) (fun (x4 : Int32) => zlt (x4 + (zushr x4 16)) (fun (x5 : Int32) => (x5 &&& 63))))))
set_option maxRecDepth 100000 in
set_option maxHeartbeats 4000000 in
theorem M_J6_bitCount_0f7a4 {l : Launch} {D : va_G} {y : ZLay} {a0 : Int32}  {μ : ZMem} : MI l yJ6_bitCount_0f7a4 wb_J6_bitCount_0f7a4 rm_J6_bitCount_0f7a4 D y [.int a0] μ (f_J6_bitCount_0f7a4 a0) μ := by
  obtain ⟨r, h⟩ : ∃ r, f_J6_bitCount_0f7a4 a0 = r := ⟨_, rfl⟩
  rw [h]
  unfold f_J6_bitCount_0f7a4 at h
  refine MI_of RJ6 [(0, .int a0)] (by decide) rfl rfl (Nat.le_of_ble_eq_true rfl) rfl ?_
  intro p e s m args below meth c A X
  refine V_iload_n X 0 dJ6_bitCount_0f7a4_0 rfl rfl ?_
  refine V_iload_n X 0 dJ6_bitCount_0f7a4_1 rfl rfl ?_
  refine V_iconst X 1 dJ6_bitCount_0f7a4_2 (by decide) ?_
  refine V_iushr X dJ6_bitCount_0f7a4_3 ?_
  refine V_ldcw X (ix := 265) (v := 1431655765) (mB wk_RJ6_265) dJ6_bitCount_0f7a4_4 ?_
  refine V_iand X dJ6_bitCount_0f7a4_7 ?_
  refine V_isub X dJ6_bitCount_0f7a4_8 ?_
  refine V_istore_n X [(0, .int (a0 - ((zushr a0 1) &&& 1431655765)))] dJ6_bitCount_0f7a4_9 rfl (by decide) rfl ?_
  refine zlt_el (P := fun (x1 : Int32) => V X μ 10 [(0, .int x1)] []) h (fun x1 h => ?_)
  refine V_iload_n X 0 dJ6_bitCount_0f7a4_10 rfl rfl ?_
  refine V_ldcw X (ix := 266) (v := 858993459) (mB wk_RJ6_266) dJ6_bitCount_0f7a4_11 ?_
  refine V_iand X dJ6_bitCount_0f7a4_14 ?_
  refine V_iload_n X 0 dJ6_bitCount_0f7a4_15 rfl rfl ?_
  refine V_iconst X 2 dJ6_bitCount_0f7a4_16 (by decide) ?_
  refine V_iushr X dJ6_bitCount_0f7a4_17 ?_
  refine V_ldcw X (ix := 266) (v := 858993459) (mB wk_RJ6_266) dJ6_bitCount_0f7a4_18 ?_
  refine V_iand X dJ6_bitCount_0f7a4_21 ?_
  refine V_iadd X dJ6_bitCount_0f7a4_22 ?_
  refine V_istore_n X [(0, .int ((x1 &&& 858993459) + ((zushr x1 2) &&& 858993459)))] dJ6_bitCount_0f7a4_23 rfl (by decide) rfl ?_
  refine zlt_el (P := fun (x2 : Int32) => V X μ 24 [(0, .int x2)] []) h (fun x2 h => ?_)
  refine V_iload_n X 0 dJ6_bitCount_0f7a4_24 rfl rfl ?_
  refine V_iload_n X 0 dJ6_bitCount_0f7a4_25 rfl rfl ?_
  refine V_iconst X 4 dJ6_bitCount_0f7a4_26 (by decide) ?_
  refine V_iushr X dJ6_bitCount_0f7a4_27 ?_
  refine V_iadd X dJ6_bitCount_0f7a4_28 ?_
  refine V_ldcw X (ix := 267) (v := 252645135) (mB wk_RJ6_267) dJ6_bitCount_0f7a4_29 ?_
  refine V_iand X dJ6_bitCount_0f7a4_32 ?_
  refine V_istore_n X [(0, .int ((x2 + (zushr x2 4)) &&& 252645135))] dJ6_bitCount_0f7a4_33 rfl (by decide) rfl ?_
  refine zlt_el (P := fun (x3 : Int32) => V X μ 34 [(0, .int x3)] []) h (fun x3 h => ?_)
  refine V_iload_n X 0 dJ6_bitCount_0f7a4_34 rfl rfl ?_
  refine V_iload_n X 0 dJ6_bitCount_0f7a4_35 rfl rfl ?_
  refine V_bipush X 8 dJ6_bitCount_0f7a4_36 (by decide) ?_
  refine V_iushr X dJ6_bitCount_0f7a4_38 ?_
  refine V_iadd X dJ6_bitCount_0f7a4_39 ?_
  refine V_istore_n X [(0, .int (x3 + (zushr x3 8)))] dJ6_bitCount_0f7a4_40 rfl (by decide) rfl ?_
  refine zlt_el (P := fun (x4 : Int32) => V X μ 41 [(0, .int x4)] []) h (fun x4 h => ?_)
  refine V_iload_n X 0 dJ6_bitCount_0f7a4_41 rfl rfl ?_
  refine V_iload_n X 0 dJ6_bitCount_0f7a4_42 rfl rfl ?_
  refine V_bipush X 16 dJ6_bitCount_0f7a4_43 (by decide) ?_
  refine V_iushr X dJ6_bitCount_0f7a4_45 ?_
  refine V_iadd X dJ6_bitCount_0f7a4_46 ?_
  refine V_istore_n X [(0, .int (x4 + (zushr x4 16)))] dJ6_bitCount_0f7a4_47 rfl (by decide) rfl ?_
  refine zlt_el (P := fun (x5 : Int32) => V X μ 48 [(0, .int x5)] []) h (fun x5 h => ?_)
  refine V_iload_n X 0 dJ6_bitCount_0f7a4_48 rfl rfl ?_
  refine V_bipush X 63 dJ6_bitCount_0f7a4_49 (by decide) ?_
  refine V_iand X dJ6_bitCount_0f7a4_51 ?_
  exact V_iretT X h dJ6_bitCount_0f7a4_52

def f_X1_areFriends (a1 : Int32) (μ : ZMem) : Option (Int32) := bd (lp (σ := Int32) (fun (x1 : Int32) => if 8 ≤ x1 then some (.inr (.inl ())) else bd (f_X11_isIn a1 x1) (fun (x4 : Int32) => jk (some (.inl (x1 + 1))) (fun k6 => if x4 = 0 then k6 else gd (zin x1 8) (if ((a1 &&& ((f_X11_bit x1) ^^^ (-1))) &&& ((μ (0, 13, 0) x1.toNatClampNeg) ^^^ (-1))) = 0 then k6 else some (.inr (.inr 0)))))) FU 0) (fun z => sm z (fun (_ : Unit) => some 1) (fun r0 => some r0))
set_option maxRecDepth 100000 in
set_option maxHeartbeats 4000000 in
theorem M_X1_areFriends {l : Launch} {D : va_G} {y : ZLay} {a1 : Int32}  {μ : ZMem} {r : Int32} (h : f_X1_areFriends a1 μ = some r) : MI l yX1_areFriends wb_X1_areFriends rm_X1_areFriends D y [.ref (zad y (0, 12, 0)), .int a1] μ r μ := by
  unfold f_X1_areFriends at h
  refine MI_of RX1 [(0, .ref (zad y (0, 12, 0))), (1, .int a1)] (by decide) rfl rfl (Nat.le_of_ble_eq_true rfl) rfl ?_
  intro p e s m args below meth c A X
  refine V_iconst X 0 dX1_areFriends_0 (by decide) ?_
  refine V_istore_n X [(2, .int 0), (0, .ref (zad y (0, 12, 0))), (1, .int a1)] dX1_areFriends_1 rfl (by decide) rfl ?_
  refine V_sub X [1, 2, 0] (lv' := [(0, .ref (zad y (0, 12, 0))), (1, .int a1), (2, .int 0)]) rfl ?_
  obtain ⟨zz, hl, h⟩ := bd_some h
  have hk : ∀ (_ : Unit), .inl () = zz → V X μ 44 [] [] := by
    intro _ hzz
    subst hzz
    clear hl
    replace h := sm_l h
    refine V_iconst X 1 dX1_areFriends_44 (by decide) ?_
    exact V_zretR X h (by decide) dX1_areFriends_45
  have hr : ∀ r0, .inr r0 = zz → some r0 = some r := by
    intro r0 hzz
    subst hzz
    exact h
  refine lp_ind (P := fun (x1 : Int32) => V X μ 2 [(0, .ref (zad y (0, 12, 0))), (1, .int a1), (2, .int x1)] []) (fun q z h hz => ?_) hl
  obtain ⟨x1, hq⟩ : ∃ x, x = q := ⟨q, rfl⟩
  subst hq
  show V X μ 2 [(0, .ref (zad y (0, 12, 0))), (1, .int a1), (2, .int x1)] []
  refine V_iload_n X 2 dX1_areFriends_2 rfl rfl ?_
  refine V_bipush X 8 dX1_areFriends_3 (by decide) ?_
  refine V_icmp_ge X (tgt := 44) dX1_areFriends_5 (by decide) (fun b2 => ?_) (fun b2 => ?_)
  · replace h := (if_pos b2).symm.trans h
    refine V_sub X [] (lv' := []) rfl ?_
    cases h
    exact hk () hz
  · replace h := (if_neg b2).symm.trans h
    refine V_iload_n X 1 dX1_areFriends_8 rfl rfl ?_
    refine V_iload_n X 2 dX1_areFriends_9 rfl rfl ?_
    obtain ⟨x4, c3, h⟩ := bd_some h
    refine V_callSNi X (As := [.int a1, .int x1]) (M_X11_isIn c3) ⟨va_cnB (host := "SlotCluster") 2 X.2.2.2.2.2.2.1 (gN wc_X11_isIn) rfl rfl rfl (X.2.2.2.2.2.2.2.2.1 _ (List.mem_of_getElem? wn_RX1_31)) (X.2.2.2.2.2.2.1 (.initialized RX11) (mB win_RX11)) hd_X11_isIn.2 ⟨Nat.le_of_ble_eq_true rfl, Nat.le_of_ble_eq_true rfl⟩, X.2.2.2.2.2.2.1 (.static yX11_isIn) (mB wst_X11_isIn), trivial⟩ rfl (Nat.le_of_ble_eq_true rfl) dX1_areFriends_10 rfl ?_
    refine jk0_el (P := V X μ 38 [(0, .ref (zad y (0, 12, 0))), (1, .int a1), (2, .int x1)] []) h (fun h => ?_) (fun k6 hk6 h => ?_)
    · refine V_inc X 2 1 [(2, .int (x1 + 1)), (0, .ref (zad y (0, 12, 0))), (1, .int a1)] dX1_areFriends_38 rfl (by decide) (by decide) rfl ?_
      refine V_goto X (tgt := 2) dX1_areFriends_41 (by decide) ?_
      refine V_sub X [1, 2, 0] (lv' := [(0, .ref (zad y (0, 12, 0))), (1, .int a1), (2, .int (x1 + 1))]) rfl ?_
      cases h
      exact hz
    · refine V_if_eq X (tgt := 38) dX1_areFriends_13 (by decide) (fun b5 => ?_) (fun b5 => ?_)
      · replace h := (if_pos b5).symm.trans h
        exact hk6 h
      · replace h := (if_neg b5).symm.trans h
        refine V_iload_n X 1 dX1_areFriends_16 rfl rfl ?_
        refine V_iload_n X 2 dX1_areFriends_17 rfl rfl ?_
        refine V_callSNi X (As := [.int x1]) (M_X11_bit) ⟨va_cnB (host := "SlotCluster") 1 X.2.2.2.2.2.2.1 (gN wc_X11_bit) rfl rfl rfl (X.2.2.2.2.2.2.2.2.1 _ (List.mem_of_getElem? wn_RX1_38)) (X.2.2.2.2.2.2.1 (.initialized RX11) (mB win_RX11)) hd_X11_bit.2 ⟨Nat.le_of_ble_eq_true rfl, Nat.le_of_ble_eq_true rfl⟩, X.2.2.2.2.2.2.1 (.static yX11_bit) (mB wst_X11_bit), trivial⟩ rfl (Nat.le_of_ble_eq_true rfl) dX1_areFriends_18 rfl ?_
        refine V_iconst X (-1) dX1_areFriends_21 (by decide) ?_
        refine V_ixor X dX1_areFriends_22 ?_
        refine V_iand X dX1_areFriends_23 ?_
        refine V_aload_n X 0 dX1_areFriends_24 rfl rfl ?_
        refine V_getr X (o := (0, 12, 0)) (i := (0, 13, 0)) (ci := 1) (k := 1) (N := 5) (T := TX1) (C := RX1) ⟨by decide, rfl⟩ rfl rfl rfl (by decide) (mBa inB_X1) (mB wl_RX1_9) dX1_areFriends_25 ?_
        refine V_iload_n X 2 dX1_areFriends_28 rfl rfl ?_
        obtain ⟨g7, h⟩ := gd_some h
        refine V_iald X x1.toNatClampNeg rfl (o := (0, 13, 0)) (n := 8) ⟨by decide, rfl⟩ rfl rfl g7 dX1_areFriends_29 ?_
        refine V_iconst X (-1) dX1_areFriends_30 (by decide) ?_
        refine V_ixor X dX1_areFriends_31 ?_
        refine V_iand X dX1_areFriends_32 ?_
        refine V_if_eq X (tgt := 38) dX1_areFriends_33 (by decide) (fun b8 => ?_) (fun b8 => ?_)
        · replace h := (if_pos b8).symm.trans h
          exact hk6 h
        · replace h := (if_neg b8).symm.trans h
          refine V_iconst X 0 dX1_areFriends_36 (by decide) ?_
          cases h
          have h := hr _ hz
          exact V_zretR X h (by decide) dX1_areFriends_37

def f_X1_fewestToSpare (μ : ZMem) : Option (Int32) := zlt (μ (0, 12, 0) 0) (fun (x1 : Int32) => bd (lp (σ := Int32 × Int32) (fun q => un2 q (fun (x2 : Int32) (x3 : Int32) => if 256 ≤ x3 then some (.inr x2) else zlt (α := Int32) (if (f_J6_bitCount_0f7a4 x2) ≤ (f_J6_bitCount_0f7a4 x3) then 0 else 1) (fun (x7 : Int32) => bd (α := Int32) (if x7 = 0 then some x2 else if (x3 &&& ((μ (0, 12, 0) 0) ^^^ (-1))) = 0 then bd (f_X1_areFriends ((μ (0, 12, 0) 0) &&& (x3 ^^^ (-1))) μ) (fun (x12 : Int32) => if x12 = 0 then some x2 else some x3) else some x2) (fun (x9 : Int32) => some (.inl (x9, (x3 + 1))))))) FU (x1, 0)) (fun (x4 : Int32) => some x4))
set_option maxRecDepth 100000 in
set_option maxHeartbeats 4000000 in
theorem M_X1_fewestToSpare {l : Launch} {D : va_G} {y : ZLay}   {μ : ZMem} {r : Int32} (h : f_X1_fewestToSpare μ = some r) : MI l yX1_fewestToSpare wb_X1_fewestToSpare rm_X1_fewestToSpare D y [.ref (zad y (0, 12, 0))] μ r μ := by
  unfold f_X1_fewestToSpare at h
  refine MI_of RX1 [(0, .ref (zad y (0, 12, 0)))] (by decide) rfl rfl (Nat.le_of_ble_eq_true rfl) rfl ?_
  intro p e s m args below meth c A X
  refine V_aload_n X 0 dX1_fewestToSpare_0 rfl rfl ?_
  refine V_geti X (o := (0, 12, 0)) (ci := 1) (k := 0) (N := 5) (T := TX1) (C := RX1) ⟨by decide, rfl⟩ rfl rfl rfl (by decide) (mBa inB_X1) (mB wl_RX1_30) dX1_fewestToSpare_1 ?_
  refine V_istore_n X [(1, .int (μ (0, 12, 0) 0)), (0, .ref (zad y (0, 12, 0)))] dX1_fewestToSpare_4 rfl (by decide) rfl ?_
  refine zlt_el (P := fun (x1 : Int32) => V X μ 5 [(1, .int x1), (0, .ref (zad y (0, 12, 0)))] []) h (fun x1 h => ?_)
  refine V_iconst X 0 dX1_fewestToSpare_5 (by decide) ?_
  refine V_istore_n X [(2, .int 0), (1, .int x1), (0, .ref (zad y (0, 12, 0)))] dX1_fewestToSpare_6 rfl (by decide) rfl ?_
  refine V_sub X [2, 1, 0] (lv' := [(0, .ref (zad y (0, 12, 0))), (1, .int x1), (2, .int 0)]) rfl ?_
  obtain ⟨x4, hl, h⟩ := bd_some h
  have hk : V X μ 69 [(1, .int x4)] [] := by
    clear hl
    refine V_iload_n X 0 dX1_fewestToSpare_69 rfl rfl ?_
    exact V_iretR X h dX1_fewestToSpare_70
  refine lp_ind (P := fun q => V X μ 7 [(0, .ref (zad y (0, 12, 0))), (1, .int q.1), (2, .int q.2)] []) (fun q z h hz => ?_) hl
  obtain ⟨x2, x3⟩ := q
  replace h := un2_eq h
  show V X μ 7 [(0, .ref (zad y (0, 12, 0))), (1, .int x2), (2, .int x3)] []
  refine V_iload_n X 2 dX1_fewestToSpare_7 rfl rfl ?_
  refine V_sipush X 256 dX1_fewestToSpare_8 (by decide) ?_
  refine V_icmp_ge X (tgt := 69) dX1_fewestToSpare_11 (by decide) (fun b5 => ?_) (fun b5 => ?_)
  · replace h := (if_pos b5).symm.trans h
    refine V_sub X [1] (lv' := [(1, .int x2)]) rfl ?_
    cases h
    obtain rfl := pr1 hz
    exact hk
  · replace h := (if_neg b5).symm.trans h
    refine V_iload_n X 2 dX1_fewestToSpare_14 rfl rfl ?_
    refine V_callSi X (As := [.int x3]) (M_J6_bitCount_0f7a4) (va_cwS 1 X.2.2.2.2.2.2.1 (gS wm_RX1_45 wst_J6_bitCount_0f7a4 win_RJ6 wc_J6_bitCount_0f7a4) rfl rfl rfl hd_J6_bitCount_0f7a4.2 ⟨Nat.le_of_ble_eq_true rfl, Nat.le_of_ble_eq_true rfl⟩) rfl (Nat.le_of_ble_eq_true rfl) dX1_fewestToSpare_15 rfl ?_
    refine V_iload_n X 1 dX1_fewestToSpare_18 rfl rfl ?_
    refine V_callSi X (As := [.int x2]) (M_J6_bitCount_0f7a4) (va_cwS 1 X.2.2.2.2.2.2.1 (gS wm_RX1_45 wst_J6_bitCount_0f7a4 win_RJ6 wc_J6_bitCount_0f7a4) rfl rfl rfl hd_J6_bitCount_0f7a4.2 ⟨Nat.le_of_ble_eq_true rfl, Nat.le_of_ble_eq_true rfl⟩) rfl (Nat.le_of_ble_eq_true rfl) dX1_fewestToSpare_19 rfl ?_
    obtain ⟨x7, h1, h⟩ := zl1_some h
    have hk : V X μ 30 [(0, .ref (zad y (0, 12, 0))), (1, .int x2), (2, .int x3)] [.int x7] := by
      clear h1
      refine V_istore_n X [(3, .int x7), (0, .ref (zad y (0, 12, 0))), (1, .int x2), (2, .int x3)] dX1_fewestToSpare_30 rfl (by decide) rfl ?_
      refine V_iload_n X 0 dX1_fewestToSpare_31 rfl rfl ?_
      obtain ⟨x9, h1, h⟩ := bd_some h
      have hk : V X μ 63 [(0, .ref (zad y (0, 12, 0))), (1, .int x9), (2, .int x3)] [] := by
        clear h1
        refine V_inc X 2 1 [(2, .int (x3 + 1)), (0, .ref (zad y (0, 12, 0))), (1, .int x9)] dX1_fewestToSpare_63 rfl (by decide) (by decide) rfl ?_
        refine V_goto X (tgt := 7) dX1_fewestToSpare_66 (by decide) ?_
        refine V_sub X [1, 2, 0] (lv' := [(0, .ref (zad y (0, 12, 0))), (1, .int x9), (2, .int (x3 + 1))]) rfl ?_
        cases h
        exact hz
      replace h := h1
      clear h1
      refine V_if_eq X (tgt := 63) dX1_fewestToSpare_32 (by decide) (fun b8 => ?_) (fun b8 => ?_)
      · replace h := (if_pos b8).symm.trans h
        refine V_sub X [1, 2, 3] (lv' := [(0, .ref (zad y (0, 12, 0))), (1, .int x2), (2, .int x3)]) rfl ?_
        obtain rfl := so1 h
        exact hk
      · replace h := (if_neg b8).symm.trans h
        refine V_iload_n X 3 dX1_fewestToSpare_35 rfl rfl ?_
        refine V_aload_n X 1 dX1_fewestToSpare_36 rfl rfl ?_
        refine V_geti X (o := (0, 12, 0)) (ci := 1) (k := 0) (N := 5) (T := TX1) (C := RX1) ⟨by decide, rfl⟩ rfl rfl rfl (by decide) (mBa inB_X1) (mB wl_RX1_30) dX1_fewestToSpare_37 ?_
        refine V_iconst X (-1) dX1_fewestToSpare_40 (by decide) ?_
        refine V_ixor X dX1_fewestToSpare_41 ?_
        refine V_iand X dX1_fewestToSpare_42 ?_
        refine V_if_ne X (tgt := 63) dX1_fewestToSpare_43 (by decide) (fun b10 => ?_) (fun b10 => ?_)
        · replace h := (if_neg b10).symm.trans h
          refine V_sub X [1, 2, 3] (lv' := [(0, .ref (zad y (0, 12, 0))), (1, .int x2), (2, .int x3)]) rfl ?_
          obtain rfl := so1 h
          exact hk
        · replace h := (if_pos b10).symm.trans h
          refine V_aload_n X 1 dX1_fewestToSpare_46 rfl rfl ?_
          refine V_aload_n X 1 dX1_fewestToSpare_47 rfl rfl ?_
          refine V_geti X (o := (0, 12, 0)) (ci := 1) (k := 0) (N := 5) (T := TX1) (C := RX1) ⟨by decide, rfl⟩ rfl rfl rfl (by decide) (mBa inB_X1) (mB wl_RX1_30) dX1_fewestToSpare_48 ?_
          refine V_iload_n X 3 dX1_fewestToSpare_51 rfl rfl ?_
          refine V_iconst X (-1) dX1_fewestToSpare_52 (by decide) ?_
          refine V_ixor X dX1_fewestToSpare_53 ?_
          refine V_iand X dX1_fewestToSpare_54 ?_
          obtain ⟨x12, c11, h⟩ := bd_some h
          refine V_callVi X (As := [.int ((μ (0, 12, 0) 0) &&& (x3 ^^^ (-1)))]) (M_X1_areFriends c11) (cwV 1 X.2.2.2.2.2.2.1 (gV wm_RX1_50 wi_X1_areFriends wse_X1_areFriends win_RX1 wc_X1_areFriends) rfl rfl rfl hd_X1_areFriends ⟨Nat.le_of_ble_eq_true rfl, Nat.le_of_ble_eq_true rfl⟩) (b := (0, 12, 0)) ⟨by decide, rfl⟩ rfl rfl rfl rfl (Nat.le_of_ble_eq_true rfl) dX1_fewestToSpare_55 rfl ?_
          refine V_if_eq X (tgt := 63) dX1_fewestToSpare_58 (by decide) (fun b13 => ?_) (fun b13 => ?_)
          · replace h := (if_pos b13).symm.trans h
            refine V_sub X [1, 2, 3] (lv' := [(0, .ref (zad y (0, 12, 0))), (1, .int x2), (2, .int x3)]) rfl ?_
            obtain rfl := so1 h
            exact hk
          · replace h := (if_neg b13).symm.trans h
            refine V_iload_n X 3 dX1_fewestToSpare_61 rfl rfl ?_
            refine V_istore_n X [(1, .int x3), (3, .int x7), (0, .ref (zad y (0, 12, 0))), (2, .int x3)] dX1_fewestToSpare_62 rfl (by decide) rfl ?_
            refine V_sub X [2, 0, 3] (lv' := [(0, .ref (zad y (0, 12, 0))), (1, .int x3), (2, .int x3)]) rfl ?_
            obtain rfl := so1 h
            exact hk
    replace h := h1
    clear h1
    refine V_icmp_ge X (tgt := 29) dX1_fewestToSpare_22 (by decide) (fun b6 => ?_) (fun b6 => ?_)
    · replace h := (if_pos b6).symm.trans h
      refine V_iconst X 0 dX1_fewestToSpare_29 (by decide) ?_
      obtain rfl := pr1 h
      exact hk
    · replace h := (if_neg b6).symm.trans h
      refine V_iconst X 1 dX1_fewestToSpare_25 (by decide) ?_
      refine V_goto X (tgt := 30) dX1_fewestToSpare_26 (by decide) ?_
      obtain rfl := pr1 h
      exact hk

