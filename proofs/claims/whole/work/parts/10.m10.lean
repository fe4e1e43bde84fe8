def f_X12_law (μ : ZMem) : Option (Int32 × ZMem) := bd (f_X12_begins μ) (fun (μ2 : ZMem) => bd2 (f_X12_reads 1 μ2) (fun (x4 : Int32) (μ5 : ZMem) => zlt (α := Int32) (if (μ5 (0, 32, 0) 12) = (-1) then 0 else 1) (fun (x7 : Int32) => zlt (mset μ5 (0, 32, 0) 0 x7) (fun (μ8 : ZMem) => if (μ8 (0, 32, 0) 0) ≤ 0 then zlt (mset μ8 (0, 33, 0) 1 x4) (fun (μ10 : ZMem) => zlt (mset μ10 (0, 33, 0) 2 (μ10 (0, 32, 0) 10)) (fun (μ11 : ZMem) => bd (lp (σ := Int32 × ZMem) (fun q => un2 q (fun (x12 : Int32) (μ13 : ZMem) => if (μ13 (0, 32, 0) 10) ≤ x12 then some (.inr μ13) else gd (zin x12 400) (gd (zin (337 + x12) 737) (zlt (mset μ13 (0, 33, 0) (337 + x12).toNatClampNeg (μ13 (0, 37, 0) x12.toNatClampNeg)) (fun (μ18 : ZMem) => some (.inl ((x12 + 1), μ18))))))) FU (0, μ11)) (fun (μ14 : ZMem) => zlt (mset μ14 (0, 32, 0) 6 0) (fun (μ19 : ZMem) => some (x4, μ19))))) else some (0, μ8)))))
set_option maxRecDepth 100000 in
set_option maxHeartbeats 4000000 in
theorem M_X12_law {l : Launch} {D : va_G} {y : ZLay}   {μ : ZMem} {r : Int32} {μ0 : ZMem} (h : f_X12_law μ = some (r, μ0)) : MI l yX12_law wb_X12_law rm_X12_law D y [.ref (zad y (0, 32, 0))] μ r μ0 := by
  unfold f_X12_law at h
  refine MI_of RX12 [(0, .ref (zad y (0, 32, 0)))] (by decide) rfl rfl (Nat.le_of_ble_eq_true rfl) rfl ?_
  intro p e s m args below meth c A X
  refine V_aload_n X 0 dX12_law_0 rfl rfl ?_
  obtain ⟨μ2, c1, h⟩ := bd_some h
  refine V_callVv X (As := []) (M_X12_begins c1) (cwV 0 X.2.2.2.2.2.2.1 (gV wm_RX12_180 wi_X12_begins wse_X12_begins win_RX12 wc_X12_begins) rfl rfl rfl hd_X12_begins ⟨Nat.le_of_ble_eq_true rfl, Nat.le_of_ble_eq_true rfl⟩) (b := (0, 32, 0)) ⟨by decide, rfl⟩ rfl rfl rfl rfl (Nat.le_of_ble_eq_true rfl) dX12_law_1 rfl ?_
  refine V_aload_n X 0 dX12_law_4 rfl rfl ?_
  refine V_iconst X 1 dX12_law_5 (by decide) ?_
  obtain ⟨x4, μ5, c3, h⟩ := bd2_some h
  refine V_callVi X (As := [.int 1]) (M_X12_reads c3) (cwV 1 X.2.2.2.2.2.2.1 (gV wm_RX12_183 wi_X12_reads wse_X12_reads win_RX12 wc_X12_reads) rfl rfl rfl hd_X12_reads ⟨Nat.le_of_ble_eq_true rfl, Nat.le_of_ble_eq_true rfl⟩) (b := (0, 32, 0)) ⟨by decide, rfl⟩ rfl rfl rfl rfl (Nat.le_of_ble_eq_true rfl) dX12_law_6 rfl ?_
  refine V_istore_n X [(1, .int x4), (0, .ref (zad y (0, 32, 0)))] dX12_law_9 rfl (by decide) rfl ?_
  refine V_aload_n X 1 dX12_law_10 rfl rfl ?_
  refine V_aload_n X 1 dX12_law_11 rfl rfl ?_
  refine V_geti X (o := (0, 32, 0)) (ci := 12) (k := 12) (N := 30) (T := TX12) (C := RX12) ⟨by decide, rfl⟩ rfl rfl rfl (by decide) (mBa inB_X12) (mB wl_RX12_25) dX12_law_12 ?_
  refine V_iconst X (-1) dX12_law_15 (by decide) ?_
  obtain ⟨x7, h1, h⟩ := zl1_some h
  have hk : V X μ5 24 [(0, .ref (zad y (0, 32, 0))), (1, .int x4)] [.int x7, .ref (zad y (0, 32, 0))] := by
    clear h1
    refine V_puti X tyX12 .int (o := (0, 32, 0)) (ci := 12) (k := 0) (N := 30) (T := TX12) (C := RX12) ⟨by decide, rfl⟩ rfl rfl rfl (by decide) (mBa inB_X12) tyX12_ok nmX12 (mB wl_RX12_59) rfl rfl rfl rfl dX12_law_24 ?_
    refine zlt_el (P := fun (μ8 : ZMem) => V X μ8 27 [(0, .ref (zad y (0, 32, 0))), (1, .int x4)] []) h (fun μ8 h => ?_)
    refine V_aload_n X 0 dX12_law_27 rfl rfl ?_
    refine V_geti X (o := (0, 32, 0)) (ci := 12) (k := 0) (N := 30) (T := TX12) (C := RX12) ⟨by decide, rfl⟩ rfl rfl rfl (by decide) (mBa inB_X12) (mB wl_RX12_59) dX12_law_28 ?_
    refine V_if_le X (tgt := 36) dX12_law_31 (by decide) (fun b9 => ?_) (fun b9 => ?_)
    · replace h := (if_pos b9).symm.trans h
      refine V_aload_n X 0 dX12_law_36 rfl rfl ?_
      refine V_getr X (o := (0, 32, 0)) (i := (0, 33, 0)) (ci := 12) (k := 1) (N := 30) (T := TX12) (C := RX12) ⟨by decide, rfl⟩ rfl rfl rfl (by decide) (mBa inB_X12) (mB wl_RX12_7) dX12_law_37 ?_
      refine V_iconst X 1 dX12_law_40 (by decide) ?_
      refine V_iload_n X 1 dX12_law_41 rfl rfl ?_
      refine V_iast X 1 (by decide) (o := (0, 33, 0)) (n := 737) ⟨by decide, rfl⟩ rfl rfl (by decide) dX12_law_42 ?_
      refine zlt_el (P := fun (μ10 : ZMem) => V X μ10 43 [(0, .ref (zad y (0, 32, 0))), (1, .int x4)] []) h (fun μ10 h => ?_)
      refine V_aload_n X 0 dX12_law_43 rfl rfl ?_
      refine V_getr X (o := (0, 32, 0)) (i := (0, 33, 0)) (ci := 12) (k := 1) (N := 30) (T := TX12) (C := RX12) ⟨by decide, rfl⟩ rfl rfl rfl (by decide) (mBa inB_X12) (mB wl_RX12_7) dX12_law_44 ?_
      refine V_iconst X 2 dX12_law_47 (by decide) ?_
      refine V_aload_n X 0 dX12_law_48 rfl rfl ?_
      refine V_geti X (o := (0, 32, 0)) (ci := 12) (k := 10) (N := 30) (T := TX12) (C := RX12) ⟨by decide, rfl⟩ rfl rfl rfl (by decide) (mBa inB_X12) (mB wl_RX12_85) dX12_law_49 ?_
      refine V_iast X 2 (by decide) (o := (0, 33, 0)) (n := 737) ⟨by decide, rfl⟩ rfl rfl (by decide) dX12_law_52 ?_
      refine zlt_el (P := fun (μ11 : ZMem) => V X μ11 53 [(0, .ref (zad y (0, 32, 0))), (1, .int x4)] []) h (fun μ11 h => ?_)
      refine V_iconst X 0 dX12_law_53 (by decide) ?_
      refine V_istore_n X [(2, .int 0), (0, .ref (zad y (0, 32, 0))), (1, .int x4)] dX12_law_54 rfl (by decide) rfl ?_
      refine V_sub X [1, 2, 0] (lv' := [(0, .ref (zad y (0, 32, 0))), (1, .int x4), (2, .int 0)]) rfl ?_
      obtain ⟨μ14, hl, h⟩ := bd_some h
      have hk : V X μ14 85 [(0, .ref (zad y (0, 32, 0))), (1, .int x4)] [] := by
        clear hl
        refine V_aload_n X 0 dX12_law_85 rfl rfl ?_
        refine V_iconst X 0 dX12_law_86 (by decide) ?_
        refine V_puti X tyX12 .int (o := (0, 32, 0)) (ci := 12) (k := 6) (N := 30) (T := TX12) (C := RX12) ⟨by decide, rfl⟩ rfl rfl rfl (by decide) (mBa inB_X12) tyX12_ok nmX12 (mB wl_RX12_190) rfl rfl rfl rfl dX12_law_87 ?_
        refine zlt_el (P := fun (μ19 : ZMem) => V X μ19 90 [(0, .ref (zad y (0, 32, 0))), (1, .int x4)] []) h (fun μ19 h => ?_)
        refine V_iload_n X 1 dX12_law_90 rfl rfl ?_
        exact V_iretW X h dX12_law_91
      refine lp_ind (P := fun q => V X q.2 55 [(0, .ref (zad y (0, 32, 0))), (1, .int x4), (2, .int q.1)] []) (fun q z h hz => ?_) hl
      obtain ⟨x12, μ13⟩ := q
      replace h := un2_eq h
      show V X μ13 55 [(0, .ref (zad y (0, 32, 0))), (1, .int x4), (2, .int x12)] []
      refine V_iload_n X 2 dX12_law_55 rfl rfl ?_
      refine V_aload_n X 0 dX12_law_56 rfl rfl ?_
      refine V_geti X (o := (0, 32, 0)) (ci := 12) (k := 10) (N := 30) (T := TX12) (C := RX12) ⟨by decide, rfl⟩ rfl rfl rfl (by decide) (mBa inB_X12) (mB wl_RX12_85) dX12_law_57 ?_
      refine V_icmp_ge X (tgt := 85) dX12_law_60 (by decide) (fun b15 => ?_) (fun b15 => ?_)
      · replace h := (if_pos b15).symm.trans h
        refine V_sub X [0, 1] (lv' := [(0, .ref (zad y (0, 32, 0))), (1, .int x4)]) rfl ?_
        cases h
        obtain rfl := pr1 hz
        exact hk
      · replace h := (if_neg b15).symm.trans h
        refine V_aload_n X 0 dX12_law_63 rfl rfl ?_
        refine V_getr X (o := (0, 32, 0)) (i := (0, 33, 0)) (ci := 12) (k := 1) (N := 30) (T := TX12) (C := RX12) ⟨by decide, rfl⟩ rfl rfl rfl (by decide) (mBa inB_X12) (mB wl_RX12_7) dX12_law_64 ?_
        refine V_sipush X 337 dX12_law_67 (by decide) ?_
        refine V_iload_n X 2 dX12_law_70 rfl rfl ?_
        refine V_iadd X dX12_law_71 ?_
        refine V_aload_n X 0 dX12_law_72 rfl rfl ?_
        refine V_getr X (o := (0, 32, 0)) (i := (0, 37, 0)) (ci := 12) (k := 7) (N := 30) (T := TX12) (C := RX12) ⟨by decide, rfl⟩ rfl rfl rfl (by decide) (mBa inB_X12) (mB wl_RX12_22) dX12_law_73 ?_
        refine V_iload_n X 2 dX12_law_76 rfl rfl ?_
        obtain ⟨g16, h⟩ := gd_some h
        refine V_iald X x12.toNatClampNeg rfl (o := (0, 37, 0)) (n := 400) ⟨by decide, rfl⟩ rfl rfl g16 dX12_law_77 ?_
        obtain ⟨g17, h⟩ := gd_some h
        refine V_iast X (337 + x12).toNatClampNeg rfl (o := (0, 33, 0)) (n := 737) ⟨by decide, rfl⟩ rfl rfl g17 dX12_law_78 ?_
        refine zlt_el (P := fun (μ18 : ZMem) => V X μ18 79 [(0, .ref (zad y (0, 32, 0))), (1, .int x4), (2, .int x12)] []) h (fun μ18 h => ?_)
        refine V_inc X 2 1 [(2, .int (x12 + 1)), (0, .ref (zad y (0, 32, 0))), (1, .int x4)] dX12_law_79 rfl (by decide) (by decide) rfl ?_
        refine V_goto X (tgt := 55) dX12_law_82 (by decide) ?_
        refine V_sub X [1, 2, 0] (lv' := [(0, .ref (zad y (0, 32, 0))), (1, .int x4), (2, .int (x12 + 1))]) rfl ?_
        cases h
        exact hz
    · replace h := (if_neg b9).symm.trans h
      refine V_iconst X 0 dX12_law_34 (by decide) ?_
      exact V_iretW X h dX12_law_35
  replace h := h1
  clear h1
  refine V_icmp_eq X (tgt := 23) dX12_law_16 (by decide) (fun b6 => ?_) (fun b6 => ?_)
  · replace h := (if_pos b6).symm.trans h
    refine V_iconst X 0 dX12_law_23 (by decide) ?_
    refine V_sub X [1, 0] (lv' := [(0, .ref (zad y (0, 32, 0))), (1, .int x4)]) rfl ?_
    obtain rfl := pr1 h
    exact hk
  · replace h := (if_neg b6).symm.trans h
    refine V_iconst X 1 dX12_law_19 (by decide) ?_
    refine V_goto X (tgt := 24) dX12_law_20 (by decide) ?_
    refine V_sub X [1, 0] (lv' := [(0, .ref (zad y (0, 32, 0))), (1, .int x4)]) rfl ?_
    obtain rfl := pr1 h
    exact hk

def f_X12_fault (μ : ZMem) : Option (Int32 × ZMem) := zlt (mset μ (0, 32, 0) 0 0) (fun (μ1 : ZMem) => some ((μ1 (0, 32, 0) 12), μ1))
set_option maxRecDepth 100000 in
set_option maxHeartbeats 4000000 in
theorem M_X12_fault {l : Launch} {D : va_G} {y : ZLay}   {μ : ZMem} {r : Int32} {μ0 : ZMem} (h : f_X12_fault μ = some (r, μ0)) : MI l yX12_fault wb_X12_fault rm_X12_fault D y [.ref (zad y (0, 32, 0))] μ r μ0 := by
  unfold f_X12_fault at h
  refine MI_of RX12 [(0, .ref (zad y (0, 32, 0)))] (by decide) rfl rfl (Nat.le_of_ble_eq_true rfl) rfl ?_
  intro p e s m args below meth c A X
  refine V_aload_n X 0 dX12_fault_0 rfl rfl ?_
  refine V_iconst X 0 dX12_fault_1 (by decide) ?_
  refine V_puti X tyX12 .int (o := (0, 32, 0)) (ci := 12) (k := 0) (N := 30) (T := TX12) (C := RX12) ⟨by decide, rfl⟩ rfl rfl rfl (by decide) (mBa inB_X12) tyX12_ok nmX12 (mB wl_RX12_59) rfl rfl rfl rfl dX12_fault_2 ?_
  refine zlt_el (P := fun (μ1 : ZMem) => V X μ1 5 [(0, .ref (zad y (0, 32, 0)))] []) h (fun μ1 h => ?_)
  refine V_aload_n X 0 dX12_fault_5 rfl rfl ?_
  refine V_geti X (o := (0, 32, 0)) (ci := 12) (k := 12) (N := 30) (T := TX12) (C := RX12) ⟨by decide, rfl⟩ rfl rfl rfl (by decide) (mBa inB_X12) (mB wl_RX12_25) dX12_fault_6 ?_
  exact V_iretW X h dX12_fault_9

def f_X12_asks (a1 : Int32) (μ : ZMem) : Option (ZMem) := bd (f_X12_of a1 1 μ) (fun (x2 : Int32) => bd (f_X12_of a1 2 μ) (fun (x4 : Int32) => zlt (x2 + x4) (fun (x5 : Int32) => bd (f_X12_of a1 9 μ) (fun (x7 : Int32) => bd (α := Int32) (if x7 = 1 then bd (f_X12_of a1 10 μ) (fun (x11 : Int32) => some x11) else some 0) (fun (x9 : Int32) => zlt (mset μ (0, 32, 0) 16 x9) (fun (μ12 : ZMem) => bd (f_X12_of a1 8 μ12) (fun (x14 : Int32) => zlt (mset μ12 (0, 32, 0) 17 x14) (fun (μ15 : ZMem) => zlt (mset μ15 (0, 32, 0) 18 0) (fun (μ16 : ZMem) => zlt (mset μ16 (0, 38, 0) 0 a1) (fun (μ17 : ZMem) => zlt (mset μ17 (0, 38, 0) 1 (f_X12_greater 0 x5)) (fun (μ18 : ZMem) => zlt (mset μ18 (0, 38, 0) 2 (f_X12_greater 0 (-x5))) (fun (μ19 : ZMem) => bd (f_X12_of a1 5 μ19) (fun (x21 : Int32) => bd (f_X12_bits x21) (fun (x23 : Int32) => zlt (mset μ19 (0, 38, 0) 3 x23) (fun (μ24 : ZMem) => bd (f_X12_of a1 6 μ24) (fun (x26 : Int32) => zlt (mset μ24 (0, 38, 0) 4 x26) (fun (μ27 : ZMem) => bd (f_X12_of a1 7 μ27) (fun (x29 : Int32) => zlt (mset μ27 (0, 38, 0) 5 x29) (fun (μ30 : ZMem) => bd (f_X12_of a1 4 μ30) (fun (x32 : Int32) => zlt (mset μ30 (0, 38, 0) 6 x32) (fun (μ33 : ZMem) => bd (f_X12_inState 2 μ33) (fun (x35 : Int32) => zlt (α := Int32) (if (x35 &&& ((1 <<< (a1 &&& 31)) ^^^ (-1))) = 0 then 1 else 0) (fun (x37 : Int32) => gd (zbo x37) (zlt (mset μ33 (0, 32, 0) 15 x37) (fun (μ39 : ZMem) => zlt (μ39 (0, 32, 0) 12) (fun (x40 : Int32) => zlt (mset μ39 (0, 32, 0) 12 (-1)) (fun (μ41 : ZMem) => zlt (mset μ41 (0, 32, 0) 9 337) (fun (μ42 : ZMem) => zlt (α := Int32) (if 1 ≤ (μ42 (0, 33, 0) 1) then (μ42 (0, 33, 0) 2) else 0) (fun (x44 : Int32) => zlt (mset μ42 (0, 32, 0) 10 x44) (fun (μ45 : ZMem) => zlt (mset μ45 (0, 32, 0) 11 0) (fun (μ46 : ZMem) => zlt (mset μ46 (0, 32, 0) 13 0) (fun (μ47 : ZMem) => bd2 (f_X12_reads 1 μ47) (fun (x49 : Int32) (μ50 : ZMem) => zlt (mset μ50 (0, 32, 0) 12 x40) (fun (μ51 : ZMem) => bd (f_X12_of a1 9 μ51) (fun (x53 : Int32) => zlt (α := Int32) (if x53 = 2 then 100 else (f_X12_lesser 100 (μ51 (0, 32, 0) 17))) (fun (x55 : Int32) => zlt (mset μ51 (0, 32, 0) 17 x55) (fun (μ56 : ZMem) => some μ56)))))))))))))))))))))))))))))))))))))
set_option maxRecDepth 100000 in
set_option maxHeartbeats 4000000 in
theorem M_X12_asks {l : Launch} {D : va_G} {y : ZLay} {a1 : Int32}  {μ : ZMem} {μ0 : ZMem} (h : f_X12_asks a1 μ = some μ0) : MV l yX12_asks wb_X12_asks rm_X12_asks D y [.ref (zad y (0, 32, 0)), .int a1] μ μ0 := by
  unfold f_X12_asks at h
  refine MV_of RX12 [(0, .ref (zad y (0, 32, 0))), (1, .int a1)] (by decide) rfl rfl (Nat.le_of_ble_eq_true rfl) rfl ?_
  intro p e s m args below meth c A X
  refine V_aload_n X 0 dX12_asks_0 rfl rfl ?_
  refine V_iload_n X 1 dX12_asks_1 rfl rfl ?_
  refine V_iconst X 1 dX12_asks_2 (by decide) ?_
  obtain ⟨x2, c1, h⟩ := bd_some h
  refine V_callVi X (As := [.int a1, .int 1]) (M_X12_of c1) (cwV 2 X.2.2.2.2.2.2.1 (gV wm_RX12_66 wi_X12_of wse_X12_of win_RX12 wc_X12_of) rfl rfl rfl hd_X12_of ⟨Nat.le_of_ble_eq_true rfl, Nat.le_of_ble_eq_true rfl⟩) (b := (0, 32, 0)) ⟨by decide, rfl⟩ rfl rfl rfl rfl (Nat.le_of_ble_eq_true rfl) dX12_asks_3 rfl ?_
  refine V_aload_n X 0 dX12_asks_6 rfl rfl ?_
  refine V_iload_n X 1 dX12_asks_7 rfl rfl ?_
  refine V_iconst X 2 dX12_asks_8 (by decide) ?_
  obtain ⟨x4, c3, h⟩ := bd_some h
  refine V_callVi X (As := [.int a1, .int 2]) (M_X12_of c3) (cwV 2 X.2.2.2.2.2.2.1 (gV wm_RX12_66 wi_X12_of wse_X12_of win_RX12 wc_X12_of) rfl rfl rfl hd_X12_of ⟨Nat.le_of_ble_eq_true rfl, Nat.le_of_ble_eq_true rfl⟩) (b := (0, 32, 0)) ⟨by decide, rfl⟩ rfl rfl rfl rfl (Nat.le_of_ble_eq_true rfl) dX12_asks_9 rfl ?_
  refine V_iadd X dX12_asks_12 ?_
  refine V_istore_n X [(2, .int (x2 + x4)), (0, .ref (zad y (0, 32, 0))), (1, .int a1)] dX12_asks_13 rfl (by decide) rfl ?_
  refine zlt_el (P := fun (x5 : Int32) => V X μ 14 [(2, .int x5), (0, .ref (zad y (0, 32, 0))), (1, .int a1)] []) h (fun x5 h => ?_)
  refine V_aload_n X 1 dX12_asks_14 rfl rfl ?_
  refine V_aload_n X 1 dX12_asks_15 rfl rfl ?_
  refine V_iload_n X 2 dX12_asks_16 rfl rfl ?_
  refine V_bipush X 9 dX12_asks_17 (by decide) ?_
  obtain ⟨x7, c6, h⟩ := bd_some h
  refine V_callVi X (As := [.int a1, .int 9]) (M_X12_of c6) (cwV 2 X.2.2.2.2.2.2.1 (gV wm_RX12_66 wi_X12_of wse_X12_of win_RX12 wc_X12_of) rfl rfl rfl hd_X12_of ⟨Nat.le_of_ble_eq_true rfl, Nat.le_of_ble_eq_true rfl⟩) (b := (0, 32, 0)) ⟨by decide, rfl⟩ rfl rfl rfl rfl (Nat.le_of_ble_eq_true rfl) dX12_asks_19 rfl ?_
  refine V_iconst X 1 dX12_asks_22 (by decide) ?_
  obtain ⟨x9, h1, h⟩ := bd_some h
  have hk : V X μ 37 [(0, .ref (zad y (0, 32, 0))), (1, .int a1), (2, .int x5)] [.int x9, .ref (zad y (0, 32, 0))] := by
    clear h1
    refine V_puti X tyX12 .int (o := (0, 32, 0)) (ci := 12) (k := 16) (N := 30) (T := TX12) (C := RX12) ⟨by decide, rfl⟩ rfl rfl rfl (by decide) (mBa inB_X12) tyX12_ok nmX12 (mB wl_RX12_240) rfl rfl rfl rfl dX12_asks_37 ?_
    refine zlt_el (P := fun (μ12 : ZMem) => V X μ12 40 [(0, .ref (zad y (0, 32, 0))), (1, .int a1), (2, .int x5)] []) h (fun μ12 h => ?_)
    refine V_aload_n X 0 dX12_asks_40 rfl rfl ?_
    refine V_aload_n X 0 dX12_asks_41 rfl rfl ?_
    refine V_iload_n X 1 dX12_asks_42 rfl rfl ?_
    refine V_bipush X 8 dX12_asks_43 (by decide) ?_
    obtain ⟨x14, c13, h⟩ := bd_some h
    refine V_callVi X (As := [.int a1, .int 8]) (M_X12_of c13) (cwV 2 X.2.2.2.2.2.2.1 (gV wm_RX12_66 wi_X12_of wse_X12_of win_RX12 wc_X12_of) rfl rfl rfl hd_X12_of ⟨Nat.le_of_ble_eq_true rfl, Nat.le_of_ble_eq_true rfl⟩) (b := (0, 32, 0)) ⟨by decide, rfl⟩ rfl rfl rfl rfl (Nat.le_of_ble_eq_true rfl) dX12_asks_45 rfl ?_
    refine V_puti X tyX12 .int (o := (0, 32, 0)) (ci := 12) (k := 17) (N := 30) (T := TX12) (C := RX12) ⟨by decide, rfl⟩ rfl rfl rfl (by decide) (mBa inB_X12) tyX12_ok nmX12 (mB wl_RX12_242) rfl rfl rfl rfl dX12_asks_48 ?_
    refine zlt_el (P := fun (μ15 : ZMem) => V X μ15 51 [(0, .ref (zad y (0, 32, 0))), (1, .int a1), (2, .int x5)] []) h (fun μ15 h => ?_)
    refine V_aload_n X 0 dX12_asks_51 rfl rfl ?_
    refine V_iconst X 0 dX12_asks_52 (by decide) ?_
    refine V_puti X tyX12 .int (o := (0, 32, 0)) (ci := 12) (k := 18) (N := 30) (T := TX12) (C := RX12) ⟨by decide, rfl⟩ rfl rfl rfl (by decide) (mBa inB_X12) tyX12_ok nmX12 (mB wl_RX12_245) rfl rfl rfl rfl dX12_asks_53 ?_
    refine zlt_el (P := fun (μ16 : ZMem) => V X μ16 56 [(0, .ref (zad y (0, 32, 0))), (1, .int a1), (2, .int x5)] []) h (fun μ16 h => ?_)
    refine V_aload_n X 0 dX12_asks_56 rfl rfl ?_
    refine V_getr X (o := (0, 32, 0)) (i := (0, 38, 0)) (ci := 12) (k := 14) (N := 30) (T := TX12) (C := RX12) ⟨by decide, rfl⟩ rfl rfl rfl (by decide) (mBa inB_X12) (mB wl_RX12_29) dX12_asks_57 ?_
    refine V_iconst X 0 dX12_asks_60 (by decide) ?_
    refine V_iload_n X 1 dX12_asks_61 rfl rfl ?_
    refine V_iast X 0 (by decide) (o := (0, 38, 0)) (n := 7) ⟨by decide, rfl⟩ rfl rfl (by decide) dX12_asks_62 ?_
    refine zlt_el (P := fun (μ17 : ZMem) => V X μ17 63 [(0, .ref (zad y (0, 32, 0))), (1, .int a1), (2, .int x5)] []) h (fun μ17 h => ?_)
    refine V_aload_n X 0 dX12_asks_63 rfl rfl ?_
    refine V_getr X (o := (0, 32, 0)) (i := (0, 38, 0)) (ci := 12) (k := 14) (N := 30) (T := TX12) (C := RX12) ⟨by decide, rfl⟩ rfl rfl rfl (by decide) (mBa inB_X12) (mB wl_RX12_29) dX12_asks_64 ?_
    refine V_iconst X 1 dX12_asks_67 (by decide) ?_
    refine V_iconst X 0 dX12_asks_68 (by decide) ?_
    refine V_iload_n X 2 dX12_asks_69 rfl rfl ?_
    refine V_callSi X (As := [.int 0, .int x5]) (M_X12_greater) (va_cwS 2 X.2.2.2.2.2.2.1 (gS wm_RX12_73 wst_X12_greater win_RX12 wc_X12_greater) rfl rfl rfl hd_X12_greater.2 ⟨Nat.le_of_ble_eq_true rfl, Nat.le_of_ble_eq_true rfl⟩) rfl (Nat.le_of_ble_eq_true rfl) dX12_asks_70 rfl ?_
    refine V_iast X 1 (by decide) (o := (0, 38, 0)) (n := 7) ⟨by decide, rfl⟩ rfl rfl (by decide) dX12_asks_73 ?_
    refine zlt_el (P := fun (μ18 : ZMem) => V X μ18 74 [(0, .ref (zad y (0, 32, 0))), (1, .int a1), (2, .int x5)] []) h (fun μ18 h => ?_)
    refine V_aload_n X 0 dX12_asks_74 rfl rfl ?_
    refine V_getr X (o := (0, 32, 0)) (i := (0, 38, 0)) (ci := 12) (k := 14) (N := 30) (T := TX12) (C := RX12) ⟨by decide, rfl⟩ rfl rfl rfl (by decide) (mBa inB_X12) (mB wl_RX12_29) dX12_asks_75 ?_
    refine V_iconst X 2 dX12_asks_78 (by decide) ?_
    refine V_iconst X 0 dX12_asks_79 (by decide) ?_
    refine V_iload_n X 2 dX12_asks_80 rfl rfl ?_
    refine V_ineg X dX12_asks_81 ?_
    refine V_callSi X (As := [.int 0, .int (-x5)]) (M_X12_greater) (va_cwS 2 X.2.2.2.2.2.2.1 (gS wm_RX12_73 wst_X12_greater win_RX12 wc_X12_greater) rfl rfl rfl hd_X12_greater.2 ⟨Nat.le_of_ble_eq_true rfl, Nat.le_of_ble_eq_true rfl⟩) rfl (Nat.le_of_ble_eq_true rfl) dX12_asks_82 rfl ?_
    refine V_iast X 2 (by decide) (o := (0, 38, 0)) (n := 7) ⟨by decide, rfl⟩ rfl rfl (by decide) dX12_asks_85 ?_
    refine zlt_el (P := fun (μ19 : ZMem) => V X μ19 86 [(0, .ref (zad y (0, 32, 0))), (1, .int a1), (2, .int x5)] []) h (fun μ19 h => ?_)
    refine V_aload_n X 0 dX12_asks_86 rfl rfl ?_
    refine V_getr X (o := (0, 32, 0)) (i := (0, 38, 0)) (ci := 12) (k := 14) (N := 30) (T := TX12) (C := RX12) ⟨by decide, rfl⟩ rfl rfl rfl (by decide) (mBa inB_X12) (mB wl_RX12_29) dX12_asks_87 ?_
    refine V_iconst X 3 dX12_asks_90 (by decide) ?_
    refine V_aload_n X 0 dX12_asks_91 rfl rfl ?_
    refine V_iload_n X 1 dX12_asks_92 rfl rfl ?_
    refine V_iconst X 5 dX12_asks_93 (by decide) ?_
    obtain ⟨x21, c20, h⟩ := bd_some h
    refine V_callVi X (As := [.int a1, .int 5]) (M_X12_of c20) (cwV 2 X.2.2.2.2.2.2.1 (gV wm_RX12_66 wi_X12_of wse_X12_of win_RX12 wc_X12_of) rfl rfl rfl hd_X12_of ⟨Nat.le_of_ble_eq_true rfl, Nat.le_of_ble_eq_true rfl⟩) (b := (0, 32, 0)) ⟨by decide, rfl⟩ rfl rfl rfl rfl (Nat.le_of_ble_eq_true rfl) dX12_asks_94 rfl ?_
    obtain ⟨x23, c22, h⟩ := bd_some h
    refine V_callSi X (As := [.int x21]) (M_X12_bits c22) (va_cwS 1 X.2.2.2.2.2.2.1 (gS wm_RX12_247 wst_X12_bits win_RX12 wc_X12_bits) rfl rfl rfl hd_X12_bits.2 ⟨Nat.le_of_ble_eq_true rfl, Nat.le_of_ble_eq_true rfl⟩) rfl (Nat.le_of_ble_eq_true rfl) dX12_asks_97 rfl ?_
    refine V_iast X 3 (by decide) (o := (0, 38, 0)) (n := 7) ⟨by decide, rfl⟩ rfl rfl (by decide) dX12_asks_100 ?_
    refine zlt_el (P := fun (μ24 : ZMem) => V X μ24 101 [(0, .ref (zad y (0, 32, 0))), (1, .int a1), (2, .int x5)] []) h (fun μ24 h => ?_)
    refine V_aload_n X 0 dX12_asks_101 rfl rfl ?_
    refine V_getr X (o := (0, 32, 0)) (i := (0, 38, 0)) (ci := 12) (k := 14) (N := 30) (T := TX12) (C := RX12) ⟨by decide, rfl⟩ rfl rfl rfl (by decide) (mBa inB_X12) (mB wl_RX12_29) dX12_asks_102 ?_
    refine V_iconst X 4 dX12_asks_105 (by decide) ?_
    refine V_aload_n X 0 dX12_asks_106 rfl rfl ?_
    refine V_iload_n X 1 dX12_asks_107 rfl rfl ?_
    refine V_bipush X 6 dX12_asks_108 (by decide) ?_
    obtain ⟨x26, c25, h⟩ := bd_some h
    refine V_callVi X (As := [.int a1, .int 6]) (M_X12_of c25) (cwV 2 X.2.2.2.2.2.2.1 (gV wm_RX12_66 wi_X12_of wse_X12_of win_RX12 wc_X12_of) rfl rfl rfl hd_X12_of ⟨Nat.le_of_ble_eq_true rfl, Nat.le_of_ble_eq_true rfl⟩) (b := (0, 32, 0)) ⟨by decide, rfl⟩ rfl rfl rfl rfl (Nat.le_of_ble_eq_true rfl) dX12_asks_110 rfl ?_
    refine V_iast X 4 (by decide) (o := (0, 38, 0)) (n := 7) ⟨by decide, rfl⟩ rfl rfl (by decide) dX12_asks_113 ?_
    refine zlt_el (P := fun (μ27 : ZMem) => V X μ27 114 [(0, .ref (zad y (0, 32, 0))), (1, .int a1), (2, .int x5)] []) h (fun μ27 h => ?_)
    refine V_aload_n X 0 dX12_asks_114 rfl rfl ?_
    refine V_getr X (o := (0, 32, 0)) (i := (0, 38, 0)) (ci := 12) (k := 14) (N := 30) (T := TX12) (C := RX12) ⟨by decide, rfl⟩ rfl rfl rfl (by decide) (mBa inB_X12) (mB wl_RX12_29) dX12_asks_115 ?_
    refine V_iconst X 5 dX12_asks_118 (by decide) ?_
    refine V_aload_n X 0 dX12_asks_119 rfl rfl ?_
    refine V_iload_n X 1 dX12_asks_120 rfl rfl ?_
    refine V_bipush X 7 dX12_asks_121 (by decide) ?_
    obtain ⟨x29, c28, h⟩ := bd_some h
    refine V_callVi X (As := [.int a1, .int 7]) (M_X12_of c28) (cwV 2 X.2.2.2.2.2.2.1 (gV wm_RX12_66 wi_X12_of wse_X12_of win_RX12 wc_X12_of) rfl rfl rfl hd_X12_of ⟨Nat.le_of_ble_eq_true rfl, Nat.le_of_ble_eq_true rfl⟩) (b := (0, 32, 0)) ⟨by decide, rfl⟩ rfl rfl rfl rfl (Nat.le_of_ble_eq_true rfl) dX12_asks_123 rfl ?_
    refine V_iast X 5 (by decide) (o := (0, 38, 0)) (n := 7) ⟨by decide, rfl⟩ rfl rfl (by decide) dX12_asks_126 ?_
    refine zlt_el (P := fun (μ30 : ZMem) => V X μ30 127 [(0, .ref (zad y (0, 32, 0))), (1, .int a1), (2, .int x5)] []) h (fun μ30 h => ?_)
    refine V_aload_n X 0 dX12_asks_127 rfl rfl ?_
    refine V_getr X (o := (0, 32, 0)) (i := (0, 38, 0)) (ci := 12) (k := 14) (N := 30) (T := TX12) (C := RX12) ⟨by decide, rfl⟩ rfl rfl rfl (by decide) (mBa inB_X12) (mB wl_RX12_29) dX12_asks_128 ?_
    refine V_bipush X 6 dX12_asks_131 (by decide) ?_
    refine V_aload_n X 0 dX12_asks_133 rfl rfl ?_
    refine V_iload_n X 1 dX12_asks_134 rfl rfl ?_
    refine V_iconst X 4 dX12_asks_135 (by decide) ?_
    obtain ⟨x32, c31, h⟩ := bd_some h
    refine V_callVi X (As := [.int a1, .int 4]) (M_X12_of c31) (cwV 2 X.2.2.2.2.2.2.1 (gV wm_RX12_66 wi_X12_of wse_X12_of win_RX12 wc_X12_of) rfl rfl rfl hd_X12_of ⟨Nat.le_of_ble_eq_true rfl, Nat.le_of_ble_eq_true rfl⟩) (b := (0, 32, 0)) ⟨by decide, rfl⟩ rfl rfl rfl rfl (Nat.le_of_ble_eq_true rfl) dX12_asks_136 rfl ?_
    refine V_iast X 6 (by decide) (o := (0, 38, 0)) (n := 7) ⟨by decide, rfl⟩ rfl rfl (by decide) dX12_asks_139 ?_
    refine zlt_el (P := fun (μ33 : ZMem) => V X μ33 140 [(0, .ref (zad y (0, 32, 0))), (1, .int a1), (2, .int x5)] []) h (fun μ33 h => ?_)
    refine V_aload_n X 0 dX12_asks_140 rfl rfl ?_
    refine V_aload_n X 0 dX12_asks_141 rfl rfl ?_
    refine V_iconst X 2 dX12_asks_142 (by decide) ?_
    obtain ⟨x35, c34, h⟩ := bd_some h
    refine V_callVi X (As := [.int 2]) (M_X12_inState c34) (cwV 1 X.2.2.2.2.2.2.1 (gV wm_RX12_250 wi_X12_inState wse_X12_inState win_RX12 wc_X12_inState) rfl rfl rfl hd_X12_inState ⟨Nat.le_of_ble_eq_true rfl, Nat.le_of_ble_eq_true rfl⟩) (b := (0, 32, 0)) ⟨by decide, rfl⟩ rfl rfl rfl rfl (Nat.le_of_ble_eq_true rfl) dX12_asks_143 rfl ?_
    refine V_iconst X 1 dX12_asks_146 (by decide) ?_
    refine V_iload_n X 1 dX12_asks_147 rfl rfl ?_
    refine V_ishl X dX12_asks_148 ?_
    refine V_iconst X (-1) dX12_asks_149 (by decide) ?_
    refine V_ixor X dX12_asks_150 ?_
    refine V_iand X dX12_asks_151 ?_
    obtain ⟨x37, h1, h⟩ := zl1_some h
    have hk : V X μ33 160 [(0, .ref (zad y (0, 32, 0))), (1, .int a1)] [.int x37, .ref (zad y (0, 32, 0))] := by
      clear h1
      obtain ⟨g38, h⟩ := gd_some h
      refine V_puti X tyX12 .boolean (o := (0, 32, 0)) (ci := 12) (k := 15) (N := 30) (T := TX12) (C := RX12) ⟨by decide, rfl⟩ rfl rfl rfl (by decide) (mBa inB_X12) tyX12_ok nmX12 (mB wl_RX12_208) rfl rfl (zbo_n g38) (zbo_f g38) dX12_asks_160 ?_
      refine zlt_el (P := fun (μ39 : ZMem) => V X μ39 163 [(0, .ref (zad y (0, 32, 0))), (1, .int a1)] []) h (fun μ39 h => ?_)
      refine V_aload_n X 0 dX12_asks_163 rfl rfl ?_
      refine V_geti X (o := (0, 32, 0)) (ci := 12) (k := 12) (N := 30) (T := TX12) (C := RX12) ⟨by decide, rfl⟩ rfl rfl rfl (by decide) (mBa inB_X12) (mB wl_RX12_25) dX12_asks_164 ?_
      refine V_istore_n X [(3, .int (μ39 (0, 32, 0) 12)), (0, .ref (zad y (0, 32, 0))), (1, .int a1)] dX12_asks_167 rfl (by decide) rfl ?_
      refine zlt_el (P := fun (x40 : Int32) => V X μ39 168 [(3, .int x40), (0, .ref (zad y (0, 32, 0))), (1, .int a1)] []) h (fun x40 h => ?_)
      refine V_aload_n X 1 dX12_asks_168 rfl rfl ?_
      refine V_iconst X (-1) dX12_asks_169 (by decide) ?_
      refine V_puti X tyX12 .int (o := (0, 32, 0)) (ci := 12) (k := 12) (N := 30) (T := TX12) (C := RX12) ⟨by decide, rfl⟩ rfl rfl rfl (by decide) (mBa inB_X12) tyX12_ok nmX12 (mB wl_RX12_25) rfl rfl rfl rfl dX12_asks_170 ?_
      refine zlt_el (P := fun (μ41 : ZMem) => V X μ41 173 [(3, .int x40), (0, .ref (zad y (0, 32, 0))), (1, .int a1)] []) h (fun μ41 h => ?_)
      refine V_aload_n X 1 dX12_asks_173 rfl rfl ?_
      refine V_sipush X 337 dX12_asks_174 (by decide) ?_
      refine V_puti X tyX12 .int (o := (0, 32, 0)) (ci := 12) (k := 9) (N := 30) (T := TX12) (C := RX12) ⟨by decide, rfl⟩ rfl rfl rfl (by decide) (mBa inB_X12) tyX12_ok nmX12 (mB wl_RX12_79) rfl rfl rfl rfl dX12_asks_177 ?_
      refine zlt_el (P := fun (μ42 : ZMem) => V X μ42 180 [(3, .int x40), (0, .ref (zad y (0, 32, 0))), (1, .int a1)] []) h (fun μ42 h => ?_)
      refine V_aload_n X 1 dX12_asks_180 rfl rfl ?_
      refine V_aload_n X 1 dX12_asks_181 rfl rfl ?_
      refine V_getr X (o := (0, 32, 0)) (i := (0, 33, 0)) (ci := 12) (k := 1) (N := 30) (T := TX12) (C := RX12) ⟨by decide, rfl⟩ rfl rfl rfl (by decide) (mBa inB_X12) (mB wl_RX12_7) dX12_asks_182 ?_
      refine V_iconst X 1 dX12_asks_185 (by decide) ?_
      refine V_iald X 1 (by decide) (o := (0, 33, 0)) (n := 737) ⟨by decide, rfl⟩ rfl rfl (by decide) dX12_asks_186 ?_
      refine V_iconst X 1 dX12_asks_187 (by decide) ?_
      obtain ⟨x44, h1, h⟩ := zl1_some h
      have hk : V X μ42 201 [(0, .ref (zad y (0, 32, 0))), (1, .int a1), (3, .int x40)] [.int x44, .ref (zad y (0, 32, 0))] := by
        clear h1
        refine V_puti X tyX12 .int (o := (0, 32, 0)) (ci := 12) (k := 10) (N := 30) (T := TX12) (C := RX12) ⟨by decide, rfl⟩ rfl rfl rfl (by decide) (mBa inB_X12) tyX12_ok nmX12 (mB wl_RX12_85) rfl rfl rfl rfl dX12_asks_201 ?_
        refine zlt_el (P := fun (μ45 : ZMem) => V X μ45 204 [(0, .ref (zad y (0, 32, 0))), (1, .int a1), (3, .int x40)] []) h (fun μ45 h => ?_)
        refine V_aload_n X 0 dX12_asks_204 rfl rfl ?_
        refine V_iconst X 0 dX12_asks_205 (by decide) ?_
        refine V_puti X tyX12 .int (o := (0, 32, 0)) (ci := 12) (k := 11) (N := 30) (T := TX12) (C := RX12) ⟨by decide, rfl⟩ rfl rfl rfl (by decide) (mBa inB_X12) tyX12_ok nmX12 (mB wl_RX12_82) rfl rfl rfl rfl dX12_asks_206 ?_
        refine zlt_el (P := fun (μ46 : ZMem) => V X μ46 209 [(0, .ref (zad y (0, 32, 0))), (1, .int a1), (3, .int x40)] []) h (fun μ46 h => ?_)
        refine V_aload_n X 0 dX12_asks_209 rfl rfl ?_
        refine V_iconst X 0 dX12_asks_210 (by decide) ?_
        refine V_puti X tyX12 .int (o := (0, 32, 0)) (ci := 12) (k := 13) (N := 30) (T := TX12) (C := RX12) ⟨by decide, rfl⟩ rfl rfl rfl (by decide) (mBa inB_X12) tyX12_ok nmX12 (mB wl_RX12_164) rfl rfl rfl rfl dX12_asks_211 ?_
        refine zlt_el (P := fun (μ47 : ZMem) => V X μ47 214 [(0, .ref (zad y (0, 32, 0))), (1, .int a1), (3, .int x40)] []) h (fun μ47 h => ?_)
        refine V_aload_n X 0 dX12_asks_214 rfl rfl ?_
        refine V_iconst X 1 dX12_asks_215 (by decide) ?_
        obtain ⟨x49, μ50, c48, h⟩ := bd2_some h
        refine V_callVi X (As := [.int 1]) (M_X12_reads c48) (cwV 1 X.2.2.2.2.2.2.1 (gV wm_RX12_183 wi_X12_reads wse_X12_reads win_RX12 wc_X12_reads) rfl rfl rfl hd_X12_reads ⟨Nat.le_of_ble_eq_true rfl, Nat.le_of_ble_eq_true rfl⟩) (b := (0, 32, 0)) ⟨by decide, rfl⟩ rfl rfl rfl rfl (Nat.le_of_ble_eq_true rfl) dX12_asks_216 rfl ?_
        refine V_istore X [(4, .int x49), (0, .ref (zad y (0, 32, 0))), (1, .int a1), (3, .int x40)] dX12_asks_219 (by decide) rfl ?_
        refine V_aload_n X 1 dX12_asks_221 rfl rfl ?_
        refine V_iload_n X 3 dX12_asks_222 rfl rfl ?_
        refine V_puti X tyX12 .int (o := (0, 32, 0)) (ci := 12) (k := 12) (N := 30) (T := TX12) (C := RX12) ⟨by decide, rfl⟩ rfl rfl rfl (by decide) (mBa inB_X12) tyX12_ok nmX12 (mB wl_RX12_25) rfl rfl rfl rfl dX12_asks_223 ?_
        refine zlt_el (P := fun (μ51 : ZMem) => V X μ51 226 [(4, .int x49), (0, .ref (zad y (0, 32, 0))), (1, .int a1), (3, .int x40)] []) h (fun μ51 h => ?_)
        refine V_aload_n X 1 dX12_asks_226 rfl rfl ?_
        refine V_aload_n X 1 dX12_asks_227 rfl rfl ?_
        refine V_iload_n X 2 dX12_asks_228 rfl rfl ?_
        refine V_bipush X 9 dX12_asks_229 (by decide) ?_
        obtain ⟨x53, c52, h⟩ := bd_some h
        refine V_callVi X (As := [.int a1, .int 9]) (M_X12_of c52) (cwV 2 X.2.2.2.2.2.2.1 (gV wm_RX12_66 wi_X12_of wse_X12_of win_RX12 wc_X12_of) rfl rfl rfl hd_X12_of ⟨Nat.le_of_ble_eq_true rfl, Nat.le_of_ble_eq_true rfl⟩) (b := (0, 32, 0)) ⟨by decide, rfl⟩ rfl rfl rfl rfl (Nat.le_of_ble_eq_true rfl) dX12_asks_231 rfl ?_
        refine V_iconst X 2 dX12_asks_234 (by decide) ?_
        obtain ⟨x55, h1, h⟩ := zl1_some h
        have hk : V X μ51 252 [] [.int x55, .ref (zad y (0, 32, 0))] := by
          clear h1
          refine V_puti X tyX12 .int (o := (0, 32, 0)) (ci := 12) (k := 17) (N := 30) (T := TX12) (C := RX12) ⟨by decide, rfl⟩ rfl rfl rfl (by decide) (mBa inB_X12) tyX12_ok nmX12 (mB wl_RX12_242) rfl rfl rfl rfl dX12_asks_252 ?_
          refine zlt_el (P := fun (μ56 : ZMem) => V X μ56 255 [] []) h (fun μ56 h => ?_)
          exact V_vretW X h dX12_asks_255
        replace h := h1
        clear h1
        refine V_icmp_ne X (tgt := 243) dX12_asks_235 (by decide) (fun b54 => ?_) (fun b54 => ?_)
        · replace h := (if_neg b54).symm.trans h
          refine V_bipush X 100 dX12_asks_243 (by decide) ?_
          refine V_aload_n X 1 dX12_asks_245 rfl rfl ?_
          refine V_geti X (o := (0, 32, 0)) (ci := 12) (k := 17) (N := 30) (T := TX12) (C := RX12) ⟨by decide, rfl⟩ rfl rfl rfl (by decide) (mBa inB_X12) (mB wl_RX12_242) dX12_asks_246 ?_
          refine V_callSi X (As := [.int 100, .int (μ51 (0, 32, 0) 17)]) (M_X12_lesser) (va_cwS 2 X.2.2.2.2.2.2.1 (gS wm_RX12_70 wst_X12_lesser win_RX12 wc_X12_lesser) rfl rfl rfl hd_X12_lesser.2 ⟨Nat.le_of_ble_eq_true rfl, Nat.le_of_ble_eq_true rfl⟩) rfl (Nat.le_of_ble_eq_true rfl) dX12_asks_249 rfl ?_
          refine V_sub X [] (lv' := []) rfl ?_
          obtain rfl := pr1 h
          exact hk
        · replace h := (if_pos b54).symm.trans h
          refine V_bipush X 100 dX12_asks_238 (by decide) ?_
          refine V_goto X (tgt := 252) dX12_asks_240 (by decide) ?_
          refine V_sub X [] (lv' := []) rfl ?_
          obtain rfl := pr1 h
          exact hk
      replace h := h1
      clear h1
      refine V_icmp_ge X (tgt := 195) dX12_asks_188 (by decide) (fun b43 => ?_) (fun b43 => ?_)
      · replace h := (if_pos b43).symm.trans h
        refine V_aload_n X 1 dX12_asks_195 rfl rfl ?_
        refine V_getr X (o := (0, 32, 0)) (i := (0, 33, 0)) (ci := 12) (k := 1) (N := 30) (T := TX12) (C := RX12) ⟨by decide, rfl⟩ rfl rfl rfl (by decide) (mBa inB_X12) (mB wl_RX12_7) dX12_asks_196 ?_
        refine V_iconst X 2 dX12_asks_199 (by decide) ?_
        refine V_iald X 2 (by decide) (o := (0, 33, 0)) (n := 737) ⟨by decide, rfl⟩ rfl rfl (by decide) dX12_asks_200 ?_
        refine V_sub X [1, 2, 0] (lv' := [(0, .ref (zad y (0, 32, 0))), (1, .int a1), (3, .int x40)]) rfl ?_
        obtain rfl := pr1 h
        exact hk
      · replace h := (if_neg b43).symm.trans h
        refine V_iconst X 0 dX12_asks_191 (by decide) ?_
        refine V_goto X (tgt := 201) dX12_asks_192 (by decide) ?_
        refine V_sub X [1, 2, 0] (lv' := [(0, .ref (zad y (0, 32, 0))), (1, .int a1), (3, .int x40)]) rfl ?_
        obtain rfl := pr1 h
        exact hk
    replace h := h1
    clear h1
    refine V_if_ne X (tgt := 159) dX12_asks_152 (by decide) (fun b36 => ?_) (fun b36 => ?_)
    · replace h := (if_neg b36).symm.trans h
      refine V_iconst X 0 dX12_asks_159 (by decide) ?_
      refine V_sub X [0, 1] (lv' := [(0, .ref (zad y (0, 32, 0))), (1, .int a1)]) rfl ?_
      obtain rfl := pr1 h
      exact hk
    · replace h := (if_pos b36).symm.trans h
      refine V_iconst X 1 dX12_asks_155 (by decide) ?_
      refine V_goto X (tgt := 160) dX12_asks_156 (by decide) ?_
      refine V_sub X [0, 1] (lv' := [(0, .ref (zad y (0, 32, 0))), (1, .int a1)]) rfl ?_
      obtain rfl := pr1 h
      exact hk
  replace h := h1
  clear h1
  refine V_icmp_ne X (tgt := 36) dX12_asks_23 (by decide) (fun b8 => ?_) (fun b8 => ?_)
  · replace h := (if_neg b8).symm.trans h
    refine V_iconst X 0 dX12_asks_36 (by decide) ?_
    refine V_sub X [1, 2, 0] (lv' := [(0, .ref (zad y (0, 32, 0))), (1, .int a1), (2, .int x5)]) rfl ?_
    obtain rfl := so1 h
    exact hk
  · replace h := (if_pos b8).symm.trans h
    refine V_aload_n X 1 dX12_asks_26 rfl rfl ?_
    refine V_iload_n X 2 dX12_asks_27 rfl rfl ?_
    refine V_bipush X 10 dX12_asks_28 (by decide) ?_
    obtain ⟨x11, c10, h⟩ := bd_some h
    refine V_callVi X (As := [.int a1, .int 10]) (M_X12_of c10) (cwV 2 X.2.2.2.2.2.2.1 (gV wm_RX12_66 wi_X12_of wse_X12_of win_RX12 wc_X12_of) rfl rfl rfl hd_X12_of ⟨Nat.le_of_ble_eq_true rfl, Nat.le_of_ble_eq_true rfl⟩) (b := (0, 32, 0)) ⟨by decide, rfl⟩ rfl rfl rfl rfl (Nat.le_of_ble_eq_true rfl) dX12_asks_30 rfl ?_
    refine V_goto X (tgt := 37) dX12_asks_33 (by decide) ?_
    refine V_sub X [1, 2, 0] (lv' := [(0, .ref (zad y (0, 32, 0))), (1, .int a1), (2, .int x5)]) rfl ?_
    obtain rfl := so1 h
    exact hk

def f_X12_heldUp (a1 : Int32) (μ : ZMem) : Option (Int32 × ZMem) := bd (f_X12_asks a1 μ) (fun (μ2 : ZMem) => some ((μ2 (0, 32, 0) 16), μ2))
set_option maxRecDepth 100000 in
set_option maxHeartbeats 4000000 in
theorem M_X12_heldUp {l : Launch} {D : va_G} {y : ZLay} {a1 : Int32}  {μ : ZMem} {r : Int32} {μ0 : ZMem} (h : f_X12_heldUp a1 μ = some (r, μ0)) : MI l yX12_heldUp wb_X12_heldUp rm_X12_heldUp D y [.ref (zad y (0, 32, 0)), .int a1] μ r μ0 := by
  unfold f_X12_heldUp at h
  refine MI_of RX12 [(0, .ref (zad y (0, 32, 0))), (1, .int a1)] (by decide) rfl rfl (Nat.le_of_ble_eq_true rfl) rfl ?_
  intro p e s m args below meth c A X
  refine V_aload_n X 0 dX12_heldUp_0 rfl rfl ?_
  refine V_iload_n X 1 dX12_heldUp_1 rfl rfl ?_
  obtain ⟨μ2, c1, h⟩ := bd_some h
  refine V_callVv X (As := [.int a1]) (M_X12_asks c1) (cwV 1 X.2.2.2.2.2.2.1 (gV wm_RX12_253 wi_X12_asks wse_X12_asks win_RX12 wc_X12_asks) rfl rfl rfl hd_X12_asks ⟨Nat.le_of_ble_eq_true rfl, Nat.le_of_ble_eq_true rfl⟩) (b := (0, 32, 0)) ⟨by decide, rfl⟩ rfl rfl rfl rfl (Nat.le_of_ble_eq_true rfl) dX12_heldUp_2 rfl ?_
  refine V_aload_n X 0 dX12_heldUp_5 rfl rfl ?_
  refine V_geti X (o := (0, 32, 0)) (ci := 12) (k := 16) (N := 30) (T := TX12) (C := RX12) ⟨by decide, rfl⟩ rfl rfl rfl (by decide) (mBa inB_X12) (mB wl_RX12_240) dX12_heldUp_6 ?_
  exact V_iretW X h dX12_heldUp_9

def f_X12_sentBy (a1 : Int32) (μ : ZMem) : Option (Int32 × ZMem) := bd (f_X12_of a1 0 μ) (fun (x2 : Int32) => bd2 (f_X12_heldUp a1 μ) (fun (x4 : Int32) (μ5 : ZMem) => some ((x2 + x4), μ5)))
set_option maxRecDepth 100000 in
set_option maxHeartbeats 4000000 in
theorem M_X12_sentBy {l : Launch} {D : va_G} {y : ZLay} {a1 : Int32}  {μ : ZMem} {r : Int32} {μ0 : ZMem} (h : f_X12_sentBy a1 μ = some (r, μ0)) : MI l yX12_sentBy wb_X12_sentBy rm_X12_sentBy D y [.ref (zad y (0, 32, 0)), .int a1] μ r μ0 := by
  unfold f_X12_sentBy at h
  refine MI_of RX12 [(0, .ref (zad y (0, 32, 0))), (1, .int a1)] (by decide) rfl rfl (Nat.le_of_ble_eq_true rfl) rfl ?_
  intro p e s m args below meth c A X
  refine V_aload_n X 0 dX12_sentBy_0 rfl rfl ?_
  refine V_iload_n X 1 dX12_sentBy_1 rfl rfl ?_
  refine V_iconst X 0 dX12_sentBy_2 (by decide) ?_
  obtain ⟨x2, c1, h⟩ := bd_some h
  refine V_callVi X (As := [.int a1, .int 0]) (M_X12_of c1) (cwV 2 X.2.2.2.2.2.2.1 (gV wm_RX12_66 wi_X12_of wse_X12_of win_RX12 wc_X12_of) rfl rfl rfl hd_X12_of ⟨Nat.le_of_ble_eq_true rfl, Nat.le_of_ble_eq_true rfl⟩) (b := (0, 32, 0)) ⟨by decide, rfl⟩ rfl rfl rfl rfl (Nat.le_of_ble_eq_true rfl) dX12_sentBy_3 rfl ?_
  refine V_aload_n X 0 dX12_sentBy_6 rfl rfl ?_
  refine V_iload_n X 1 dX12_sentBy_7 rfl rfl ?_
  obtain ⟨x4, μ5, c3, h⟩ := bd2_some h
  refine V_callVi X (As := [.int a1]) (M_X12_heldUp c3) (cwV 1 X.2.2.2.2.2.2.1 (gV wm_RX12_256 wi_X12_heldUp wse_X12_heldUp win_RX12 wc_X12_heldUp) rfl rfl rfl hd_X12_heldUp ⟨Nat.le_of_ble_eq_true rfl, Nat.le_of_ble_eq_true rfl⟩) (b := (0, 32, 0)) ⟨by decide, rfl⟩ rfl rfl rfl rfl (Nat.le_of_ble_eq_true rfl) dX12_sentBy_8 rfl ?_
  refine V_iadd X dX12_sentBy_11 ?_
  exact V_iretW X h dX12_sentBy_12

def f_X12_shiftOf (a1 : Int32) (a2 : Int32) (μ : ZMem) : Option (Int32 × ZMem) := bd2 (f_X12_sentBy a1 μ) (fun (x2 : Int32) (μ3 : ZMem) => bd (f_X12_of a1 9 μ3) (fun (x5 : Int32) => bd (α := Int32) (jk (some 0) (fun k8 => if x5 = 3 then if (zrem a2 2) = 1 then bd (f_X12_of a1 10 μ3) (fun (x11 : Int32) => some x11) else k8 else k8)) (fun (x7 : Int32) => some ((x2 + x7), μ3))))
set_option maxRecDepth 100000 in
set_option maxHeartbeats 4000000 in
theorem M_X12_shiftOf {l : Launch} {D : va_G} {y : ZLay} {a1 : Int32} {a2 : Int32}  {μ : ZMem} {r : Int32} {μ0 : ZMem} (h : f_X12_shiftOf a1 a2 μ = some (r, μ0)) : MI l yX12_shiftOf wb_X12_shiftOf rm_X12_shiftOf D y [.ref (zad y (0, 32, 0)), .int a1, .int a2] μ r μ0 := by
  unfold f_X12_shiftOf at h
  refine MI_of RX12 [(0, .ref (zad y (0, 32, 0))), (1, .int a1), (2, .int a2)] (by decide) rfl rfl (Nat.le_of_ble_eq_true rfl) rfl ?_
  intro p e s m args below meth c A X
  refine V_aload_n X 0 dX12_shiftOf_0 rfl rfl ?_
  refine V_iload_n X 1 dX12_shiftOf_1 rfl rfl ?_
  obtain ⟨x2, μ3, c1, h⟩ := bd2_some h
  refine V_callVi X (As := [.int a1]) (M_X12_sentBy c1) (cwV 1 X.2.2.2.2.2.2.1 (gV wm_RX12_259 wi_X12_sentBy wse_X12_sentBy win_RX12 wc_X12_sentBy) rfl rfl rfl hd_X12_sentBy ⟨Nat.le_of_ble_eq_true rfl, Nat.le_of_ble_eq_true rfl⟩) (b := (0, 32, 0)) ⟨by decide, rfl⟩ rfl rfl rfl rfl (Nat.le_of_ble_eq_true rfl) dX12_shiftOf_2 rfl ?_
  refine V_aload_n X 0 dX12_shiftOf_5 rfl rfl ?_
  refine V_iload_n X 1 dX12_shiftOf_6 rfl rfl ?_
  refine V_bipush X 9 dX12_shiftOf_7 (by decide) ?_
  obtain ⟨x5, c4, h⟩ := bd_some h
  refine V_callVi X (As := [.int a1, .int 9]) (M_X12_of c4) (cwV 2 X.2.2.2.2.2.2.1 (gV wm_RX12_66 wi_X12_of wse_X12_of win_RX12 wc_X12_of) rfl rfl rfl hd_X12_of ⟨Nat.le_of_ble_eq_true rfl, Nat.le_of_ble_eq_true rfl⟩) (b := (0, 32, 0)) ⟨by decide, rfl⟩ rfl rfl rfl rfl (Nat.le_of_ble_eq_true rfl) dX12_shiftOf_9 rfl ?_
  refine V_iconst X 3 dX12_shiftOf_12 (by decide) ?_
  obtain ⟨x7, h1, h⟩ := bd_some h
  have hk : V X μ3 34 [] [.int x7, .int x2] := by
    clear h1
    refine V_iadd X dX12_shiftOf_34 ?_
    exact V_iretW X h dX12_shiftOf_35
  replace h := h1
  clear h1
  refine jk0_el (P := V X μ3 33 [] [.int x2]) h (fun h => ?_) (fun k8 hk8 h => ?_)
  · refine V_iconst X 0 dX12_shiftOf_33 (by decide) ?_
    obtain rfl := so1 h
    exact hk
  · refine V_icmp_ne X (tgt := 33) dX12_shiftOf_13 (by decide) (fun b6 => ?_) (fun b6 => ?_)
    · replace h := (if_neg b6).symm.trans h
      refine V_sub X [] (lv' := []) rfl ?_
      exact hk8 h
    · replace h := (if_pos b6).symm.trans h
      refine V_iload_n X 2 dX12_shiftOf_16 rfl rfl ?_
      refine V_iconst X 2 dX12_shiftOf_17 (by decide) ?_
      refine V_rem X dX12_shiftOf_18 (by decide) ?_
      refine V_iconst X 1 dX12_shiftOf_19 (by decide) ?_
      refine V_icmp_ne X (tgt := 33) dX12_shiftOf_20 (by decide) (fun b9 => ?_) (fun b9 => ?_)
      · replace h := (if_neg b9).symm.trans h
        refine V_sub X [] (lv' := []) rfl ?_
        exact hk8 h
      · replace h := (if_pos b9).symm.trans h
        refine V_aload_n X 0 dX12_shiftOf_23 rfl rfl ?_
        refine V_iload_n X 1 dX12_shiftOf_24 rfl rfl ?_
        refine V_bipush X 10 dX12_shiftOf_25 (by decide) ?_
        obtain ⟨x11, c10, h⟩ := bd_some h
        refine V_callVi X (As := [.int a1, .int 10]) (M_X12_of c10) (cwV 2 X.2.2.2.2.2.2.1 (gV wm_RX12_66 wi_X12_of wse_X12_of win_RX12 wc_X12_of) rfl rfl rfl hd_X12_of ⟨Nat.le_of_ble_eq_true rfl, Nat.le_of_ble_eq_true rfl⟩) (b := (0, 32, 0)) ⟨by decide, rfl⟩ rfl rfl rfl rfl (Nat.le_of_ble_eq_true rfl) dX12_shiftOf_27 rfl ?_
        refine V_goto X (tgt := 34) dX12_shiftOf_30 (by decide) ?_
        refine V_sub X [] (lv' := []) rfl ?_
        obtain rfl := so1 h
        exact hk

def f_X12_isPassing (a1 : Int32) (μ : ZMem) : Option (Int32 × ZMem) := bd (f_X12_isActive a1 μ) (fun (x2 : Int32) => bd2 (α := Int32) (β := ZMem) (jk (fun (μ6 : ZMem) => some (0, μ6)) (fun k7 => if x2 = 0 then k7 μ else bd (f_X12_of a1 9 μ) (fun (x9 : Int32) => if x9 = 2 then k7 μ else bd2 (f_X12_sentBy a1 μ) (fun (x12 : Int32) (μ13 : ZMem) => bd (f_X12_isIn x12 (-(μ13 (0, 33, 0) 4)) (μ13 (0, 33, 0) 4)) (fun (x15 : Int32) => if x15 = 0 then k7 μ13 else some (1, μ13)))))) (fun (x4 : Int32) (μ5 : ZMem) => gd (zbo x4) (some (x4, μ5))))
set_option maxRecDepth 100000 in
set_option maxHeartbeats 4000000 in
theorem M_X12_isPassing {l : Launch} {D : va_G} {y : ZLay} {a1 : Int32}  {μ : ZMem} {r : Int32} {μ0 : ZMem} (h : f_X12_isPassing a1 μ = some (r, μ0)) : MI l yX12_isPassing wb_X12_isPassing rm_X12_isPassing D y [.ref (zad y (0, 32, 0)), .int a1] μ r μ0 := by
  unfold f_X12_isPassing at h
  refine MI_of RX12 [(0, .ref (zad y (0, 32, 0))), (1, .int a1)] (by decide) rfl rfl (Nat.le_of_ble_eq_true rfl) rfl ?_
  intro p e s m args below meth c A X
  refine V_aload_n X 0 dX12_isPassing_0 rfl rfl ?_
  refine V_iload_n X 1 dX12_isPassing_1 rfl rfl ?_
  obtain ⟨x2, c1, h⟩ := bd_some h
  refine V_callVi X (As := [.int a1]) (M_X12_isActive c1) (cwV 1 X.2.2.2.2.2.2.1 (gV wm_RX12_262 wi_X12_isActive wse_X12_isActive win_RX12 wc_X12_isActive) rfl rfl rfl hd_X12_isActive ⟨Nat.le_of_ble_eq_true rfl, Nat.le_of_ble_eq_true rfl⟩) (b := (0, 32, 0)) ⟨by decide, rfl⟩ rfl rfl rfl rfl (Nat.le_of_ble_eq_true rfl) dX12_isPassing_2 rfl ?_
  obtain ⟨x4, μ5, h1, h⟩ := bd2_some h
  have hk : V X μ5 48 [] [.int x4] := by
    clear h1
    obtain ⟨hzb, h⟩ := gd_some h
    exact V_zretW X h hzb dX12_isPassing_48
  replace h := h1
  clear h1
  refine jk1_el (P := fun (μ6 : ZMem) => V X μ6 47 [] []) h (fun μ6 h => ?_) (fun k7 hk7 h => ?_)
  · refine V_iconst X 0 dX12_isPassing_47 (by decide) ?_
    obtain ⟨rfl, rfl⟩ := so2 h
    exact hk
  · refine V_if_eq X (tgt := 47) dX12_isPassing_5 (by decide) (fun b3 => ?_) (fun b3 => ?_)
    · replace h := (if_pos b3).symm.trans h
      refine V_sub X [] (lv' := []) rfl ?_
      exact hk7 _ h
    · replace h := (if_neg b3).symm.trans h
      refine V_aload_n X 0 dX12_isPassing_8 rfl rfl ?_
      refine V_iload_n X 1 dX12_isPassing_9 rfl rfl ?_
      refine V_bipush X 9 dX12_isPassing_10 (by decide) ?_
      obtain ⟨x9, c8, h⟩ := bd_some h
      refine V_callVi X (As := [.int a1, .int 9]) (M_X12_of c8) (cwV 2 X.2.2.2.2.2.2.1 (gV wm_RX12_66 wi_X12_of wse_X12_of win_RX12 wc_X12_of) rfl rfl rfl hd_X12_of ⟨Nat.le_of_ble_eq_true rfl, Nat.le_of_ble_eq_true rfl⟩) (b := (0, 32, 0)) ⟨by decide, rfl⟩ rfl rfl rfl rfl (Nat.le_of_ble_eq_true rfl) dX12_isPassing_12 rfl ?_
      refine V_iconst X 2 dX12_isPassing_15 (by decide) ?_
      refine V_icmp_eq X (tgt := 47) dX12_isPassing_16 (by decide) (fun b10 => ?_) (fun b10 => ?_)
      · replace h := (if_pos b10).symm.trans h
        refine V_sub X [] (lv' := []) rfl ?_
        exact hk7 _ h
      · replace h := (if_neg b10).symm.trans h
        refine V_aload_n X 0 dX12_isPassing_19 rfl rfl ?_
        refine V_iload_n X 1 dX12_isPassing_20 rfl rfl ?_
        obtain ⟨x12, μ13, c11, h⟩ := bd2_some h
        refine V_callVi X (As := [.int a1]) (M_X12_sentBy c11) (cwV 1 X.2.2.2.2.2.2.1 (gV wm_RX12_259 wi_X12_sentBy wse_X12_sentBy win_RX12 wc_X12_sentBy) rfl rfl rfl hd_X12_sentBy ⟨Nat.le_of_ble_eq_true rfl, Nat.le_of_ble_eq_true rfl⟩) (b := (0, 32, 0)) ⟨by decide, rfl⟩ rfl rfl rfl rfl (Nat.le_of_ble_eq_true rfl) dX12_isPassing_21 rfl ?_
        refine V_aload_n X 0 dX12_isPassing_24 rfl rfl ?_
        refine V_getr X (o := (0, 32, 0)) (i := (0, 33, 0)) (ci := 12) (k := 1) (N := 30) (T := TX12) (C := RX12) ⟨by decide, rfl⟩ rfl rfl rfl (by decide) (mBa inB_X12) (mB wl_RX12_7) dX12_isPassing_25 ?_
        refine V_iconst X 4 dX12_isPassing_28 (by decide) ?_
        refine V_iald X 4 (by decide) (o := (0, 33, 0)) (n := 737) ⟨by decide, rfl⟩ rfl rfl (by decide) dX12_isPassing_29 ?_
        refine V_ineg X dX12_isPassing_30 ?_
        refine V_aload_n X 0 dX12_isPassing_31 rfl rfl ?_
        refine V_getr X (o := (0, 32, 0)) (i := (0, 33, 0)) (ci := 12) (k := 1) (N := 30) (T := TX12) (C := RX12) ⟨by decide, rfl⟩ rfl rfl rfl (by decide) (mBa inB_X12) (mB wl_RX12_7) dX12_isPassing_32 ?_
        refine V_iconst X 4 dX12_isPassing_35 (by decide) ?_
        refine V_iald X 4 (by decide) (o := (0, 33, 0)) (n := 737) ⟨by decide, rfl⟩ rfl rfl (by decide) dX12_isPassing_36 ?_
        obtain ⟨x15, c14, h⟩ := bd_some h
        refine V_callSi X (As := [.int x12, .int (-(μ13 (0, 33, 0) 4)), .int (μ13 (0, 33, 0) 4)]) (M_X12_isIn c14) (va_cwS 3 X.2.2.2.2.2.2.1 (gS wm_RX12_62 wst_X12_isIn win_RX12 wc_X12_isIn) rfl rfl rfl hd_X12_isIn.2 ⟨Nat.le_of_ble_eq_true rfl, Nat.le_of_ble_eq_true rfl⟩) rfl (Nat.le_of_ble_eq_true rfl) dX12_isPassing_37 rfl ?_
        refine V_if_eq X (tgt := 47) dX12_isPassing_40 (by decide) (fun b16 => ?_) (fun b16 => ?_)
        · replace h := (if_pos b16).symm.trans h
          refine V_sub X [] (lv' := []) rfl ?_
          exact hk7 _ h
        · replace h := (if_neg b16).symm.trans h
          refine V_iconst X 1 dX12_isPassing_43 (by decide) ?_
          refine V_goto X (tgt := 48) dX12_isPassing_44 (by decide) ?_
          refine V_sub X [] (lv' := []) rfl ?_
          obtain ⟨rfl, rfl⟩ := so2 h
          exact hk

def f_X12_isHeard (a1 : Int32) (a2 : Int32) (μ : ZMem) : Option (Int32 × ZMem) := bd2 (f_X12_shiftOf a2 a1 μ) (fun (x2 : Int32) (μ3 : ZMem) => bd (f_X12_of a1 0 μ3) (fun (x5 : Int32) => bd (f_X12_isIn (x2 - x5) (-(μ3 (0, 33, 0) 5)) (μ3 (0, 33, 0) 5)) (fun (x7 : Int32) => gd (zbo x7) (some (x7, μ3)))))
set_option maxRecDepth 100000 in
set_option maxHeartbeats 4000000 in
theorem M_X12_isHeard {l : Launch} {D : va_G} {y : ZLay} {a1 : Int32} {a2 : Int32}  {μ : ZMem} {r : Int32} {μ0 : ZMem} (h : f_X12_isHeard a1 a2 μ = some (r, μ0)) : MI l yX12_isHeard wb_X12_isHeard rm_X12_isHeard D y [.ref (zad y (0, 32, 0)), .int a1, .int a2] μ r μ0 := by
  unfold f_X12_isHeard at h
  refine MI_of RX12 [(0, .ref (zad y (0, 32, 0))), (1, .int a1), (2, .int a2)] (by decide) rfl rfl (Nat.le_of_ble_eq_true rfl) rfl ?_
  intro p e s m args below meth c A X
  refine V_aload_n X 0 dX12_isHeard_0 rfl rfl ?_
  refine V_iload_n X 2 dX12_isHeard_1 rfl rfl ?_
  refine V_iload_n X 1 dX12_isHeard_2 rfl rfl ?_
  obtain ⟨x2, μ3, c1, h⟩ := bd2_some h
  refine V_callVi X (As := [.int a2, .int a1]) (M_X12_shiftOf c1) (cwV 2 X.2.2.2.2.2.2.1 (gV wm_RX12_265 wi_X12_shiftOf wse_X12_shiftOf win_RX12 wc_X12_shiftOf) rfl rfl rfl hd_X12_shiftOf ⟨Nat.le_of_ble_eq_true rfl, Nat.le_of_ble_eq_true rfl⟩) (b := (0, 32, 0)) ⟨by decide, rfl⟩ rfl rfl rfl rfl (Nat.le_of_ble_eq_true rfl) dX12_isHeard_3 rfl ?_
  refine V_aload_n X 0 dX12_isHeard_6 rfl rfl ?_
  refine V_iload_n X 1 dX12_isHeard_7 rfl rfl ?_
  refine V_iconst X 0 dX12_isHeard_8 (by decide) ?_
  obtain ⟨x5, c4, h⟩ := bd_some h
  refine V_callVi X (As := [.int a1, .int 0]) (M_X12_of c4) (cwV 2 X.2.2.2.2.2.2.1 (gV wm_RX12_66 wi_X12_of wse_X12_of win_RX12 wc_X12_of) rfl rfl rfl hd_X12_of ⟨Nat.le_of_ble_eq_true rfl, Nat.le_of_ble_eq_true rfl⟩) (b := (0, 32, 0)) ⟨by decide, rfl⟩ rfl rfl rfl rfl (Nat.le_of_ble_eq_true rfl) dX12_isHeard_9 rfl ?_
  refine V_isub X dX12_isHeard_12 ?_
  refine V_aload_n X 0 dX12_isHeard_13 rfl rfl ?_
  refine V_getr X (o := (0, 32, 0)) (i := (0, 33, 0)) (ci := 12) (k := 1) (N := 30) (T := TX12) (C := RX12) ⟨by decide, rfl⟩ rfl rfl rfl (by decide) (mBa inB_X12) (mB wl_RX12_7) dX12_isHeard_14 ?_
  refine V_iconst X 5 dX12_isHeard_17 (by decide) ?_
  refine V_iald X 5 (by decide) (o := (0, 33, 0)) (n := 737) ⟨by decide, rfl⟩ rfl rfl (by decide) dX12_isHeard_18 ?_
  refine V_ineg X dX12_isHeard_19 ?_
  refine V_aload_n X 0 dX12_isHeard_20 rfl rfl ?_
  refine V_getr X (o := (0, 32, 0)) (i := (0, 33, 0)) (ci := 12) (k := 1) (N := 30) (T := TX12) (C := RX12) ⟨by decide, rfl⟩ rfl rfl rfl (by decide) (mBa inB_X12) (mB wl_RX12_7) dX12_isHeard_21 ?_
  refine V_iconst X 5 dX12_isHeard_24 (by decide) ?_
  refine V_iald X 5 (by decide) (o := (0, 33, 0)) (n := 737) ⟨by decide, rfl⟩ rfl rfl (by decide) dX12_isHeard_25 ?_
  obtain ⟨x7, c6, h⟩ := bd_some h
  refine V_callSi X (As := [.int (x2 - x5), .int (-(μ3 (0, 33, 0) 5)), .int (μ3 (0, 33, 0) 5)]) (M_X12_isIn c6) (va_cwS 3 X.2.2.2.2.2.2.1 (gS wm_RX12_62 wst_X12_isIn win_RX12 wc_X12_isIn) rfl rfl rfl hd_X12_isIn.2 ⟨Nat.le_of_ble_eq_true rfl, Nat.le_of_ble_eq_true rfl⟩) rfl (Nat.le_of_ble_eq_true rfl) dX12_isHeard_26 rfl ?_
  obtain ⟨hzb, h⟩ := gd_some h
  exact V_zretW X h hzb dX12_isHeard_29

def f_X12_allShifts (μ : ZMem) : Option (ZMem) := zlt (mset μ (0, 32, 0) 24 0) (fun (μ1 : ZMem) => bd (lp (σ := Int32 × ZMem) (fun q => un2 q (fun (x2 : Int32) (μ3 : ZMem) => if (μ3 (0, 33, 0) 3) ≤ x2 then some (.inr μ3) else bd2 (f_X12_isPassing x2 μ3) (fun (x7 : Int32) (μ8 : ZMem) => zlt (α := Int32) (if x7 = 0 then 0 else (1 <<< (x2 &&& 31))) (fun (x10 : Int32) => zlt (mset μ8 (0, 32, 0) 24 ((μ3 (0, 32, 0) 24) ||| x10)) (fun (μ11 : ZMem) => bd (f_X12_asks x2 μ11) (fun (μ13 : ZMem) => gd (zin x2 8) (zlt (mset μ13 (0, 41, 0) x2.toNatClampNeg (μ13 (0, 32, 0) 17)) (fun (μ15 : ZMem) => zlt (mset μ15 (0, 40, 0) x2.toNatClampNeg 0) (fun (μ16 : ZMem) => bd (lp (σ := Int32 × ZMem) (fun q => un2 q (fun (x17 : Int32) (μ18 : ZMem) => if (μ18 (0, 33, 0) 3) ≤ x17 then some (.inr μ18) else bd (α := ZMem) (if x17 = x2 then some μ18 else bd2 (f_X12_shiftOf x17 x2 μ18) (fun (x24 : Int32) (μ25 : ZMem) => bd (f_X12_of x2 0 μ25) (fun (x27 : Int32) => gd (zin ((8 * x17) + x2) 64) (zlt (mset μ25 (0, 39, 0) ((8 * x17) + x2).toNatClampNeg (x24 - x27)) (fun (μ29 : ZMem) => bd (f_X12_isIn (μ29 (0, 39, 0) ((8 * x17) + x2).toNatClampNeg) (-(μ29 (0, 33, 0) 5)) (μ29 (0, 33, 0) 5)) (fun (x31 : Int32) => zlt (α := Int32) (if x31 = 0 then 0 else (1 <<< (x17 &&& 31))) (fun (x33 : Int32) => zlt (mset μ29 (0, 40, 0) x2.toNatClampNeg ((μ29 (0, 40, 0) x2.toNatClampNeg) ||| x33)) (fun (μ34 : ZMem) => some μ34)))))))) (fun (μ22 : ZMem) => some (.inl ((x17 + 1), μ22))))) FU (0, μ16)) (fun (μ19 : ZMem) => some (.inl ((x2 + 1), μ19)))))))))))) FU (0, μ1)) (fun (μ4 : ZMem) => some μ4))
set_option maxRecDepth 100000 in
set_option maxHeartbeats 4000000 in
theorem M_X12_allShifts {l : Launch} {D : va_G} {y : ZLay}   {μ : ZMem} {μ0 : ZMem} (h : f_X12_allShifts μ = some μ0) : MV l yX12_allShifts wb_X12_allShifts rm_X12_allShifts D y [.ref (zad y (0, 32, 0))] μ μ0 := by
  unfold f_X12_allShifts at h
  refine MV_of RX12 [(0, .ref (zad y (0, 32, 0)))] (by decide) rfl rfl (Nat.le_of_ble_eq_true rfl) rfl ?_
  intro p e s m args below meth c A X
  refine V_aload_n X 0 dX12_allShifts_0 rfl rfl ?_
  refine V_iconst X 0 dX12_allShifts_1 (by decide) ?_
  refine V_puti X tyX12 .int (o := (0, 32, 0)) (ci := 12) (k := 24) (N := 30) (T := TX12) (C := RX12) ⟨by decide, rfl⟩ rfl rfl rfl (by decide) (mBa inB_X12) tyX12_ok nmX12 (mB wl_RX12_268) rfl rfl rfl rfl dX12_allShifts_2 ?_
  refine zlt_el (P := fun (μ1 : ZMem) => V X μ1 5 [(0, .ref (zad y (0, 32, 0)))] []) h (fun μ1 h => ?_)
  refine V_iconst X 0 dX12_allShifts_5 (by decide) ?_
  refine V_istore_n X [(1, .int 0), (0, .ref (zad y (0, 32, 0)))] dX12_allShifts_6 rfl (by decide) rfl ?_
  refine V_sub X [1, 0] (lv' := [(0, .ref (zad y (0, 32, 0))), (1, .int 0)]) rfl ?_
  obtain ⟨μ4, hl, h⟩ := bd_some h
  have hk : V X μ4 165 [] [] := by
    clear hl
    exact V_vretW X h dX12_allShifts_165
  refine lp_ind (P := fun q => V X q.2 7 [(0, .ref (zad y (0, 32, 0))), (1, .int q.1)] []) (fun q z h hz => ?_) hl
  obtain ⟨x2, μ3⟩ := q
  replace h := un2_eq h
  show V X μ3 7 [(0, .ref (zad y (0, 32, 0))), (1, .int x2)] []
  refine V_iload_n X 1 dX12_allShifts_7 rfl rfl ?_
  refine V_aload_n X 0 dX12_allShifts_8 rfl rfl ?_
  refine V_getr X (o := (0, 32, 0)) (i := (0, 33, 0)) (ci := 12) (k := 1) (N := 30) (T := TX12) (C := RX12) ⟨by decide, rfl⟩ rfl rfl rfl (by decide) (mBa inB_X12) (mB wl_RX12_7) dX12_allShifts_9 ?_
  refine V_iconst X 3 dX12_allShifts_12 (by decide) ?_
  refine V_iald X 3 (by decide) (o := (0, 33, 0)) (n := 737) ⟨by decide, rfl⟩ rfl rfl (by decide) dX12_allShifts_13 ?_
  refine V_icmp_ge X (tgt := 165) dX12_allShifts_14 (by decide) (fun b5 => ?_) (fun b5 => ?_)
  · replace h := (if_pos b5).symm.trans h
    refine V_sub X [] (lv' := []) rfl ?_
    cases h
    obtain rfl := pr1 hz
    exact hk
  · replace h := (if_neg b5).symm.trans h
    refine V_aload_n X 0 dX12_allShifts_17 rfl rfl ?_
    refine V_dup X dX12_allShifts_18 rfl ?_
    refine V_geti X (o := (0, 32, 0)) (ci := 12) (k := 24) (N := 30) (T := TX12) (C := RX12) ⟨by decide, rfl⟩ rfl rfl rfl (by decide) (mBa inB_X12) (mB wl_RX12_268) dX12_allShifts_19 ?_
    refine V_aload_n X 0 dX12_allShifts_22 rfl rfl ?_
    refine V_iload_n X 1 dX12_allShifts_23 rfl rfl ?_
    obtain ⟨x7, μ8, c6, h⟩ := bd2_some h
    refine V_callVi X (As := [.int x2]) (M_X12_isPassing c6) (cwV 1 X.2.2.2.2.2.2.1 (gV wm_RX12_271 wi_X12_isPassing wse_X12_isPassing win_RX12 wc_X12_isPassing) rfl rfl rfl hd_X12_isPassing ⟨Nat.le_of_ble_eq_true rfl, Nat.le_of_ble_eq_true rfl⟩) (b := (0, 32, 0)) ⟨by decide, rfl⟩ rfl rfl rfl rfl (Nat.le_of_ble_eq_true rfl) dX12_allShifts_24 rfl ?_
    obtain ⟨x10, h1, h⟩ := zl1_some h
    have hk : V X μ8 37 [(0, .ref (zad y (0, 32, 0))), (1, .int x2)] [.int x10, .int (μ3 (0, 32, 0) 24), .ref (zad y (0, 32, 0))] := by
      clear h1
      refine V_ior X dX12_allShifts_37 ?_
      refine V_puti X tyX12 .int (o := (0, 32, 0)) (ci := 12) (k := 24) (N := 30) (T := TX12) (C := RX12) ⟨by decide, rfl⟩ rfl rfl rfl (by decide) (mBa inB_X12) tyX12_ok nmX12 (mB wl_RX12_268) rfl rfl rfl rfl dX12_allShifts_38 ?_
      refine zlt_el (P := fun (μ11 : ZMem) => V X μ11 41 [(0, .ref (zad y (0, 32, 0))), (1, .int x2)] []) h (fun μ11 h => ?_)
      refine V_aload_n X 0 dX12_allShifts_41 rfl rfl ?_
      refine V_iload_n X 1 dX12_allShifts_42 rfl rfl ?_
      obtain ⟨μ13, c12, h⟩ := bd_some h
      refine V_callVv X (As := [.int x2]) (M_X12_asks c12) (cwV 1 X.2.2.2.2.2.2.1 (gV wm_RX12_253 wi_X12_asks wse_X12_asks win_RX12 wc_X12_asks) rfl rfl rfl hd_X12_asks ⟨Nat.le_of_ble_eq_true rfl, Nat.le_of_ble_eq_true rfl⟩) (b := (0, 32, 0)) ⟨by decide, rfl⟩ rfl rfl rfl rfl (Nat.le_of_ble_eq_true rfl) dX12_allShifts_43 rfl ?_
      refine V_aload_n X 0 dX12_allShifts_46 rfl rfl ?_
      refine V_getr X (o := (0, 32, 0)) (i := (0, 41, 0)) (ci := 12) (k := 21) (N := 30) (T := TX12) (C := RX12) ⟨by decide, rfl⟩ rfl rfl rfl (by decide) (mBa inB_X12) (mB wl_RX12_38) dX12_allShifts_47 ?_
      refine V_iload_n X 1 dX12_allShifts_50 rfl rfl ?_
      refine V_aload_n X 0 dX12_allShifts_51 rfl rfl ?_
      refine V_geti X (o := (0, 32, 0)) (ci := 12) (k := 17) (N := 30) (T := TX12) (C := RX12) ⟨by decide, rfl⟩ rfl rfl rfl (by decide) (mBa inB_X12) (mB wl_RX12_242) dX12_allShifts_52 ?_
      obtain ⟨g14, h⟩ := gd_some h
      refine V_iast X x2.toNatClampNeg rfl (o := (0, 41, 0)) (n := 8) ⟨by decide, rfl⟩ rfl rfl g14 dX12_allShifts_55 ?_
      refine zlt_el (P := fun (μ15 : ZMem) => V X μ15 56 [(0, .ref (zad y (0, 32, 0))), (1, .int x2)] []) h (fun μ15 h => ?_)
      refine V_aload_n X 0 dX12_allShifts_56 rfl rfl ?_
      refine V_getr X (o := (0, 32, 0)) (i := (0, 40, 0)) (ci := 12) (k := 20) (N := 30) (T := TX12) (C := RX12) ⟨by decide, rfl⟩ rfl rfl rfl (by decide) (mBa inB_X12) (mB wl_RX12_35) dX12_allShifts_57 ?_
      refine V_iload_n X 1 dX12_allShifts_60 rfl rfl ?_
      refine V_iconst X 0 dX12_allShifts_61 (by decide) ?_
      refine V_iast X x2.toNatClampNeg rfl (o := (0, 40, 0)) (n := 8) ⟨by decide, rfl⟩ rfl rfl g14 dX12_allShifts_62 ?_
      refine zlt_el (P := fun (μ16 : ZMem) => V X μ16 63 [(0, .ref (zad y (0, 32, 0))), (1, .int x2)] []) h (fun μ16 h => ?_)
      refine V_iconst X 0 dX12_allShifts_63 (by decide) ?_
      refine V_istore_n X [(2, .int 0), (0, .ref (zad y (0, 32, 0))), (1, .int x2)] dX12_allShifts_64 rfl (by decide) rfl ?_
      refine V_sub X [1, 2, 0] (lv' := [(0, .ref (zad y (0, 32, 0))), (1, .int x2), (2, .int 0)]) rfl ?_
      obtain ⟨μ19, hl, h⟩ := bd_some h
      have hk : V X μ19 159 [(0, .ref (zad y (0, 32, 0))), (1, .int x2)] [] := by
        clear hl
        refine V_inc X 1 1 [(1, .int (x2 + 1)), (0, .ref (zad y (0, 32, 0)))] dX12_allShifts_159 rfl (by decide) (by decide) rfl ?_
        refine V_goto X (tgt := 7) dX12_allShifts_162 (by decide) ?_
        refine V_sub X [1, 0] (lv' := [(0, .ref (zad y (0, 32, 0))), (1, .int (x2 + 1))]) rfl ?_
        cases h
        exact hz
      refine lp_ind (P := fun q => V X q.2 65 [(0, .ref (zad y (0, 32, 0))), (1, .int x2), (2, .int q.1)] []) (fun q z h hz => ?_) hl
      obtain ⟨x17, μ18⟩ := q
      replace h := un2_eq h
      show V X μ18 65 [(0, .ref (zad y (0, 32, 0))), (1, .int x2), (2, .int x17)] []
      refine V_iload_n X 2 dX12_allShifts_65 rfl rfl ?_
      refine V_aload_n X 0 dX12_allShifts_66 rfl rfl ?_
      refine V_getr X (o := (0, 32, 0)) (i := (0, 33, 0)) (ci := 12) (k := 1) (N := 30) (T := TX12) (C := RX12) ⟨by decide, rfl⟩ rfl rfl rfl (by decide) (mBa inB_X12) (mB wl_RX12_7) dX12_allShifts_67 ?_
      refine V_iconst X 3 dX12_allShifts_70 (by decide) ?_
      refine V_iald X 3 (by decide) (o := (0, 33, 0)) (n := 737) ⟨by decide, rfl⟩ rfl rfl (by decide) dX12_allShifts_71 ?_
      refine V_icmp_ge X (tgt := 159) dX12_allShifts_72 (by decide) (fun b20 => ?_) (fun b20 => ?_)
      · replace h := (if_pos b20).symm.trans h
        refine V_sub X [0, 1] (lv' := [(0, .ref (zad y (0, 32, 0))), (1, .int x2)]) rfl ?_
        cases h
        obtain rfl := pr1 hz
        exact hk
      · replace h := (if_neg b20).symm.trans h
        refine V_iload_n X 2 dX12_allShifts_75 rfl rfl ?_
        refine V_iload_n X 1 dX12_allShifts_76 rfl rfl ?_
        obtain ⟨μ22, h1, h⟩ := bd_some h
        have hk : V X μ22 153 [(0, .ref (zad y (0, 32, 0))), (1, .int x2), (2, .int x17)] [] := by
          clear h1
          refine V_inc X 2 1 [(2, .int (x17 + 1)), (0, .ref (zad y (0, 32, 0))), (1, .int x2)] dX12_allShifts_153 rfl (by decide) (by decide) rfl ?_
          refine V_goto X (tgt := 65) dX12_allShifts_156 (by decide) ?_
          refine V_sub X [1, 2, 0] (lv' := [(0, .ref (zad y (0, 32, 0))), (1, .int x2), (2, .int (x17 + 1))]) rfl ?_
          cases h
          exact hz
        replace h := h1
        clear h1
        refine V_icmp_ne X (tgt := 83) dX12_allShifts_77 (by decide) (fun b21 => ?_) (fun b21 => ?_)
        · replace h := (if_neg b21).symm.trans h
          refine V_aload_n X 0 dX12_allShifts_83 rfl rfl ?_
          refine V_getr X (o := (0, 32, 0)) (i := (0, 39, 0)) (ci := 12) (k := 19) (N := 30) (T := TX12) (C := RX12) ⟨by decide, rfl⟩ rfl rfl rfl (by decide) (mBa inB_X12) (mB wl_RX12_32) dX12_allShifts_84 ?_
          refine V_bipush X 8 dX12_allShifts_87 (by decide) ?_
          refine V_iload_n X 2 dX12_allShifts_89 rfl rfl ?_
          refine V_imul X dX12_allShifts_90 ?_
          refine V_iload_n X 1 dX12_allShifts_91 rfl rfl ?_
          refine V_iadd X dX12_allShifts_92 ?_
          refine V_aload_n X 0 dX12_allShifts_93 rfl rfl ?_
          refine V_iload_n X 2 dX12_allShifts_94 rfl rfl ?_
          refine V_iload_n X 1 dX12_allShifts_95 rfl rfl ?_
          obtain ⟨x24, μ25, c23, h⟩ := bd2_some h
          refine V_callVi X (As := [.int x17, .int x2]) (M_X12_shiftOf c23) (cwV 2 X.2.2.2.2.2.2.1 (gV wm_RX12_265 wi_X12_shiftOf wse_X12_shiftOf win_RX12 wc_X12_shiftOf) rfl rfl rfl hd_X12_shiftOf ⟨Nat.le_of_ble_eq_true rfl, Nat.le_of_ble_eq_true rfl⟩) (b := (0, 32, 0)) ⟨by decide, rfl⟩ rfl rfl rfl rfl (Nat.le_of_ble_eq_true rfl) dX12_allShifts_96 rfl ?_
          refine V_aload_n X 0 dX12_allShifts_99 rfl rfl ?_
          refine V_iload_n X 1 dX12_allShifts_100 rfl rfl ?_
          refine V_iconst X 0 dX12_allShifts_101 (by decide) ?_
          obtain ⟨x27, c26, h⟩ := bd_some h
          refine V_callVi X (As := [.int x2, .int 0]) (M_X12_of c26) (cwV 2 X.2.2.2.2.2.2.1 (gV wm_RX12_66 wi_X12_of wse_X12_of win_RX12 wc_X12_of) rfl rfl rfl hd_X12_of ⟨Nat.le_of_ble_eq_true rfl, Nat.le_of_ble_eq_true rfl⟩) (b := (0, 32, 0)) ⟨by decide, rfl⟩ rfl rfl rfl rfl (Nat.le_of_ble_eq_true rfl) dX12_allShifts_102 rfl ?_
          refine V_isub X dX12_allShifts_105 ?_
          obtain ⟨g28, h⟩ := gd_some h
          refine V_iast X ((8 * x17) + x2).toNatClampNeg rfl (o := (0, 39, 0)) (n := 64) ⟨by decide, rfl⟩ rfl rfl g28 dX12_allShifts_106 ?_
          refine zlt_el (P := fun (μ29 : ZMem) => V X μ29 107 [(0, .ref (zad y (0, 32, 0))), (1, .int x2), (2, .int x17)] []) h (fun μ29 h => ?_)
          refine V_aload_n X 0 dX12_allShifts_107 rfl rfl ?_
          refine V_getr X (o := (0, 32, 0)) (i := (0, 40, 0)) (ci := 12) (k := 20) (N := 30) (T := TX12) (C := RX12) ⟨by decide, rfl⟩ rfl rfl rfl (by decide) (mBa inB_X12) (mB wl_RX12_35) dX12_allShifts_108 ?_
          refine V_iload_n X 1 dX12_allShifts_111 rfl rfl ?_
          refine V_dup2 X dX12_allShifts_112 rfl rfl ?_
          refine V_iald X x2.toNatClampNeg rfl (o := (0, 40, 0)) (n := 8) ⟨by decide, rfl⟩ rfl rfl g14 dX12_allShifts_113 ?_
          refine V_aload_n X 0 dX12_allShifts_114 rfl rfl ?_
          refine V_getr X (o := (0, 32, 0)) (i := (0, 39, 0)) (ci := 12) (k := 19) (N := 30) (T := TX12) (C := RX12) ⟨by decide, rfl⟩ rfl rfl rfl (by decide) (mBa inB_X12) (mB wl_RX12_32) dX12_allShifts_115 ?_
          refine V_bipush X 8 dX12_allShifts_118 (by decide) ?_
          refine V_iload_n X 2 dX12_allShifts_120 rfl rfl ?_
          refine V_imul X dX12_allShifts_121 ?_
          refine V_iload_n X 1 dX12_allShifts_122 rfl rfl ?_
          refine V_iadd X dX12_allShifts_123 ?_
          refine V_iald X ((8 * x17) + x2).toNatClampNeg rfl (o := (0, 39, 0)) (n := 64) ⟨by decide, rfl⟩ rfl rfl g28 dX12_allShifts_124 ?_
          refine V_aload_n X 0 dX12_allShifts_125 rfl rfl ?_
          refine V_getr X (o := (0, 32, 0)) (i := (0, 33, 0)) (ci := 12) (k := 1) (N := 30) (T := TX12) (C := RX12) ⟨by decide, rfl⟩ rfl rfl rfl (by decide) (mBa inB_X12) (mB wl_RX12_7) dX12_allShifts_126 ?_
          refine V_iconst X 5 dX12_allShifts_129 (by decide) ?_
          refine V_iald X 5 (by decide) (o := (0, 33, 0)) (n := 737) ⟨by decide, rfl⟩ rfl rfl (by decide) dX12_allShifts_130 ?_
          refine V_ineg X dX12_allShifts_131 ?_
          refine V_aload_n X 0 dX12_allShifts_132 rfl rfl ?_
          refine V_getr X (o := (0, 32, 0)) (i := (0, 33, 0)) (ci := 12) (k := 1) (N := 30) (T := TX12) (C := RX12) ⟨by decide, rfl⟩ rfl rfl rfl (by decide) (mBa inB_X12) (mB wl_RX12_7) dX12_allShifts_133 ?_
          refine V_iconst X 5 dX12_allShifts_136 (by decide) ?_
          refine V_iald X 5 (by decide) (o := (0, 33, 0)) (n := 737) ⟨by decide, rfl⟩ rfl rfl (by decide) dX12_allShifts_137 ?_
          obtain ⟨x31, c30, h⟩ := bd_some h
          refine V_callSi X (As := [.int (μ29 (0, 39, 0) ((8 * x17) + x2).toNatClampNeg), .int (-(μ29 (0, 33, 0) 5)), .int (μ29 (0, 33, 0) 5)]) (M_X12_isIn c30) (va_cwS 3 X.2.2.2.2.2.2.1 (gS wm_RX12_62 wst_X12_isIn win_RX12 wc_X12_isIn) rfl rfl rfl hd_X12_isIn.2 ⟨Nat.le_of_ble_eq_true rfl, Nat.le_of_ble_eq_true rfl⟩) rfl (Nat.le_of_ble_eq_true rfl) dX12_allShifts_138 rfl ?_
          obtain ⟨x33, h1, h⟩ := zl1_some h
          have hk : V X μ29 151 [(0, .ref (zad y (0, 32, 0))), (1, .int x2), (2, .int x17)] [.int x33, .int (μ29 (0, 40, 0) x2.toNatClampNeg), .int x2, .ref (zad y (0, 40, 0))] := by
            clear h1
            refine V_ior X dX12_allShifts_151 ?_
            refine V_iast X x2.toNatClampNeg rfl (o := (0, 40, 0)) (n := 8) ⟨by decide, rfl⟩ rfl rfl g14 dX12_allShifts_152 ?_
            refine zlt_el (P := fun (μ34 : ZMem) => V X μ34 153 [(0, .ref (zad y (0, 32, 0))), (1, .int x2), (2, .int x17)] []) h (fun μ34 h => ?_)
            obtain rfl := so1 h
            exact hk
          replace h := h1
          clear h1
          refine V_if_eq X (tgt := 150) dX12_allShifts_141 (by decide) (fun b32 => ?_) (fun b32 => ?_)
          · replace h := (if_pos b32).symm.trans h
            refine V_iconst X 0 dX12_allShifts_150 (by decide) ?_
            obtain rfl := pr1 h
            exact hk
          · replace h := (if_neg b32).symm.trans h
            refine V_iconst X 1 dX12_allShifts_144 (by decide) ?_
            refine V_iload_n X 2 dX12_allShifts_145 rfl rfl ?_
            refine V_ishl X dX12_allShifts_146 ?_
            refine V_goto X (tgt := 151) dX12_allShifts_147 (by decide) ?_
            obtain rfl := pr1 h
            exact hk
        · replace h := (if_pos b21).symm.trans h
          refine V_goto X (tgt := 153) dX12_allShifts_80 (by decide) ?_
          obtain rfl := so1 h
          exact hk
    replace h := h1
    clear h1
    refine V_if_eq X (tgt := 36) dX12_allShifts_27 (by decide) (fun b9 => ?_) (fun b9 => ?_)
    · replace h := (if_pos b9).symm.trans h
      refine V_iconst X 0 dX12_allShifts_36 (by decide) ?_
      obtain rfl := pr1 h
      exact hk
    · replace h := (if_neg b9).symm.trans h
      refine V_iconst X 1 dX12_allShifts_30 (by decide) ?_
      refine V_iload_n X 1 dX12_allShifts_31 rfl rfl ?_
      refine V_ishl X dX12_allShifts_32 ?_
      refine V_goto X (tgt := 37) dX12_allShifts_33 (by decide) ?_
      obtain rfl := pr1 h
      exact hk

def f_X12_middle (a1 : Int32) (μ : ZMem) : Option (Int32 × ZMem) := if a1 = 0 then some (0, μ) else bd (lp (σ := Int32 × ZMem) (fun q => un2 q (fun (x2 : Int32) (μ3 : ZMem) => if a1 ≤ x2 then some (.inr μ3) else gd (zin x2 21) (zlt (μ3 (0, 42, 0) x2.toNatClampNeg) (fun (x7 : Int32) => bd2 (lp (σ := Int32 × ZMem) (fun q => un2 q (fun (x8 : Int32) (μ9 : ZMem) => if x8 ≤ 0 then some (.inr (x8, μ9)) else gd (zin (x8 - 1) 21) (if (μ9 (0, 42, 0) (x8 - 1).toNatClampNeg) ≤ x7 then some (.inr (x8, μ9)) else gd (zin x8 21) (zlt (mset μ9 (0, 42, 0) x8.toNatClampNeg (μ9 (0, 42, 0) (x8 - 1).toNatClampNeg)) (fun (μ16 : ZMem) => some (.inl ((x8 + (-1)), μ16))))))) FU (x2, μ3)) (fun (x10 : Int32) (μ11 : ZMem) => gd (zin x10 21) (zlt (mset μ11 (0, 42, 0) x10.toNatClampNeg x7) (fun (μ18 : ZMem) => some (.inl ((x2 + 1), μ18))))))))) FU (1, μ)) (fun (μ4 : ZMem) => zlt (α := Int32) (if 3 ≤ a1 then if 8 ≤ a1 then 2 else 1 else 0) (fun (x20 : Int32) => gd (zin x20 21) (gd (zin ((a1 - 1) - x20) 21) (some ((((μ4 (0, 42, 0) x20.toNatClampNeg) + (μ4 (0, 42, 0) ((a1 - 1) - x20).toNatClampNeg)) / 2), μ4)))))
set_option maxRecDepth 100000 in
set_option maxHeartbeats 4000000 in
theorem M_X12_middle {l : Launch} {D : va_G} {y : ZLay} {a1 : Int32}  {μ : ZMem} {r : Int32} {μ0 : ZMem} (h : f_X12_middle a1 μ = some (r, μ0)) : MI l yX12_middle wb_X12_middle rm_X12_middle D y [.ref (zad y (0, 32, 0)), .int a1] μ r μ0 := by
  unfold f_X12_middle at h
  refine MI_of RX12 [(0, .ref (zad y (0, 32, 0))), (1, .int a1)] (by decide) rfl rfl (Nat.le_of_ble_eq_true rfl) rfl ?_
  intro p e s m args below meth c A X
  refine V_iload_n X 1 dX12_middle_0 rfl rfl ?_
  refine V_if_ne X (tgt := 6) dX12_middle_1 (by decide) (fun b1 => ?_) (fun b1 => ?_)
  · replace h := (if_neg b1).symm.trans h
    refine V_iconst X 1 dX12_middle_6 (by decide) ?_
    refine V_istore_n X [(2, .int 1), (0, .ref (zad y (0, 32, 0))), (1, .int a1)] dX12_middle_7 rfl (by decide) rfl ?_
    refine V_sub X [1, 2, 0] (lv' := [(0, .ref (zad y (0, 32, 0))), (1, .int a1), (2, .int 1)]) rfl ?_
    obtain ⟨μ4, hl, h⟩ := bd_some h
    have hk : V X μ4 77 [(0, .ref (zad y (0, 32, 0))), (1, .int a1)] [] := by
      clear hl
      refine V_iload_n X 1 dX12_middle_77 rfl rfl ?_
      refine V_iconst X 3 dX12_middle_78 (by decide) ?_
      obtain ⟨x20, h1, h⟩ := zl1_some h
      have hk : V X μ4 97 [(0, .ref (zad y (0, 32, 0))), (1, .int a1)] [.int x20] := by
        clear h1
        refine V_istore_n X [(2, .int x20), (0, .ref (zad y (0, 32, 0))), (1, .int a1)] dX12_middle_97 rfl (by decide) rfl ?_
        refine V_aload_n X 1 dX12_middle_98 rfl rfl ?_
        refine V_getr X (o := (0, 32, 0)) (i := (0, 42, 0)) (ci := 12) (k := 22) (N := 30) (T := TX12) (C := RX12) ⟨by decide, rfl⟩ rfl rfl rfl (by decide) (mBa inB_X12) (mB wl_RX12_41) dX12_middle_99 ?_
        refine V_iload_n X 0 dX12_middle_102 rfl rfl ?_
        obtain ⟨g22, h⟩ := gd_some h
        refine V_iald X x20.toNatClampNeg rfl (o := (0, 42, 0)) (n := 21) ⟨by decide, rfl⟩ rfl rfl g22 dX12_middle_103 ?_
        refine V_aload_n X 1 dX12_middle_104 rfl rfl ?_
        refine V_getr X (o := (0, 32, 0)) (i := (0, 42, 0)) (ci := 12) (k := 22) (N := 30) (T := TX12) (C := RX12) ⟨by decide, rfl⟩ rfl rfl rfl (by decide) (mBa inB_X12) (mB wl_RX12_41) dX12_middle_105 ?_
        refine V_iload_n X 2 dX12_middle_108 rfl rfl ?_
        refine V_iconst X 1 dX12_middle_109 (by decide) ?_
        refine V_isub X dX12_middle_110 ?_
        refine V_iload_n X 0 dX12_middle_111 rfl rfl ?_
        refine V_isub X dX12_middle_112 ?_
        obtain ⟨g23, h⟩ := gd_some h
        refine V_iald X ((a1 - 1) - x20).toNatClampNeg rfl (o := (0, 42, 0)) (n := 21) ⟨by decide, rfl⟩ rfl rfl g23 dX12_middle_113 ?_
        refine V_iadd X dX12_middle_114 ?_
        refine V_iconst X 2 dX12_middle_115 (by decide) ?_
        refine V_idiv X dX12_middle_116 (by decide) ?_
        exact V_iretW X h dX12_middle_117
      replace h := h1
      clear h1
      refine V_icmp_ge X (tgt := 86) dX12_middle_79 (by decide) (fun b19 => ?_) (fun b19 => ?_)
      · replace h := (if_pos b19).symm.trans h
        refine V_iload_n X 1 dX12_middle_86 rfl rfl ?_
        refine V_bipush X 8 dX12_middle_87 (by decide) ?_
        refine V_icmp_ge X (tgt := 96) dX12_middle_89 (by decide) (fun b21 => ?_) (fun b21 => ?_)
        · replace h := (if_pos b21).symm.trans h
          refine V_iconst X 2 dX12_middle_96 (by decide) ?_
          obtain rfl := pr1 h
          exact hk
        · replace h := (if_neg b21).symm.trans h
          refine V_iconst X 1 dX12_middle_92 (by decide) ?_
          refine V_goto X (tgt := 97) dX12_middle_93 (by decide) ?_
          obtain rfl := pr1 h
          exact hk
      · replace h := (if_neg b19).symm.trans h
        refine V_iconst X 0 dX12_middle_82 (by decide) ?_
        refine V_goto X (tgt := 97) dX12_middle_83 (by decide) ?_
        obtain rfl := pr1 h
        exact hk
    refine lp_ind (P := fun q => V X q.2 8 [(0, .ref (zad y (0, 32, 0))), (1, .int a1), (2, .int q.1)] []) (fun q z h hz => ?_) hl
    obtain ⟨x2, μ3⟩ := q
    replace h := un2_eq h
    show V X μ3 8 [(0, .ref (zad y (0, 32, 0))), (1, .int a1), (2, .int x2)] []
    refine V_iload_n X 2 dX12_middle_8 rfl rfl ?_
    refine V_iload_n X 1 dX12_middle_9 rfl rfl ?_
    refine V_icmp_ge X (tgt := 77) dX12_middle_10 (by decide) (fun b5 => ?_) (fun b5 => ?_)
    · replace h := (if_pos b5).symm.trans h
      refine V_sub X [0, 1] (lv' := [(0, .ref (zad y (0, 32, 0))), (1, .int a1)]) rfl ?_
      cases h
      obtain rfl := pr1 hz
      exact hk
    · replace h := (if_neg b5).symm.trans h
      refine V_aload_n X 0 dX12_middle_13 rfl rfl ?_
      refine V_getr X (o := (0, 32, 0)) (i := (0, 42, 0)) (ci := 12) (k := 22) (N := 30) (T := TX12) (C := RX12) ⟨by decide, rfl⟩ rfl rfl rfl (by decide) (mBa inB_X12) (mB wl_RX12_41) dX12_middle_14 ?_
      refine V_iload_n X 2 dX12_middle_17 rfl rfl ?_
      obtain ⟨g6, h⟩ := gd_some h
      refine V_iald X x2.toNatClampNeg rfl (o := (0, 42, 0)) (n := 21) ⟨by decide, rfl⟩ rfl rfl g6 dX12_middle_18 ?_
      refine V_istore_n X [(3, .int (μ3 (0, 42, 0) x2.toNatClampNeg)), (0, .ref (zad y (0, 32, 0))), (1, .int a1), (2, .int x2)] dX12_middle_19 rfl (by decide) rfl ?_
      refine zlt_el (P := fun (x7 : Int32) => V X μ3 20 [(3, .int x7), (0, .ref (zad y (0, 32, 0))), (1, .int a1), (2, .int x2)] []) h (fun x7 h => ?_)
      refine V_iload_n X 3 dX12_middle_20 rfl rfl ?_
      refine V_istore X [(4, .int x2), (3, .int x7), (0, .ref (zad y (0, 32, 0))), (1, .int a1), (2, .int x2)] dX12_middle_21 (by decide) rfl ?_
      refine V_sub X [2, 3, 4, 1, 0] (lv' := [(0, .ref (zad y (0, 32, 0))), (1, .int a1), (2, .int x2), (3, .int x7), (4, .int x2)]) rfl ?_
      obtain ⟨x10, μ11, hl, h⟩ := bd2_some h
      have hk : V X μ11 63 [(0, .ref (zad y (0, 32, 0))), (1, .int a1), (2, .int x2), (3, .int x7), (4, .int x10)] [] := by
        clear hl
        refine V_aload_n X 0 dX12_middle_63 rfl rfl ?_
        refine V_getr X (o := (0, 32, 0)) (i := (0, 42, 0)) (ci := 12) (k := 22) (N := 30) (T := TX12) (C := RX12) ⟨by decide, rfl⟩ rfl rfl rfl (by decide) (mBa inB_X12) (mB wl_RX12_41) dX12_middle_64 ?_
        refine V_iload X 4 dX12_middle_67 rfl ?_
        refine V_iload_n X 3 dX12_middle_69 rfl rfl ?_
        obtain ⟨g17, h⟩ := gd_some h
        refine V_iast X x10.toNatClampNeg rfl (o := (0, 42, 0)) (n := 21) ⟨by decide, rfl⟩ rfl rfl g17 dX12_middle_70 ?_
        refine zlt_el (P := fun (μ18 : ZMem) => V X μ18 71 [(0, .ref (zad y (0, 32, 0))), (1, .int a1), (2, .int x2), (3, .int x7), (4, .int x10)] []) h (fun μ18 h => ?_)
        refine V_inc X 2 1 [(2, .int (x2 + 1)), (0, .ref (zad y (0, 32, 0))), (1, .int a1), (3, .int x7), (4, .int x10)] dX12_middle_71 rfl (by decide) (by decide) rfl ?_
        refine V_goto X (tgt := 8) dX12_middle_74 (by decide) ?_
        refine V_sub X [1, 2, 0] (lv' := [(0, .ref (zad y (0, 32, 0))), (1, .int a1), (2, .int (x2 + 1))]) rfl ?_
        cases h
        exact hz
      refine lp_ind (P := fun q => V X q.2 23 [(0, .ref (zad y (0, 32, 0))), (1, .int a1), (2, .int x2), (3, .int x7), (4, .int q.1)] []) (fun q z h hz => ?_) hl
      obtain ⟨x8, μ9⟩ := q
      replace h := un2_eq h
      show V X μ9 23 [(0, .ref (zad y (0, 32, 0))), (1, .int a1), (2, .int x2), (3, .int x7), (4, .int x8)] []
      refine V_iload X 4 dX12_middle_23 rfl ?_
      refine V_if_le X (tgt := 63) dX12_middle_25 (by decide) (fun b12 => ?_) (fun b12 => ?_)
      · replace h := (if_pos b12).symm.trans h
        cases h
        obtain ⟨rfl, rfl⟩ := pr2 hz
        exact hk
      · replace h := (if_neg b12).symm.trans h
        refine V_aload_n X 0 dX12_middle_28 rfl rfl ?_
        refine V_getr X (o := (0, 32, 0)) (i := (0, 42, 0)) (ci := 12) (k := 22) (N := 30) (T := TX12) (C := RX12) ⟨by decide, rfl⟩ rfl rfl rfl (by decide) (mBa inB_X12) (mB wl_RX12_41) dX12_middle_29 ?_
        refine V_iload X 4 dX12_middle_32 rfl ?_
        refine V_iconst X 1 dX12_middle_34 (by decide) ?_
        refine V_isub X dX12_middle_35 ?_
        obtain ⟨g13, h⟩ := gd_some h
        refine V_iald X (x8 - 1).toNatClampNeg rfl (o := (0, 42, 0)) (n := 21) ⟨by decide, rfl⟩ rfl rfl g13 dX12_middle_36 ?_
        refine V_iload_n X 3 dX12_middle_37 rfl rfl ?_
        refine V_icmp_le X (tgt := 63) dX12_middle_38 (by decide) (fun b14 => ?_) (fun b14 => ?_)
        · replace h := (if_pos b14).symm.trans h
          cases h
          obtain ⟨rfl, rfl⟩ := pr2 hz
          exact hk
        · replace h := (if_neg b14).symm.trans h
          refine V_aload_n X 0 dX12_middle_41 rfl rfl ?_
          refine V_getr X (o := (0, 32, 0)) (i := (0, 42, 0)) (ci := 12) (k := 22) (N := 30) (T := TX12) (C := RX12) ⟨by decide, rfl⟩ rfl rfl rfl (by decide) (mBa inB_X12) (mB wl_RX12_41) dX12_middle_42 ?_
          refine V_iload X 4 dX12_middle_45 rfl ?_
          refine V_aload_n X 0 dX12_middle_47 rfl rfl ?_
          refine V_getr X (o := (0, 32, 0)) (i := (0, 42, 0)) (ci := 12) (k := 22) (N := 30) (T := TX12) (C := RX12) ⟨by decide, rfl⟩ rfl rfl rfl (by decide) (mBa inB_X12) (mB wl_RX12_41) dX12_middle_48 ?_
          refine V_iload X 4 dX12_middle_51 rfl ?_
          refine V_iconst X 1 dX12_middle_53 (by decide) ?_
          refine V_isub X dX12_middle_54 ?_
          refine V_iald X (x8 - 1).toNatClampNeg rfl (o := (0, 42, 0)) (n := 21) ⟨by decide, rfl⟩ rfl rfl g13 dX12_middle_55 ?_
          obtain ⟨g15, h⟩ := gd_some h
          refine V_iast X x8.toNatClampNeg rfl (o := (0, 42, 0)) (n := 21) ⟨by decide, rfl⟩ rfl rfl g15 dX12_middle_56 ?_
          refine zlt_el (P := fun (μ16 : ZMem) => V X μ16 57 [(0, .ref (zad y (0, 32, 0))), (1, .int a1), (2, .int x2), (3, .int x7), (4, .int x8)] []) h (fun μ16 h => ?_)
          refine V_inc X 4 (-1) [(4, .int (x8 + (-1))), (0, .ref (zad y (0, 32, 0))), (1, .int a1), (2, .int x2), (3, .int x7)] dX12_middle_57 rfl (by decide) (by decide) rfl ?_
          refine V_goto X (tgt := 23) dX12_middle_60 (by decide) ?_
          refine V_sub X [1, 2, 3, 4, 0] (lv' := [(0, .ref (zad y (0, 32, 0))), (1, .int a1), (2, .int x2), (3, .int x7), (4, .int (x8 + (-1)))]) rfl ?_
          cases h
          exact hz
  · replace h := (if_pos b1).symm.trans h
    refine V_iconst X 0 dX12_middle_4 (by decide) ?_
    exact V_iretW X h dX12_middle_5

def f_X12_middleOf (a1 : Int32) (a2 : Int32) (μ : ZMem) : Option (Int32 × ZMem) := zlt (mset μ (0, 42, 0) 0 0) (fun (μ1 : ZMem) => bd2 (lp (σ := Int32 × Int32 × ZMem) (fun q => un3 q (fun (x2 : Int32) (x3 : Int32) (μ4 : ZMem) => if (μ4 (0, 33, 0) 3) ≤ x3 then some (.inr (x2, μ4)) else bd2 (α := Int32) (β := ZMem) (if x3 = a1 then some (x2, μ4) else gd (zin a1 8) (bd (f_X12_isOf (a2 &&& (μ4 (0, 40, 0) a1.toNatClampNeg)) x3) (fun (x13 : Int32) => if x13 = 0 then some (x2, μ4) else gd (zin ((8 * x3) + a1) 64) (gd (zin x2 21) (zlt (mset μ4 (0, 42, 0) x2.toNatClampNeg (μ4 (0, 39, 0) ((8 * x3) + a1).toNatClampNeg)) (fun (μ17 : ZMem) => some ((x2 + 1), μ17))))))) (fun (x9 : Int32) (μ10 : ZMem) => some (.inl (x9, (x3 + 1), μ10))))) FU (1, 0, μ1)) (fun (x5 : Int32) (μ6 : ZMem) => bd2 (f_X12_middle x5 μ6) (fun (x19 : Int32) (μ20 : ZMem) => some (x19, μ20))))
set_option maxRecDepth 100000 in
set_option maxHeartbeats 4000000 in
theorem M_X12_middleOf {l : Launch} {D : va_G} {y : ZLay} {a1 : Int32} {a2 : Int32}  {μ : ZMem} {r : Int32} {μ0 : ZMem} (h : f_X12_middleOf a1 a2 μ = some (r, μ0)) : MI l yX12_middleOf wb_X12_middleOf rm_X12_middleOf D y [.ref (zad y (0, 32, 0)), .int a1, .int a2] μ r μ0 := by
  unfold f_X12_middleOf at h
  refine MI_of RX12 [(0, .ref (zad y (0, 32, 0))), (1, .int a1), (2, .int a2)] (by decide) rfl rfl (Nat.le_of_ble_eq_true rfl) rfl ?_
  intro p e s m args below meth c A X
  refine V_aload_n X 0 dX12_middleOf_0 rfl rfl ?_
  refine V_getr X (o := (0, 32, 0)) (i := (0, 42, 0)) (ci := 12) (k := 22) (N := 30) (T := TX12) (C := RX12) ⟨by decide, rfl⟩ rfl rfl rfl (by decide) (mBa inB_X12) (mB wl_RX12_41) dX12_middleOf_1 ?_
  refine V_iconst X 0 dX12_middleOf_4 (by decide) ?_
  refine V_iconst X 0 dX12_middleOf_5 (by decide) ?_
  refine V_iast X 0 (by decide) (o := (0, 42, 0)) (n := 21) ⟨by decide, rfl⟩ rfl rfl (by decide) dX12_middleOf_6 ?_
  refine zlt_el (P := fun (μ1 : ZMem) => V X μ1 7 [(0, .ref (zad y (0, 32, 0))), (1, .int a1), (2, .int a2)] []) h (fun μ1 h => ?_)
  refine V_iconst X 1 dX12_middleOf_7 (by decide) ?_
  refine V_istore_n X [(3, .int 1), (0, .ref (zad y (0, 32, 0))), (1, .int a1), (2, .int a2)] dX12_middleOf_8 rfl (by decide) rfl ?_
  refine V_iconst X 0 dX12_middleOf_9 (by decide) ?_
  refine V_istore X [(4, .int 0), (3, .int 1), (0, .ref (zad y (0, 32, 0))), (1, .int a1), (2, .int a2)] dX12_middleOf_10 (by decide) rfl ?_
  refine V_sub X [2, 3, 4, 1, 0] (lv' := [(0, .ref (zad y (0, 32, 0))), (1, .int a1), (2, .int a2), (3, .int 1), (4, .int 0)]) rfl ?_
  obtain ⟨x5, μ6, hl, h⟩ := bd2_some h
  have hk : V X μ6 75 [(0, .ref (zad y (0, 32, 0))), (3, .int x5)] [] := by
    clear hl
    refine V_aload_n X 0 dX12_middleOf_75 rfl rfl ?_
    refine V_iload_n X 1 dX12_middleOf_76 rfl rfl ?_
    obtain ⟨x19, μ20, c18, h⟩ := bd2_some h
    refine V_callVi X (As := [.int x5]) (M_X12_middle c18) (cwV 1 X.2.2.2.2.2.2.1 (gV wm_RX12_278 wi_X12_middle wse_X12_middle win_RX12 wc_X12_middle) rfl rfl rfl hd_X12_middle ⟨Nat.le_of_ble_eq_true rfl, Nat.le_of_ble_eq_true rfl⟩) (b := (0, 32, 0)) ⟨by decide, rfl⟩ rfl rfl rfl rfl (Nat.le_of_ble_eq_true rfl) dX12_middleOf_77 rfl ?_
    exact V_iretW X h dX12_middleOf_80
  refine lp_ind (P := fun q => V X q.2.2 12 [(0, .ref (zad y (0, 32, 0))), (1, .int a1), (2, .int a2), (3, .int q.1), (4, .int q.2.1)] []) (fun q z h hz => ?_) hl
  obtain ⟨x2, x3, μ4⟩ := q
  replace h := un3_eq h
  show V X μ4 12 [(0, .ref (zad y (0, 32, 0))), (1, .int a1), (2, .int a2), (3, .int x2), (4, .int x3)] []
  refine V_iload X 4 dX12_middleOf_12 rfl ?_
  refine V_aload_n X 0 dX12_middleOf_14 rfl rfl ?_
  refine V_getr X (o := (0, 32, 0)) (i := (0, 33, 0)) (ci := 12) (k := 1) (N := 30) (T := TX12) (C := RX12) ⟨by decide, rfl⟩ rfl rfl rfl (by decide) (mBa inB_X12) (mB wl_RX12_7) dX12_middleOf_15 ?_
  refine V_iconst X 3 dX12_middleOf_18 (by decide) ?_
  refine V_iald X 3 (by decide) (o := (0, 33, 0)) (n := 737) ⟨by decide, rfl⟩ rfl rfl (by decide) dX12_middleOf_19 ?_
  refine V_icmp_ge X (tgt := 75) dX12_middleOf_20 (by decide) (fun b7 => ?_) (fun b7 => ?_)
  · replace h := (if_pos b7).symm.trans h
    refine V_sub X [0, 3] (lv' := [(0, .ref (zad y (0, 32, 0))), (3, .int x2)]) rfl ?_
    cases h
    obtain ⟨rfl, rfl⟩ := pr2 hz
    exact hk
  · replace h := (if_neg b7).symm.trans h
    refine V_iload X 4 dX12_middleOf_23 rfl ?_
    refine V_iload_n X 1 dX12_middleOf_25 rfl rfl ?_
    obtain ⟨x9, μ10, h1, h⟩ := bd2_some h
    have hk : V X μ10 69 [(0, .ref (zad y (0, 32, 0))), (1, .int a1), (2, .int a2), (3, .int x9), (4, .int x3)] [] := by
      clear h1
      refine V_inc X 4 1 [(4, .int (x3 + 1)), (0, .ref (zad y (0, 32, 0))), (1, .int a1), (2, .int a2), (3, .int x9)] dX12_middleOf_69 rfl (by decide) (by decide) rfl ?_
      refine V_goto X (tgt := 12) dX12_middleOf_72 (by decide) ?_
      refine V_sub X [1, 2, 3, 4, 0] (lv' := [(0, .ref (zad y (0, 32, 0))), (1, .int a1), (2, .int a2), (3, .int x9), (4, .int (x3 + 1))]) rfl ?_
      cases h
      exact hz
    replace h := h1
    clear h1
    refine V_icmp_eq X (tgt := 69) dX12_middleOf_26 (by decide) (fun b8 => ?_) (fun b8 => ?_)
    · replace h := (if_pos b8).symm.trans h
      obtain ⟨rfl, rfl⟩ := so2 h
      exact hk
    · replace h := (if_neg b8).symm.trans h
      refine V_iload_n X 2 dX12_middleOf_29 rfl rfl ?_
      refine V_aload_n X 0 dX12_middleOf_30 rfl rfl ?_
      refine V_getr X (o := (0, 32, 0)) (i := (0, 40, 0)) (ci := 12) (k := 20) (N := 30) (T := TX12) (C := RX12) ⟨by decide, rfl⟩ rfl rfl rfl (by decide) (mBa inB_X12) (mB wl_RX12_35) dX12_middleOf_31 ?_
      refine V_iload_n X 1 dX12_middleOf_34 rfl rfl ?_
      obtain ⟨g11, h⟩ := gd_some h
      refine V_iald X a1.toNatClampNeg rfl (o := (0, 40, 0)) (n := 8) ⟨by decide, rfl⟩ rfl rfl g11 dX12_middleOf_35 ?_
      refine V_iand X dX12_middleOf_36 ?_
      refine V_iload X 4 dX12_middleOf_37 rfl ?_
      obtain ⟨x13, c12, h⟩ := bd_some h
      refine V_callSi X (As := [.int (a2 &&& (μ4 (0, 40, 0) a1.toNatClampNeg)), .int x3]) (M_X12_isOf c12) (va_cwS 2 X.2.2.2.2.2.2.1 (gS wm_RX12_274 wst_X12_isOf win_RX12 wc_X12_isOf) rfl rfl rfl hd_X12_isOf.2 ⟨Nat.le_of_ble_eq_true rfl, Nat.le_of_ble_eq_true rfl⟩) rfl (Nat.le_of_ble_eq_true rfl) dX12_middleOf_39 rfl ?_
      refine V_if_ne X (tgt := 48) dX12_middleOf_42 (by decide) (fun b14 => ?_) (fun b14 => ?_)
      · replace h := (if_neg b14).symm.trans h
        refine V_aload_n X 0 dX12_middleOf_48 rfl rfl ?_
        refine V_getr X (o := (0, 32, 0)) (i := (0, 42, 0)) (ci := 12) (k := 22) (N := 30) (T := TX12) (C := RX12) ⟨by decide, rfl⟩ rfl rfl rfl (by decide) (mBa inB_X12) (mB wl_RX12_41) dX12_middleOf_49 ?_
        refine V_iload_n X 3 dX12_middleOf_52 rfl rfl ?_
        refine V_aload_n X 0 dX12_middleOf_53 rfl rfl ?_
        refine V_getr X (o := (0, 32, 0)) (i := (0, 39, 0)) (ci := 12) (k := 19) (N := 30) (T := TX12) (C := RX12) ⟨by decide, rfl⟩ rfl rfl rfl (by decide) (mBa inB_X12) (mB wl_RX12_32) dX12_middleOf_54 ?_
        refine V_bipush X 8 dX12_middleOf_57 (by decide) ?_
        refine V_iload X 4 dX12_middleOf_59 rfl ?_
        refine V_imul X dX12_middleOf_61 ?_
        refine V_iload_n X 1 dX12_middleOf_62 rfl rfl ?_
        refine V_iadd X dX12_middleOf_63 ?_
        obtain ⟨g15, h⟩ := gd_some h
        refine V_iald X ((8 * x3) + a1).toNatClampNeg rfl (o := (0, 39, 0)) (n := 64) ⟨by decide, rfl⟩ rfl rfl g15 dX12_middleOf_64 ?_
        obtain ⟨g16, h⟩ := gd_some h
        refine V_iast X x2.toNatClampNeg rfl (o := (0, 42, 0)) (n := 21) ⟨by decide, rfl⟩ rfl rfl g16 dX12_middleOf_65 ?_
        refine zlt_el (P := fun (μ17 : ZMem) => V X μ17 66 [(0, .ref (zad y (0, 32, 0))), (1, .int a1), (2, .int a2), (3, .int x2), (4, .int x3)] []) h (fun μ17 h => ?_)
        refine V_inc X 3 1 [(3, .int (x2 + 1)), (0, .ref (zad y (0, 32, 0))), (1, .int a1), (2, .int a2), (4, .int x3)] dX12_middleOf_66 rfl (by decide) (by decide) rfl ?_
        refine V_sub X [1, 2, 3, 0, 4] (lv' := [(0, .ref (zad y (0, 32, 0))), (1, .int a1), (2, .int a2), (3, .int (x2 + 1)), (4, .int x3)]) rfl ?_
        obtain ⟨rfl, rfl⟩ := so2 h
        exact hk
      · replace h := (if_pos b14).symm.trans h
        refine V_goto X (tgt := 69) dX12_middleOf_45 (by decide) ?_
        obtain ⟨rfl, rfl⟩ := so2 h
        exact hk

def f_X12_draw (a1 : Int32) (μ : ZMem) : Option (Int32 × ZMem) := zlt (mset μ (0, 33, 0) 8 ((1103515245 * (μ (0, 33, 0) 8)) + 12345)) (fun (μ1 : ZMem) => gd (gnz a1) (some ((zrem ((zushr (μ1 (0, 33, 0) 8) 16) &&& 32767) a1), μ1)))
set_option maxRecDepth 100000 in
set_option maxHeartbeats 4000000 in
theorem M_X12_draw {l : Launch} {D : va_G} {y : ZLay} {a1 : Int32}  {μ : ZMem} {r : Int32} {μ0 : ZMem} (h : f_X12_draw a1 μ = some (r, μ0)) : MI l yX12_draw wb_X12_draw rm_X12_draw D y [.ref (zad y (0, 32, 0)), .int a1] μ r μ0 := by
  unfold f_X12_draw at h
  refine MI_of RX12 [(0, .ref (zad y (0, 32, 0))), (1, .int a1)] (by decide) rfl rfl (Nat.le_of_ble_eq_true rfl) rfl ?_
  intro p e s m args below meth c A X
  refine V_aload_n X 0 dX12_draw_0 rfl rfl ?_
  refine V_getr X (o := (0, 32, 0)) (i := (0, 33, 0)) (ci := 12) (k := 1) (N := 30) (T := TX12) (C := RX12) ⟨by decide, rfl⟩ rfl rfl rfl (by decide) (mBa inB_X12) (mB wl_RX12_7) dX12_draw_1 ?_
  refine V_bipush X 8 dX12_draw_4 (by decide) ?_
  refine V_ldcw X (ix := 281) (v := 1103515245) (mB wk_RX12_281) dX12_draw_6 ?_
  refine V_aload_n X 0 dX12_draw_9 rfl rfl ?_
  refine V_getr X (o := (0, 32, 0)) (i := (0, 33, 0)) (ci := 12) (k := 1) (N := 30) (T := TX12) (C := RX12) ⟨by decide, rfl⟩ rfl rfl rfl (by decide) (mBa inB_X12) (mB wl_RX12_7) dX12_draw_10 ?_
  refine V_bipush X 8 dX12_draw_13 (by decide) ?_
  refine V_iald X 8 (by decide) (o := (0, 33, 0)) (n := 737) ⟨by decide, rfl⟩ rfl rfl (by decide) dX12_draw_15 ?_
  refine V_imul X dX12_draw_16 ?_
  refine V_sipush X 12345 dX12_draw_17 (by decide) ?_
  refine V_iadd X dX12_draw_20 ?_
  refine V_iast X 8 (by decide) (o := (0, 33, 0)) (n := 737) ⟨by decide, rfl⟩ rfl rfl (by decide) dX12_draw_21 ?_
  refine zlt_el (P := fun (μ1 : ZMem) => V X μ1 22 [(0, .ref (zad y (0, 32, 0))), (1, .int a1)] []) h (fun μ1 h => ?_)
  refine V_aload_n X 0 dX12_draw_22 rfl rfl ?_
  refine V_getr X (o := (0, 32, 0)) (i := (0, 33, 0)) (ci := 12) (k := 1) (N := 30) (T := TX12) (C := RX12) ⟨by decide, rfl⟩ rfl rfl rfl (by decide) (mBa inB_X12) (mB wl_RX12_7) dX12_draw_23 ?_
  refine V_bipush X 8 dX12_draw_26 (by decide) ?_
  refine V_iald X 8 (by decide) (o := (0, 33, 0)) (n := 737) ⟨by decide, rfl⟩ rfl rfl (by decide) dX12_draw_28 ?_
  refine V_bipush X 16 dX12_draw_29 (by decide) ?_
  refine V_iushr X dX12_draw_31 ?_
  refine V_sipush X 32767 dX12_draw_32 (by decide) ?_
  refine V_iand X dX12_draw_35 ?_
  refine V_iload_n X 1 dX12_draw_36 rfl rfl ?_
  obtain ⟨g2, h⟩ := gd_some h
  refine V_rem X dX12_draw_37 (gnz_ne g2) ?_
  exact V_iretW X h dX12_draw_38

def f_X12_logs (a1 : Int32) (a2 : Int32) (a3 : Int32) (μ : ZMem) : Option (ZMem) := bd (lp (σ := Int32 × ZMem) (fun q => un2 q (fun (x1 : Int32) (μ2 : ZMem) => if x1 < 4 then some (.inr μ2) else gd (zin ((97 + x1) - 4) 737) (gd (zin (97 + x1) 737) (zlt (mset μ2 (0, 33, 0) (97 + x1).toNatClampNeg (μ2 (0, 33, 0) ((97 + x1) - 4).toNatClampNeg)) (fun (μ7 : ZMem) => some (.inl ((x1 + (-1)), μ7))))))) FU (239, μ)) (fun (μ3 : ZMem) => zlt (mset μ3 (0, 33, 0) 97 (μ3 (0, 33, 0) 6)) (fun (μ8 : ZMem) => zlt (mset μ8 (0, 33, 0) 98 a1) (fun (μ9 : ZMem) => zlt (mset μ9 (0, 33, 0) 99 a2) (fun (μ10 : ZMem) => zlt (mset μ10 (0, 33, 0) 100 a3) (fun (μ11 : ZMem) => zlt (mset μ11 (0, 33, 0) 7 (f_X12_lesser 60 ((μ11 (0, 33, 0) 7) + 1))) (fun (μ12 : ZMem) => some μ12))))))
set_option maxRecDepth 100000 in
set_option maxHeartbeats 4000000 in
theorem M_X12_logs {l : Launch} {D : va_G} {y : ZLay} {a1 : Int32} {a2 : Int32} {a3 : Int32}  {μ : ZMem} {μ0 : ZMem} (h : f_X12_logs a1 a2 a3 μ = some μ0) : MV l yX12_logs wb_X12_logs rm_X12_logs D y [.ref (zad y (0, 32, 0)), .int a1, .int a2, .int a3] μ μ0 := by
  unfold f_X12_logs at h
  refine MV_of RX12 [(0, .ref (zad y (0, 32, 0))), (1, .int a1), (2, .int a2), (3, .int a3)] (by decide) rfl rfl (Nat.le_of_ble_eq_true rfl) rfl ?_
  intro p e s m args below meth c A X
  refine V_sipush X 239 dX12_logs_0 (by decide) ?_
  refine V_istore X [(4, .int 239), (0, .ref (zad y (0, 32, 0))), (1, .int a1), (2, .int a2), (3, .int a3)] dX12_logs_3 (by decide) rfl ?_
  refine V_sub X [1, 2, 3, 4, 0] (lv' := [(0, .ref (zad y (0, 32, 0))), (1, .int a1), (2, .int a2), (3, .int a3), (4, .int 239)]) rfl ?_
  obtain ⟨μ3, hl, h⟩ := bd_some h
  have hk : V X μ3 39 [(0, .ref (zad y (0, 32, 0))), (1, .int a1), (2, .int a2), (3, .int a3)] [] := by
    clear hl
    refine V_aload_n X 0 dX12_logs_39 rfl rfl ?_
    refine V_getr X (o := (0, 32, 0)) (i := (0, 33, 0)) (ci := 12) (k := 1) (N := 30) (T := TX12) (C := RX12) ⟨by decide, rfl⟩ rfl rfl rfl (by decide) (mBa inB_X12) (mB wl_RX12_7) dX12_logs_40 ?_
    refine V_bipush X 97 dX12_logs_43 (by decide) ?_
    refine V_aload_n X 0 dX12_logs_45 rfl rfl ?_
    refine V_getr X (o := (0, 32, 0)) (i := (0, 33, 0)) (ci := 12) (k := 1) (N := 30) (T := TX12) (C := RX12) ⟨by decide, rfl⟩ rfl rfl rfl (by decide) (mBa inB_X12) (mB wl_RX12_7) dX12_logs_46 ?_
    refine V_bipush X 6 dX12_logs_49 (by decide) ?_
    refine V_iald X 6 (by decide) (o := (0, 33, 0)) (n := 737) ⟨by decide, rfl⟩ rfl rfl (by decide) dX12_logs_51 ?_
    refine V_iast X 97 (by decide) (o := (0, 33, 0)) (n := 737) ⟨by decide, rfl⟩ rfl rfl (by decide) dX12_logs_52 ?_
    refine zlt_el (P := fun (μ8 : ZMem) => V X μ8 53 [(0, .ref (zad y (0, 32, 0))), (1, .int a1), (2, .int a2), (3, .int a3)] []) h (fun μ8 h => ?_)
    refine V_aload_n X 0 dX12_logs_53 rfl rfl ?_
    refine V_getr X (o := (0, 32, 0)) (i := (0, 33, 0)) (ci := 12) (k := 1) (N := 30) (T := TX12) (C := RX12) ⟨by decide, rfl⟩ rfl rfl rfl (by decide) (mBa inB_X12) (mB wl_RX12_7) dX12_logs_54 ?_
    refine V_bipush X 98 dX12_logs_57 (by decide) ?_
    refine V_iload_n X 1 dX12_logs_59 rfl rfl ?_
    refine V_iast X 98 (by decide) (o := (0, 33, 0)) (n := 737) ⟨by decide, rfl⟩ rfl rfl (by decide) dX12_logs_60 ?_
    refine zlt_el (P := fun (μ9 : ZMem) => V X μ9 61 [(0, .ref (zad y (0, 32, 0))), (1, .int a1), (2, .int a2), (3, .int a3)] []) h (fun μ9 h => ?_)
    refine V_aload_n X 0 dX12_logs_61 rfl rfl ?_
    refine V_getr X (o := (0, 32, 0)) (i := (0, 33, 0)) (ci := 12) (k := 1) (N := 30) (T := TX12) (C := RX12) ⟨by decide, rfl⟩ rfl rfl rfl (by decide) (mBa inB_X12) (mB wl_RX12_7) dX12_logs_62 ?_
    refine V_bipush X 99 dX12_logs_65 (by decide) ?_
    refine V_iload_n X 2 dX12_logs_67 rfl rfl ?_
    refine V_iast X 99 (by decide) (o := (0, 33, 0)) (n := 737) ⟨by decide, rfl⟩ rfl rfl (by decide) dX12_logs_68 ?_
    refine zlt_el (P := fun (μ10 : ZMem) => V X μ10 69 [(0, .ref (zad y (0, 32, 0))), (1, .int a1), (2, .int a2), (3, .int a3)] []) h (fun μ10 h => ?_)
    refine V_aload_n X 0 dX12_logs_69 rfl rfl ?_
    refine V_getr X (o := (0, 32, 0)) (i := (0, 33, 0)) (ci := 12) (k := 1) (N := 30) (T := TX12) (C := RX12) ⟨by decide, rfl⟩ rfl rfl rfl (by decide) (mBa inB_X12) (mB wl_RX12_7) dX12_logs_70 ?_
    refine V_bipush X 100 dX12_logs_73 (by decide) ?_
    refine V_iload_n X 3 dX12_logs_75 rfl rfl ?_
    refine V_iast X 100 (by decide) (o := (0, 33, 0)) (n := 737) ⟨by decide, rfl⟩ rfl rfl (by decide) dX12_logs_76 ?_
    refine zlt_el (P := fun (μ11 : ZMem) => V X μ11 77 [(0, .ref (zad y (0, 32, 0))), (1, .int a1), (2, .int a2), (3, .int a3)] []) h (fun μ11 h => ?_)
    refine V_aload_n X 0 dX12_logs_77 rfl rfl ?_
    refine V_getr X (o := (0, 32, 0)) (i := (0, 33, 0)) (ci := 12) (k := 1) (N := 30) (T := TX12) (C := RX12) ⟨by decide, rfl⟩ rfl rfl rfl (by decide) (mBa inB_X12) (mB wl_RX12_7) dX12_logs_78 ?_
    refine V_bipush X 7 dX12_logs_81 (by decide) ?_
    refine V_bipush X 60 dX12_logs_83 (by decide) ?_
    refine V_aload_n X 0 dX12_logs_85 rfl rfl ?_
    refine V_getr X (o := (0, 32, 0)) (i := (0, 33, 0)) (ci := 12) (k := 1) (N := 30) (T := TX12) (C := RX12) ⟨by decide, rfl⟩ rfl rfl rfl (by decide) (mBa inB_X12) (mB wl_RX12_7) dX12_logs_86 ?_
    refine V_bipush X 7 dX12_logs_89 (by decide) ?_
    refine V_iald X 7 (by decide) (o := (0, 33, 0)) (n := 737) ⟨by decide, rfl⟩ rfl rfl (by decide) dX12_logs_91 ?_
    refine V_iconst X 1 dX12_logs_92 (by decide) ?_
    refine V_iadd X dX12_logs_93 ?_
    refine V_callSi X (As := [.int 60, .int ((μ11 (0, 33, 0) 7) + 1)]) (M_X12_lesser) (va_cwS 2 X.2.2.2.2.2.2.1 (gS wm_RX12_70 wst_X12_lesser win_RX12 wc_X12_lesser) rfl rfl rfl hd_X12_lesser.2 ⟨Nat.le_of_ble_eq_true rfl, Nat.le_of_ble_eq_true rfl⟩) rfl (Nat.le_of_ble_eq_true rfl) dX12_logs_94 rfl ?_
    refine V_iast X 7 (by decide) (o := (0, 33, 0)) (n := 737) ⟨by decide, rfl⟩ rfl rfl (by decide) dX12_logs_97 ?_
    refine zlt_el (P := fun (μ12 : ZMem) => V X μ12 98 [(0, .ref (zad y (0, 32, 0))), (1, .int a1), (2, .int a2), (3, .int a3)] []) h (fun μ12 h => ?_)
    exact V_vretW X h dX12_logs_98
  refine lp_ind (P := fun q => V X q.2 5 [(0, .ref (zad y (0, 32, 0))), (1, .int a1), (2, .int a2), (3, .int a3), (4, .int q.1)] []) (fun q z h hz => ?_) hl
  obtain ⟨x1, μ2⟩ := q
  replace h := un2_eq h
  show V X μ2 5 [(0, .ref (zad y (0, 32, 0))), (1, .int a1), (2, .int a2), (3, .int a3), (4, .int x1)] []
  refine V_iload X 4 dX12_logs_5 rfl ?_
  refine V_iconst X 4 dX12_logs_7 (by decide) ?_
  refine V_icmp_lt X (tgt := 39) dX12_logs_8 (by decide) (fun b4 => ?_) (fun b4 => ?_)
  · replace h := (if_pos b4).symm.trans h
    refine V_sub X [0, 1, 2, 3] (lv' := [(0, .ref (zad y (0, 32, 0))), (1, .int a1), (2, .int a2), (3, .int a3)]) rfl ?_
    cases h
    obtain rfl := pr1 hz
    exact hk
  · replace h := (if_neg b4).symm.trans h
    refine V_aload_n X 0 dX12_logs_11 rfl rfl ?_
    refine V_getr X (o := (0, 32, 0)) (i := (0, 33, 0)) (ci := 12) (k := 1) (N := 30) (T := TX12) (C := RX12) ⟨by decide, rfl⟩ rfl rfl rfl (by decide) (mBa inB_X12) (mB wl_RX12_7) dX12_logs_12 ?_
    refine V_bipush X 97 dX12_logs_15 (by decide) ?_
    refine V_iload X 4 dX12_logs_17 rfl ?_
    refine V_iadd X dX12_logs_19 ?_
    refine V_aload_n X 0 dX12_logs_20 rfl rfl ?_
    refine V_getr X (o := (0, 32, 0)) (i := (0, 33, 0)) (ci := 12) (k := 1) (N := 30) (T := TX12) (C := RX12) ⟨by decide, rfl⟩ rfl rfl rfl (by decide) (mBa inB_X12) (mB wl_RX12_7) dX12_logs_21 ?_
    refine V_bipush X 97 dX12_logs_24 (by decide) ?_
    refine V_iload X 4 dX12_logs_26 rfl ?_
    refine V_iadd X dX12_logs_28 ?_
    refine V_iconst X 4 dX12_logs_29 (by decide) ?_
    refine V_isub X dX12_logs_30 ?_
    obtain ⟨g5, h⟩ := gd_some h
    refine V_iald X ((97 + x1) - 4).toNatClampNeg rfl (o := (0, 33, 0)) (n := 737) ⟨by decide, rfl⟩ rfl rfl g5 dX12_logs_31 ?_
    obtain ⟨g6, h⟩ := gd_some h
    refine V_iast X (97 + x1).toNatClampNeg rfl (o := (0, 33, 0)) (n := 737) ⟨by decide, rfl⟩ rfl rfl g6 dX12_logs_32 ?_
    refine zlt_el (P := fun (μ7 : ZMem) => V X μ7 33 [(0, .ref (zad y (0, 32, 0))), (1, .int a1), (2, .int a2), (3, .int a3), (4, .int x1)] []) h (fun μ7 h => ?_)
    refine V_inc X 4 (-1) [(4, .int (x1 + (-1))), (0, .ref (zad y (0, 32, 0))), (1, .int a1), (2, .int a2), (3, .int a3)] dX12_logs_33 rfl (by decide) (by decide) rfl ?_
    refine V_goto X (tgt := 5) dX12_logs_36 (by decide) ?_
    refine V_sub X [1, 2, 3, 4, 0] (lv' := [(0, .ref (zad y (0, 32, 0))), (1, .int a1), (2, .int a2), (3, .int a3), (4, .int (x1 + (-1)))]) rfl ?_
    cases h
    exact hz

def f_X12_starts (a1 : Int32) (μ : ZMem) : Option (ZMem) := bd (lp (σ := Int32) (fun (x1 : Int32) => bd (f_X12_isOf a1 x1) (fun (x4 : Int32) => if x4 = 0 then some (.inl (x1 + 1)) else some (.inr x1))) FU 0) (fun (x2 : Int32) => bd (f_X12_lays x2 3 2 μ) (fun (μ7 : ZMem) => bd (f_X12_lays x2 5 a1 μ7) (fun (μ9 : ZMem) => bd (f_X12_lays x2 2 0 μ9) (fun (μ11 : ZMem) => bd (f_X12_logs x2 0 0 μ11) (fun (μ13 : ZMem) => some μ13)))))
set_option maxRecDepth 100000 in
set_option maxHeartbeats 4000000 in
theorem M_X12_starts {l : Launch} {D : va_G} {y : ZLay} {a1 : Int32}  {μ : ZMem} {μ0 : ZMem} (h : f_X12_starts a1 μ = some μ0) : MV l yX12_starts wb_X12_starts rm_X12_starts D y [.ref (zad y (0, 32, 0)), .int a1] μ μ0 := by
  unfold f_X12_starts at h
  refine MV_of RX12 [(0, .ref (zad y (0, 32, 0))), (1, .int a1)] (by decide) rfl rfl (Nat.le_of_ble_eq_true rfl) rfl ?_
  intro p e s m args below meth c A X
  refine V_iconst X 0 dX12_starts_0 (by decide) ?_
  refine V_istore_n X [(2, .int 0), (0, .ref (zad y (0, 32, 0))), (1, .int a1)] dX12_starts_1 rfl (by decide) rfl ?_
  refine V_sub X [1, 2, 0] (lv' := [(0, .ref (zad y (0, 32, 0))), (1, .int a1), (2, .int 0)]) rfl ?_
  obtain ⟨x2, hl, h⟩ := bd_some h
  have hk : V X μ 16 [(0, .ref (zad y (0, 32, 0))), (1, .int a1), (2, .int x2)] [] := by
    clear hl
    refine V_aload_n X 0 dX12_starts_16 rfl rfl ?_
    refine V_iload_n X 2 dX12_starts_17 rfl rfl ?_
    refine V_iconst X 3 dX12_starts_18 (by decide) ?_
    refine V_iconst X 2 dX12_starts_19 (by decide) ?_
    obtain ⟨μ7, c6, h⟩ := bd_some h
    refine V_callVv X (As := [.int x2, .int 3, .int 2]) (M_X12_lays c6) (cwV 3 X.2.2.2.2.2.2.1 (gV wm_RX12_146 wi_X12_lays wse_X12_lays win_RX12 wc_X12_lays) rfl rfl rfl hd_X12_lays ⟨Nat.le_of_ble_eq_true rfl, Nat.le_of_ble_eq_true rfl⟩) (b := (0, 32, 0)) ⟨by decide, rfl⟩ rfl rfl rfl rfl (Nat.le_of_ble_eq_true rfl) dX12_starts_20 rfl ?_
    refine V_aload_n X 0 dX12_starts_23 rfl rfl ?_
    refine V_iload_n X 2 dX12_starts_24 rfl rfl ?_
    refine V_iconst X 5 dX12_starts_25 (by decide) ?_
    refine V_iload_n X 1 dX12_starts_26 rfl rfl ?_
    obtain ⟨μ9, c8, h⟩ := bd_some h
    refine V_callVv X (As := [.int x2, .int 5, .int a1]) (M_X12_lays c8) (cwV 3 X.2.2.2.2.2.2.1 (gV wm_RX12_146 wi_X12_lays wse_X12_lays win_RX12 wc_X12_lays) rfl rfl rfl hd_X12_lays ⟨Nat.le_of_ble_eq_true rfl, Nat.le_of_ble_eq_true rfl⟩) (b := (0, 32, 0)) ⟨by decide, rfl⟩ rfl rfl rfl rfl (Nat.le_of_ble_eq_true rfl) dX12_starts_27 rfl ?_
    refine V_aload_n X 0 dX12_starts_30 rfl rfl ?_
    refine V_iload_n X 2 dX12_starts_31 rfl rfl ?_
    refine V_iconst X 2 dX12_starts_32 (by decide) ?_
    refine V_iconst X 0 dX12_starts_33 (by decide) ?_
    obtain ⟨μ11, c10, h⟩ := bd_some h
    refine V_callVv X (As := [.int x2, .int 2, .int 0]) (M_X12_lays c10) (cwV 3 X.2.2.2.2.2.2.1 (gV wm_RX12_146 wi_X12_lays wse_X12_lays win_RX12 wc_X12_lays) rfl rfl rfl hd_X12_lays ⟨Nat.le_of_ble_eq_true rfl, Nat.le_of_ble_eq_true rfl⟩) (b := (0, 32, 0)) ⟨by decide, rfl⟩ rfl rfl rfl rfl (Nat.le_of_ble_eq_true rfl) dX12_starts_34 rfl ?_
    refine V_aload_n X 0 dX12_starts_37 rfl rfl ?_
    refine V_iload_n X 2 dX12_starts_38 rfl rfl ?_
    refine V_iconst X 0 dX12_starts_39 (by decide) ?_
    refine V_iconst X 0 dX12_starts_40 (by decide) ?_
    obtain ⟨μ13, c12, h⟩ := bd_some h
    refine V_callVv X (As := [.int x2, .int 0, .int 0]) (M_X12_logs c12) (cwV 3 X.2.2.2.2.2.2.1 (gV wm_RX12_288 wi_X12_logs wse_X12_logs win_RX12 wc_X12_logs) rfl rfl rfl hd_X12_logs ⟨Nat.le_of_ble_eq_true rfl, Nat.le_of_ble_eq_true rfl⟩) (b := (0, 32, 0)) ⟨by decide, rfl⟩ rfl rfl rfl rfl (Nat.le_of_ble_eq_true rfl) dX12_starts_41 rfl ?_
    exact V_vretW X h dX12_starts_44
  refine lp_ind (P := fun (x1 : Int32) => V X μ 2 [(0, .ref (zad y (0, 32, 0))), (1, .int a1), (2, .int x1)] []) (fun q z h hz => ?_) hl
  obtain ⟨x1, hq⟩ : ∃ x, x = q := ⟨q, rfl⟩
  subst hq
  show V X μ 2 [(0, .ref (zad y (0, 32, 0))), (1, .int a1), (2, .int x1)] []
  refine V_iload_n X 1 dX12_starts_2 rfl rfl ?_
  refine V_iload_n X 2 dX12_starts_3 rfl rfl ?_
  obtain ⟨x4, c3, h⟩ := bd_some h
  refine V_callSi X (As := [.int a1, .int x1]) (M_X12_isOf c3) (va_cwS 2 X.2.2.2.2.2.2.1 (gS wm_RX12_274 wst_X12_isOf win_RX12 wc_X12_isOf) rfl rfl rfl hd_X12_isOf.2 ⟨Nat.le_of_ble_eq_true rfl, Nat.le_of_ble_eq_true rfl⟩) rfl (Nat.le_of_ble_eq_true rfl) dX12_starts_4 rfl ?_
  refine V_if_ne X (tgt := 16) dX12_starts_7 (by decide) (fun b5 => ?_) (fun b5 => ?_)
  · replace h := (if_neg b5).symm.trans h
    cases h
    obtain rfl := pr1 hz
    exact hk
  · replace h := (if_pos b5).symm.trans h
    refine V_inc X 2 1 [(2, .int (x1 + 1)), (0, .ref (zad y (0, 32, 0))), (1, .int a1)] dX12_starts_10 rfl (by decide) (by decide) rfl ?_
    refine V_goto X (tgt := 2) dX12_starts_13 (by decide) ?_
    refine V_sub X [1, 2, 0] (lv' := [(0, .ref (zad y (0, 32, 0))), (1, .int a1), (2, .int (x1 + 1))]) rfl ?_
    cases h
    exact hz

def f_X12_collides (a1 : Int32) (μ : ZMem) : Option (ZMem) := bd (lp (σ := Int32 × ZMem) (fun q => un2 q (fun (x1 : Int32) (μ2 : ZMem) => if (μ2 (0, 33, 0) 3) ≤ x1 then some (.inr μ2) else bd (f_X12_isOf a1 x1) (fun (x6 : Int32) => bd (α := ZMem) (if x6 = 0 then some μ2 else bd (f_X12_asks x1 μ2) (fun (μ10 : ZMem) => gd (zin x1 8) (zlt (mset μ10 (0, 43, 0) x1.toNatClampNeg (f_X12_lesser 99 ((3 + x1) + (μ10 (0, 32, 0) 18)))) (fun (μ12 : ZMem) => some μ12)))) (fun (μ8 : ZMem) => some (.inl ((x1 + 1), μ8)))))) FU (0, μ)) (fun (μ3 : ZMem) => bd (lp (σ := Int32 × ZMem) (fun q => un2 q (fun (x13 : Int32) (μ14 : ZMem) => if (μ14 (0, 33, 0) 3) ≤ x13 then some (.inr μ14) else bd (f_X12_isOf a1 x13) (fun (x18 : Int32) => bd (α := ZMem) (if x18 = 0 then some μ14 else gd (zin x13 8) (bd (f_X12_lays x13 4 (μ14 (0, 43, 0) x13.toNatClampNeg) μ14) (fun (μ23 : ZMem) => bd (f_X12_logs x13 1 (μ23 (0, 43, 0) x13.toNatClampNeg) μ23) (fun (μ25 : ZMem) => some μ25)))) (fun (μ20 : ZMem) => some (.inl ((x13 + 1), μ20)))))) FU (0, μ3)) (fun (μ15 : ZMem) => some μ15))
set_option maxRecDepth 100000 in
set_option maxHeartbeats 4000000 in
theorem M_X12_collides {l : Launch} {D : va_G} {y : ZLay} {a1 : Int32}  {μ : ZMem} {μ0 : ZMem} (h : f_X12_collides a1 μ = some μ0) : MV l yX12_collides wb_X12_collides rm_X12_collides D y [.ref (zad y (0, 32, 0)), .int a1] μ μ0 := by
  unfold f_X12_collides at h
  refine MV_of RX12 [(0, .ref (zad y (0, 32, 0))), (1, .int a1)] (by decide) rfl rfl (Nat.le_of_ble_eq_true rfl) rfl ?_
  intro p e s m args below meth c A X
  refine V_iconst X 0 dX12_collides_0 (by decide) ?_
  refine V_istore_n X [(2, .int 0), (0, .ref (zad y (0, 32, 0))), (1, .int a1)] dX12_collides_1 rfl (by decide) rfl ?_
  refine V_sub X [1, 2, 0] (lv' := [(0, .ref (zad y (0, 32, 0))), (1, .int a1), (2, .int 0)]) rfl ?_
  obtain ⟨μ3, hl, h⟩ := bd_some h
  have hk : V X μ3 53 [(0, .ref (zad y (0, 32, 0))), (1, .int a1)] [] := by
    clear hl
    refine V_iconst X 0 dX12_collides_53 (by decide) ?_
    refine V_istore_n X [(2, .int 0), (0, .ref (zad y (0, 32, 0))), (1, .int a1)] dX12_collides_54 rfl (by decide) rfl ?_
    refine V_sub X [1, 2, 0] (lv' := [(0, .ref (zad y (0, 32, 0))), (1, .int a1), (2, .int 0)]) rfl ?_
    obtain ⟨μ15, hl, h⟩ := bd_some h
    have hk : V X μ15 106 [] [] := by
      clear hl
      exact V_vretW X h dX12_collides_106
    refine lp_ind (P := fun q => V X q.2 55 [(0, .ref (zad y (0, 32, 0))), (1, .int a1), (2, .int q.1)] []) (fun q z h hz => ?_) hl
    obtain ⟨x13, μ14⟩ := q
    replace h := un2_eq h
    show V X μ14 55 [(0, .ref (zad y (0, 32, 0))), (1, .int a1), (2, .int x13)] []
    refine V_iload_n X 2 dX12_collides_55 rfl rfl ?_
    refine V_aload_n X 0 dX12_collides_56 rfl rfl ?_
    refine V_getr X (o := (0, 32, 0)) (i := (0, 33, 0)) (ci := 12) (k := 1) (N := 30) (T := TX12) (C := RX12) ⟨by decide, rfl⟩ rfl rfl rfl (by decide) (mBa inB_X12) (mB wl_RX12_7) dX12_collides_57 ?_
    refine V_iconst X 3 dX12_collides_60 (by decide) ?_
    refine V_iald X 3 (by decide) (o := (0, 33, 0)) (n := 737) ⟨by decide, rfl⟩ rfl rfl (by decide) dX12_collides_61 ?_
    refine V_icmp_ge X (tgt := 106) dX12_collides_62 (by decide) (fun b16 => ?_) (fun b16 => ?_)
    · replace h := (if_pos b16).symm.trans h
      refine V_sub X [] (lv' := []) rfl ?_
      cases h
      obtain rfl := pr1 hz
      exact hk
    · replace h := (if_neg b16).symm.trans h
      refine V_iload_n X 1 dX12_collides_65 rfl rfl ?_
      refine V_iload_n X 2 dX12_collides_66 rfl rfl ?_
      obtain ⟨x18, c17, h⟩ := bd_some h
      refine V_callSi X (As := [.int a1, .int x13]) (M_X12_isOf c17) (va_cwS 2 X.2.2.2.2.2.2.1 (gS wm_RX12_274 wst_X12_isOf win_RX12 wc_X12_isOf) rfl rfl rfl hd_X12_isOf.2 ⟨Nat.le_of_ble_eq_true rfl, Nat.le_of_ble_eq_true rfl⟩) rfl (Nat.le_of_ble_eq_true rfl) dX12_collides_67 rfl ?_
      obtain ⟨μ20, h1, h⟩ := bd_some h
      have hk : V X μ20 100 [(0, .ref (zad y (0, 32, 0))), (1, .int a1), (2, .int x13)] [] := by
        clear h1
        refine V_inc X 2 1 [(2, .int (x13 + 1)), (0, .ref (zad y (0, 32, 0))), (1, .int a1)] dX12_collides_100 rfl (by decide) (by decide) rfl ?_
        refine V_goto X (tgt := 55) dX12_collides_103 (by decide) ?_
        refine V_sub X [1, 2, 0] (lv' := [(0, .ref (zad y (0, 32, 0))), (1, .int a1), (2, .int (x13 + 1))]) rfl ?_
        cases h
        exact hz
      replace h := h1
      clear h1
      refine V_if_ne X (tgt := 76) dX12_collides_70 (by decide) (fun b19 => ?_) (fun b19 => ?_)
      · replace h := (if_neg b19).symm.trans h
        refine V_aload_n X 0 dX12_collides_76 rfl rfl ?_
        refine V_iload_n X 2 dX12_collides_77 rfl rfl ?_
        refine V_iconst X 4 dX12_collides_78 (by decide) ?_
        refine V_aload_n X 0 dX12_collides_79 rfl rfl ?_
        refine V_getr X (o := (0, 32, 0)) (i := (0, 43, 0)) (ci := 12) (k := 23) (N := 30) (T := TX12) (C := RX12) ⟨by decide, rfl⟩ rfl rfl rfl (by decide) (mBa inB_X12) (mB wl_RX12_44) dX12_collides_80 ?_
        refine V_iload_n X 2 dX12_collides_83 rfl rfl ?_
        obtain ⟨g21, h⟩ := gd_some h
        refine V_iald X x13.toNatClampNeg rfl (o := (0, 43, 0)) (n := 8) ⟨by decide, rfl⟩ rfl rfl g21 dX12_collides_84 ?_
        obtain ⟨μ23, c22, h⟩ := bd_some h
        refine V_callVv X (As := [.int x13, .int 4, .int (μ14 (0, 43, 0) x13.toNatClampNeg)]) (M_X12_lays c22) (cwV 3 X.2.2.2.2.2.2.1 (gV wm_RX12_146 wi_X12_lays wse_X12_lays win_RX12 wc_X12_lays) rfl rfl rfl hd_X12_lays ⟨Nat.le_of_ble_eq_true rfl, Nat.le_of_ble_eq_true rfl⟩) (b := (0, 32, 0)) ⟨by decide, rfl⟩ rfl rfl rfl rfl (Nat.le_of_ble_eq_true rfl) dX12_collides_85 rfl ?_
        refine V_aload_n X 0 dX12_collides_88 rfl rfl ?_
        refine V_iload_n X 2 dX12_collides_89 rfl rfl ?_
        refine V_iconst X 1 dX12_collides_90 (by decide) ?_
        refine V_aload_n X 0 dX12_collides_91 rfl rfl ?_
        refine V_getr X (o := (0, 32, 0)) (i := (0, 43, 0)) (ci := 12) (k := 23) (N := 30) (T := TX12) (C := RX12) ⟨by decide, rfl⟩ rfl rfl rfl (by decide) (mBa inB_X12) (mB wl_RX12_44) dX12_collides_92 ?_
        refine V_iload_n X 2 dX12_collides_95 rfl rfl ?_
        refine V_iald X x13.toNatClampNeg rfl (o := (0, 43, 0)) (n := 8) ⟨by decide, rfl⟩ rfl rfl g21 dX12_collides_96 ?_
        obtain ⟨μ25, c24, h⟩ := bd_some h
        refine V_callVv X (As := [.int x13, .int 1, .int (μ23 (0, 43, 0) x13.toNatClampNeg)]) (M_X12_logs c24) (cwV 3 X.2.2.2.2.2.2.1 (gV wm_RX12_288 wi_X12_logs wse_X12_logs win_RX12 wc_X12_logs) rfl rfl rfl hd_X12_logs ⟨Nat.le_of_ble_eq_true rfl, Nat.le_of_ble_eq_true rfl⟩) (b := (0, 32, 0)) ⟨by decide, rfl⟩ rfl rfl rfl rfl (Nat.le_of_ble_eq_true rfl) dX12_collides_97 rfl ?_
        obtain rfl := so1 h
        exact hk
      · replace h := (if_pos b19).symm.trans h
        refine V_goto X (tgt := 100) dX12_collides_73 (by decide) ?_
        obtain rfl := so1 h
        exact hk
  refine lp_ind (P := fun q => V X q.2 2 [(0, .ref (zad y (0, 32, 0))), (1, .int a1), (2, .int q.1)] []) (fun q z h hz => ?_) hl
  obtain ⟨x1, μ2⟩ := q
  replace h := un2_eq h
  show V X μ2 2 [(0, .ref (zad y (0, 32, 0))), (1, .int a1), (2, .int x1)] []
  refine V_iload_n X 2 dX12_collides_2 rfl rfl ?_
  refine V_aload_n X 0 dX12_collides_3 rfl rfl ?_
  refine V_getr X (o := (0, 32, 0)) (i := (0, 33, 0)) (ci := 12) (k := 1) (N := 30) (T := TX12) (C := RX12) ⟨by decide, rfl⟩ rfl rfl rfl (by decide) (mBa inB_X12) (mB wl_RX12_7) dX12_collides_4 ?_
  refine V_iconst X 3 dX12_collides_7 (by decide) ?_
  refine V_iald X 3 (by decide) (o := (0, 33, 0)) (n := 737) ⟨by decide, rfl⟩ rfl rfl (by decide) dX12_collides_8 ?_
  refine V_icmp_ge X (tgt := 53) dX12_collides_9 (by decide) (fun b4 => ?_) (fun b4 => ?_)
  · replace h := (if_pos b4).symm.trans h
    refine V_sub X [0, 1] (lv' := [(0, .ref (zad y (0, 32, 0))), (1, .int a1)]) rfl ?_
    cases h
    obtain rfl := pr1 hz
    exact hk
  · replace h := (if_neg b4).symm.trans h
    refine V_iload_n X 1 dX12_collides_12 rfl rfl ?_
    refine V_iload_n X 2 dX12_collides_13 rfl rfl ?_
    obtain ⟨x6, c5, h⟩ := bd_some h
    refine V_callSi X (As := [.int a1, .int x1]) (M_X12_isOf c5) (va_cwS 2 X.2.2.2.2.2.2.1 (gS wm_RX12_274 wst_X12_isOf win_RX12 wc_X12_isOf) rfl rfl rfl hd_X12_isOf.2 ⟨Nat.le_of_ble_eq_true rfl, Nat.le_of_ble_eq_true rfl⟩) rfl (Nat.le_of_ble_eq_true rfl) dX12_collides_14 rfl ?_
    obtain ⟨μ8, h1, h⟩ := bd_some h
    have hk : V X μ8 47 [(0, .ref (zad y (0, 32, 0))), (1, .int a1), (2, .int x1)] [] := by
      clear h1
      refine V_inc X 2 1 [(2, .int (x1 + 1)), (0, .ref (zad y (0, 32, 0))), (1, .int a1)] dX12_collides_47 rfl (by decide) (by decide) rfl ?_
      refine V_goto X (tgt := 2) dX12_collides_50 (by decide) ?_
      refine V_sub X [1, 2, 0] (lv' := [(0, .ref (zad y (0, 32, 0))), (1, .int a1), (2, .int (x1 + 1))]) rfl ?_
      cases h
      exact hz
    replace h := h1
    clear h1
    refine V_if_ne X (tgt := 23) dX12_collides_17 (by decide) (fun b7 => ?_) (fun b7 => ?_)
    · replace h := (if_neg b7).symm.trans h
      refine V_aload_n X 0 dX12_collides_23 rfl rfl ?_
      refine V_iload_n X 2 dX12_collides_24 rfl rfl ?_
      obtain ⟨μ10, c9, h⟩ := bd_some h
      refine V_callVv X (As := [.int x1]) (M_X12_asks c9) (cwV 1 X.2.2.2.2.2.2.1 (gV wm_RX12_253 wi_X12_asks wse_X12_asks win_RX12 wc_X12_asks) rfl rfl rfl hd_X12_asks ⟨Nat.le_of_ble_eq_true rfl, Nat.le_of_ble_eq_true rfl⟩) (b := (0, 32, 0)) ⟨by decide, rfl⟩ rfl rfl rfl rfl (Nat.le_of_ble_eq_true rfl) dX12_collides_25 rfl ?_
      refine V_aload_n X 0 dX12_collides_28 rfl rfl ?_
      refine V_getr X (o := (0, 32, 0)) (i := (0, 43, 0)) (ci := 12) (k := 23) (N := 30) (T := TX12) (C := RX12) ⟨by decide, rfl⟩ rfl rfl rfl (by decide) (mBa inB_X12) (mB wl_RX12_44) dX12_collides_29 ?_
      refine V_iload_n X 2 dX12_collides_32 rfl rfl ?_
      refine V_bipush X 99 dX12_collides_33 (by decide) ?_
      refine V_iconst X 3 dX12_collides_35 (by decide) ?_
      refine V_iload_n X 2 dX12_collides_36 rfl rfl ?_
      refine V_iadd X dX12_collides_37 ?_
      refine V_aload_n X 0 dX12_collides_38 rfl rfl ?_
      refine V_geti X (o := (0, 32, 0)) (ci := 12) (k := 18) (N := 30) (T := TX12) (C := RX12) ⟨by decide, rfl⟩ rfl rfl rfl (by decide) (mBa inB_X12) (mB wl_RX12_245) dX12_collides_39 ?_
      refine V_iadd X dX12_collides_42 ?_
      refine V_callSi X (As := [.int 99, .int ((3 + x1) + (μ10 (0, 32, 0) 18))]) (M_X12_lesser) (va_cwS 2 X.2.2.2.2.2.2.1 (gS wm_RX12_70 wst_X12_lesser win_RX12 wc_X12_lesser) rfl rfl rfl hd_X12_lesser.2 ⟨Nat.le_of_ble_eq_true rfl, Nat.le_of_ble_eq_true rfl⟩) rfl (Nat.le_of_ble_eq_true rfl) dX12_collides_43 rfl ?_
      obtain ⟨g11, h⟩ := gd_some h
      refine V_iast X x1.toNatClampNeg rfl (o := (0, 43, 0)) (n := 8) ⟨by decide, rfl⟩ rfl rfl g11 dX12_collides_46 ?_
      refine zlt_el (P := fun (μ12 : ZMem) => V X μ12 47 [(0, .ref (zad y (0, 32, 0))), (1, .int a1), (2, .int x1)] []) h (fun μ12 h => ?_)
      obtain rfl := so1 h
      exact hk
    · replace h := (if_pos b7).symm.trans h
      refine V_goto X (tgt := 47) dX12_collides_20 (by decide) ?_
      obtain rfl := so1 h
      exact hk

def f_X12_calls (μ : ZMem) : Option (ZMem) := bd2 (lp (σ := Int32 × Int32 × ZMem) (fun q => un3 q (fun (x1 : Int32) (x2 : Int32) (μ3 : ZMem) => if (μ3 (0, 33, 0) 3) ≤ x2 then some (.inr (x1, μ3)) else bd (f_X12_of x2 3 μ3) (fun (x8 : Int32) => bd2 (α := Int32) (β := ZMem) (if x8 = 1 then bd (f_X12_of x2 4 μ3) (fun (x13 : Int32) => bd (f_X12_lays x2 4 (f_X12_greater 0 (x13 - 1)) μ3) (fun (μ15 : ZMem) => bd (f_X12_of x2 4 μ15) (fun (x17 : Int32) => zlt (α := Int32) (if x17 = 0 then (1 <<< (x2 &&& 31)) else 0) (fun (x19 : Int32) => zlt (x1 ||| x19) (fun (x20 : Int32) => some (x20, μ15)))))) else some (x1, μ3)) (fun (x10 : Int32) (μ11 : ZMem) => some (.inl (x10, (x2 + 1), μ11)))))) FU (0, 0, μ)) (fun (x4 : Int32) (μ5 : ZMem) => bd (f_X12_bits x4) (fun (x22 : Int32) => bd (α := ZMem) (if x22 = 1 then bd (f_X12_starts x4 μ5) (fun (μ28 : ZMem) => some μ28) else bd (f_X12_collides x4 μ5) (fun (μ26 : ZMem) => some μ26)) (fun (μ24 : ZMem) => some μ24)))
set_option maxRecDepth 100000 in
set_option maxHeartbeats 4000000 in
theorem M_X12_calls {l : Launch} {D : va_G} {y : ZLay}   {μ : ZMem} {μ0 : ZMem} (h : f_X12_calls μ = some μ0) : MV l yX12_calls wb_X12_calls rm_X12_calls D y [.ref (zad y (0, 32, 0))] μ μ0 := by
  unfold f_X12_calls at h
  refine MV_of RX12 [(0, .ref (zad y (0, 32, 0)))] (by decide) rfl rfl (Nat.le_of_ble_eq_true rfl) rfl ?_
  intro p e s m args below meth c A X
  refine V_iconst X 0 dX12_calls_0 (by decide) ?_
  refine V_istore_n X [(1, .int 0), (0, .ref (zad y (0, 32, 0)))] dX12_calls_1 rfl (by decide) rfl ?_
  refine V_iconst X 0 dX12_calls_2 (by decide) ?_
  refine V_istore_n X [(2, .int 0), (1, .int 0), (0, .ref (zad y (0, 32, 0)))] dX12_calls_3 rfl (by decide) rfl ?_
  refine V_sub X [2, 1, 0] (lv' := [(0, .ref (zad y (0, 32, 0))), (1, .int 0), (2, .int 0)]) rfl ?_
  obtain ⟨x4, μ5, hl, h⟩ := bd2_some h
  have hk : V X μ5 70 [(0, .ref (zad y (0, 32, 0))), (1, .int x4)] [] := by
    clear hl
    refine V_iload_n X 1 dX12_calls_70 rfl rfl ?_
    obtain ⟨x22, c21, h⟩ := bd_some h
    refine V_callSi X (As := [.int x4]) (M_X12_bits c21) (va_cwS 1 X.2.2.2.2.2.2.1 (gS wm_RX12_247 wst_X12_bits win_RX12 wc_X12_bits) rfl rfl rfl hd_X12_bits.2 ⟨Nat.le_of_ble_eq_true rfl, Nat.le_of_ble_eq_true rfl⟩) rfl (Nat.le_of_ble_eq_true rfl) dX12_calls_71 rfl ?_
    refine V_iconst X 1 dX12_calls_74 (by decide) ?_
    obtain ⟨μ24, h1, h⟩ := bd_some h
    have hk : V X μ24 91 [] [] := by
      clear h1
      exact V_vretW X h dX12_calls_91
    replace h := h1
    clear h1
    refine V_icmp_ne X (tgt := 86) dX12_calls_75 (by decide) (fun b23 => ?_) (fun b23 => ?_)
    · replace h := (if_neg b23).symm.trans h
      refine V_aload_n X 0 dX12_calls_86 rfl rfl ?_
      refine V_iload_n X 1 dX12_calls_87 rfl rfl ?_
      obtain ⟨μ26, c25, h⟩ := bd_some h
      refine V_callVv X (As := [.int x4]) (M_X12_collides c25) (cwV 1 X.2.2.2.2.2.2.1 (gV wm_RX12_285 wi_X12_collides wse_X12_collides win_RX12 wc_X12_collides) rfl rfl rfl hd_X12_collides ⟨Nat.le_of_ble_eq_true rfl, Nat.le_of_ble_eq_true rfl⟩) (b := (0, 32, 0)) ⟨by decide, rfl⟩ rfl rfl rfl rfl (Nat.le_of_ble_eq_true rfl) dX12_calls_88 rfl ?_
      refine V_sub X [] (lv' := []) rfl ?_
      obtain rfl := so1 h
      exact hk
    · replace h := (if_pos b23).symm.trans h
      refine V_aload_n X 0 dX12_calls_78 rfl rfl ?_
      refine V_iload_n X 1 dX12_calls_79 rfl rfl ?_
      obtain ⟨μ28, c27, h⟩ := bd_some h
      refine V_callVv X (As := [.int x4]) (M_X12_starts c27) (cwV 1 X.2.2.2.2.2.2.1 (gV wm_RX12_282 wi_X12_starts wse_X12_starts win_RX12 wc_X12_starts) rfl rfl rfl hd_X12_starts ⟨Nat.le_of_ble_eq_true rfl, Nat.le_of_ble_eq_true rfl⟩) (b := (0, 32, 0)) ⟨by decide, rfl⟩ rfl rfl rfl rfl (Nat.le_of_ble_eq_true rfl) dX12_calls_80 rfl ?_
      refine V_goto X (tgt := 91) dX12_calls_83 (by decide) ?_
      refine V_sub X [] (lv' := []) rfl ?_
      obtain rfl := so1 h
      exact hk
  refine lp_ind (P := fun q => V X q.2.2 4 [(0, .ref (zad y (0, 32, 0))), (1, .int q.1), (2, .int q.2.1)] []) (fun q z h hz => ?_) hl
  obtain ⟨x1, x2, μ3⟩ := q
  replace h := un3_eq h
  show V X μ3 4 [(0, .ref (zad y (0, 32, 0))), (1, .int x1), (2, .int x2)] []
  refine V_iload_n X 2 dX12_calls_4 rfl rfl ?_
  refine V_aload_n X 0 dX12_calls_5 rfl rfl ?_
  refine V_getr X (o := (0, 32, 0)) (i := (0, 33, 0)) (ci := 12) (k := 1) (N := 30) (T := TX12) (C := RX12) ⟨by decide, rfl⟩ rfl rfl rfl (by decide) (mBa inB_X12) (mB wl_RX12_7) dX12_calls_6 ?_
  refine V_iconst X 3 dX12_calls_9 (by decide) ?_
  refine V_iald X 3 (by decide) (o := (0, 33, 0)) (n := 737) ⟨by decide, rfl⟩ rfl rfl (by decide) dX12_calls_10 ?_
  refine V_icmp_ge X (tgt := 70) dX12_calls_11 (by decide) (fun b6 => ?_) (fun b6 => ?_)
  · replace h := (if_pos b6).symm.trans h
    refine V_sub X [0, 1] (lv' := [(0, .ref (zad y (0, 32, 0))), (1, .int x1)]) rfl ?_
    cases h
    obtain ⟨rfl, rfl⟩ := pr2 hz
    exact hk
  · replace h := (if_neg b6).symm.trans h
    refine V_aload_n X 0 dX12_calls_14 rfl rfl ?_
    refine V_iload_n X 2 dX12_calls_15 rfl rfl ?_
    refine V_iconst X 3 dX12_calls_16 (by decide) ?_
    obtain ⟨x8, c7, h⟩ := bd_some h
    refine V_callVi X (As := [.int x2, .int 3]) (M_X12_of c7) (cwV 2 X.2.2.2.2.2.2.1 (gV wm_RX12_66 wi_X12_of wse_X12_of win_RX12 wc_X12_of) rfl rfl rfl hd_X12_of ⟨Nat.le_of_ble_eq_true rfl, Nat.le_of_ble_eq_true rfl⟩) (b := (0, 32, 0)) ⟨by decide, rfl⟩ rfl rfl rfl rfl (Nat.le_of_ble_eq_true rfl) dX12_calls_17 rfl ?_
    refine V_iconst X 1 dX12_calls_20 (by decide) ?_
    obtain ⟨x10, μ11, h1, h⟩ := bd2_some h
    have hk : V X μ11 64 [(0, .ref (zad y (0, 32, 0))), (1, .int x10), (2, .int x2)] [] := by
      clear h1
      refine V_inc X 2 1 [(2, .int (x2 + 1)), (0, .ref (zad y (0, 32, 0))), (1, .int x10)] dX12_calls_64 rfl (by decide) (by decide) rfl ?_
      refine V_goto X (tgt := 4) dX12_calls_67 (by decide) ?_
      refine V_sub X [1, 2, 0] (lv' := [(0, .ref (zad y (0, 32, 0))), (1, .int x10), (2, .int (x2 + 1))]) rfl ?_
      cases h
      exact hz
    replace h := h1
    clear h1
    refine V_icmp_eq X (tgt := 27) dX12_calls_21 (by decide) (fun b9 => ?_) (fun b9 => ?_)
    · replace h := (if_pos b9).symm.trans h
      refine V_aload_n X 0 dX12_calls_27 rfl rfl ?_
      refine V_iload_n X 2 dX12_calls_28 rfl rfl ?_
      refine V_iconst X 4 dX12_calls_29 (by decide) ?_
      refine V_iconst X 0 dX12_calls_30 (by decide) ?_
      refine V_aload_n X 0 dX12_calls_31 rfl rfl ?_
      refine V_iload_n X 2 dX12_calls_32 rfl rfl ?_
      refine V_iconst X 4 dX12_calls_33 (by decide) ?_
      obtain ⟨x13, c12, h⟩ := bd_some h
      refine V_callVi X (As := [.int x2, .int 4]) (M_X12_of c12) (cwV 2 X.2.2.2.2.2.2.1 (gV wm_RX12_66 wi_X12_of wse_X12_of win_RX12 wc_X12_of) rfl rfl rfl hd_X12_of ⟨Nat.le_of_ble_eq_true rfl, Nat.le_of_ble_eq_true rfl⟩) (b := (0, 32, 0)) ⟨by decide, rfl⟩ rfl rfl rfl rfl (Nat.le_of_ble_eq_true rfl) dX12_calls_34 rfl ?_
      refine V_iconst X 1 dX12_calls_37 (by decide) ?_
      refine V_isub X dX12_calls_38 ?_
      refine V_callSi X (As := [.int 0, .int (x13 - 1)]) (M_X12_greater) (va_cwS 2 X.2.2.2.2.2.2.1 (gS wm_RX12_73 wst_X12_greater win_RX12 wc_X12_greater) rfl rfl rfl hd_X12_greater.2 ⟨Nat.le_of_ble_eq_true rfl, Nat.le_of_ble_eq_true rfl⟩) rfl (Nat.le_of_ble_eq_true rfl) dX12_calls_39 rfl ?_
      obtain ⟨μ15, c14, h⟩ := bd_some h
      refine V_callVv X (As := [.int x2, .int 4, .int (f_X12_greater 0 (x13 - 1))]) (M_X12_lays c14) (cwV 3 X.2.2.2.2.2.2.1 (gV wm_RX12_146 wi_X12_lays wse_X12_lays win_RX12 wc_X12_lays) rfl rfl rfl hd_X12_lays ⟨Nat.le_of_ble_eq_true rfl, Nat.le_of_ble_eq_true rfl⟩) (b := (0, 32, 0)) ⟨by decide, rfl⟩ rfl rfl rfl rfl (Nat.le_of_ble_eq_true rfl) dX12_calls_42 rfl ?_
      refine V_iload_n X 1 dX12_calls_45 rfl rfl ?_
      refine V_aload_n X 0 dX12_calls_46 rfl rfl ?_
      refine V_iload_n X 2 dX12_calls_47 rfl rfl ?_
      refine V_iconst X 4 dX12_calls_48 (by decide) ?_
      obtain ⟨x17, c16, h⟩ := bd_some h
      refine V_callVi X (As := [.int x2, .int 4]) (M_X12_of c16) (cwV 2 X.2.2.2.2.2.2.1 (gV wm_RX12_66 wi_X12_of wse_X12_of win_RX12 wc_X12_of) rfl rfl rfl hd_X12_of ⟨Nat.le_of_ble_eq_true rfl, Nat.le_of_ble_eq_true rfl⟩) (b := (0, 32, 0)) ⟨by decide, rfl⟩ rfl rfl rfl rfl (Nat.le_of_ble_eq_true rfl) dX12_calls_49 rfl ?_
      obtain ⟨x19, h1, h⟩ := zl1_some h
      have hk : V X μ15 62 [(0, .ref (zad y (0, 32, 0))), (2, .int x2)] [.int x19, .int x1] := by
        clear h1
        refine V_ior X dX12_calls_62 ?_
        refine V_istore_n X [(1, .int (x1 ||| x19)), (0, .ref (zad y (0, 32, 0))), (2, .int x2)] dX12_calls_63 rfl (by decide) rfl ?_
        refine zlt_el (P := fun (x20 : Int32) => V X μ15 64 [(1, .int x20), (0, .ref (zad y (0, 32, 0))), (2, .int x2)] []) h (fun x20 h => ?_)
        refine V_sub X [1, 0, 2] (lv' := [(0, .ref (zad y (0, 32, 0))), (1, .int x20), (2, .int x2)]) rfl ?_
        obtain ⟨rfl, rfl⟩ := so2 h
        exact hk
      replace h := h1
      clear h1
      refine V_if_ne X (tgt := 61) dX12_calls_52 (by decide) (fun b18 => ?_) (fun b18 => ?_)
      · replace h := (if_neg b18).symm.trans h
        refine V_iconst X 0 dX12_calls_61 (by decide) ?_
        refine V_sub X [0, 2] (lv' := [(0, .ref (zad y (0, 32, 0))), (2, .int x2)]) rfl ?_
        obtain rfl := pr1 h
        exact hk
      · replace h := (if_pos b18).symm.trans h
        refine V_iconst X 1 dX12_calls_55 (by decide) ?_
        refine V_iload_n X 2 dX12_calls_56 rfl rfl ?_
        refine V_ishl X dX12_calls_57 ?_
        refine V_goto X (tgt := 62) dX12_calls_58 (by decide) ?_
        refine V_sub X [0, 2] (lv' := [(0, .ref (zad y (0, 32, 0))), (2, .int x2)]) rfl ?_
        obtain rfl := pr1 h
        exact hk
    · replace h := (if_neg b9).symm.trans h
      refine V_goto X (tgt := 64) dX12_calls_24 (by decide) ?_
      obtain ⟨rfl, rfl⟩ := so2 h
      exact hk

