def f_X11_seed (a1 : Int32) (μ : ZMem) : Option (Int32 × ZMem) := zlt (μ (1, 0, 0) 8) (fun (x1 : Int32) => zlt (mset μ (1, 0, 0) 8 a1) (fun (μ2 : ZMem) => some (x1, μ2)))
set_option maxRecDepth 100000 in
set_option maxHeartbeats 4000000 in
theorem M_X11_seed {l : Launch} {D : va_G} {y : ZLay} {a1 : Int32}  {μ : ZMem} {r : Int32} {μ0 : ZMem} (h : f_X11_seed a1 μ = some (r, μ0)) : MI l yX11_seed wb_X11_seed rm_X11_seed D y [.ref (zad y (0, 0, 0)), .int a1] μ r μ0 := by
  unfold f_X11_seed at h
  refine MI_of RX11 [(0, .ref (zad y (0, 0, 0))), (1, .int a1)] (by decide) rfl rfl (Nat.le_of_ble_eq_true rfl) rfl ?_
  intro p e s m args below meth c A X
  refine V_aload_n X 0 dX11_seed_0 rfl rfl ?_
  refine V_getr X (o := (0, 0, 0)) (i := (1, 0, 0)) (ci := 11) (k := 3) (N := 16) (T := TX11) (C := RX11) ⟨by decide, rfl⟩ rfl rfl rfl (by decide) (mBa inB_X11) (mB wl_RX11_77) dX11_seed_1 ?_
  refine V_geti X (o := (1, 0, 0)) (ci := 7) (k := 8) (N := 11) (T := TX7) (C := RX7) ⟨(by decide), rfl⟩ rfl rfl rfl (by decide) (mBa inB_X7) (mB wl_RX11_371) dX11_seed_4 ?_
  refine V_istore_n X [(2, .int (μ (1, 0, 0) 8)), (0, .ref (zad y (0, 0, 0))), (1, .int a1)] dX11_seed_7 rfl (by decide) rfl ?_
  refine zlt_el (P := fun (x1 : Int32) => V X μ 8 [(2, .int x1), (0, .ref (zad y (0, 0, 0))), (1, .int a1)] []) h (fun x1 h => ?_)
  refine V_aload_n X 1 dX11_seed_8 rfl rfl ?_
  refine V_getr X (o := (0, 0, 0)) (i := (1, 0, 0)) (ci := 11) (k := 3) (N := 16) (T := TX11) (C := RX11) ⟨by decide, rfl⟩ rfl rfl rfl (by decide) (mBa inB_X11) (mB wl_RX11_77) dX11_seed_9 ?_
  refine V_iload_n X 2 dX11_seed_12 rfl rfl ?_
  refine V_puti X tyX7 .int (o := (1, 0, 0)) (ci := 7) (k := 8) (N := 11) (T := TX7) (C := RX7) ⟨(by decide), rfl⟩ rfl rfl rfl (by decide) (mBa inB_X7) tyX7_ok nmX7 (mB wl_RX11_371) rfl rfl rfl rfl dX11_seed_13 ?_
  refine zlt_el (P := fun (μ2 : ZMem) => V X μ2 16 [(2, .int x1), (0, .ref (zad y (0, 0, 0))), (1, .int a1)] []) h (fun μ2 h => ?_)
  refine V_iload_n X 0 dX11_seed_16 rfl rfl ?_
  exact V_iretW X h dX11_seed_17

def f_X11_undo (μ : ZMem) : Option (Int32 × ZMem) := bd2 (f_X6_recall 0 μ) (fun (x2 : Int32) (μ3 : ZMem) => gd (zbo x2) (some (x2, μ3)))
set_option maxRecDepth 100000 in
set_option maxHeartbeats 4000000 in
theorem M_X11_undo {l : Launch} {D : va_G} {y : ZLay}   {μ : ZMem} {r : Int32} {μ0 : ZMem} (h : f_X11_undo μ = some (r, μ0)) : MI l yX11_undo wb_X11_undo rm_X11_undo D y [.ref (zad y (0, 0, 0))] μ r μ0 := by
  unfold f_X11_undo at h
  refine MI_of RX11 [(0, .ref (zad y (0, 0, 0)))] (by decide) rfl rfl (Nat.le_of_ble_eq_true rfl) rfl ?_
  intro p e s m args below meth c A X
  refine V_aload_n X 0 dX11_undo_0 rfl rfl ?_
  refine V_getr X (o := (0, 0, 0)) (i := (0, 2, 0)) (ci := 11) (k := 7) (N := 16) (T := TX11) (C := RX11) ⟨by decide, rfl⟩ rfl rfl rfl (by decide) (mBa inB_X11) (mB wl_RX11_90) dX11_undo_1 ?_
  refine V_aload_n X 0 dX11_undo_4 rfl rfl ?_
  refine V_getr X (o := (0, 0, 0)) (i := (1, 0, 0)) (ci := 11) (k := 3) (N := 16) (T := TX11) (C := RX11) ⟨by decide, rfl⟩ rfl rfl rfl (by decide) (mBa inB_X11) (mB wl_RX11_77) dX11_undo_5 ?_
  obtain ⟨x2, μ3, c1, h⟩ := bd2_some h
  refine V_callVi X (As := [.ref (zad y (1, 0, 0))]) (M_X6_recall (by decide) c1) (cwV 1 X.2.2.2.2.2.2.1 (gV wm_RX11_380 wi_X6_recall wse_X6_recall win_RX6 wc_X6_recall) rfl rfl rfl hd_X6_recall ⟨Nat.le_of_ble_eq_true rfl, Nat.le_of_ble_eq_true rfl⟩) (b := (0, 2, 0)) ⟨by decide, rfl⟩ rfl rfl rfl rfl (Nat.le_of_ble_eq_true rfl) dX11_undo_8 rfl ?_
  obtain ⟨hzb, h⟩ := gd_some h
  exact V_zretW X h hzb dX11_undo_11

def f_X11_image (μ : ZMem) : Option (ZMem) := bd (f_X7_copyFrom 2 0 μ) (fun (μ2 : ZMem) => zlt (mset μ2 (0, 0, 0) 6 1) (fun (μ3 : ZMem) => some μ3))
set_option maxRecDepth 100000 in
set_option maxHeartbeats 4000000 in
theorem M_X11_image {l : Launch} {D : va_G} {y : ZLay}   {μ : ZMem} {μ0 : ZMem} (h : f_X11_image μ = some μ0) : MV l yX11_image wb_X11_image rm_X11_image D y [.ref (zad y (0, 0, 0))] μ μ0 := by
  unfold f_X11_image at h
  refine MV_of RX11 [(0, .ref (zad y (0, 0, 0)))] (by decide) rfl rfl (Nat.le_of_ble_eq_true rfl) rfl ?_
  intro p e s m args below meth c A X
  refine V_aload_n X 0 dX11_image_0 rfl rfl ?_
  refine V_getr X (o := (0, 0, 0)) (i := (1, 2, 0)) (ci := 11) (k := 5) (N := 16) (T := TX11) (C := RX11) ⟨by decide, rfl⟩ rfl rfl rfl (by decide) (mBa inB_X11) (mB wl_RX11_84) dX11_image_1 ?_
  refine V_aload_n X 0 dX11_image_4 rfl rfl ?_
  refine V_getr X (o := (0, 0, 0)) (i := (1, 0, 0)) (ci := 11) (k := 3) (N := 16) (T := TX11) (C := RX11) ⟨by decide, rfl⟩ rfl rfl rfl (by decide) (mBa inB_X11) (mB wl_RX11_77) dX11_image_5 ?_
  obtain ⟨μ2, c1, h⟩ := bd_some h
  refine V_callVv X (As := [.ref (zad y (1, 0, 0))]) (M_X7_copyFrom (by decide) (by decide) c1) (cwV 1 X.2.2.2.2.2.2.1 (gV wm_RX11_109 wi_X7_copyFrom wse_X7_copyFrom win_RX7 wc_X7_copyFrom) rfl rfl rfl hd_X7_copyFrom ⟨Nat.le_of_ble_eq_true rfl, Nat.le_of_ble_eq_true rfl⟩) (b := (1, 2, 0)) ⟨(by decide), rfl⟩ rfl rfl rfl rfl (Nat.le_of_ble_eq_true rfl) dX11_image_8 rfl ?_
  refine V_aload_n X 0 dX11_image_11 rfl rfl ?_
  refine V_iconst X 1 dX11_image_12 (by decide) ?_
  refine V_puti X tyX11 .boolean (o := (0, 0, 0)) (ci := 11) (k := 6) (N := 16) (T := TX11) (C := RX11) ⟨by decide, rfl⟩ rfl rfl rfl (by decide) (mBa inB_X11) tyX11_ok nmX11 (mB wl_RX11_384) rfl rfl (zbo_n (by decide)) (zbo_f (by decide)) dX11_image_13 ?_
  refine zlt_el (P := fun (μ3 : ZMem) => V X μ3 16 [(0, .ref (zad y (0, 0, 0)))] []) h (fun μ3 h => ?_)
  exact V_vretW X h dX11_image_16

def f_X11_back (μ : ZMem) : Option (Int32 × ZMem) := if (μ (0, 0, 0) 6) = 0 then some (0, μ) else bd (f_X7_copyFrom 0 2 μ) (fun (μ3 : ZMem) => bd (f_X6_forget μ3) (fun (μ5 : ZMem) => some (1, μ5)))
set_option maxRecDepth 100000 in
set_option maxHeartbeats 4000000 in
theorem M_X11_back {l : Launch} {D : va_G} {y : ZLay}   {μ : ZMem} {r : Int32} {μ0 : ZMem} (h : f_X11_back μ = some (r, μ0)) : MI l yX11_back wb_X11_back rm_X11_back D y [.ref (zad y (0, 0, 0))] μ r μ0 := by
  unfold f_X11_back at h
  refine MI_of RX11 [(0, .ref (zad y (0, 0, 0)))] (by decide) rfl rfl (Nat.le_of_ble_eq_true rfl) rfl ?_
  intro p e s m args below meth c A X
  refine V_aload_n X 0 dX11_back_0 rfl rfl ?_
  refine V_geti X (o := (0, 0, 0)) (ci := 11) (k := 6) (N := 16) (T := TX11) (C := RX11) ⟨by decide, rfl⟩ rfl rfl rfl (by decide) (mBa inB_X11) (mB wl_RX11_384) dX11_back_1 ?_
  refine V_if_ne X (tgt := 9) dX11_back_4 (by decide) (fun b1 => ?_) (fun b1 => ?_)
  · replace h := (if_neg b1).symm.trans h
    refine V_aload_n X 0 dX11_back_9 rfl rfl ?_
    refine V_getr X (o := (0, 0, 0)) (i := (1, 0, 0)) (ci := 11) (k := 3) (N := 16) (T := TX11) (C := RX11) ⟨by decide, rfl⟩ rfl rfl rfl (by decide) (mBa inB_X11) (mB wl_RX11_77) dX11_back_10 ?_
    refine V_aload_n X 0 dX11_back_13 rfl rfl ?_
    refine V_getr X (o := (0, 0, 0)) (i := (1, 2, 0)) (ci := 11) (k := 5) (N := 16) (T := TX11) (C := RX11) ⟨by decide, rfl⟩ rfl rfl rfl (by decide) (mBa inB_X11) (mB wl_RX11_84) dX11_back_14 ?_
    obtain ⟨μ3, c2, h⟩ := bd_some h
    refine V_callVv X (As := [.ref (zad y (1, 2, 0))]) (M_X7_copyFrom (by decide) (by decide) c2) (cwV 1 X.2.2.2.2.2.2.1 (gV wm_RX11_109 wi_X7_copyFrom wse_X7_copyFrom win_RX7 wc_X7_copyFrom) rfl rfl rfl hd_X7_copyFrom ⟨Nat.le_of_ble_eq_true rfl, Nat.le_of_ble_eq_true rfl⟩) (b := (1, 0, 0)) ⟨(by decide), rfl⟩ rfl rfl rfl rfl (Nat.le_of_ble_eq_true rfl) dX11_back_17 rfl ?_
    refine V_aload_n X 0 dX11_back_20 rfl rfl ?_
    refine V_getr X (o := (0, 0, 0)) (i := (0, 2, 0)) (ci := 11) (k := 7) (N := 16) (T := TX11) (C := RX11) ⟨by decide, rfl⟩ rfl rfl rfl (by decide) (mBa inB_X11) (mB wl_RX11_90) dX11_back_21 ?_
    obtain ⟨μ5, c4, h⟩ := bd_some h
    refine V_callVv X (As := []) (M_X6_forget c4) (cwV 0 X.2.2.2.2.2.2.1 (gV wm_RX11_128 wi_X6_forget wse_X6_forget win_RX6 wc_X6_forget) rfl rfl rfl hd_X6_forget ⟨Nat.le_of_ble_eq_true rfl, Nat.le_of_ble_eq_true rfl⟩) (b := (0, 2, 0)) ⟨by decide, rfl⟩ rfl rfl rfl rfl (Nat.le_of_ble_eq_true rfl) dX11_back_24 rfl ?_
    refine V_iconst X 1 dX11_back_27 (by decide) ?_
    exact V_zretW X h (by decide) dX11_back_28
  · replace h := (if_pos b1).symm.trans h
    refine V_iconst X 0 dX11_back_7 (by decide) ?_
    exact V_zretW X h (by decide) dX11_back_8

def f_X11_count (a1 : Int32) (μ : ZMem) : Option (Int32) := if a1 = 0 then some (μ (1, 0, 0) 4) else if a1 = 1 then some (μ (1, 0, 0) 9) else if a1 = 2 then some (μ (5, (μ (1, 0, 0) 10).toNatClampNeg, 0) 0) else if a1 = 3 then some (μ (1, 0, 0) 5) else if a1 = 4 then some (μ (1, 0, 0) 6) else if a1 = 5 then some (μ (1, 0, 0) 7) else if a1 = 6 then bd (f_X7_inState 0 2 μ) (fun (x11 : Int32) => some (f_J6_bitCount_0f7a4 x11)) else if a1 = 7 then some (μ (1, 0, 0) 2) else if a1 = 8 then some (μ (0, 2, 0) 2) else some (-1)
set_option maxRecDepth 100000 in
set_option maxHeartbeats 4000000 in
theorem M_X11_count {l : Launch} {D : va_G} {y : ZLay} {a1 : Int32}  {μ : ZMem} {r : Int32} (h : f_X11_count a1 μ = some r) : MI l yX11_count wb_X11_count rm_X11_count D y [.ref (zad y (0, 0, 0)), .int a1] μ r μ := by
  unfold f_X11_count at h
  refine MI_of RX11 [(0, .ref (zad y (0, 0, 0))), (1, .int a1)] (by decide) rfl rfl (Nat.le_of_ble_eq_true rfl) rfl ?_
  intro p e s m args below meth c A X
  refine V_iload_n X 1 dX11_count_0 rfl rfl ?_
  by_cases b1 : a1 = 0
  · replace h := (if_pos b1).symm.trans h
    refine V_tblIn X (tgt := 52) dX11_count_1 (by rw [b1]; decide) (by rw [b1]; decide) (by rw [b1]; try rfl) (by decide) ?_
    refine V_aload_n X 0 dX11_count_52 rfl rfl ?_
    refine V_getr X (o := (0, 0, 0)) (i := (1, 0, 0)) (ci := 11) (k := 3) (N := 16) (T := TX11) (C := RX11) ⟨by decide, rfl⟩ rfl rfl rfl (by decide) (mBa inB_X11) (mB wl_RX11_77) dX11_count_53 ?_
    refine V_geti X (o := (1, 0, 0)) (ci := 7) (k := 4) (N := 11) (T := TX7) (C := RX7) ⟨(by decide), rfl⟩ rfl rfl rfl (by decide) (mBa inB_X7) (mB wl_RX11_145) dX11_count_56 ?_
    exact V_iretR X h dX11_count_59
  · replace h := (if_neg b1).symm.trans h
    by_cases b2 : a1 = 1
    · replace h := (if_pos b2).symm.trans h
      refine V_tblIn X (tgt := 60) dX11_count_1 (by rw [b2]; decide) (by rw [b2]; decide) (by rw [b2]; try rfl) (by decide) ?_
      refine V_aload_n X 0 dX11_count_60 rfl rfl ?_
      refine V_getr X (o := (0, 0, 0)) (i := (1, 0, 0)) (ci := 11) (k := 3) (N := 16) (T := TX11) (C := RX11) ⟨by decide, rfl⟩ rfl rfl rfl (by decide) (mBa inB_X11) (mB wl_RX11_77) dX11_count_61 ?_
      refine V_geti X (o := (1, 0, 0)) (ci := 7) (k := 9) (N := 11) (T := TX7) (C := RX7) ⟨(by decide), rfl⟩ rfl rfl rfl (by decide) (mBa inB_X7) (mB wl_RX11_122) dX11_count_64 ?_
      exact V_iretR X h dX11_count_67
    · replace h := (if_neg b2).symm.trans h
      by_cases b3 : a1 = 2
      · replace h := (if_pos b3).symm.trans h
        refine V_tblIn X (tgt := 68) dX11_count_1 (by rw [b3]; decide) (by rw [b3]; decide) (by rw [b3]; try rfl) (by decide) ?_
        refine V_aload_n X 0 dX11_count_68 rfl rfl ?_
        refine V_getr X (o := (0, 0, 0)) (i := (1, 0, 0)) (ci := 11) (k := 3) (N := 16) (T := TX11) (C := RX11) ⟨by decide, rfl⟩ rfl rfl rfl (by decide) (mBa inB_X11) (mB wl_RX11_77) dX11_count_69 ?_
        refine V_getl X (by decide) (mBa inB_X7) (mB wl_RX11_138) dX11_count_72 (fun hn12 => ?_)
        refine V_geti X (o := (5, (μ (1, 0, 0) 10).toNatClampNeg, 0)) (ci := 3) (k := 0) (N := 6) (T := TX3) (C := RX3) ⟨hn12, rfl⟩ rfl rfl rfl (by decide) (mBa inB_X3) (mB wl_RX11_142) dX11_count_75 ?_
        exact V_iretR X h dX11_count_78
      · replace h := (if_neg b3).symm.trans h
        by_cases b4 : a1 = 3
        · replace h := (if_pos b4).symm.trans h
          refine V_tblIn X (tgt := 79) dX11_count_1 (by rw [b4]; decide) (by rw [b4]; decide) (by rw [b4]; try rfl) (by decide) ?_
          refine V_aload_n X 0 dX11_count_79 rfl rfl ?_
          refine V_getr X (o := (0, 0, 0)) (i := (1, 0, 0)) (ci := 11) (k := 3) (N := 16) (T := TX11) (C := RX11) ⟨by decide, rfl⟩ rfl rfl rfl (by decide) (mBa inB_X11) (mB wl_RX11_77) dX11_count_80 ?_
          refine V_geti X (o := (1, 0, 0)) (ci := 7) (k := 5) (N := 11) (T := TX7) (C := RX7) ⟨(by decide), rfl⟩ rfl rfl rfl (by decide) (mBa inB_X7) (mB wl_RX11_259) dX11_count_83 ?_
          exact V_iretR X h dX11_count_86
        · replace h := (if_neg b4).symm.trans h
          by_cases b5 : a1 = 4
          · replace h := (if_pos b5).symm.trans h
            refine V_tblIn X (tgt := 87) dX11_count_1 (by rw [b5]; decide) (by rw [b5]; decide) (by rw [b5]; try rfl) (by decide) ?_
            refine V_aload_n X 0 dX11_count_87 rfl rfl ?_
            refine V_getr X (o := (0, 0, 0)) (i := (1, 0, 0)) (ci := 11) (k := 3) (N := 16) (T := TX11) (C := RX11) ⟨by decide, rfl⟩ rfl rfl rfl (by decide) (mBa inB_X11) (mB wl_RX11_77) dX11_count_88 ?_
            refine V_geti X (o := (1, 0, 0)) (ci := 7) (k := 6) (N := 11) (T := TX7) (C := RX7) ⟨(by decide), rfl⟩ rfl rfl rfl (by decide) (mBa inB_X7) (mB wl_RX11_256) dX11_count_91 ?_
            exact V_iretR X h dX11_count_94
          · replace h := (if_neg b5).symm.trans h
            by_cases b6 : a1 = 5
            · replace h := (if_pos b6).symm.trans h
              refine V_tblIn X (tgt := 95) dX11_count_1 (by rw [b6]; decide) (by rw [b6]; decide) (by rw [b6]; try rfl) (by decide) ?_
              refine V_aload_n X 0 dX11_count_95 rfl rfl ?_
              refine V_getr X (o := (0, 0, 0)) (i := (1, 0, 0)) (ci := 11) (k := 3) (N := 16) (T := TX11) (C := RX11) ⟨by decide, rfl⟩ rfl rfl rfl (by decide) (mBa inB_X11) (mB wl_RX11_77) dX11_count_96 ?_
              refine V_geti X (o := (1, 0, 0)) (ci := 7) (k := 7) (N := 11) (T := TX7) (C := RX7) ⟨(by decide), rfl⟩ rfl rfl rfl (by decide) (mBa inB_X7) (mB wl_RX11_388) dX11_count_99 ?_
              exact V_iretR X h dX11_count_102
            · replace h := (if_neg b6).symm.trans h
              by_cases b7 : a1 = 6
              · replace h := (if_pos b7).symm.trans h
                refine V_tblIn X (tgt := 103) dX11_count_1 (by rw [b7]; decide) (by rw [b7]; decide) (by rw [b7]; try rfl) (by decide) ?_
                refine V_aload_n X 0 dX11_count_103 rfl rfl ?_
                refine V_getr X (o := (0, 0, 0)) (i := (1, 0, 0)) (ci := 11) (k := 3) (N := 16) (T := TX11) (C := RX11) ⟨by decide, rfl⟩ rfl rfl rfl (by decide) (mBa inB_X11) (mB wl_RX11_77) dX11_count_104 ?_
                refine V_iconst X 2 dX11_count_107 (by decide) ?_
                obtain ⟨x11, c10, h⟩ := bd_some h
                refine V_callVi X (As := [.int 2]) (M_X7_inState (by decide) c10) (cwV 1 X.2.2.2.2.2.2.1 (gV wm_RX11_272 wi_X7_inState wse_X7_inState win_RX7 wc_X7_inState) rfl rfl rfl hd_X7_inState ⟨Nat.le_of_ble_eq_true rfl, Nat.le_of_ble_eq_true rfl⟩) (b := (1, 0, 0)) ⟨(by decide), rfl⟩ rfl rfl rfl rfl (Nat.le_of_ble_eq_true rfl) dX11_count_108 rfl ?_
                refine V_callSi X (As := [.int x11]) (M_J6_bitCount_0f7a4) (va_cwS 1 X.2.2.2.2.2.2.1 (gS wm_RX11_275 wst_J6_bitCount_0f7a4 win_RJ6 wc_J6_bitCount_0f7a4) rfl rfl rfl hd_J6_bitCount_0f7a4.2 ⟨Nat.le_of_ble_eq_true rfl, Nat.le_of_ble_eq_true rfl⟩) rfl (Nat.le_of_ble_eq_true rfl) dX11_count_111 rfl ?_
                exact V_iretR X h dX11_count_114
              · replace h := (if_neg b7).symm.trans h
                by_cases b8 : a1 = 7
                · replace h := (if_pos b8).symm.trans h
                  refine V_tblIn X (tgt := 115) dX11_count_1 (by rw [b8]; decide) (by rw [b8]; decide) (by rw [b8]; try rfl) (by decide) ?_
                  refine V_aload_n X 0 dX11_count_115 rfl rfl ?_
                  refine V_getr X (o := (0, 0, 0)) (i := (1, 0, 0)) (ci := 11) (k := 3) (N := 16) (T := TX11) (C := RX11) ⟨by decide, rfl⟩ rfl rfl rfl (by decide) (mBa inB_X11) (mB wl_RX11_77) dX11_count_116 ?_
                  refine V_geti X (o := (1, 0, 0)) (ci := 7) (k := 2) (N := 11) (T := TX7) (C := RX7) ⟨(by decide), rfl⟩ rfl rfl rfl (by decide) (mBa inB_X7) (mB wl_RX11_374) dX11_count_119 ?_
                  exact V_iretR X h dX11_count_122
                · replace h := (if_neg b8).symm.trans h
                  by_cases b9 : a1 = 8
                  · replace h := (if_pos b9).symm.trans h
                    refine V_tblIn X (tgt := 123) dX11_count_1 (by rw [b9]; decide) (by rw [b9]; decide) (by rw [b9]; try rfl) (by decide) ?_
                    refine V_aload_n X 0 dX11_count_123 rfl rfl ?_
                    refine V_getr X (o := (0, 0, 0)) (i := (0, 2, 0)) (ci := 11) (k := 7) (N := 16) (T := TX11) (C := RX11) ⟨by decide, rfl⟩ rfl rfl rfl (by decide) (mBa inB_X11) (mB wl_RX11_90) dX11_count_124 ?_
                    refine V_geti X (o := (0, 2, 0)) (ci := 6) (k := 2) (N := 3) (T := TX6) (C := RX6) ⟨by decide, rfl⟩ rfl rfl rfl (by decide) (mBa inB_X6) (mB wl_RX11_391) dX11_count_127 ?_
                    exact V_iretR X h dX11_count_130
                  · replace h := (if_neg b9).symm.trans h
                    have hd0 := tne (j := 0) (by decide) b1
                    have hd1 := tne (j := 1) (by decide) b2
                    have hd2 := tne (j := 2) (by decide) b3
                    have hd3 := tne (j := 3) (by decide) b4
                    have hd4 := tne (j := 4) (by decide) b5
                    have hd5 := tne (j := 5) (by decide) b6
                    have hd6 := tne (j := 6) (by decide) b7
                    have hd7 := tne (j := 7) (by decide) b8
                    have hd8 := tne (j := 8) (by decide) b9
                    refine V_tblOut X (tgt := 131) dX11_count_1 (by omega) (by decide) ?_
                    refine V_iconst X (-1) dX11_count_131 (by decide) ?_
                    exact V_iretR X h dX11_count_132

def f_X12_thrown (μ : ZMem) : Int32 := (μ (0, 32, 0) 0)
set_option maxRecDepth 100000 in
set_option maxHeartbeats 4000000 in
theorem M_X12_thrown {l : Launch} {D : va_G} {y : ZLay}   {μ : ZMem} : MI l yX12_thrown wb_X12_thrown rm_X12_thrown D y [.ref (zad y (0, 32, 0))] μ (f_X12_thrown μ) μ := by
  obtain ⟨r, h⟩ : ∃ r, f_X12_thrown μ = r := ⟨_, rfl⟩
  rw [h]
  unfold f_X12_thrown at h
  refine MI_of RX12 [(0, .ref (zad y (0, 32, 0)))] (by decide) rfl rfl (Nat.le_of_ble_eq_true rfl) rfl ?_
  intro p e s m args below meth c A X
  refine V_aload_n X 0 dX12_thrown_0 rfl rfl ?_
  refine V_geti X (o := (0, 32, 0)) (ci := 12) (k := 0) (N := 30) (T := TX12) (C := RX12) ⟨by decide, rfl⟩ rfl rfl rfl (by decide) (mBa inB_X12) (mB wl_RX12_59) dX12_thrown_1 ?_
  exact V_iretT X h dX12_thrown_4

def f_X12_isIn (a0 : Int32) (a1 : Int32) (a2 : Int32) : Option (Int32) := bd (α := Int32) (jk (some 0) (fun k3 => if a0 < a1 then k3 else if a2 < a0 then k3 else some 1)) (fun (x2 : Int32) => gd (zbo x2) (some x2))
set_option maxRecDepth 100000 in
set_option maxHeartbeats 4000000 in
theorem M_X12_isIn {l : Launch} {D : va_G} {y : ZLay} {a0 : Int32} {a1 : Int32} {a2 : Int32}  {μ : ZMem} {r : Int32} (h : f_X12_isIn a0 a1 a2 = some r) : MI l yX12_isIn wb_X12_isIn rm_X12_isIn D y [.int a0, .int a1, .int a2] μ r μ := by
  unfold f_X12_isIn at h
  refine MI_of RX12 [(0, .int a0), (1, .int a1), (2, .int a2)] (by decide) rfl rfl (Nat.le_of_ble_eq_true rfl) rfl ?_
  intro p e s m args below meth c A X
  refine V_iload_n X 0 dX12_isIn_0 rfl rfl ?_
  refine V_iload_n X 1 dX12_isIn_1 rfl rfl ?_
  obtain ⟨x2, h1, h⟩ := bd_some h
  have hk : V X μ 15 [] [.int x2] := by
    clear h1
    obtain ⟨hzb, h⟩ := gd_some h
    exact V_zretR X h hzb dX12_isIn_15
  replace h := h1
  clear h1
  refine jk0_el (P := V X μ 14 [] []) h (fun h => ?_) (fun k3 hk3 h => ?_)
  · refine V_iconst X 0 dX12_isIn_14 (by decide) ?_
    obtain rfl := so1 h
    exact hk
  · refine V_icmp_lt X (tgt := 14) dX12_isIn_2 (by decide) (fun b1 => ?_) (fun b1 => ?_)
    · replace h := (if_pos b1).symm.trans h
      refine V_sub X [] (lv' := []) rfl ?_
      exact hk3 h
    · replace h := (if_neg b1).symm.trans h
      refine V_iload_n X 0 dX12_isIn_5 rfl rfl ?_
      refine V_iload_n X 2 dX12_isIn_6 rfl rfl ?_
      refine V_icmp_gt X (tgt := 14) dX12_isIn_7 (by decide) (fun b4 => ?_) (fun b4 => ?_)
      · replace h := (if_pos b4).symm.trans h
        refine V_sub X [] (lv' := []) rfl ?_
        exact hk3 h
      · replace h := (if_neg b4).symm.trans h
        refine V_iconst X 1 dX12_isIn_10 (by decide) ?_
        refine V_goto X (tgt := 15) dX12_isIn_11 (by decide) ?_
        refine V_sub X [] (lv' := []) rfl ?_
        obtain rfl := so1 h
        exact hk

def f_X12_lesser (a0 : Int32) (a1 : Int32) : Int32 := zlt (α := Int32) (if a1 ≤ a0 then a1 else a0) (fun (x2 : Int32) => x2)
set_option maxRecDepth 100000 in
set_option maxHeartbeats 4000000 in
theorem M_X12_lesser {l : Launch} {D : va_G} {y : ZLay} {a0 : Int32} {a1 : Int32}  {μ : ZMem} : MI l yX12_lesser wb_X12_lesser rm_X12_lesser D y [.int a0, .int a1] μ (f_X12_lesser a0 a1) μ := by
  obtain ⟨r, h⟩ : ∃ r, f_X12_lesser a0 a1 = r := ⟨_, rfl⟩
  rw [h]
  unfold f_X12_lesser at h
  refine MI_of RX12 [(0, .int a0), (1, .int a1)] (by decide) rfl rfl (Nat.le_of_ble_eq_true rfl) rfl ?_
  intro p e s m args below meth c A X
  refine V_iload_n X 0 dX12_lesser_0 rfl rfl ?_
  refine V_iload_n X 1 dX12_lesser_1 rfl rfl ?_
  obtain ⟨x2, h1, h⟩ := zl1_some h
  have hk : V X μ 10 [] [.int x2] := by
    clear h1
    exact V_iretT X h dX12_lesser_10
  replace h := h1
  clear h1
  refine V_icmp_ge X (tgt := 9) dX12_lesser_2 (by decide) (fun b1 => ?_) (fun b1 => ?_)
  · replace h := (if_pos b1).symm.trans h
    refine V_iload_n X 1 dX12_lesser_9 rfl rfl ?_
    refine V_sub X [] (lv' := []) rfl ?_
    obtain rfl := pr1 h
    exact hk
  · replace h := (if_neg b1).symm.trans h
    refine V_iload_n X 0 dX12_lesser_5 rfl rfl ?_
    refine V_goto X (tgt := 10) dX12_lesser_6 (by decide) ?_
    refine V_sub X [] (lv' := []) rfl ?_
    obtain rfl := pr1 h
    exact hk

def f_X12_greater (a0 : Int32) (a1 : Int32) : Int32 := zlt (α := Int32) (if a0 ≤ a1 then a1 else a0) (fun (x2 : Int32) => x2)
set_option maxRecDepth 100000 in
set_option maxHeartbeats 4000000 in
theorem M_X12_greater {l : Launch} {D : va_G} {y : ZLay} {a0 : Int32} {a1 : Int32}  {μ : ZMem} : MI l yX12_greater wb_X12_greater rm_X12_greater D y [.int a0, .int a1] μ (f_X12_greater a0 a1) μ := by
  obtain ⟨r, h⟩ : ∃ r, f_X12_greater a0 a1 = r := ⟨_, rfl⟩
  rw [h]
  unfold f_X12_greater at h
  refine MI_of RX12 [(0, .int a0), (1, .int a1)] (by decide) rfl rfl (Nat.le_of_ble_eq_true rfl) rfl ?_
  intro p e s m args below meth c A X
  refine V_iload_n X 0 dX12_greater_0 rfl rfl ?_
  refine V_iload_n X 1 dX12_greater_1 rfl rfl ?_
  obtain ⟨x2, h1, h⟩ := zl1_some h
  have hk : V X μ 10 [] [.int x2] := by
    clear h1
    exact V_iretT X h dX12_greater_10
  replace h := h1
  clear h1
  refine V_icmp_le X (tgt := 9) dX12_greater_2 (by decide) (fun b1 => ?_) (fun b1 => ?_)
  · replace h := (if_pos b1).symm.trans h
    refine V_iload_n X 1 dX12_greater_9 rfl rfl ?_
    refine V_sub X [] (lv' := []) rfl ?_
    obtain rfl := pr1 h
    exact hk
  · replace h := (if_neg b1).symm.trans h
    refine V_iload_n X 0 dX12_greater_5 rfl rfl ?_
    refine V_goto X (tgt := 10) dX12_greater_6 (by decide) ?_
    refine V_sub X [] (lv' := []) rfl ?_
    obtain rfl := pr1 h
    exact hk

def f_X12_isOf (a0 : Int32) (a1 : Int32) : Option (Int32) := zlt (α := Int32) (if ((a0 >>> (a1 &&& 31)) &&& 1) = 1 then 1 else 0) (fun (x2 : Int32) => gd (zbo x2) (some x2))
set_option maxRecDepth 100000 in
set_option maxHeartbeats 4000000 in
theorem M_X12_isOf {l : Launch} {D : va_G} {y : ZLay} {a0 : Int32} {a1 : Int32}  {μ : ZMem} {r : Int32} (h : f_X12_isOf a0 a1 = some r) : MI l yX12_isOf wb_X12_isOf rm_X12_isOf D y [.int a0, .int a1] μ r μ := by
  unfold f_X12_isOf at h
  refine MI_of RX12 [(0, .int a0), (1, .int a1)] (by decide) rfl rfl (Nat.le_of_ble_eq_true rfl) rfl ?_
  intro p e s m args below meth c A X
  refine V_iload_n X 0 dX12_isOf_0 rfl rfl ?_
  refine V_iload_n X 1 dX12_isOf_1 rfl rfl ?_
  refine V_ishr X dX12_isOf_2 ?_
  refine V_iconst X 1 dX12_isOf_3 (by decide) ?_
  refine V_iand X dX12_isOf_4 ?_
  refine V_iconst X 1 dX12_isOf_5 (by decide) ?_
  obtain ⟨x2, h1, h⟩ := zl1_some h
  have hk : V X μ 14 [] [.int x2] := by
    clear h1
    obtain ⟨hzb, h⟩ := gd_some h
    exact V_zretR X h hzb dX12_isOf_14
  replace h := h1
  clear h1
  refine V_icmp_ne X (tgt := 13) dX12_isOf_6 (by decide) (fun b1 => ?_) (fun b1 => ?_)
  · replace h := (if_neg b1).symm.trans h
    refine V_iconst X 0 dX12_isOf_13 (by decide) ?_
    refine V_sub X [] (lv' := []) rfl ?_
    obtain rfl := pr1 h
    exact hk
  · replace h := (if_pos b1).symm.trans h
    refine V_iconst X 1 dX12_isOf_9 (by decide) ?_
    refine V_goto X (tgt := 14) dX12_isOf_10 (by decide) ?_
    refine V_sub X [] (lv' := []) rfl ?_
    obtain rfl := pr1 h
    exact hk

def f_X12_bits (a0 : Int32) : Option (Int32) := bd (lp (σ := Int32 × Int32) (fun q => un2 q (fun (x1 : Int32) (x2 : Int32) => if 31 ≤ x2 then some (.inr x1) else zlt (x1 + ((a0 >>> (x2 &&& 31)) &&& 1)) (fun (x5 : Int32) => some (.inl (x5, (x2 + 1)))))) FU (0, 0)) (fun (x3 : Int32) => some x3)
set_option maxRecDepth 100000 in
set_option maxHeartbeats 4000000 in
theorem M_X12_bits {l : Launch} {D : va_G} {y : ZLay} {a0 : Int32}  {μ : ZMem} {r : Int32} (h : f_X12_bits a0 = some r) : MI l yX12_bits wb_X12_bits rm_X12_bits D y [.int a0] μ r μ := by
  unfold f_X12_bits at h
  refine MI_of RX12 [(0, .int a0)] (by decide) rfl rfl (Nat.le_of_ble_eq_true rfl) rfl ?_
  intro p e s m args below meth c A X
  refine V_iconst X 0 dX12_bits_0 (by decide) ?_
  refine V_istore_n X [(1, .int 0), (0, .int a0)] dX12_bits_1 rfl (by decide) rfl ?_
  refine V_iconst X 0 dX12_bits_2 (by decide) ?_
  refine V_istore_n X [(2, .int 0), (1, .int 0), (0, .int a0)] dX12_bits_3 rfl (by decide) rfl ?_
  refine V_sub X [2, 1, 0] (lv' := [(0, .int a0), (1, .int 0), (2, .int 0)]) rfl ?_
  obtain ⟨x3, hl, h⟩ := bd_some h
  have hk : V X μ 24 [(1, .int x3)] [] := by
    clear hl
    refine V_iload_n X 0 dX12_bits_24 rfl rfl ?_
    exact V_iretR X h dX12_bits_25
  refine lp_ind (P := fun q => V X μ 4 [(0, .int a0), (1, .int q.1), (2, .int q.2)] []) (fun q z h hz => ?_) hl
  obtain ⟨x1, x2⟩ := q
  replace h := un2_eq h
  show V X μ 4 [(0, .int a0), (1, .int x1), (2, .int x2)] []
  refine V_iload_n X 2 dX12_bits_4 rfl rfl ?_
  refine V_bipush X 31 dX12_bits_5 (by decide) ?_
  refine V_icmp_ge X (tgt := 24) dX12_bits_7 (by decide) (fun b4 => ?_) (fun b4 => ?_)
  · replace h := (if_pos b4).symm.trans h
    refine V_sub X [1] (lv' := [(1, .int x1)]) rfl ?_
    cases h
    obtain rfl := pr1 hz
    exact hk
  · replace h := (if_neg b4).symm.trans h
    refine V_iload_n X 1 dX12_bits_10 rfl rfl ?_
    refine V_iload_n X 0 dX12_bits_11 rfl rfl ?_
    refine V_iload_n X 2 dX12_bits_12 rfl rfl ?_
    refine V_ishr X dX12_bits_13 ?_
    refine V_iconst X 1 dX12_bits_14 (by decide) ?_
    refine V_iand X dX12_bits_15 ?_
    refine V_iadd X dX12_bits_16 ?_
    refine V_istore_n X [(1, .int (x1 + ((a0 >>> (x2 &&& 31)) &&& 1))), (0, .int a0), (2, .int x2)] dX12_bits_17 rfl (by decide) rfl ?_
    refine zlt_el (P := fun (x5 : Int32) => V X μ 18 [(1, .int x5), (0, .int a0), (2, .int x2)] []) h (fun x5 h => ?_)
    refine V_inc X 2 1 [(2, .int (x2 + 1)), (1, .int x5), (0, .int a0)] dX12_bits_18 rfl (by decide) (by decide) rfl ?_
    refine V_goto X (tgt := 4) dX12_bits_21 (by decide) ?_
    refine V_sub X [2, 1, 0] (lv' := [(0, .int a0), (1, .int x5), (2, .int (x2 + 1))]) rfl ?_
    cases h
    exact hz

def f_X12_of (a1 : Int32) (a2 : Int32) (μ : ZMem) : Option (Int32) := gd (zin ((9 + (11 * a1)) + a2) 737) (some (μ (0, 33, 0) ((9 + (11 * a1)) + a2).toNatClampNeg))
set_option maxRecDepth 100000 in
set_option maxHeartbeats 4000000 in
theorem M_X12_of {l : Launch} {D : va_G} {y : ZLay} {a1 : Int32} {a2 : Int32}  {μ : ZMem} {r : Int32} (h : f_X12_of a1 a2 μ = some r) : MI l yX12_of wb_X12_of rm_X12_of D y [.ref (zad y (0, 32, 0)), .int a1, .int a2] μ r μ := by
  unfold f_X12_of at h
  refine MI_of RX12 [(0, .ref (zad y (0, 32, 0))), (1, .int a1), (2, .int a2)] (by decide) rfl rfl (Nat.le_of_ble_eq_true rfl) rfl ?_
  intro p e s m args below meth c A X
  refine V_aload_n X 0 dX12_of_0 rfl rfl ?_
  refine V_getr X (o := (0, 32, 0)) (i := (0, 33, 0)) (ci := 12) (k := 1) (N := 30) (T := TX12) (C := RX12) ⟨by decide, rfl⟩ rfl rfl rfl (by decide) (mBa inB_X12) (mB wl_RX12_7) dX12_of_1 ?_
  refine V_bipush X 9 dX12_of_4 (by decide) ?_
  refine V_bipush X 11 dX12_of_6 (by decide) ?_
  refine V_iload_n X 1 dX12_of_8 rfl rfl ?_
  refine V_imul X dX12_of_9 ?_
  refine V_iadd X dX12_of_10 ?_
  refine V_iload_n X 2 dX12_of_11 rfl rfl ?_
  refine V_iadd X dX12_of_12 ?_
  obtain ⟨g1, h⟩ := gd_some h
  refine V_iald X ((9 + (11 * a1)) + a2).toNatClampNeg rfl (o := (0, 33, 0)) (n := 737) ⟨by decide, rfl⟩ rfl rfl g1 dX12_of_13 ?_
  exact V_iretR X h dX12_of_14

def f_X12_lays (a1 : Int32) (a2 : Int32) (a3 : Int32) (μ : ZMem) : Option (ZMem) := gd (zin ((9 + (11 * a1)) + a2) 737) (zlt (mset μ (0, 33, 0) ((9 + (11 * a1)) + a2).toNatClampNeg a3) (fun (μ2 : ZMem) => some μ2))
set_option maxRecDepth 100000 in
set_option maxHeartbeats 4000000 in
theorem M_X12_lays {l : Launch} {D : va_G} {y : ZLay} {a1 : Int32} {a2 : Int32} {a3 : Int32}  {μ : ZMem} {μ0 : ZMem} (h : f_X12_lays a1 a2 a3 μ = some μ0) : MV l yX12_lays wb_X12_lays rm_X12_lays D y [.ref (zad y (0, 32, 0)), .int a1, .int a2, .int a3] μ μ0 := by
  unfold f_X12_lays at h
  refine MV_of RX12 [(0, .ref (zad y (0, 32, 0))), (1, .int a1), (2, .int a2), (3, .int a3)] (by decide) rfl rfl (Nat.le_of_ble_eq_true rfl) rfl ?_
  intro p e s m args below meth c A X
  refine V_aload_n X 0 dX12_lays_0 rfl rfl ?_
  refine V_getr X (o := (0, 32, 0)) (i := (0, 33, 0)) (ci := 12) (k := 1) (N := 30) (T := TX12) (C := RX12) ⟨by decide, rfl⟩ rfl rfl rfl (by decide) (mBa inB_X12) (mB wl_RX12_7) dX12_lays_1 ?_
  refine V_bipush X 9 dX12_lays_4 (by decide) ?_
  refine V_bipush X 11 dX12_lays_6 (by decide) ?_
  refine V_iload_n X 1 dX12_lays_8 rfl rfl ?_
  refine V_imul X dX12_lays_9 ?_
  refine V_iadd X dX12_lays_10 ?_
  refine V_iload_n X 2 dX12_lays_11 rfl rfl ?_
  refine V_iadd X dX12_lays_12 ?_
  refine V_iload_n X 3 dX12_lays_13 rfl rfl ?_
  obtain ⟨g1, h⟩ := gd_some h
  refine V_iast X ((9 + (11 * a1)) + a2).toNatClampNeg rfl (o := (0, 33, 0)) (n := 737) ⟨by decide, rfl⟩ rfl rfl g1 dX12_lays_14 ?_
  refine zlt_el (P := fun (μ2 : ZMem) => V X μ2 15 [(0, .ref (zad y (0, 32, 0))), (1, .int a1), (2, .int a2), (3, .int a3)] []) h (fun μ2 h => ?_)
  exact V_vretW X h dX12_lays_15

def f_X12_isNode (a1 : Int32) (μ : ZMem) : Option (Int32) := bd (f_X12_isIn a1 0 ((μ (0, 33, 0) 3) - 1)) (fun (x2 : Int32) => gd (zbo x2) (some x2))
set_option maxRecDepth 100000 in
set_option maxHeartbeats 4000000 in
theorem M_X12_isNode {l : Launch} {D : va_G} {y : ZLay} {a1 : Int32}  {μ : ZMem} {r : Int32} (h : f_X12_isNode a1 μ = some r) : MI l yX12_isNode wb_X12_isNode rm_X12_isNode D y [.ref (zad y (0, 32, 0)), .int a1] μ r μ := by
  unfold f_X12_isNode at h
  refine MI_of RX12 [(0, .ref (zad y (0, 32, 0))), (1, .int a1)] (by decide) rfl rfl (Nat.le_of_ble_eq_true rfl) rfl ?_
  intro p e s m args below meth c A X
  refine V_iload_n X 1 dX12_isNode_0 rfl rfl ?_
  refine V_iconst X 0 dX12_isNode_1 (by decide) ?_
  refine V_aload_n X 0 dX12_isNode_2 rfl rfl ?_
  refine V_getr X (o := (0, 32, 0)) (i := (0, 33, 0)) (ci := 12) (k := 1) (N := 30) (T := TX12) (C := RX12) ⟨by decide, rfl⟩ rfl rfl rfl (by decide) (mBa inB_X12) (mB wl_RX12_7) dX12_isNode_3 ?_
  refine V_iconst X 3 dX12_isNode_6 (by decide) ?_
  refine V_iald X 3 (by decide) (o := (0, 33, 0)) (n := 737) ⟨by decide, rfl⟩ rfl rfl (by decide) dX12_isNode_7 ?_
  refine V_iconst X 1 dX12_isNode_8 (by decide) ?_
  refine V_isub X dX12_isNode_9 ?_
  obtain ⟨x2, c1, h⟩ := bd_some h
  refine V_callSi X (As := [.int a1, .int 0, .int ((μ (0, 33, 0) 3) - 1)]) (M_X12_isIn c1) (va_cwS 3 X.2.2.2.2.2.2.1 (gS wm_RX12_62 wst_X12_isIn win_RX12 wc_X12_isIn) rfl rfl rfl hd_X12_isIn.2 ⟨Nat.le_of_ble_eq_true rfl, Nat.le_of_ble_eq_true rfl⟩) rfl (Nat.le_of_ble_eq_true rfl) dX12_isNode_10 rfl ?_
  obtain ⟨hzb, h⟩ := gd_some h
  exact V_zretR X h hzb dX12_isNode_13

def f_X12_isActive (a1 : Int32) (μ : ZMem) : Option (Int32) := bd (f_X12_of a1 3 μ) (fun (x2 : Int32) => zlt (α := Int32) (if x2 = 2 then 1 else 0) (fun (x4 : Int32) => gd (zbo x4) (some x4)))
set_option maxRecDepth 100000 in
set_option maxHeartbeats 4000000 in
theorem M_X12_isActive {l : Launch} {D : va_G} {y : ZLay} {a1 : Int32}  {μ : ZMem} {r : Int32} (h : f_X12_isActive a1 μ = some r) : MI l yX12_isActive wb_X12_isActive rm_X12_isActive D y [.ref (zad y (0, 32, 0)), .int a1] μ r μ := by
  unfold f_X12_isActive at h
  refine MI_of RX12 [(0, .ref (zad y (0, 32, 0))), (1, .int a1)] (by decide) rfl rfl (Nat.le_of_ble_eq_true rfl) rfl ?_
  intro p e s m args below meth c A X
  refine V_aload_n X 0 dX12_isActive_0 rfl rfl ?_
  refine V_iload_n X 1 dX12_isActive_1 rfl rfl ?_
  refine V_iconst X 3 dX12_isActive_2 (by decide) ?_
  obtain ⟨x2, c1, h⟩ := bd_some h
  refine V_callVi X (As := [.int a1, .int 3]) (M_X12_of c1) (cwV 2 X.2.2.2.2.2.2.1 (gV wm_RX12_66 wi_X12_of wse_X12_of win_RX12 wc_X12_of) rfl rfl rfl hd_X12_of ⟨Nat.le_of_ble_eq_true rfl, Nat.le_of_ble_eq_true rfl⟩) (b := (0, 32, 0)) ⟨by decide, rfl⟩ rfl rfl rfl rfl (Nat.le_of_ble_eq_true rfl) dX12_isActive_3 rfl ?_
  refine V_iconst X 2 dX12_isActive_6 (by decide) ?_
  obtain ⟨x4, h1, h⟩ := zl1_some h
  have hk : V X μ 15 [] [.int x4] := by
    clear h1
    obtain ⟨hzb, h⟩ := gd_some h
    exact V_zretR X h hzb dX12_isActive_15
  replace h := h1
  clear h1
  refine V_icmp_ne X (tgt := 14) dX12_isActive_7 (by decide) (fun b3 => ?_) (fun b3 => ?_)
  · replace h := (if_neg b3).symm.trans h
    refine V_iconst X 0 dX12_isActive_14 (by decide) ?_
    refine V_sub X [] (lv' := []) rfl ?_
    obtain rfl := pr1 h
    exact hk
  · replace h := (if_pos b3).symm.trans h
    refine V_iconst X 1 dX12_isActive_10 (by decide) ?_
    refine V_goto X (tgt := 15) dX12_isActive_11 (by decide) ?_
    refine V_sub X [] (lv' := []) rfl ?_
    obtain rfl := pr1 h
    exact hk

def f_X12_held (a0 : Int32) (a1 : Int32) : Int32 := (f_X12_greater (-a1) (f_X12_lesser a1 a0))
set_option maxRecDepth 100000 in
set_option maxHeartbeats 4000000 in
theorem M_X12_held {l : Launch} {D : va_G} {y : ZLay} {a0 : Int32} {a1 : Int32}  {μ : ZMem} : MI l yX12_held wb_X12_held rm_X12_held D y [.int a0, .int a1] μ (f_X12_held a0 a1) μ := by
  obtain ⟨r, h⟩ : ∃ r, f_X12_held a0 a1 = r := ⟨_, rfl⟩
  rw [h]
  unfold f_X12_held at h
  refine MI_of RX12 [(0, .int a0), (1, .int a1)] (by decide) rfl rfl (Nat.le_of_ble_eq_true rfl) rfl ?_
  intro p e s m args below meth c A X
  refine V_iload_n X 1 dX12_held_0 rfl rfl ?_
  refine V_ineg X dX12_held_1 ?_
  refine V_iload_n X 1 dX12_held_2 rfl rfl ?_
  refine V_iload_n X 0 dX12_held_3 rfl rfl ?_
  refine V_callSi X (As := [.int a1, .int a0]) (M_X12_lesser) (va_cwS 2 X.2.2.2.2.2.2.1 (gS wm_RX12_70 wst_X12_lesser win_RX12 wc_X12_lesser) rfl rfl rfl hd_X12_lesser.2 ⟨Nat.le_of_ble_eq_true rfl, Nat.le_of_ble_eq_true rfl⟩) rfl (Nat.le_of_ble_eq_true rfl) dX12_held_4 rfl ?_
  refine V_callSi X (As := [.int (-a1), .int (f_X12_lesser a1 a0)]) (M_X12_greater) (va_cwS 2 X.2.2.2.2.2.2.1 (gS wm_RX12_73 wst_X12_greater win_RX12 wc_X12_greater) rfl rfl rfl hd_X12_greater.2 ⟨Nat.le_of_ble_eq_true rfl, Nat.le_of_ble_eq_true rfl⟩) rfl (Nat.le_of_ble_eq_true rfl) dX12_held_7 rfl ?_
  exact V_iretT X h dX12_held_10

def f_X12_sign (a0 : Int32) : Int32 := zlt (α := Int32) (if 0 ≤ a0 then a0 else (-a0)) (fun (x2 : Int32) => x2)
set_option maxRecDepth 100000 in
set_option maxHeartbeats 4000000 in
theorem M_X12_sign {l : Launch} {D : va_G} {y : ZLay} {a0 : Int32}  {μ : ZMem} : MI l yX12_sign wb_X12_sign rm_X12_sign D y [.int a0] μ (f_X12_sign a0) μ := by
  obtain ⟨r, h⟩ : ∃ r, f_X12_sign a0 = r := ⟨_, rfl⟩
  rw [h]
  unfold f_X12_sign at h
  refine MI_of RX12 [(0, .int a0)] (by decide) rfl rfl (Nat.le_of_ble_eq_true rfl) rfl ?_
  intro p e s m args below meth c A X
  refine V_iload_n X 0 dX12_sign_0 rfl rfl ?_
  obtain ⟨x2, h1, h⟩ := zl1_some h
  have hk : V X μ 10 [] [.int x2] := by
    clear h1
    exact V_iretT X h dX12_sign_10
  replace h := h1
  clear h1
  refine V_if_ge X (tgt := 9) dX12_sign_1 (by decide) (fun b1 => ?_) (fun b1 => ?_)
  · replace h := (if_pos b1).symm.trans h
    refine V_iload_n X 0 dX12_sign_9 rfl rfl ?_
    refine V_sub X [] (lv' := []) rfl ?_
    obtain rfl := pr1 h
    exact hk
  · replace h := (if_neg b1).symm.trans h
    refine V_iload_n X 0 dX12_sign_4 rfl rfl ?_
    refine V_ineg X dX12_sign_5 ?_
    refine V_goto X (tgt := 10) dX12_sign_6 (by decide) ?_
    refine V_sub X [] (lv' := []) rfl ?_
    obtain rfl := pr1 h
    exact hk

def f_X12_inState (a1 : Int32) (μ : ZMem) : Option (Int32) := bd (lp (σ := Int32 × Int32) (fun q => un2 q (fun (x1 : Int32) (x2 : Int32) => if (μ (0, 33, 0) 3) ≤ x2 then some (.inr x1) else bd (f_X12_of x2 3 μ) (fun (x6 : Int32) => zlt (α := Int32) (if x6 = a1 then (1 <<< (x2 &&& 31)) else 0) (fun (x8 : Int32) => zlt (x1 ||| x8) (fun (x9 : Int32) => some (.inl (x9, (x2 + 1)))))))) FU (0, 0)) (fun (x3 : Int32) => some x3)
set_option maxRecDepth 100000 in
set_option maxHeartbeats 4000000 in
theorem M_X12_inState {l : Launch} {D : va_G} {y : ZLay} {a1 : Int32}  {μ : ZMem} {r : Int32} (h : f_X12_inState a1 μ = some r) : MI l yX12_inState wb_X12_inState rm_X12_inState D y [.ref (zad y (0, 32, 0)), .int a1] μ r μ := by
  unfold f_X12_inState at h
  refine MI_of RX12 [(0, .ref (zad y (0, 32, 0))), (1, .int a1)] (by decide) rfl rfl (Nat.le_of_ble_eq_true rfl) rfl ?_
  intro p e s m args below meth c A X
  refine V_iconst X 0 dX12_inState_0 (by decide) ?_
  refine V_istore_n X [(2, .int 0), (0, .ref (zad y (0, 32, 0))), (1, .int a1)] dX12_inState_1 rfl (by decide) rfl ?_
  refine V_iconst X 0 dX12_inState_2 (by decide) ?_
  refine V_istore_n X [(3, .int 0), (2, .int 0), (0, .ref (zad y (0, 32, 0))), (1, .int a1)] dX12_inState_3 rfl (by decide) rfl ?_
  refine V_sub X [2, 3, 1, 0] (lv' := [(0, .ref (zad y (0, 32, 0))), (1, .int a1), (2, .int 0), (3, .int 0)]) rfl ?_
  obtain ⟨x3, hl, h⟩ := bd_some h
  have hk : V X μ 40 [(2, .int x3)] [] := by
    clear hl
    refine V_iload_n X 0 dX12_inState_40 rfl rfl ?_
    exact V_iretR X h dX12_inState_41
  refine lp_ind (P := fun q => V X μ 4 [(0, .ref (zad y (0, 32, 0))), (1, .int a1), (2, .int q.1), (3, .int q.2)] []) (fun q z h hz => ?_) hl
  obtain ⟨x1, x2⟩ := q
  replace h := un2_eq h
  show V X μ 4 [(0, .ref (zad y (0, 32, 0))), (1, .int a1), (2, .int x1), (3, .int x2)] []
  refine V_iload_n X 3 dX12_inState_4 rfl rfl ?_
  refine V_aload_n X 0 dX12_inState_5 rfl rfl ?_
  refine V_getr X (o := (0, 32, 0)) (i := (0, 33, 0)) (ci := 12) (k := 1) (N := 30) (T := TX12) (C := RX12) ⟨by decide, rfl⟩ rfl rfl rfl (by decide) (mBa inB_X12) (mB wl_RX12_7) dX12_inState_6 ?_
  refine V_iconst X 3 dX12_inState_9 (by decide) ?_
  refine V_iald X 3 (by decide) (o := (0, 33, 0)) (n := 737) ⟨by decide, rfl⟩ rfl rfl (by decide) dX12_inState_10 ?_
  refine V_icmp_ge X (tgt := 40) dX12_inState_11 (by decide) (fun b4 => ?_) (fun b4 => ?_)
  · replace h := (if_pos b4).symm.trans h
    refine V_sub X [2] (lv' := [(2, .int x1)]) rfl ?_
    cases h
    obtain rfl := pr1 hz
    exact hk
  · replace h := (if_neg b4).symm.trans h
    refine V_iload_n X 2 dX12_inState_14 rfl rfl ?_
    refine V_aload_n X 0 dX12_inState_15 rfl rfl ?_
    refine V_iload_n X 3 dX12_inState_16 rfl rfl ?_
    refine V_iconst X 3 dX12_inState_17 (by decide) ?_
    obtain ⟨x6, c5, h⟩ := bd_some h
    refine V_callVi X (As := [.int x2, .int 3]) (M_X12_of c5) (cwV 2 X.2.2.2.2.2.2.1 (gV wm_RX12_66 wi_X12_of wse_X12_of win_RX12 wc_X12_of) rfl rfl rfl hd_X12_of ⟨Nat.le_of_ble_eq_true rfl, Nat.le_of_ble_eq_true rfl⟩) (b := (0, 32, 0)) ⟨by decide, rfl⟩ rfl rfl rfl rfl (Nat.le_of_ble_eq_true rfl) dX12_inState_18 rfl ?_
    refine V_iload_n X 1 dX12_inState_21 rfl rfl ?_
    obtain ⟨x8, h1, h⟩ := zl1_some h
    have hk : V X μ 32 [(0, .ref (zad y (0, 32, 0))), (1, .int a1), (3, .int x2)] [.int x8, .int x1] := by
      clear h1
      refine V_ior X dX12_inState_32 ?_
      refine V_istore_n X [(2, .int (x1 ||| x8)), (0, .ref (zad y (0, 32, 0))), (1, .int a1), (3, .int x2)] dX12_inState_33 rfl (by decide) rfl ?_
      refine zlt_el (P := fun (x9 : Int32) => V X μ 34 [(2, .int x9), (0, .ref (zad y (0, 32, 0))), (1, .int a1), (3, .int x2)] []) h (fun x9 h => ?_)
      refine V_inc X 3 1 [(3, .int (x2 + 1)), (2, .int x9), (0, .ref (zad y (0, 32, 0))), (1, .int a1)] dX12_inState_34 rfl (by decide) (by decide) rfl ?_
      refine V_goto X (tgt := 4) dX12_inState_37 (by decide) ?_
      refine V_sub X [2, 3, 1, 0] (lv' := [(0, .ref (zad y (0, 32, 0))), (1, .int a1), (2, .int x9), (3, .int (x2 + 1))]) rfl ?_
      cases h
      exact hz
    replace h := h1
    clear h1
    refine V_icmp_ne X (tgt := 31) dX12_inState_22 (by decide) (fun b7 => ?_) (fun b7 => ?_)
    · replace h := (if_neg b7).symm.trans h
      refine V_iconst X 0 dX12_inState_31 (by decide) ?_
      refine V_sub X [0, 1, 3] (lv' := [(0, .ref (zad y (0, 32, 0))), (1, .int a1), (3, .int x2)]) rfl ?_
      obtain rfl := pr1 h
      exact hk
    · replace h := (if_pos b7).symm.trans h
      refine V_iconst X 1 dX12_inState_25 (by decide) ?_
      refine V_iload_n X 3 dX12_inState_26 rfl rfl ?_
      refine V_ishl X dX12_inState_27 ?_
      refine V_goto X (tgt := 32) dX12_inState_28 (by decide) ?_
      refine V_sub X [0, 1, 3] (lv' := [(0, .ref (zad y (0, 32, 0))), (1, .int a1), (3, .int x2)]) rfl ?_
      obtain rfl := pr1 h
      exact hk

def f_X12_feed (a1 : Int32) (a2 : Int32) (a3 : Int32) (a4 : Int32) (a5 : Int32) (μ : ZMem) : Option (Int32 × ZMem) := zlt (mset μ (0, 32, 0) 0 0) (fun (μ1 : ZMem) => if ((μ1 (0, 32, 0) 8) + 20) ≤ 400 then bd (lp (σ := Int32 × ZMem) (fun q => un2 q (fun (x3 : Int32) (μ4 : ZMem) => if 20 ≤ x3 then some (.inr μ4) else zlt (α := Int32) (if 4 ≤ x3 then if 8 ≤ x3 then if 12 ≤ x3 then if 16 ≤ x3 then a5 else a4 else a3 else a2 else a1) (fun (x8 : Int32) => gd (zin (μ4 (0, 32, 0) 8) 400) (zlt (mset μ4 (0, 37, 0) (μ4 (0, 32, 0) 8).toNatClampNeg ((zushr x8 (24 - (8 * (zrem x3 4)))) &&& 255)) (fun (μ13 : ZMem) => zlt (mset μ13 (0, 32, 0) 8 ((μ13 (0, 32, 0) 8) + 1)) (fun (μ14 : ZMem) => some (.inl ((x3 + 1), μ14)))))))) FU (0, μ1)) (fun (μ5 : ZMem) => some ((μ5 (0, 32, 0) 8), μ5)) else some ((-1), μ1))
set_option maxRecDepth 100000 in
set_option maxHeartbeats 4000000 in
theorem M_X12_feed {l : Launch} {D : va_G} {y : ZLay} {a1 : Int32} {a2 : Int32} {a3 : Int32} {a4 : Int32} {a5 : Int32}  {μ : ZMem} {r : Int32} {μ0 : ZMem} (h : f_X12_feed a1 a2 a3 a4 a5 μ = some (r, μ0)) : MI l yX12_feed wb_X12_feed rm_X12_feed D y [.ref (zad y (0, 32, 0)), .int a1, .int a2, .int a3, .int a4, .int a5] μ r μ0 := by
  unfold f_X12_feed at h
  refine MI_of RX12 [(0, .ref (zad y (0, 32, 0))), (1, .int a1), (2, .int a2), (3, .int a3), (4, .int a4), (5, .int a5)] (by decide) rfl rfl (Nat.le_of_ble_eq_true rfl) rfl ?_
  intro p e s m args below meth c A X
  refine V_aload_n X 0 dX12_feed_0 rfl rfl ?_
  refine V_iconst X 0 dX12_feed_1 (by decide) ?_
  refine V_puti X tyX12 .int (o := (0, 32, 0)) (ci := 12) (k := 0) (N := 30) (T := TX12) (C := RX12) ⟨by decide, rfl⟩ rfl rfl rfl (by decide) (mBa inB_X12) tyX12_ok nmX12 (mB wl_RX12_59) rfl rfl rfl rfl dX12_feed_2 ?_
  refine zlt_el (P := fun (μ1 : ZMem) => V X μ1 5 [(0, .ref (zad y (0, 32, 0))), (1, .int a1), (2, .int a2), (3, .int a3), (4, .int a4), (5, .int a5)] []) h (fun μ1 h => ?_)
  refine V_aload_n X 0 dX12_feed_5 rfl rfl ?_
  refine V_geti X (o := (0, 32, 0)) (ci := 12) (k := 8) (N := 30) (T := TX12) (C := RX12) ⟨by decide, rfl⟩ rfl rfl rfl (by decide) (mBa inB_X12) (mB wl_RX12_76) dX12_feed_6 ?_
  refine V_bipush X 20 dX12_feed_9 (by decide) ?_
  refine V_iadd X dX12_feed_11 ?_
  refine V_sipush X 400 dX12_feed_12 (by decide) ?_
  refine V_icmp_le X (tgt := 20) dX12_feed_15 (by decide) (fun b2 => ?_) (fun b2 => ?_)
  · replace h := (if_pos b2).symm.trans h
    refine V_iconst X 0 dX12_feed_20 (by decide) ?_
    refine V_istore X [(6, .int 0), (0, .ref (zad y (0, 32, 0))), (1, .int a1), (2, .int a2), (3, .int a3), (4, .int a4), (5, .int a5)] dX12_feed_21 (by decide) rfl ?_
    refine V_sub X [1, 2, 3, 4, 5, 6, 0] (lv' := [(0, .ref (zad y (0, 32, 0))), (1, .int a1), (2, .int a2), (3, .int a3), (4, .int a4), (5, .int a5), (6, .int 0)]) rfl ?_
    obtain ⟨μ5, hl, h⟩ := bd_some h
    have hk : V X μ5 120 [(0, .ref (zad y (0, 32, 0)))] [] := by
      clear hl
      refine V_aload_n X 0 dX12_feed_120 rfl rfl ?_
      refine V_geti X (o := (0, 32, 0)) (ci := 12) (k := 8) (N := 30) (T := TX12) (C := RX12) ⟨by decide, rfl⟩ rfl rfl rfl (by decide) (mBa inB_X12) (mB wl_RX12_76) dX12_feed_121 ?_
      exact V_iretW X h dX12_feed_124
    refine lp_ind (P := fun q => V X q.2 23 [(0, .ref (zad y (0, 32, 0))), (1, .int a1), (2, .int a2), (3, .int a3), (4, .int a4), (5, .int a5), (6, .int q.1)] []) (fun q z h hz => ?_) hl
    obtain ⟨x3, μ4⟩ := q
    replace h := un2_eq h
    show V X μ4 23 [(0, .ref (zad y (0, 32, 0))), (1, .int a1), (2, .int a2), (3, .int a3), (4, .int a4), (5, .int a5), (6, .int x3)] []
    refine V_iload X 6 dX12_feed_23 rfl ?_
    refine V_bipush X 20 dX12_feed_25 (by decide) ?_
    refine V_icmp_ge X (tgt := 120) dX12_feed_27 (by decide) (fun b6 => ?_) (fun b6 => ?_)
    · replace h := (if_pos b6).symm.trans h
      refine V_sub X [0] (lv' := [(0, .ref (zad y (0, 32, 0)))]) rfl ?_
      cases h
      obtain rfl := pr1 hz
      exact hk
    · replace h := (if_neg b6).symm.trans h
      refine V_iload X 6 dX12_feed_30 rfl ?_
      refine V_iconst X 4 dX12_feed_32 (by decide) ?_
      obtain ⟨x8, h1, h⟩ := zl1_some h
      have hk : V X μ4 76 [(0, .ref (zad y (0, 32, 0))), (1, .int a1), (2, .int a2), (3, .int a3), (4, .int a4), (5, .int a5), (6, .int x3)] [.int x8] := by
        clear h1
        refine V_istore X [(7, .int x8), (0, .ref (zad y (0, 32, 0))), (1, .int a1), (2, .int a2), (3, .int a3), (4, .int a4), (5, .int a5), (6, .int x3)] dX12_feed_76 (by decide) rfl ?_
        refine V_aload_n X 1 dX12_feed_78 rfl rfl ?_
        refine V_getr X (o := (0, 32, 0)) (i := (0, 37, 0)) (ci := 12) (k := 7) (N := 30) (T := TX12) (C := RX12) ⟨by decide, rfl⟩ rfl rfl rfl (by decide) (mBa inB_X12) (mB wl_RX12_22) dX12_feed_79 ?_
        refine V_aload_n X 1 dX12_feed_82 rfl rfl ?_
        refine V_geti X (o := (0, 32, 0)) (ci := 12) (k := 8) (N := 30) (T := TX12) (C := RX12) ⟨by decide, rfl⟩ rfl rfl rfl (by decide) (mBa inB_X12) (mB wl_RX12_76) dX12_feed_83 ?_
        refine V_iload X 0 dX12_feed_86 rfl ?_
        refine V_bipush X 24 dX12_feed_88 (by decide) ?_
        refine V_bipush X 8 dX12_feed_90 (by decide) ?_
        refine V_iload X 7 dX12_feed_92 rfl ?_
        refine V_iconst X 4 dX12_feed_94 (by decide) ?_
        refine V_rem X dX12_feed_95 (by decide) ?_
        refine V_imul X dX12_feed_96 ?_
        refine V_isub X dX12_feed_97 ?_
        refine V_iushr X dX12_feed_98 ?_
        refine V_sipush X 255 dX12_feed_99 (by decide) ?_
        refine V_iand X dX12_feed_102 ?_
        obtain ⟨g12, h⟩ := gd_some h
        refine V_iast X (μ4 (0, 32, 0) 8).toNatClampNeg rfl (o := (0, 37, 0)) (n := 400) ⟨by decide, rfl⟩ rfl rfl g12 dX12_feed_103 ?_
        refine zlt_el (P := fun (μ13 : ZMem) => V X μ13 104 [(7, .int x8), (0, .ref (zad y (0, 32, 0))), (1, .int a1), (2, .int a2), (3, .int a3), (4, .int a4), (5, .int a5), (6, .int x3)] []) h (fun μ13 h => ?_)
        refine V_aload_n X 1 dX12_feed_104 rfl rfl ?_
        refine V_dup X dX12_feed_105 rfl ?_
        refine V_geti X (o := (0, 32, 0)) (ci := 12) (k := 8) (N := 30) (T := TX12) (C := RX12) ⟨by decide, rfl⟩ rfl rfl rfl (by decide) (mBa inB_X12) (mB wl_RX12_76) dX12_feed_106 ?_
        refine V_iconst X 1 dX12_feed_109 (by decide) ?_
        refine V_iadd X dX12_feed_110 ?_
        refine V_puti X tyX12 .int (o := (0, 32, 0)) (ci := 12) (k := 8) (N := 30) (T := TX12) (C := RX12) ⟨by decide, rfl⟩ rfl rfl rfl (by decide) (mBa inB_X12) tyX12_ok nmX12 (mB wl_RX12_76) rfl rfl rfl rfl dX12_feed_111 ?_
        refine zlt_el (P := fun (μ14 : ZMem) => V X μ14 114 [(7, .int x8), (0, .ref (zad y (0, 32, 0))), (1, .int a1), (2, .int a2), (3, .int a3), (4, .int a4), (5, .int a5), (6, .int x3)] []) h (fun μ14 h => ?_)
        refine V_inc X 7 1 [(6, .int (x3 + 1)), (7, .int x8), (0, .ref (zad y (0, 32, 0))), (1, .int a1), (2, .int a2), (3, .int a3), (4, .int a4), (5, .int a5)] dX12_feed_114 rfl (by decide) (by decide) rfl ?_
        refine V_goto X (tgt := 23) dX12_feed_117 (by decide) ?_
        refine V_sub X [2, 3, 4, 5, 6, 7, 0] (lv' := [(0, .ref (zad y (0, 32, 0))), (1, .int a1), (2, .int a2), (3, .int a3), (4, .int a4), (5, .int a5), (6, .int (x3 + 1))]) rfl ?_
        cases h
        exact hz
      replace h := h1
      clear h1
      refine V_icmp_ge X (tgt := 40) dX12_feed_33 (by decide) (fun b7 => ?_) (fun b7 => ?_)
      · replace h := (if_pos b7).symm.trans h
        refine V_iload X 6 dX12_feed_40 rfl ?_
        refine V_bipush X 8 dX12_feed_42 (by decide) ?_
        refine V_icmp_ge X (tgt := 51) dX12_feed_44 (by decide) (fun b9 => ?_) (fun b9 => ?_)
        · replace h := (if_pos b9).symm.trans h
          refine V_iload X 6 dX12_feed_51 rfl ?_
          refine V_bipush X 12 dX12_feed_53 (by decide) ?_
          refine V_icmp_ge X (tgt := 62) dX12_feed_55 (by decide) (fun b10 => ?_) (fun b10 => ?_)
          · replace h := (if_pos b10).symm.trans h
            refine V_iload X 6 dX12_feed_62 rfl ?_
            refine V_bipush X 16 dX12_feed_64 (by decide) ?_
            refine V_icmp_ge X (tgt := 74) dX12_feed_66 (by decide) (fun b11 => ?_) (fun b11 => ?_)
            · replace h := (if_pos b11).symm.trans h
              refine V_iload X 5 dX12_feed_74 rfl ?_
              obtain rfl := pr1 h
              exact hk
            · replace h := (if_neg b11).symm.trans h
              refine V_iload X 4 dX12_feed_69 rfl ?_
              refine V_goto X (tgt := 76) dX12_feed_71 (by decide) ?_
              obtain rfl := pr1 h
              exact hk
          · replace h := (if_neg b10).symm.trans h
            refine V_iload_n X 3 dX12_feed_58 rfl rfl ?_
            refine V_goto X (tgt := 76) dX12_feed_59 (by decide) ?_
            obtain rfl := pr1 h
            exact hk
        · replace h := (if_neg b9).symm.trans h
          refine V_iload_n X 2 dX12_feed_47 rfl rfl ?_
          refine V_goto X (tgt := 76) dX12_feed_48 (by decide) ?_
          obtain rfl := pr1 h
          exact hk
      · replace h := (if_neg b7).symm.trans h
        refine V_iload_n X 1 dX12_feed_36 rfl rfl ?_
        refine V_goto X (tgt := 76) dX12_feed_37 (by decide) ?_
        obtain rfl := pr1 h
        exact hk
  · replace h := (if_neg b2).symm.trans h
    refine V_iconst X (-1) dX12_feed_18 (by decide) ?_
    exact V_iretW X h dX12_feed_19

def f_X12_end (a1 : Int32) (μ : ZMem) : Option (Int32 × ZMem) := zlt (mset μ (0, 32, 0) 0 0) (fun (μ1 : ZMem) => bd (f_X12_isIn a1 0 (μ1 (0, 32, 0) 8)) (fun (x3 : Int32) => if x3 = 0 then some (0, μ1) else zlt (mset μ1 (0, 32, 0) 8 a1) (fun (μ5 : ZMem) => some (1, μ5))))
set_option maxRecDepth 100000 in
set_option maxHeartbeats 4000000 in
theorem M_X12_end {l : Launch} {D : va_G} {y : ZLay} {a1 : Int32}  {μ : ZMem} {r : Int32} {μ0 : ZMem} (h : f_X12_end a1 μ = some (r, μ0)) : MI l yX12_end wb_X12_end rm_X12_end D y [.ref (zad y (0, 32, 0)), .int a1] μ r μ0 := by
  unfold f_X12_end at h
  refine MI_of RX12 [(0, .ref (zad y (0, 32, 0))), (1, .int a1)] (by decide) rfl rfl (Nat.le_of_ble_eq_true rfl) rfl ?_
  intro p e s m args below meth c A X
  refine V_aload_n X 0 dX12_end_0 rfl rfl ?_
  refine V_iconst X 0 dX12_end_1 (by decide) ?_
  refine V_puti X tyX12 .int (o := (0, 32, 0)) (ci := 12) (k := 0) (N := 30) (T := TX12) (C := RX12) ⟨by decide, rfl⟩ rfl rfl rfl (by decide) (mBa inB_X12) tyX12_ok nmX12 (mB wl_RX12_59) rfl rfl rfl rfl dX12_end_2 ?_
  refine zlt_el (P := fun (μ1 : ZMem) => V X μ1 5 [(0, .ref (zad y (0, 32, 0))), (1, .int a1)] []) h (fun μ1 h => ?_)
  refine V_iload_n X 1 dX12_end_5 rfl rfl ?_
  refine V_iconst X 0 dX12_end_6 (by decide) ?_
  refine V_aload_n X 0 dX12_end_7 rfl rfl ?_
  refine V_geti X (o := (0, 32, 0)) (ci := 12) (k := 8) (N := 30) (T := TX12) (C := RX12) ⟨by decide, rfl⟩ rfl rfl rfl (by decide) (mBa inB_X12) (mB wl_RX12_76) dX12_end_8 ?_
  obtain ⟨x3, c2, h⟩ := bd_some h
  refine V_callSi X (As := [.int a1, .int 0, .int (μ1 (0, 32, 0) 8)]) (M_X12_isIn c2) (va_cwS 3 X.2.2.2.2.2.2.1 (gS wm_RX12_62 wst_X12_isIn win_RX12 wc_X12_isIn) rfl rfl rfl hd_X12_isIn.2 ⟨Nat.le_of_ble_eq_true rfl, Nat.le_of_ble_eq_true rfl⟩) rfl (Nat.le_of_ble_eq_true rfl) dX12_end_11 rfl ?_
  refine V_if_ne X (tgt := 19) dX12_end_14 (by decide) (fun b4 => ?_) (fun b4 => ?_)
  · replace h := (if_neg b4).symm.trans h
    refine V_aload_n X 0 dX12_end_19 rfl rfl ?_
    refine V_iload_n X 1 dX12_end_20 rfl rfl ?_
    refine V_puti X tyX12 .int (o := (0, 32, 0)) (ci := 12) (k := 8) (N := 30) (T := TX12) (C := RX12) ⟨by decide, rfl⟩ rfl rfl rfl (by decide) (mBa inB_X12) tyX12_ok nmX12 (mB wl_RX12_76) rfl rfl rfl rfl dX12_end_21 ?_
    refine zlt_el (P := fun (μ5 : ZMem) => V X μ5 24 [(0, .ref (zad y (0, 32, 0))), (1, .int a1)] []) h (fun μ5 h => ?_)
    refine V_iconst X 1 dX12_end_24 (by decide) ?_
    exact V_zretW X h (by decide) dX12_end_25
  · replace h := (if_pos b4).symm.trans h
    refine V_iconst X 0 dX12_end_17 (by decide) ?_
    exact V_zretW X h (by decide) dX12_end_18

def f_X12_letter (a1 : Int32) (μ : ZMem) : Option (Int32) := bd (α := Int32) (if (μ (0, 32, 0) 9) = (-1) then gd (zin a1 400) (some (μ (0, 37, 0) a1.toNatClampNeg)) else gd (zin ((μ (0, 32, 0) 9) + a1) 737) (some (μ (0, 33, 0) ((μ (0, 32, 0) 9) + a1).toNatClampNeg))) (fun (x2 : Int32) => some x2)
set_option maxRecDepth 100000 in
set_option maxHeartbeats 4000000 in
theorem M_X12_letter {l : Launch} {D : va_G} {y : ZLay} {a1 : Int32}  {μ : ZMem} {r : Int32} (h : f_X12_letter a1 μ = some r) : MI l yX12_letter wb_X12_letter rm_X12_letter D y [.ref (zad y (0, 32, 0)), .int a1] μ r μ := by
  unfold f_X12_letter at h
  refine MI_of RX12 [(0, .ref (zad y (0, 32, 0))), (1, .int a1)] (by decide) rfl rfl (Nat.le_of_ble_eq_true rfl) rfl ?_
  intro p e s m args below meth c A X
  refine V_aload_n X 0 dX12_letter_0 rfl rfl ?_
  refine V_geti X (o := (0, 32, 0)) (ci := 12) (k := 9) (N := 30) (T := TX12) (C := RX12) ⟨by decide, rfl⟩ rfl rfl rfl (by decide) (mBa inB_X12) (mB wl_RX12_79) dX12_letter_1 ?_
  refine V_iconst X (-1) dX12_letter_4 (by decide) ?_
  obtain ⟨x2, h1, h⟩ := bd_some h
  have hk : V X μ 28 [] [.int x2] := by
    clear h1
    exact V_iretR X h dX12_letter_28
  replace h := h1
  clear h1
  refine V_icmp_ne X (tgt := 17) dX12_letter_5 (by decide) (fun b1 => ?_) (fun b1 => ?_)
  · replace h := (if_neg b1).symm.trans h
    refine V_aload_n X 0 dX12_letter_17 rfl rfl ?_
    refine V_getr X (o := (0, 32, 0)) (i := (0, 33, 0)) (ci := 12) (k := 1) (N := 30) (T := TX12) (C := RX12) ⟨by decide, rfl⟩ rfl rfl rfl (by decide) (mBa inB_X12) (mB wl_RX12_7) dX12_letter_18 ?_
    refine V_aload_n X 0 dX12_letter_21 rfl rfl ?_
    refine V_geti X (o := (0, 32, 0)) (ci := 12) (k := 9) (N := 30) (T := TX12) (C := RX12) ⟨by decide, rfl⟩ rfl rfl rfl (by decide) (mBa inB_X12) (mB wl_RX12_79) dX12_letter_22 ?_
    refine V_iload_n X 1 dX12_letter_25 rfl rfl ?_
    refine V_iadd X dX12_letter_26 ?_
    obtain ⟨g3, h⟩ := gd_some h
    refine V_iald X ((μ (0, 32, 0) 9) + a1).toNatClampNeg rfl (o := (0, 33, 0)) (n := 737) ⟨by decide, rfl⟩ rfl rfl g3 dX12_letter_27 ?_
    refine V_sub X [] (lv' := []) rfl ?_
    obtain rfl := so1 h
    exact hk
  · replace h := (if_pos b1).symm.trans h
    refine V_aload_n X 0 dX12_letter_8 rfl rfl ?_
    refine V_getr X (o := (0, 32, 0)) (i := (0, 37, 0)) (ci := 12) (k := 7) (N := 30) (T := TX12) (C := RX12) ⟨by decide, rfl⟩ rfl rfl rfl (by decide) (mBa inB_X12) (mB wl_RX12_22) dX12_letter_9 ?_
    refine V_iload_n X 1 dX12_letter_12 rfl rfl ?_
    obtain ⟨g4, h⟩ := gd_some h
    refine V_iald X a1.toNatClampNeg rfl (o := (0, 37, 0)) (n := 400) ⟨by decide, rfl⟩ rfl rfl g4 dX12_letter_13 ?_
    refine V_goto X (tgt := 28) dX12_letter_14 (by decide) ?_
    refine V_sub X [] (lv' := []) rfl ?_
    obtain rfl := so1 h
    exact hk

def f_X12_skip (μ : ZMem) : Option (ZMem) := bd (lp (σ := ZMem) (fun (μ1 : ZMem) => if (μ1 (0, 32, 0) 10) ≤ (μ1 (0, 32, 0) 11) then some (.inr μ1) else bd (f_X12_letter (μ1 (0, 32, 0) 11) μ1) (fun (x5 : Int32) => if x5 = 32 then zlt (mset μ1 (0, 32, 0) 11 ((μ1 (0, 32, 0) 11) + 1)) (fun (μ7 : ZMem) => some (.inl μ7)) else some (.inr μ1))) FU μ) (fun (μ2 : ZMem) => some μ2)
set_option maxRecDepth 100000 in
set_option maxHeartbeats 4000000 in
theorem M_X12_skip {l : Launch} {D : va_G} {y : ZLay}   {μ : ZMem} {μ0 : ZMem} (h : f_X12_skip μ = some μ0) : MV l yX12_skip wb_X12_skip rm_X12_skip D y [.ref (zad y (0, 32, 0))] μ μ0 := by
  unfold f_X12_skip at h
  refine MV_of RX12 [(0, .ref (zad y (0, 32, 0)))] (by decide) rfl rfl (Nat.le_of_ble_eq_true rfl) rfl ?_
  intro p e s m args below meth c A X
  obtain ⟨μ2, hl, h⟩ := bd_some h
  have hk : V X μ2 37 [] [] := by
    clear hl
    exact V_vretW X h dX12_skip_37
  refine lp_ind (P := fun (μ1 : ZMem) => V X μ1 0 [(0, .ref (zad y (0, 32, 0)))] []) (fun q z h hz => ?_) hl
  obtain ⟨μ1, hq⟩ : ∃ x, x = q := ⟨q, rfl⟩
  subst hq
  show V X μ1 0 [(0, .ref (zad y (0, 32, 0)))] []
  refine V_aload_n X 0 dX12_skip_0 rfl rfl ?_
  refine V_geti X (o := (0, 32, 0)) (ci := 12) (k := 11) (N := 30) (T := TX12) (C := RX12) ⟨by decide, rfl⟩ rfl rfl rfl (by decide) (mBa inB_X12) (mB wl_RX12_82) dX12_skip_1 ?_
  refine V_aload_n X 0 dX12_skip_4 rfl rfl ?_
  refine V_geti X (o := (0, 32, 0)) (ci := 12) (k := 10) (N := 30) (T := TX12) (C := RX12) ⟨by decide, rfl⟩ rfl rfl rfl (by decide) (mBa inB_X12) (mB wl_RX12_85) dX12_skip_5 ?_
  refine V_icmp_ge X (tgt := 37) dX12_skip_8 (by decide) (fun b3 => ?_) (fun b3 => ?_)
  · replace h := (if_pos b3).symm.trans h
    refine V_sub X [] (lv' := []) rfl ?_
    cases h
    obtain rfl := pr1 hz
    exact hk
  · replace h := (if_neg b3).symm.trans h
    refine V_aload_n X 0 dX12_skip_11 rfl rfl ?_
    refine V_aload_n X 0 dX12_skip_12 rfl rfl ?_
    refine V_geti X (o := (0, 32, 0)) (ci := 12) (k := 11) (N := 30) (T := TX12) (C := RX12) ⟨by decide, rfl⟩ rfl rfl rfl (by decide) (mBa inB_X12) (mB wl_RX12_82) dX12_skip_13 ?_
    obtain ⟨x5, c4, h⟩ := bd_some h
    refine V_callVi X (As := [.int (μ1 (0, 32, 0) 11)]) (M_X12_letter c4) (cwV 1 X.2.2.2.2.2.2.1 (gV wm_RX12_88 wi_X12_letter wse_X12_letter win_RX12 wc_X12_letter) rfl rfl rfl hd_X12_letter ⟨Nat.le_of_ble_eq_true rfl, Nat.le_of_ble_eq_true rfl⟩) (b := (0, 32, 0)) ⟨by decide, rfl⟩ rfl rfl rfl rfl (Nat.le_of_ble_eq_true rfl) dX12_skip_16 rfl ?_
    refine V_bipush X 32 dX12_skip_19 (by decide) ?_
    refine V_icmp_ne X (tgt := 37) dX12_skip_21 (by decide) (fun b6 => ?_) (fun b6 => ?_)
    · replace h := (if_neg b6).symm.trans h
      refine V_sub X [] (lv' := []) rfl ?_
      cases h
      obtain rfl := pr1 hz
      exact hk
    · replace h := (if_pos b6).symm.trans h
      refine V_aload_n X 0 dX12_skip_24 rfl rfl ?_
      refine V_dup X dX12_skip_25 rfl ?_
      refine V_geti X (o := (0, 32, 0)) (ci := 12) (k := 11) (N := 30) (T := TX12) (C := RX12) ⟨by decide, rfl⟩ rfl rfl rfl (by decide) (mBa inB_X12) (mB wl_RX12_82) dX12_skip_26 ?_
      refine V_iconst X 1 dX12_skip_29 (by decide) ?_
      refine V_iadd X dX12_skip_30 ?_
      refine V_puti X tyX12 .int (o := (0, 32, 0)) (ci := 12) (k := 11) (N := 30) (T := TX12) (C := RX12) ⟨by decide, rfl⟩ rfl rfl rfl (by decide) (mBa inB_X12) tyX12_ok nmX12 (mB wl_RX12_82) rfl rfl rfl rfl dX12_skip_31 ?_
      refine zlt_el (P := fun (μ7 : ZMem) => V X μ7 34 [(0, .ref (zad y (0, 32, 0)))] []) h (fun μ7 h => ?_)
      refine V_goto X (tgt := 0) dX12_skip_34 (by decide) ?_
      cases h
      exact hz

def f_X12_isSign (a1 : Int32) (μ : ZMem) : Option (Int32 × ZMem) := bd (f_X12_skip μ) (fun (μ2 : ZMem) => bd (α := Int32) (jk (some 0) (fun k5 => if (μ2 (0, 32, 0) 10) ≤ (μ2 (0, 32, 0) 11) then k5 else bd (f_X12_letter (μ2 (0, 32, 0) 11) μ2) (fun (x7 : Int32) => if x7 = a1 then some 1 else k5))) (fun (x4 : Int32) => gd (zbo x4) (some (x4, μ2))))
set_option maxRecDepth 100000 in
set_option maxHeartbeats 4000000 in
theorem M_X12_isSign {l : Launch} {D : va_G} {y : ZLay} {a1 : Int32}  {μ : ZMem} {r : Int32} {μ0 : ZMem} (h : f_X12_isSign a1 μ = some (r, μ0)) : MI l yX12_isSign wb_X12_isSign rm_X12_isSign D y [.ref (zad y (0, 32, 0)), .int a1] μ r μ0 := by
  unfold f_X12_isSign at h
  refine MI_of RX12 [(0, .ref (zad y (0, 32, 0))), (1, .int a1)] (by decide) rfl rfl (Nat.le_of_ble_eq_true rfl) rfl ?_
  intro p e s m args below meth c A X
  refine V_aload_n X 0 dX12_isSign_0 rfl rfl ?_
  obtain ⟨μ2, c1, h⟩ := bd_some h
  refine V_callVv X (As := []) (M_X12_skip c1) (cwV 0 X.2.2.2.2.2.2.1 (gV wm_RX12_92 wi_X12_skip wse_X12_skip win_RX12 wc_X12_skip) rfl rfl rfl hd_X12_skip ⟨Nat.le_of_ble_eq_true rfl, Nat.le_of_ble_eq_true rfl⟩) (b := (0, 32, 0)) ⟨by decide, rfl⟩ rfl rfl rfl rfl (Nat.le_of_ble_eq_true rfl) dX12_isSign_1 rfl ?_
  refine V_aload_n X 0 dX12_isSign_4 rfl rfl ?_
  refine V_geti X (o := (0, 32, 0)) (ci := 12) (k := 11) (N := 30) (T := TX12) (C := RX12) ⟨by decide, rfl⟩ rfl rfl rfl (by decide) (mBa inB_X12) (mB wl_RX12_82) dX12_isSign_5 ?_
  refine V_aload_n X 0 dX12_isSign_8 rfl rfl ?_
  refine V_geti X (o := (0, 32, 0)) (ci := 12) (k := 10) (N := 30) (T := TX12) (C := RX12) ⟨by decide, rfl⟩ rfl rfl rfl (by decide) (mBa inB_X12) (mB wl_RX12_85) dX12_isSign_9 ?_
  obtain ⟨x4, h1, h⟩ := bd_some h
  have hk : V X μ2 32 [] [.int x4] := by
    clear h1
    obtain ⟨hzb, h⟩ := gd_some h
    exact V_zretW X h hzb dX12_isSign_32
  replace h := h1
  clear h1
  refine jk0_el (P := V X μ2 31 [] []) h (fun h => ?_) (fun k5 hk5 h => ?_)
  · refine V_iconst X 0 dX12_isSign_31 (by decide) ?_
    obtain rfl := so1 h
    exact hk
  · refine V_icmp_ge X (tgt := 31) dX12_isSign_12 (by decide) (fun b3 => ?_) (fun b3 => ?_)
    · replace h := (if_pos b3).symm.trans h
      refine V_sub X [] (lv' := []) rfl ?_
      exact hk5 h
    · replace h := (if_neg b3).symm.trans h
      refine V_aload_n X 0 dX12_isSign_15 rfl rfl ?_
      refine V_aload_n X 0 dX12_isSign_16 rfl rfl ?_
      refine V_geti X (o := (0, 32, 0)) (ci := 12) (k := 11) (N := 30) (T := TX12) (C := RX12) ⟨by decide, rfl⟩ rfl rfl rfl (by decide) (mBa inB_X12) (mB wl_RX12_82) dX12_isSign_17 ?_
      obtain ⟨x7, c6, h⟩ := bd_some h
      refine V_callVi X (As := [.int (μ2 (0, 32, 0) 11)]) (M_X12_letter c6) (cwV 1 X.2.2.2.2.2.2.1 (gV wm_RX12_88 wi_X12_letter wse_X12_letter win_RX12 wc_X12_letter) rfl rfl rfl hd_X12_letter ⟨Nat.le_of_ble_eq_true rfl, Nat.le_of_ble_eq_true rfl⟩) (b := (0, 32, 0)) ⟨by decide, rfl⟩ rfl rfl rfl rfl (Nat.le_of_ble_eq_true rfl) dX12_isSign_20 rfl ?_
      refine V_iload_n X 1 dX12_isSign_23 rfl rfl ?_
      refine V_icmp_ne X (tgt := 31) dX12_isSign_24 (by decide) (fun b8 => ?_) (fun b8 => ?_)
      · replace h := (if_neg b8).symm.trans h
        refine V_sub X [] (lv' := []) rfl ?_
        exact hk5 h
      · replace h := (if_pos b8).symm.trans h
        refine V_iconst X 1 dX12_isSign_27 (by decide) ?_
        refine V_goto X (tgt := 32) dX12_isSign_28 (by decide) ?_
        refine V_sub X [] (lv' := []) rfl ?_
        obtain rfl := so1 h
        exact hk

def f_X12_has (w1 : Nat) (μ : ZMem) : Option (Int32 × ZMem) := bd (f_X12_skip μ) (fun (μ2 : ZMem) => zlt (μ2 (0, 32, 0) 11) (fun (x3 : Int32) => bd (lp (σ := Int32) (fun (x4 : Int32) => if (μ2 (0, 32, 0) 10) ≤ x4 then some (.inr x4) else bd (f_X12_letter x4 μ2) (fun (x8 : Int32) => bd (f_X12_isIn x8 97 122) (fun (x10 : Int32) => if x10 = 0 then some (.inr x4) else some (.inl (x4 + 1))))) FU x3) (fun (x5 : Int32) => if (x5 - (μ2 (0, 32, 0) 11)) = (zsl w1) then bd (lp (σ := Int32) (fun (x13 : Int32) => if (zsl w1) ≤ x13 then some (.inr (.inl ())) else bd (f_X12_letter ((μ2 (0, 32, 0) 11) + x13) μ2) (fun (x16 : Int32) => gd (zin x13 (zLen.getD w1 0)) (if x16 = (zchr w1 x13) then some (.inl (x13 + 1)) else some (.inr (.inr (0, μ2)))))) FU 0) (fun z => sm z (fun (_ : Unit) => zlt (mset μ2 (0, 32, 0) 11 x5) (fun (μ19 : ZMem) => some (1, μ19))) (fun r0 => some r0)) else some (0, μ2))))
set_option maxRecDepth 100000 in
set_option maxHeartbeats 4000000 in
theorem M_X12_has {l : Launch} {D : va_G} {y : ZLay} {w1 : Nat} (hw1 : w1 < 27) {μ : ZMem} {r : Int32} {μ0 : ZMem} (h : f_X12_has w1 μ = some (r, μ0)) : MI l yX12_has wb_X12_has rm_X12_has D y [.ref (zad y (0, 32, 0)), .ref (zak y w1)] μ r μ0 := by
  unfold f_X12_has at h
  refine MI_of RX12 [(0, .ref (zad y (0, 32, 0))), (1, .ref (zak y w1))] (by decide) rfl rfl (Nat.le_of_ble_eq_true rfl) rfl ?_
  intro p e s m args below meth c A X
  refine V_aload_n X 0 dX12_has_0 rfl rfl ?_
  obtain ⟨μ2, c1, h⟩ := bd_some h
  refine V_callVv X (As := []) (M_X12_skip c1) (cwV 0 X.2.2.2.2.2.2.1 (gV wm_RX12_92 wi_X12_skip wse_X12_skip win_RX12 wc_X12_skip) rfl rfl rfl hd_X12_skip ⟨Nat.le_of_ble_eq_true rfl, Nat.le_of_ble_eq_true rfl⟩) (b := (0, 32, 0)) ⟨by decide, rfl⟩ rfl rfl rfl rfl (Nat.le_of_ble_eq_true rfl) dX12_has_1 rfl ?_
  refine V_aload_n X 0 dX12_has_4 rfl rfl ?_
  refine V_geti X (o := (0, 32, 0)) (ci := 12) (k := 11) (N := 30) (T := TX12) (C := RX12) ⟨by decide, rfl⟩ rfl rfl rfl (by decide) (mBa inB_X12) (mB wl_RX12_82) dX12_has_5 ?_
  refine V_istore_n X [(2, .int (μ2 (0, 32, 0) 11)), (0, .ref (zad y (0, 32, 0))), (1, .ref (zak y w1))] dX12_has_8 rfl (by decide) rfl ?_
  refine zlt_el (P := fun (x3 : Int32) => V X μ2 9 [(2, .int x3), (0, .ref (zad y (0, 32, 0))), (1, .ref (zak y w1))] []) h (fun x3 h => ?_)
  refine V_sub X [1, 2, 0] (lv' := [(0, .ref (zad y (0, 32, 0))), (1, .ref (zak y w1)), (2, .int x3)]) rfl ?_
  obtain ⟨x5, hl, h⟩ := bd_some h
  have hk : V X μ2 38 [(0, .ref (zad y (0, 32, 0))), (1, .ref (zak y w1)), (2, .int x5)] [] := by
    clear hl
    refine V_iload_n X 2 dX12_has_38 rfl rfl ?_
    refine V_aload_n X 0 dX12_has_39 rfl rfl ?_
    refine V_geti X (o := (0, 32, 0)) (ci := 12) (k := 11) (N := 30) (T := TX12) (C := RX12) ⟨by decide, rfl⟩ rfl rfl rfl (by decide) (mBa inB_X12) (mB wl_RX12_82) dX12_has_40 ?_
    refine V_isub X dX12_has_43 ?_
    refine V_aload_n X 1 dX12_has_44 rfl rfl ?_
    refine V_calls X (As := []) hw1 (M_J0_length hw1) (cwV 0 X.2.2.2.2.2.2.1 (gV wm_RX12_95 wi_J0_length_8abf5 wse_J0_length_8abf5 win_RJ0 wc_J0_length_8abf5) rfl rfl rfl hd_J0_length ⟨Nat.le_of_ble_eq_true rfl, Nat.le_of_ble_eq_true rfl⟩) rfl (Nat.le_of_ble_eq_true rfl) dX12_has_45 rfl ?_
    refine V_icmp_eq X (tgt := 53) dX12_has_48 (by decide) (fun b12 => ?_) (fun b12 => ?_)
    · replace h := (if_pos b12).symm.trans h
      refine V_iconst X 0 dX12_has_53 (by decide) ?_
      refine V_istore_n X [(3, .int 0), (0, .ref (zad y (0, 32, 0))), (1, .ref (zak y w1)), (2, .int x5)] dX12_has_54 rfl (by decide) rfl ?_
      refine V_sub X [1, 2, 3, 0] (lv' := [(0, .ref (zad y (0, 32, 0))), (1, .ref (zak y w1)), (2, .int x5), (3, .int 0)]) rfl ?_
      obtain ⟨zz, hl, h⟩ := bd_some h
      have hk : ∀ (_ : Unit), .inl () = zz → V X μ2 89 [(0, .ref (zad y (0, 32, 0))), (2, .int x5)] [] := by
        intro _ hzz
        subst hzz
        clear hl
        replace h := sm_l h
        refine V_aload_n X 0 dX12_has_89 rfl rfl ?_
        refine V_iload_n X 1 dX12_has_90 rfl rfl ?_
        refine V_puti X tyX12 .int (o := (0, 32, 0)) (ci := 12) (k := 11) (N := 30) (T := TX12) (C := RX12) ⟨by decide, rfl⟩ rfl rfl rfl (by decide) (mBa inB_X12) tyX12_ok nmX12 (mB wl_RX12_82) rfl rfl rfl rfl dX12_has_91 ?_
        refine zlt_el (P := fun (μ19 : ZMem) => V X μ19 94 [(0, .ref (zad y (0, 32, 0))), (2, .int x5)] []) h (fun μ19 h => ?_)
        refine V_iconst X 1 dX12_has_94 (by decide) ?_
        exact V_zretW X h (by decide) dX12_has_95
      have hr : ∀ r0, .inr r0 = zz → some r0 = some (r, μ0) := by
        intro r0 hzz
        subst hzz
        exact h
      refine lp_ind (P := fun (x13 : Int32) => V X μ2 55 [(0, .ref (zad y (0, 32, 0))), (1, .ref (zak y w1)), (2, .int x5), (3, .int x13)] []) (fun q z h hz => ?_) hl
      obtain ⟨x13, hq⟩ : ∃ x, x = q := ⟨q, rfl⟩
      subst hq
      show V X μ2 55 [(0, .ref (zad y (0, 32, 0))), (1, .ref (zak y w1)), (2, .int x5), (3, .int x13)] []
      refine V_iload_n X 3 dX12_has_55 rfl rfl ?_
      refine V_aload_n X 1 dX12_has_56 rfl rfl ?_
      refine V_calls X (As := []) hw1 (M_J0_length hw1) (cwV 0 X.2.2.2.2.2.2.1 (gV wm_RX12_95 wi_J0_length_8abf5 wse_J0_length_8abf5 win_RJ0 wc_J0_length_8abf5) rfl rfl rfl hd_J0_length ⟨Nat.le_of_ble_eq_true rfl, Nat.le_of_ble_eq_true rfl⟩) rfl (Nat.le_of_ble_eq_true rfl) dX12_has_57 rfl ?_
      refine V_icmp_ge X (tgt := 89) dX12_has_60 (by decide) (fun b14 => ?_) (fun b14 => ?_)
      · replace h := (if_pos b14).symm.trans h
        refine V_sub X [0, 2] (lv' := [(0, .ref (zad y (0, 32, 0))), (2, .int x5)]) rfl ?_
        cases h
        exact hk () hz
      · replace h := (if_neg b14).symm.trans h
        refine V_aload_n X 0 dX12_has_63 rfl rfl ?_
        refine V_aload_n X 0 dX12_has_64 rfl rfl ?_
        refine V_geti X (o := (0, 32, 0)) (ci := 12) (k := 11) (N := 30) (T := TX12) (C := RX12) ⟨by decide, rfl⟩ rfl rfl rfl (by decide) (mBa inB_X12) (mB wl_RX12_82) dX12_has_65 ?_
        refine V_iload_n X 3 dX12_has_68 rfl rfl ?_
        refine V_iadd X dX12_has_69 ?_
        obtain ⟨x16, c15, h⟩ := bd_some h
        refine V_callVi X (As := [.int ((μ2 (0, 32, 0) 11) + x13)]) (M_X12_letter c15) (cwV 1 X.2.2.2.2.2.2.1 (gV wm_RX12_88 wi_X12_letter wse_X12_letter win_RX12 wc_X12_letter) rfl rfl rfl hd_X12_letter ⟨Nat.le_of_ble_eq_true rfl, Nat.le_of_ble_eq_true rfl⟩) (b := (0, 32, 0)) ⟨by decide, rfl⟩ rfl rfl rfl rfl (Nat.le_of_ble_eq_true rfl) dX12_has_70 rfl ?_
        refine V_aload_n X 1 dX12_has_73 rfl rfl ?_
        refine V_iload_n X 3 dX12_has_74 rfl rfl ?_
        obtain ⟨g17, h⟩ := gd_some h
        refine V_calls X (As := [.int x13]) hw1 (M_J0_charAt hw1 g17) (cwV 1 X.2.2.2.2.2.2.1 (gV wm_RX12_101 wi_J0_charAt_5068e wse_J0_charAt_5068e win_RJ0 wc_J0_charAt_5068e) rfl rfl rfl hd_J0_charAt ⟨Nat.le_of_ble_eq_true rfl, Nat.le_of_ble_eq_true rfl⟩) rfl (Nat.le_of_ble_eq_true rfl) dX12_has_75 rfl ?_
        refine V_icmp_eq X (tgt := 83) dX12_has_78 (by decide) (fun b18 => ?_) (fun b18 => ?_)
        · replace h := (if_pos b18).symm.trans h
          refine V_inc X 3 1 [(3, .int (x13 + 1)), (0, .ref (zad y (0, 32, 0))), (1, .ref (zak y w1)), (2, .int x5)] dX12_has_83 rfl (by decide) (by decide) rfl ?_
          refine V_goto X (tgt := 55) dX12_has_86 (by decide) ?_
          refine V_sub X [1, 2, 3, 0] (lv' := [(0, .ref (zad y (0, 32, 0))), (1, .ref (zak y w1)), (2, .int x5), (3, .int (x13 + 1))]) rfl ?_
          cases h
          exact hz
        · replace h := (if_neg b18).symm.trans h
          refine V_iconst X 0 dX12_has_81 (by decide) ?_
          cases h
          have h := hr _ hz
          exact V_zretW X h (by decide) dX12_has_82
    · replace h := (if_neg b12).symm.trans h
      refine V_iconst X 0 dX12_has_51 (by decide) ?_
      exact V_zretW X h (by decide) dX12_has_52
  refine lp_ind (P := fun (x4 : Int32) => V X μ2 9 [(0, .ref (zad y (0, 32, 0))), (1, .ref (zak y w1)), (2, .int x4)] []) (fun q z h hz => ?_) hl
  obtain ⟨x4, hq⟩ : ∃ x, x = q := ⟨q, rfl⟩
  subst hq
  show V X μ2 9 [(0, .ref (zad y (0, 32, 0))), (1, .ref (zak y w1)), (2, .int x4)] []
  refine V_iload_n X 2 dX12_has_9 rfl rfl ?_
  refine V_aload_n X 0 dX12_has_10 rfl rfl ?_
  refine V_geti X (o := (0, 32, 0)) (ci := 12) (k := 10) (N := 30) (T := TX12) (C := RX12) ⟨by decide, rfl⟩ rfl rfl rfl (by decide) (mBa inB_X12) (mB wl_RX12_85) dX12_has_11 ?_
  refine V_icmp_ge X (tgt := 38) dX12_has_14 (by decide) (fun b6 => ?_) (fun b6 => ?_)
  · replace h := (if_pos b6).symm.trans h
    cases h
    obtain rfl := pr1 hz
    exact hk
  · replace h := (if_neg b6).symm.trans h
    refine V_aload_n X 0 dX12_has_17 rfl rfl ?_
    refine V_iload_n X 2 dX12_has_18 rfl rfl ?_
    obtain ⟨x8, c7, h⟩ := bd_some h
    refine V_callVi X (As := [.int x4]) (M_X12_letter c7) (cwV 1 X.2.2.2.2.2.2.1 (gV wm_RX12_88 wi_X12_letter wse_X12_letter win_RX12 wc_X12_letter) rfl rfl rfl hd_X12_letter ⟨Nat.le_of_ble_eq_true rfl, Nat.le_of_ble_eq_true rfl⟩) (b := (0, 32, 0)) ⟨by decide, rfl⟩ rfl rfl rfl rfl (Nat.le_of_ble_eq_true rfl) dX12_has_19 rfl ?_
    refine V_bipush X 97 dX12_has_22 (by decide) ?_
    refine V_bipush X 122 dX12_has_24 (by decide) ?_
    obtain ⟨x10, c9, h⟩ := bd_some h
    refine V_callSi X (As := [.int x8, .int 97, .int 122]) (M_X12_isIn c9) (va_cwS 3 X.2.2.2.2.2.2.1 (gS wm_RX12_62 wst_X12_isIn win_RX12 wc_X12_isIn) rfl rfl rfl hd_X12_isIn.2 ⟨Nat.le_of_ble_eq_true rfl, Nat.le_of_ble_eq_true rfl⟩) rfl (Nat.le_of_ble_eq_true rfl) dX12_has_26 rfl ?_
    refine V_if_eq X (tgt := 38) dX12_has_29 (by decide) (fun b11 => ?_) (fun b11 => ?_)
    · replace h := (if_pos b11).symm.trans h
      cases h
      obtain rfl := pr1 hz
      exact hk
    · replace h := (if_neg b11).symm.trans h
      refine V_inc X 2 1 [(2, .int (x4 + 1)), (0, .ref (zad y (0, 32, 0))), (1, .ref (zak y w1))] dX12_has_32 rfl (by decide) (by decide) rfl ?_
      refine V_goto X (tgt := 9) dX12_has_35 (by decide) ?_
      refine V_sub X [1, 2, 0] (lv' := [(0, .ref (zad y (0, 32, 0))), (1, .ref (zak y w1)), (2, .int (x4 + 1))]) rfl ?_
      cases h
      exact hz

def f_X12_wrong (a1 : Int32) (μ : ZMem) : Option (ZMem) := zlt (α := ZMem) (if (μ (0, 32, 0) 12) = (-1) then zlt (mset μ (0, 32, 0) 12 a1) (fun (μ3 : ZMem) => μ3) else μ) (fun (μ2 : ZMem) => some μ2)
set_option maxRecDepth 100000 in
set_option maxHeartbeats 4000000 in
theorem M_X12_wrong {l : Launch} {D : va_G} {y : ZLay} {a1 : Int32}  {μ : ZMem} {μ0 : ZMem} (h : f_X12_wrong a1 μ = some μ0) : MV l yX12_wrong wb_X12_wrong rm_X12_wrong D y [.ref (zad y (0, 32, 0)), .int a1] μ μ0 := by
  unfold f_X12_wrong at h
  refine MV_of RX12 [(0, .ref (zad y (0, 32, 0))), (1, .int a1)] (by decide) rfl rfl (Nat.le_of_ble_eq_true rfl) rfl ?_
  intro p e s m args below meth c A X
  refine V_aload_n X 0 dX12_wrong_0 rfl rfl ?_
  refine V_geti X (o := (0, 32, 0)) (ci := 12) (k := 12) (N := 30) (T := TX12) (C := RX12) ⟨by decide, rfl⟩ rfl rfl rfl (by decide) (mBa inB_X12) (mB wl_RX12_25) dX12_wrong_1 ?_
  refine V_iconst X (-1) dX12_wrong_4 (by decide) ?_
  obtain ⟨μ2, h1, h⟩ := zl1_some h
  have hk : V X μ2 13 [] [] := by
    clear h1
    exact V_vretW X h dX12_wrong_13
  replace h := h1
  clear h1
  refine V_icmp_ne X (tgt := 13) dX12_wrong_5 (by decide) (fun b1 => ?_) (fun b1 => ?_)
  · replace h := (if_neg b1).symm.trans h
    refine V_sub X [] (lv' := []) rfl ?_
    obtain rfl := pr1 h
    exact hk
  · replace h := (if_pos b1).symm.trans h
    refine V_aload_n X 0 dX12_wrong_8 rfl rfl ?_
    refine V_iload_n X 1 dX12_wrong_9 rfl rfl ?_
    refine V_puti X tyX12 .int (o := (0, 32, 0)) (ci := 12) (k := 12) (N := 30) (T := TX12) (C := RX12) ⟨by decide, rfl⟩ rfl rfl rfl (by decide) (mBa inB_X12) tyX12_ok nmX12 (mB wl_RX12_25) rfl rfl rfl rfl dX12_wrong_10 ?_
    refine zlt_el (P := fun (μ3 : ZMem) => V X μ3 13 [(0, .ref (zad y (0, 32, 0))), (1, .int a1)] []) h (fun μ3 h => ?_)
    refine V_sub X [] (lv' := []) rfl ?_
    obtain rfl := pr1 h
    exact hk

def f_X12_here (μ : ZMem) : Option (Int32 × ZMem) := bd (f_X12_skip μ) (fun (μ2 : ZMem) => some ((μ2 (0, 32, 0) 11), μ2))
set_option maxRecDepth 100000 in
set_option maxHeartbeats 4000000 in
theorem M_X12_here {l : Launch} {D : va_G} {y : ZLay}   {μ : ZMem} {r : Int32} {μ0 : ZMem} (h : f_X12_here μ = some (r, μ0)) : MI l yX12_here wb_X12_here rm_X12_here D y [.ref (zad y (0, 32, 0))] μ r μ0 := by
  unfold f_X12_here at h
  refine MI_of RX12 [(0, .ref (zad y (0, 32, 0)))] (by decide) rfl rfl (Nat.le_of_ble_eq_true rfl) rfl ?_
  intro p e s m args below meth c A X
  refine V_aload_n X 0 dX12_here_0 rfl rfl ?_
  obtain ⟨μ2, c1, h⟩ := bd_some h
  refine V_callVv X (As := []) (M_X12_skip c1) (cwV 0 X.2.2.2.2.2.2.1 (gV wm_RX12_92 wi_X12_skip wse_X12_skip win_RX12 wc_X12_skip) rfl rfl rfl hd_X12_skip ⟨Nat.le_of_ble_eq_true rfl, Nat.le_of_ble_eq_true rfl⟩) (b := (0, 32, 0)) ⟨by decide, rfl⟩ rfl rfl rfl rfl (Nat.le_of_ble_eq_true rfl) dX12_here_1 rfl ?_
  refine V_aload_n X 0 dX12_here_4 rfl rfl ?_
  refine V_geti X (o := (0, 32, 0)) (ci := 12) (k := 11) (N := 30) (T := TX12) (C := RX12) ⟨by decide, rfl⟩ rfl rfl rfl (by decide) (mBa inB_X12) (mB wl_RX12_82) dX12_here_5 ?_
  exact V_iretW X h dX12_here_8

def f_X12_figures (a1 : Int32) (a2 : Int32) (μ : ZMem) : Option (Int32 × ZMem) := if (μ (0, 32, 0) 12) = (-1) then bd2 (f_X12_here μ) (fun (x3 : Int32) (μ4 : ZMem) => bd2 (lp (σ := Int32 × ZMem) (fun q => un2 q (fun (x5 : Int32) (μ6 : ZMem) => if (μ6 (0, 32, 0) 10) ≤ (μ6 (0, 32, 0) 11) then some (.inr (x5, μ6)) else bd (f_X12_letter (μ6 (0, 32, 0) 11) μ6) (fun (x11 : Int32) => bd (f_X12_isIn x11 48 57) (fun (x13 : Int32) => if x13 = 0 then some (.inr (x5, μ6)) else if 3 < ((μ6 (0, 32, 0) 11) - x3) then some (.inr (x5, μ6)) else bd (f_X12_letter (μ6 (0, 32, 0) 11) μ6) (fun (x17 : Int32) => zlt (((10 * x5) + x17) - 48) (fun (x18 : Int32) => zlt (mset μ6 (0, 32, 0) 11 ((μ6 (0, 32, 0) 11) + 1)) (fun (μ19 : ZMem) => some (.inl (x18, μ19))))))))) FU (0, μ4)) (fun (x7 : Int32) (μ8 : ZMem) => bd (α := ZMem) (jk (bd (f_X12_wrong x3 μ8) (fun (μ27 : ZMem) => some μ27)) (fun k22 => if (μ8 (0, 32, 0) 11) = x3 then k22 else if 3 < ((μ8 (0, 32, 0) 11) - x3) then k22 else if x7 < a1 then k22 else if x7 ≤ a2 then some μ8 else k22)) (fun (μ21 : ZMem) => some (x7, μ21)))) else some (0, μ)
set_option maxRecDepth 100000 in
set_option maxHeartbeats 4000000 in
theorem M_X12_figures {l : Launch} {D : va_G} {y : ZLay} {a1 : Int32} {a2 : Int32}  {μ : ZMem} {r : Int32} {μ0 : ZMem} (h : f_X12_figures a1 a2 μ = some (r, μ0)) : MI l yX12_figures wb_X12_figures rm_X12_figures D y [.ref (zad y (0, 32, 0)), .int a1, .int a2] μ r μ0 := by
  unfold f_X12_figures at h
  refine MI_of RX12 [(0, .ref (zad y (0, 32, 0))), (1, .int a1), (2, .int a2)] (by decide) rfl rfl (Nat.le_of_ble_eq_true rfl) rfl ?_
  intro p e s m args below meth c A X
  refine V_aload_n X 0 dX12_figures_0 rfl rfl ?_
  refine V_geti X (o := (0, 32, 0)) (ci := 12) (k := 12) (N := 30) (T := TX12) (C := RX12) ⟨by decide, rfl⟩ rfl rfl rfl (by decide) (mBa inB_X12) (mB wl_RX12_25) dX12_figures_1 ?_
  refine V_iconst X (-1) dX12_figures_4 (by decide) ?_
  refine V_icmp_eq X (tgt := 10) dX12_figures_5 (by decide) (fun b1 => ?_) (fun b1 => ?_)
  · replace h := (if_pos b1).symm.trans h
    refine V_aload_n X 0 dX12_figures_10 rfl rfl ?_
    obtain ⟨x3, μ4, c2, h⟩ := bd2_some h
    refine V_callVi X (As := []) (M_X12_here c2) (cwV 0 X.2.2.2.2.2.2.1 (gV wm_RX12_105 wi_X12_here wse_X12_here win_RX12 wc_X12_here) rfl rfl rfl hd_X12_here ⟨Nat.le_of_ble_eq_true rfl, Nat.le_of_ble_eq_true rfl⟩) (b := (0, 32, 0)) ⟨by decide, rfl⟩ rfl rfl rfl rfl (Nat.le_of_ble_eq_true rfl) dX12_figures_11 rfl ?_
    refine V_istore_n X [(3, .int x3), (0, .ref (zad y (0, 32, 0))), (1, .int a1), (2, .int a2)] dX12_figures_14 rfl (by decide) rfl ?_
    refine V_iconst X 0 dX12_figures_15 (by decide) ?_
    refine V_istore X [(4, .int 0), (3, .int x3), (0, .ref (zad y (0, 32, 0))), (1, .int a1), (2, .int a2)] dX12_figures_16 (by decide) rfl ?_
    refine V_sub X [2, 3, 4, 1, 0] (lv' := [(0, .ref (zad y (0, 32, 0))), (1, .int a1), (2, .int a2), (3, .int x3), (4, .int 0)]) rfl ?_
    obtain ⟨x7, μ8, hl, h⟩ := bd2_some h
    have hk : V X μ8 89 [(0, .ref (zad y (0, 32, 0))), (1, .int a1), (2, .int a2), (3, .int x3), (4, .int x7)] [] := by
      clear hl
      refine V_aload_n X 0 dX12_figures_89 rfl rfl ?_
      refine V_geti X (o := (0, 32, 0)) (ci := 12) (k := 11) (N := 30) (T := TX12) (C := RX12) ⟨by decide, rfl⟩ rfl rfl rfl (by decide) (mBa inB_X12) (mB wl_RX12_82) dX12_figures_90 ?_
      refine V_iload_n X 3 dX12_figures_93 rfl rfl ?_
      obtain ⟨μ21, h1, h⟩ := bd_some h
      have hk : V X μ21 124 [(4, .int x7)] [] := by
        clear h1
        refine V_iload X 0 dX12_figures_124 rfl ?_
        exact V_iretW X h dX12_figures_126
      replace h := h1
      clear h1
      refine jk0_el (P := V X μ8 119 [(0, .ref (zad y (0, 32, 0))), (3, .int x3), (4, .int x7)] []) h (fun h => ?_) (fun k22 hk22 h => ?_)
      · refine V_aload_n X 0 dX12_figures_119 rfl rfl ?_
        refine V_iload_n X 1 dX12_figures_120 rfl rfl ?_
        obtain ⟨μ27, c26, h⟩ := bd_some h
        refine V_callVv X (As := [.int x3]) (M_X12_wrong c26) (cwV 1 X.2.2.2.2.2.2.1 (gV wm_RX12_108 wi_X12_wrong wse_X12_wrong win_RX12 wc_X12_wrong) rfl rfl rfl hd_X12_wrong ⟨Nat.le_of_ble_eq_true rfl, Nat.le_of_ble_eq_true rfl⟩) (b := (0, 32, 0)) ⟨by decide, rfl⟩ rfl rfl rfl rfl (Nat.le_of_ble_eq_true rfl) dX12_figures_121 rfl ?_
        refine V_sub X [2] (lv' := [(4, .int x7)]) rfl ?_
        obtain rfl := so1 h
        exact hk
      · refine V_icmp_eq X (tgt := 119) dX12_figures_94 (by decide) (fun b20 => ?_) (fun b20 => ?_)
        · replace h := (if_pos b20).symm.trans h
          refine V_sub X [0, 3, 4] (lv' := [(0, .ref (zad y (0, 32, 0))), (3, .int x3), (4, .int x7)]) rfl ?_
          exact hk22 h
        · replace h := (if_neg b20).symm.trans h
          refine V_aload_n X 0 dX12_figures_97 rfl rfl ?_
          refine V_geti X (o := (0, 32, 0)) (ci := 12) (k := 11) (N := 30) (T := TX12) (C := RX12) ⟨by decide, rfl⟩ rfl rfl rfl (by decide) (mBa inB_X12) (mB wl_RX12_82) dX12_figures_98 ?_
          refine V_iload_n X 3 dX12_figures_101 rfl rfl ?_
          refine V_isub X dX12_figures_102 ?_
          refine V_iconst X 3 dX12_figures_103 (by decide) ?_
          refine V_icmp_gt X (tgt := 119) dX12_figures_104 (by decide) (fun b23 => ?_) (fun b23 => ?_)
          · replace h := (if_pos b23).symm.trans h
            refine V_sub X [0, 3, 4] (lv' := [(0, .ref (zad y (0, 32, 0))), (3, .int x3), (4, .int x7)]) rfl ?_
            exact hk22 h
          · replace h := (if_neg b23).symm.trans h
            refine V_iload X 4 dX12_figures_107 rfl ?_
            refine V_iload_n X 1 dX12_figures_109 rfl rfl ?_
            refine V_icmp_lt X (tgt := 119) dX12_figures_110 (by decide) (fun b24 => ?_) (fun b24 => ?_)
            · replace h := (if_pos b24).symm.trans h
              refine V_sub X [0, 3, 4] (lv' := [(0, .ref (zad y (0, 32, 0))), (3, .int x3), (4, .int x7)]) rfl ?_
              exact hk22 h
            · replace h := (if_neg b24).symm.trans h
              refine V_iload X 4 dX12_figures_113 rfl ?_
              refine V_iload_n X 2 dX12_figures_115 rfl rfl ?_
              refine V_icmp_le X (tgt := 124) dX12_figures_116 (by decide) (fun b25 => ?_) (fun b25 => ?_)
              · replace h := (if_pos b25).symm.trans h
                refine V_sub X [4] (lv' := [(4, .int x7)]) rfl ?_
                obtain rfl := so1 h
                exact hk
              · replace h := (if_neg b25).symm.trans h
                refine V_sub X [0, 3, 4] (lv' := [(0, .ref (zad y (0, 32, 0))), (3, .int x3), (4, .int x7)]) rfl ?_
                exact hk22 h
    refine lp_ind (P := fun q => V X q.2 18 [(0, .ref (zad y (0, 32, 0))), (1, .int a1), (2, .int a2), (3, .int x3), (4, .int q.1)] []) (fun q z h hz => ?_) hl
    obtain ⟨x5, μ6⟩ := q
    replace h := un2_eq h
    show V X μ6 18 [(0, .ref (zad y (0, 32, 0))), (1, .int a1), (2, .int a2), (3, .int x3), (4, .int x5)] []
    refine V_aload_n X 0 dX12_figures_18 rfl rfl ?_
    refine V_geti X (o := (0, 32, 0)) (ci := 12) (k := 11) (N := 30) (T := TX12) (C := RX12) ⟨by decide, rfl⟩ rfl rfl rfl (by decide) (mBa inB_X12) (mB wl_RX12_82) dX12_figures_19 ?_
    refine V_aload_n X 0 dX12_figures_22 rfl rfl ?_
    refine V_geti X (o := (0, 32, 0)) (ci := 12) (k := 10) (N := 30) (T := TX12) (C := RX12) ⟨by decide, rfl⟩ rfl rfl rfl (by decide) (mBa inB_X12) (mB wl_RX12_85) dX12_figures_23 ?_
    refine V_icmp_ge X (tgt := 89) dX12_figures_26 (by decide) (fun b9 => ?_) (fun b9 => ?_)
    · replace h := (if_pos b9).symm.trans h
      cases h
      obtain ⟨rfl, rfl⟩ := pr2 hz
      exact hk
    · replace h := (if_neg b9).symm.trans h
      refine V_aload_n X 0 dX12_figures_29 rfl rfl ?_
      refine V_aload_n X 0 dX12_figures_30 rfl rfl ?_
      refine V_geti X (o := (0, 32, 0)) (ci := 12) (k := 11) (N := 30) (T := TX12) (C := RX12) ⟨by decide, rfl⟩ rfl rfl rfl (by decide) (mBa inB_X12) (mB wl_RX12_82) dX12_figures_31 ?_
      obtain ⟨x11, c10, h⟩ := bd_some h
      refine V_callVi X (As := [.int (μ6 (0, 32, 0) 11)]) (M_X12_letter c10) (cwV 1 X.2.2.2.2.2.2.1 (gV wm_RX12_88 wi_X12_letter wse_X12_letter win_RX12 wc_X12_letter) rfl rfl rfl hd_X12_letter ⟨Nat.le_of_ble_eq_true rfl, Nat.le_of_ble_eq_true rfl⟩) (b := (0, 32, 0)) ⟨by decide, rfl⟩ rfl rfl rfl rfl (Nat.le_of_ble_eq_true rfl) dX12_figures_34 rfl ?_
      refine V_bipush X 48 dX12_figures_37 (by decide) ?_
      refine V_bipush X 57 dX12_figures_39 (by decide) ?_
      obtain ⟨x13, c12, h⟩ := bd_some h
      refine V_callSi X (As := [.int x11, .int 48, .int 57]) (M_X12_isIn c12) (va_cwS 3 X.2.2.2.2.2.2.1 (gS wm_RX12_62 wst_X12_isIn win_RX12 wc_X12_isIn) rfl rfl rfl hd_X12_isIn.2 ⟨Nat.le_of_ble_eq_true rfl, Nat.le_of_ble_eq_true rfl⟩) rfl (Nat.le_of_ble_eq_true rfl) dX12_figures_41 rfl ?_
      refine V_if_eq X (tgt := 89) dX12_figures_44 (by decide) (fun b14 => ?_) (fun b14 => ?_)
      · replace h := (if_pos b14).symm.trans h
        cases h
        obtain ⟨rfl, rfl⟩ := pr2 hz
        exact hk
      · replace h := (if_neg b14).symm.trans h
        refine V_aload_n X 0 dX12_figures_47 rfl rfl ?_
        refine V_geti X (o := (0, 32, 0)) (ci := 12) (k := 11) (N := 30) (T := TX12) (C := RX12) ⟨by decide, rfl⟩ rfl rfl rfl (by decide) (mBa inB_X12) (mB wl_RX12_82) dX12_figures_48 ?_
        refine V_iload_n X 3 dX12_figures_51 rfl rfl ?_
        refine V_isub X dX12_figures_52 ?_
        refine V_iconst X 3 dX12_figures_53 (by decide) ?_
        refine V_icmp_gt X (tgt := 89) dX12_figures_54 (by decide) (fun b15 => ?_) (fun b15 => ?_)
        · replace h := (if_pos b15).symm.trans h
          cases h
          obtain ⟨rfl, rfl⟩ := pr2 hz
          exact hk
        · replace h := (if_neg b15).symm.trans h
          refine V_bipush X 10 dX12_figures_57 (by decide) ?_
          refine V_iload X 4 dX12_figures_59 rfl ?_
          refine V_imul X dX12_figures_61 ?_
          refine V_aload_n X 0 dX12_figures_62 rfl rfl ?_
          refine V_aload_n X 0 dX12_figures_63 rfl rfl ?_
          refine V_geti X (o := (0, 32, 0)) (ci := 12) (k := 11) (N := 30) (T := TX12) (C := RX12) ⟨by decide, rfl⟩ rfl rfl rfl (by decide) (mBa inB_X12) (mB wl_RX12_82) dX12_figures_64 ?_
          obtain ⟨x17, c16, h⟩ := bd_some h
          refine V_callVi X (As := [.int (μ6 (0, 32, 0) 11)]) (M_X12_letter c16) (cwV 1 X.2.2.2.2.2.2.1 (gV wm_RX12_88 wi_X12_letter wse_X12_letter win_RX12 wc_X12_letter) rfl rfl rfl hd_X12_letter ⟨Nat.le_of_ble_eq_true rfl, Nat.le_of_ble_eq_true rfl⟩) (b := (0, 32, 0)) ⟨by decide, rfl⟩ rfl rfl rfl rfl (Nat.le_of_ble_eq_true rfl) dX12_figures_67 rfl ?_
          refine V_iadd X dX12_figures_70 ?_
          refine V_bipush X 48 dX12_figures_71 (by decide) ?_
          refine V_isub X dX12_figures_73 ?_
          refine V_istore X [(4, .int (((10 * x5) + x17) - 48)), (0, .ref (zad y (0, 32, 0))), (1, .int a1), (2, .int a2), (3, .int x3)] dX12_figures_74 (by decide) rfl ?_
          refine zlt_el (P := fun (x18 : Int32) => V X μ6 76 [(4, .int x18), (0, .ref (zad y (0, 32, 0))), (1, .int a1), (2, .int a2), (3, .int x3)] []) h (fun x18 h => ?_)
          refine V_aload_n X 1 dX12_figures_76 rfl rfl ?_
          refine V_dup X dX12_figures_77 rfl ?_
          refine V_geti X (o := (0, 32, 0)) (ci := 12) (k := 11) (N := 30) (T := TX12) (C := RX12) ⟨by decide, rfl⟩ rfl rfl rfl (by decide) (mBa inB_X12) (mB wl_RX12_82) dX12_figures_78 ?_
          refine V_iconst X 1 dX12_figures_81 (by decide) ?_
          refine V_iadd X dX12_figures_82 ?_
          refine V_puti X tyX12 .int (o := (0, 32, 0)) (ci := 12) (k := 11) (N := 30) (T := TX12) (C := RX12) ⟨by decide, rfl⟩ rfl rfl rfl (by decide) (mBa inB_X12) tyX12_ok nmX12 (mB wl_RX12_82) rfl rfl rfl rfl dX12_figures_83 ?_
          refine zlt_el (P := fun (μ19 : ZMem) => V X μ19 86 [(4, .int x18), (0, .ref (zad y (0, 32, 0))), (1, .int a1), (2, .int a2), (3, .int x3)] []) h (fun μ19 h => ?_)
          refine V_goto X (tgt := 18) dX12_figures_86 (by decide) ?_
          refine V_sub X [1, 2, 3, 4, 0] (lv' := [(0, .ref (zad y (0, 32, 0))), (1, .int a1), (2, .int a2), (3, .int x3), (4, .int x18)]) rfl ?_
          cases h
          exact hz
  · replace h := (if_neg b1).symm.trans h
    refine V_iconst X 0 dX12_figures_8 (by decide) ?_
    exact V_iretW X h dX12_figures_9

def f_X12_signed (w1 : Nat) (w2 : Nat) (a3 : Int32) (μ : ZMem) : Option (Int32 × ZMem) := if (μ (0, 32, 0) 12) = (-1) then bd2 (f_X12_has w1 μ) (fun (x3 : Int32) (μ4 : ZMem) => if x3 = 0 then bd2 (f_X12_has w2 μ4) (fun (x7 : Int32) (μ8 : ZMem) => bd2 (α := Int32) (β := ZMem) (if x7 = 0 then some (0, μ8) else bd2 (f_X12_figures 0 a3 μ8) (fun (x13 : Int32) (μ14 : ZMem) => some ((-x13), μ14))) (fun (x10 : Int32) (μ11 : ZMem) => some (x10, μ11))) else bd2 (f_X12_figures 0 a3 μ4) (fun (x16 : Int32) (μ17 : ZMem) => some (x16, μ17))) else some (0, μ)
set_option maxRecDepth 100000 in
set_option maxHeartbeats 4000000 in
theorem M_X12_signed {l : Launch} {D : va_G} {y : ZLay} {w1 : Nat} {w2 : Nat} {a3 : Int32} (hw1 : w1 < 27) (hw2 : w2 < 27) {μ : ZMem} {r : Int32} {μ0 : ZMem} (h : f_X12_signed w1 w2 a3 μ = some (r, μ0)) : MI l yX12_signed wb_X12_signed rm_X12_signed D y [.ref (zad y (0, 32, 0)), .ref (zak y w1), .ref (zak y w2), .int a3] μ r μ0 := by
  unfold f_X12_signed at h
  refine MI_of RX12 [(0, .ref (zad y (0, 32, 0))), (1, .ref (zak y w1)), (2, .ref (zak y w2)), (3, .int a3)] (by decide) rfl rfl (Nat.le_of_ble_eq_true rfl) rfl ?_
  intro p e s m args below meth c A X
  refine V_aload_n X 0 dX12_signed_0 rfl rfl ?_
  refine V_geti X (o := (0, 32, 0)) (ci := 12) (k := 12) (N := 30) (T := TX12) (C := RX12) ⟨by decide, rfl⟩ rfl rfl rfl (by decide) (mBa inB_X12) (mB wl_RX12_25) dX12_signed_1 ?_
  refine V_iconst X (-1) dX12_signed_4 (by decide) ?_
  refine V_icmp_eq X (tgt := 10) dX12_signed_5 (by decide) (fun b1 => ?_) (fun b1 => ?_)
  · replace h := (if_pos b1).symm.trans h
    refine V_aload_n X 0 dX12_signed_10 rfl rfl ?_
    refine V_aload_n X 1 dX12_signed_11 rfl rfl ?_
    obtain ⟨x3, μ4, c2, h⟩ := bd2_some h
    refine V_callVi X (As := [.ref (zak y w1)]) (M_X12_has hw1 c2) (cwV 1 X.2.2.2.2.2.2.1 (gV wm_RX12_112 wi_X12_has wse_X12_has win_RX12 wc_X12_has) rfl rfl rfl hd_X12_has ⟨Nat.le_of_ble_eq_true rfl, Nat.le_of_ble_eq_true rfl⟩) (b := (0, 32, 0)) ⟨by decide, rfl⟩ rfl rfl rfl rfl (Nat.le_of_ble_eq_true rfl) dX12_signed_12 rfl ?_
    refine V_if_eq X (tgt := 25) dX12_signed_15 (by decide) (fun b5 => ?_) (fun b5 => ?_)
    · replace h := (if_pos b5).symm.trans h
      refine V_aload_n X 0 dX12_signed_25 rfl rfl ?_
      refine V_aload_n X 2 dX12_signed_26 rfl rfl ?_
      obtain ⟨x7, μ8, c6, h⟩ := bd2_some h
      refine V_callVi X (As := [.ref (zak y w2)]) (M_X12_has hw2 c6) (cwV 1 X.2.2.2.2.2.2.1 (gV wm_RX12_112 wi_X12_has wse_X12_has win_RX12 wc_X12_has) rfl rfl rfl hd_X12_has ⟨Nat.le_of_ble_eq_true rfl, Nat.le_of_ble_eq_true rfl⟩) (b := (0, 32, 0)) ⟨by decide, rfl⟩ rfl rfl rfl rfl (Nat.le_of_ble_eq_true rfl) dX12_signed_27 rfl ?_
      obtain ⟨x10, μ11, h1, h⟩ := bd2_some h
      have hk : V X μ11 44 [] [.int x10] := by
        clear h1
        exact V_iretW X h dX12_signed_44
      replace h := h1
      clear h1
      refine V_if_eq X (tgt := 43) dX12_signed_30 (by decide) (fun b9 => ?_) (fun b9 => ?_)
      · replace h := (if_pos b9).symm.trans h
        refine V_iconst X 0 dX12_signed_43 (by decide) ?_
        refine V_sub X [] (lv' := []) rfl ?_
        obtain ⟨rfl, rfl⟩ := so2 h
        exact hk
      · replace h := (if_neg b9).symm.trans h
        refine V_aload_n X 0 dX12_signed_33 rfl rfl ?_
        refine V_iconst X 0 dX12_signed_34 (by decide) ?_
        refine V_iload_n X 3 dX12_signed_35 rfl rfl ?_
        obtain ⟨x13, μ14, c12, h⟩ := bd2_some h
        refine V_callVi X (As := [.int 0, .int a3]) (M_X12_figures c12) (cwV 2 X.2.2.2.2.2.2.1 (gV wm_RX12_116 wi_X12_figures wse_X12_figures win_RX12 wc_X12_figures) rfl rfl rfl hd_X12_figures ⟨Nat.le_of_ble_eq_true rfl, Nat.le_of_ble_eq_true rfl⟩) (b := (0, 32, 0)) ⟨by decide, rfl⟩ rfl rfl rfl rfl (Nat.le_of_ble_eq_true rfl) dX12_signed_36 rfl ?_
        refine V_ineg X dX12_signed_39 ?_
        refine V_goto X (tgt := 44) dX12_signed_40 (by decide) ?_
        refine V_sub X [] (lv' := []) rfl ?_
        obtain ⟨rfl, rfl⟩ := so2 h
        exact hk
    · replace h := (if_neg b5).symm.trans h
      refine V_aload_n X 0 dX12_signed_18 rfl rfl ?_
      refine V_iconst X 0 dX12_signed_19 (by decide) ?_
      refine V_iload_n X 3 dX12_signed_20 rfl rfl ?_
      obtain ⟨x16, μ17, c15, h⟩ := bd2_some h
      refine V_callVi X (As := [.int 0, .int a3]) (M_X12_figures c15) (cwV 2 X.2.2.2.2.2.2.1 (gV wm_RX12_116 wi_X12_figures wse_X12_figures win_RX12 wc_X12_figures) rfl rfl rfl hd_X12_figures ⟨Nat.le_of_ble_eq_true rfl, Nat.le_of_ble_eq_true rfl⟩) (b := (0, 32, 0)) ⟨by decide, rfl⟩ rfl rfl rfl rfl (Nat.le_of_ble_eq_true rfl) dX12_signed_21 rfl ?_
      exact V_iretW X h dX12_signed_24
  · replace h := (if_neg b1).symm.trans h
    refine V_iconst X 0 dX12_signed_8 (by decide) ?_
    exact V_iretW X h dX12_signed_9

def f_X12_joins (a1 : Int32) (μ : ZMem) : Option (ZMem) := zlt (μ (0, 33, 0) 3) (fun (x1 : Int32) => bd (lp (σ := Int32 × ZMem) (fun q => un2 q (fun (x2 : Int32) (μ3 : ZMem) => if 11 ≤ x2 then some (.inr μ3) else bd (f_X12_lays x1 x2 0 μ3) (fun (μ7 : ZMem) => some (.inl ((x2 + 1), μ7))))) FU (0, μ)) (fun (μ4 : ZMem) => bd (f_X12_lays x1 1 a1 μ4) (fun (μ9 : ZMem) => bd (f_X12_lays x1 3 1 μ9) (fun (μ11 : ZMem) => bd (f_X12_lays x1 4 (2 + x1) μ11) (fun (μ13 : ZMem) => zlt (mset μ13 (0, 33, 0) 3 ((μ13 (0, 33, 0) 3) + 1)) (fun (μ14 : ZMem) => some μ14))))))
set_option maxRecDepth 100000 in
set_option maxHeartbeats 4000000 in
theorem M_X12_joins {l : Launch} {D : va_G} {y : ZLay} {a1 : Int32}  {μ : ZMem} {μ0 : ZMem} (h : f_X12_joins a1 μ = some μ0) : MV l yX12_joins wb_X12_joins rm_X12_joins D y [.ref (zad y (0, 32, 0)), .int a1] μ μ0 := by
  unfold f_X12_joins at h
  refine MV_of RX12 [(0, .ref (zad y (0, 32, 0))), (1, .int a1)] (by decide) rfl rfl (Nat.le_of_ble_eq_true rfl) rfl ?_
  intro p e s m args below meth c A X
  refine V_aload_n X 0 dX12_joins_0 rfl rfl ?_
  refine V_getr X (o := (0, 32, 0)) (i := (0, 33, 0)) (ci := 12) (k := 1) (N := 30) (T := TX12) (C := RX12) ⟨by decide, rfl⟩ rfl rfl rfl (by decide) (mBa inB_X12) (mB wl_RX12_7) dX12_joins_1 ?_
  refine V_iconst X 3 dX12_joins_4 (by decide) ?_
  refine V_iald X 3 (by decide) (o := (0, 33, 0)) (n := 737) ⟨by decide, rfl⟩ rfl rfl (by decide) dX12_joins_5 ?_
  refine V_istore_n X [(2, .int (μ (0, 33, 0) 3)), (0, .ref (zad y (0, 32, 0))), (1, .int a1)] dX12_joins_6 rfl (by decide) rfl ?_
  refine zlt_el (P := fun (x1 : Int32) => V X μ 7 [(2, .int x1), (0, .ref (zad y (0, 32, 0))), (1, .int a1)] []) h (fun x1 h => ?_)
  refine V_iconst X 0 dX12_joins_7 (by decide) ?_
  refine V_istore_n X [(3, .int 0), (2, .int x1), (0, .ref (zad y (0, 32, 0))), (1, .int a1)] dX12_joins_8 rfl (by decide) rfl ?_
  refine V_sub X [2, 3, 1, 0] (lv' := [(0, .ref (zad y (0, 32, 0))), (1, .int a1), (2, .int x1), (3, .int 0)]) rfl ?_
  obtain ⟨μ4, hl, h⟩ := bd_some h
  have hk : V X μ4 28 [(0, .ref (zad y (0, 32, 0))), (1, .int a1), (2, .int x1)] [] := by
    clear hl
    refine V_aload_n X 0 dX12_joins_28 rfl rfl ?_
    refine V_iload_n X 2 dX12_joins_29 rfl rfl ?_
    refine V_iconst X 1 dX12_joins_30 (by decide) ?_
    refine V_iload_n X 1 dX12_joins_31 rfl rfl ?_
    obtain ⟨μ9, c8, h⟩ := bd_some h
    refine V_callVv X (As := [.int x1, .int 1, .int a1]) (M_X12_lays c8) (cwV 3 X.2.2.2.2.2.2.1 (gV wm_RX12_146 wi_X12_lays wse_X12_lays win_RX12 wc_X12_lays) rfl rfl rfl hd_X12_lays ⟨Nat.le_of_ble_eq_true rfl, Nat.le_of_ble_eq_true rfl⟩) (b := (0, 32, 0)) ⟨by decide, rfl⟩ rfl rfl rfl rfl (Nat.le_of_ble_eq_true rfl) dX12_joins_32 rfl ?_
    refine V_aload_n X 0 dX12_joins_35 rfl rfl ?_
    refine V_iload_n X 2 dX12_joins_36 rfl rfl ?_
    refine V_iconst X 3 dX12_joins_37 (by decide) ?_
    refine V_iconst X 1 dX12_joins_38 (by decide) ?_
    obtain ⟨μ11, c10, h⟩ := bd_some h
    refine V_callVv X (As := [.int x1, .int 3, .int 1]) (M_X12_lays c10) (cwV 3 X.2.2.2.2.2.2.1 (gV wm_RX12_146 wi_X12_lays wse_X12_lays win_RX12 wc_X12_lays) rfl rfl rfl hd_X12_lays ⟨Nat.le_of_ble_eq_true rfl, Nat.le_of_ble_eq_true rfl⟩) (b := (0, 32, 0)) ⟨by decide, rfl⟩ rfl rfl rfl rfl (Nat.le_of_ble_eq_true rfl) dX12_joins_39 rfl ?_
    refine V_aload_n X 0 dX12_joins_42 rfl rfl ?_
    refine V_iload_n X 2 dX12_joins_43 rfl rfl ?_
    refine V_iconst X 4 dX12_joins_44 (by decide) ?_
    refine V_iconst X 2 dX12_joins_45 (by decide) ?_
    refine V_iload_n X 2 dX12_joins_46 rfl rfl ?_
    refine V_iadd X dX12_joins_47 ?_
    obtain ⟨μ13, c12, h⟩ := bd_some h
    refine V_callVv X (As := [.int x1, .int 4, .int (2 + x1)]) (M_X12_lays c12) (cwV 3 X.2.2.2.2.2.2.1 (gV wm_RX12_146 wi_X12_lays wse_X12_lays win_RX12 wc_X12_lays) rfl rfl rfl hd_X12_lays ⟨Nat.le_of_ble_eq_true rfl, Nat.le_of_ble_eq_true rfl⟩) (b := (0, 32, 0)) ⟨by decide, rfl⟩ rfl rfl rfl rfl (Nat.le_of_ble_eq_true rfl) dX12_joins_48 rfl ?_
    refine V_aload_n X 0 dX12_joins_51 rfl rfl ?_
    refine V_getr X (o := (0, 32, 0)) (i := (0, 33, 0)) (ci := 12) (k := 1) (N := 30) (T := TX12) (C := RX12) ⟨by decide, rfl⟩ rfl rfl rfl (by decide) (mBa inB_X12) (mB wl_RX12_7) dX12_joins_52 ?_
    refine V_iconst X 3 dX12_joins_55 (by decide) ?_
    refine V_dup2 X dX12_joins_56 rfl rfl ?_
    refine V_iald X 3 (by decide) (o := (0, 33, 0)) (n := 737) ⟨by decide, rfl⟩ rfl rfl (by decide) dX12_joins_57 ?_
    refine V_iconst X 1 dX12_joins_58 (by decide) ?_
    refine V_iadd X dX12_joins_59 ?_
    refine V_iast X 3 (by decide) (o := (0, 33, 0)) (n := 737) ⟨by decide, rfl⟩ rfl rfl (by decide) dX12_joins_60 ?_
    refine zlt_el (P := fun (μ14 : ZMem) => V X μ14 61 [(0, .ref (zad y (0, 32, 0))), (1, .int a1), (2, .int x1)] []) h (fun μ14 h => ?_)
    exact V_vretW X h dX12_joins_61
  refine lp_ind (P := fun q => V X q.2 9 [(0, .ref (zad y (0, 32, 0))), (1, .int a1), (2, .int x1), (3, .int q.1)] []) (fun q z h hz => ?_) hl
  obtain ⟨x2, μ3⟩ := q
  replace h := un2_eq h
  show V X μ3 9 [(0, .ref (zad y (0, 32, 0))), (1, .int a1), (2, .int x1), (3, .int x2)] []
  refine V_iload_n X 3 dX12_joins_9 rfl rfl ?_
  refine V_bipush X 11 dX12_joins_10 (by decide) ?_
  refine V_icmp_ge X (tgt := 28) dX12_joins_12 (by decide) (fun b5 => ?_) (fun b5 => ?_)
  · replace h := (if_pos b5).symm.trans h
    refine V_sub X [0, 1, 2] (lv' := [(0, .ref (zad y (0, 32, 0))), (1, .int a1), (2, .int x1)]) rfl ?_
    cases h
    obtain rfl := pr1 hz
    exact hk
  · replace h := (if_neg b5).symm.trans h
    refine V_aload_n X 0 dX12_joins_15 rfl rfl ?_
    refine V_iload_n X 2 dX12_joins_16 rfl rfl ?_
    refine V_iload_n X 3 dX12_joins_17 rfl rfl ?_
    refine V_iconst X 0 dX12_joins_18 (by decide) ?_
    obtain ⟨μ7, c6, h⟩ := bd_some h
    refine V_callVv X (As := [.int x1, .int x2, .int 0]) (M_X12_lays c6) (cwV 3 X.2.2.2.2.2.2.1 (gV wm_RX12_146 wi_X12_lays wse_X12_lays win_RX12 wc_X12_lays) rfl rfl rfl hd_X12_lays ⟨Nat.le_of_ble_eq_true rfl, Nat.le_of_ble_eq_true rfl⟩) (b := (0, 32, 0)) ⟨by decide, rfl⟩ rfl rfl rfl rfl (Nat.le_of_ble_eq_true rfl) dX12_joins_19 rfl ?_
    refine V_inc X 3 1 [(3, .int (x2 + 1)), (0, .ref (zad y (0, 32, 0))), (1, .int a1), (2, .int x1)] dX12_joins_22 rfl (by decide) (by decide) rfl ?_
    refine V_goto X (tgt := 9) dX12_joins_25 (by decide) ?_
    refine V_sub X [1, 2, 3, 0] (lv' := [(0, .ref (zad y (0, 32, 0))), (1, .int a1), (2, .int x1), (3, .int (x2 + 1))]) rfl ?_
    cases h
    exact hz

def f_X12_nodeLine (a1 : Int32) (μ : ZMem) : Option (ZMem) := bd (α := ZMem) (if (μ (0, 33, 0) 3) = 8 then bd (f_X12_wrong a1 μ) (fun (μ4 : ZMem) => some μ4) else some μ) (fun (μ2 : ZMem) => if (μ2 (0, 32, 0) 12) = (-1) then bd2 (f_X12_signed 1 2 999 μ2) (fun (x7 : Int32) (μ8 : ZMem) => bd2 (f_X12_signed 3 4 9 μ8) (fun (x10 : Int32) (μ11 : ZMem) => bd2 (α := Int32) (β := ZMem) (jk (fun (μ15 : ZMem) => some (0, μ15)) (fun k16 => if (μ11 (0, 32, 0) 12) = (-1) then bd2 (f_X12_has 5 μ11) (fun (x18 : Int32) (μ19 : ZMem) => if x18 = 0 then k16 μ19 else bd2 (f_X12_figures 0 100 μ19) (fun (x22 : Int32) (μ23 : ZMem) => some (x22, μ23))) else k16 μ11)) (fun (x13 : Int32) (μ14 : ZMem) => bd2 (α := Int32) (β := ZMem) (if (μ14 (0, 32, 0) 12) = (-1) then bd2 (f_X12_has 6 μ14) (fun (x28 : Int32) (μ29 : ZMem) => bd2 (α := Int32) (β := ZMem) (if x28 = 0 then bd2 (f_X12_has 7 μ29) (fun (x34 : Int32) (μ35 : ZMem) => if x34 = 0 then bd2 (f_X12_has 8 μ35) (fun (x38 : Int32) (μ39 : ZMem) => if x38 = 0 then some (0, μ39) else some (3, μ39)) else some (2, μ35)) else some (1, μ29)) (fun (x31 : Int32) (μ32 : ZMem) => some (x31, μ32))) else some (0, μ14)) (fun (x25 : Int32) (μ26 : ZMem) => bd2 (α := Int32) (β := ZMem) (jk (bd2 (f_X12_figures 0 99 μ26) (fun (x47 : Int32) (μ48 : ZMem) => some (x47, μ48))) (fun k44 => if x25 = 1 then k44 else if x25 = 3 then k44 else some (0, μ26))) (fun (x42 : Int32) (μ43 : ZMem) => bd2 (α := Int32) (β := ZMem) (if (μ43 (0, 32, 0) 12) = (-1) then bd2 (f_X12_has 9 μ43) (fun (x53 : Int32) (μ54 : ZMem) => bd2 (α := Int32) (β := ZMem) (if x53 = 0 then bd2 (f_X12_has 10 μ54) (fun (x59 : Int32) (μ60 : ZMem) => if x59 = 0 then some (1, μ60) else some (2, μ60)) else some (0, μ54)) (fun (x56 : Int32) (μ57 : ZMem) => some (x56, μ57))) else some (1, μ43)) (fun (x50 : Int32) (μ51 : ZMem) => if (μ51 (0, 32, 0) 12) = (-1) then zlt (μ51 (0, 33, 0) 3) (fun (x63 : Int32) => bd (f_X12_joins x10 μ51) (fun (μ65 : ZMem) => bd (f_X12_lays x63 0 x7 μ65) (fun (μ67 : ZMem) => bd (f_X12_lays x63 8 x13 μ67) (fun (μ69 : ZMem) => bd (f_X12_lays x63 9 x25 μ69) (fun (μ71 : ZMem) => bd (f_X12_lays x63 10 x42 μ71) (fun (μ73 : ZMem) => bd (f_X12_lays x63 3 x50 μ73) (fun (μ75 : ZMem) => bd (α := ZMem) (if x50 = 2 then bd (f_X12_lays x63 5 (1 <<< (x63 &&& 31)) μ75) (fun (μ79 : ZMem) => some μ79) else some μ75) (fun (μ77 : ZMem) => some μ77)))))))) else some μ51)))))) else some μ2)
set_option maxRecDepth 100000 in
set_option maxHeartbeats 4000000 in
theorem M_X12_nodeLine {l : Launch} {D : va_G} {y : ZLay} {a1 : Int32}  {μ : ZMem} {μ0 : ZMem} (h : f_X12_nodeLine a1 μ = some μ0) : MV l yX12_nodeLine wb_X12_nodeLine rm_X12_nodeLine D y [.ref (zad y (0, 32, 0)), .int a1] μ μ0 := by
  unfold f_X12_nodeLine at h
  refine MV_of RX12 [(0, .ref (zad y (0, 32, 0))), (1, .int a1)] (by decide) rfl rfl (Nat.le_of_ble_eq_true rfl) rfl ?_
  intro p e s m args below meth c A X
  refine V_aload_n X 0 dX12_nodeLine_0 rfl rfl ?_
  refine V_getr X (o := (0, 32, 0)) (i := (0, 33, 0)) (ci := 12) (k := 1) (N := 30) (T := TX12) (C := RX12) ⟨by decide, rfl⟩ rfl rfl rfl (by decide) (mBa inB_X12) (mB wl_RX12_7) dX12_nodeLine_1 ?_
  refine V_iconst X 3 dX12_nodeLine_4 (by decide) ?_
  refine V_iald X 3 (by decide) (o := (0, 33, 0)) (n := 737) ⟨by decide, rfl⟩ rfl rfl (by decide) dX12_nodeLine_5 ?_
  refine V_bipush X 8 dX12_nodeLine_6 (by decide) ?_
  obtain ⟨μ2, h1, h⟩ := bd_some h
  have hk : V X μ2 16 [(0, .ref (zad y (0, 32, 0)))] [] := by
    clear h1
    refine V_aload_n X 0 dX12_nodeLine_16 rfl rfl ?_
    refine V_geti X (o := (0, 32, 0)) (ci := 12) (k := 12) (N := 30) (T := TX12) (C := RX12) ⟨by decide, rfl⟩ rfl rfl rfl (by decide) (mBa inB_X12) (mB wl_RX12_25) dX12_nodeLine_17 ?_
    refine V_iconst X (-1) dX12_nodeLine_20 (by decide) ?_
    refine V_icmp_eq X (tgt := 25) dX12_nodeLine_21 (by decide) (fun b5 => ?_) (fun b5 => ?_)
    · replace h := (if_pos b5).symm.trans h
      refine V_aload_n X 0 dX12_nodeLine_25 rfl rfl ?_
      refine V_ldcS X (i := 1) (ix := 119) rfl dX12_nodeLine_26 ?_
      refine V_ldcS X (i := 2) (ix := 121) rfl dX12_nodeLine_28 ?_
      refine V_sipush X 999 dX12_nodeLine_30 (by decide) ?_
      obtain ⟨x7, μ8, c6, h⟩ := bd2_some h
      refine V_callVi X (As := [.ref (zak y 1), .ref (zak y 2), .int 999]) (M_X12_signed (by decide) (by decide) c6) (cwV 3 X.2.2.2.2.2.2.1 (gV wm_RX12_123 wi_X12_signed wse_X12_signed win_RX12 wc_X12_signed) rfl rfl rfl hd_X12_signed ⟨Nat.le_of_ble_eq_true rfl, Nat.le_of_ble_eq_true rfl⟩) (b := (0, 32, 0)) ⟨by decide, rfl⟩ rfl rfl rfl rfl (Nat.le_of_ble_eq_true rfl) dX12_nodeLine_33 rfl ?_
      refine V_istore_n X [(2, .int x7), (0, .ref (zad y (0, 32, 0)))] dX12_nodeLine_36 rfl (by decide) rfl ?_
      refine V_aload_n X 1 dX12_nodeLine_37 rfl rfl ?_
      refine V_ldcS X (i := 3) (ix := 127) rfl dX12_nodeLine_38 ?_
      refine V_ldcS X (i := 4) (ix := 129) rfl dX12_nodeLine_40 ?_
      refine V_bipush X 9 dX12_nodeLine_42 (by decide) ?_
      obtain ⟨x10, μ11, c9, h⟩ := bd2_some h
      refine V_callVi X (As := [.ref (zak y 3), .ref (zak y 4), .int 9]) (M_X12_signed (by decide) (by decide) c9) (cwV 3 X.2.2.2.2.2.2.1 (gV wm_RX12_123 wi_X12_signed wse_X12_signed win_RX12 wc_X12_signed) rfl rfl rfl hd_X12_signed ⟨Nat.le_of_ble_eq_true rfl, Nat.le_of_ble_eq_true rfl⟩) (b := (0, 32, 0)) ⟨by decide, rfl⟩ rfl rfl rfl rfl (Nat.le_of_ble_eq_true rfl) dX12_nodeLine_44 rfl ?_
      refine V_istore_n X [(3, .int x10), (2, .int x7), (0, .ref (zad y (0, 32, 0)))] dX12_nodeLine_47 rfl (by decide) rfl ?_
      refine V_aload_n X 2 dX12_nodeLine_48 rfl rfl ?_
      refine V_geti X (o := (0, 32, 0)) (ci := 12) (k := 12) (N := 30) (T := TX12) (C := RX12) ⟨by decide, rfl⟩ rfl rfl rfl (by decide) (mBa inB_X12) (mB wl_RX12_25) dX12_nodeLine_49 ?_
      refine V_iconst X (-1) dX12_nodeLine_52 (by decide) ?_
      obtain ⟨x13, μ14, h1, h⟩ := bd2_some h
      have hk : V X μ14 76 [(0, .ref (zad y (0, 32, 0))), (2, .int x7), (3, .int x10)] [.int x13] := by
        clear h1
        refine V_istore X [(4, .int x13), (0, .ref (zad y (0, 32, 0))), (2, .int x7), (3, .int x10)] dX12_nodeLine_76 (by decide) rfl ?_
        refine V_iconst X 0 dX12_nodeLine_78 (by decide) ?_
        refine V_istore X [(5, .int 0), (4, .int x13), (0, .ref (zad y (0, 32, 0))), (2, .int x7), (3, .int x10)] dX12_nodeLine_79 (by decide) rfl ?_
        refine V_aload_n X 2 dX12_nodeLine_81 rfl rfl ?_
        refine V_geti X (o := (0, 32, 0)) (ci := 12) (k := 12) (N := 30) (T := TX12) (C := RX12) ⟨by decide, rfl⟩ rfl rfl rfl (by decide) (mBa inB_X12) (mB wl_RX12_25) dX12_nodeLine_82 ?_
        refine V_iconst X (-1) dX12_nodeLine_85 (by decide) ?_
        obtain ⟨x25, μ26, h1, h⟩ := bd2_some h
        have hk : V X μ26 131 [(0, .ref (zad y (0, 32, 0))), (2, .int x7), (3, .int x10), (4, .int x13), (5, .int x25)] [] := by
          clear h1
          refine V_iload X 4 dX12_nodeLine_131 rfl ?_
          refine V_iconst X 1 dX12_nodeLine_133 (by decide) ?_
          obtain ⟨x42, μ43, h1, h⟩ := bd2_some h
          have hk : V X μ43 154 [(0, .ref (zad y (0, 32, 0))), (2, .int x7), (3, .int x10), (4, .int x13), (5, .int x25)] [.int x42] := by
            clear h1
            refine V_istore X [(6, .int x42), (0, .ref (zad y (0, 32, 0))), (2, .int x7), (3, .int x10), (4, .int x13), (5, .int x25)] dX12_nodeLine_154 (by decide) rfl ?_
            refine V_iconst X 1 dX12_nodeLine_156 (by decide) ?_
            refine V_istore X [(7, .int 1), (6, .int x42), (0, .ref (zad y (0, 32, 0))), (2, .int x7), (3, .int x10), (4, .int x13), (5, .int x25)] dX12_nodeLine_157 (by decide) rfl ?_
            refine V_aload_n X 2 dX12_nodeLine_159 rfl rfl ?_
            refine V_geti X (o := (0, 32, 0)) (ci := 12) (k := 12) (N := 30) (T := TX12) (C := RX12) ⟨by decide, rfl⟩ rfl rfl rfl (by decide) (mBa inB_X12) (mB wl_RX12_25) dX12_nodeLine_160 ?_
            refine V_iconst X (-1) dX12_nodeLine_163 (by decide) ?_
            obtain ⟨x50, μ51, h1, h⟩ := bd2_some h
            have hk : V X μ51 196 [(0, .ref (zad y (0, 32, 0))), (2, .int x7), (3, .int x10), (4, .int x13), (5, .int x25), (6, .int x42), (7, .int x50)] [] := by
              clear h1
              refine V_aload_n X 0 dX12_nodeLine_196 rfl rfl ?_
              refine V_geti X (o := (0, 32, 0)) (ci := 12) (k := 12) (N := 30) (T := TX12) (C := RX12) ⟨by decide, rfl⟩ rfl rfl rfl (by decide) (mBa inB_X12) (mB wl_RX12_25) dX12_nodeLine_197 ?_
              refine V_iconst X (-1) dX12_nodeLine_200 (by decide) ?_
              refine V_icmp_eq X (tgt := 205) dX12_nodeLine_201 (by decide) (fun b62 => ?_) (fun b62 => ?_)
              · replace h := (if_pos b62).symm.trans h
                refine V_aload_n X 0 dX12_nodeLine_205 rfl rfl ?_
                refine V_getr X (o := (0, 32, 0)) (i := (0, 33, 0)) (ci := 12) (k := 1) (N := 30) (T := TX12) (C := RX12) ⟨by decide, rfl⟩ rfl rfl rfl (by decide) (mBa inB_X12) (mB wl_RX12_7) dX12_nodeLine_206 ?_
                refine V_iconst X 3 dX12_nodeLine_209 (by decide) ?_
                refine V_iald X 3 (by decide) (o := (0, 33, 0)) (n := 737) ⟨by decide, rfl⟩ rfl rfl (by decide) dX12_nodeLine_210 ?_
                refine V_istore X [(8, .int (μ51 (0, 33, 0) 3)), (0, .ref (zad y (0, 32, 0))), (2, .int x7), (3, .int x10), (4, .int x13), (5, .int x25), (6, .int x42), (7, .int x50)] dX12_nodeLine_211 (by decide) rfl ?_
                refine zlt_el (P := fun (x63 : Int32) => V X μ51 213 [(8, .int x63), (0, .ref (zad y (0, 32, 0))), (2, .int x7), (3, .int x10), (4, .int x13), (5, .int x25), (6, .int x42), (7, .int x50)] []) h (fun x63 h => ?_)
                refine V_aload_n X 1 dX12_nodeLine_213 rfl rfl ?_
                refine V_iload_n X 3 dX12_nodeLine_214 rfl rfl ?_
                obtain ⟨μ65, c64, h⟩ := bd_some h
                refine V_callVv X (As := [.int x10]) (M_X12_joins c64) (cwV 1 X.2.2.2.2.2.2.1 (gV wm_RX12_143 wi_X12_joins wse_X12_joins win_RX12 wc_X12_joins) rfl rfl rfl hd_X12_joins ⟨Nat.le_of_ble_eq_true rfl, Nat.le_of_ble_eq_true rfl⟩) (b := (0, 32, 0)) ⟨by decide, rfl⟩ rfl rfl rfl rfl (Nat.le_of_ble_eq_true rfl) dX12_nodeLine_215 rfl ?_
                refine V_aload_n X 1 dX12_nodeLine_218 rfl rfl ?_
                refine V_iload X 0 dX12_nodeLine_219 rfl ?_
                refine V_iconst X 0 dX12_nodeLine_221 (by decide) ?_
                refine V_iload_n X 2 dX12_nodeLine_222 rfl rfl ?_
                obtain ⟨μ67, c66, h⟩ := bd_some h
                refine V_callVv X (As := [.int x63, .int 0, .int x7]) (M_X12_lays c66) (cwV 3 X.2.2.2.2.2.2.1 (gV wm_RX12_146 wi_X12_lays wse_X12_lays win_RX12 wc_X12_lays) rfl rfl rfl hd_X12_lays ⟨Nat.le_of_ble_eq_true rfl, Nat.le_of_ble_eq_true rfl⟩) (b := (0, 32, 0)) ⟨by decide, rfl⟩ rfl rfl rfl rfl (Nat.le_of_ble_eq_true rfl) dX12_nodeLine_223 rfl ?_
                refine V_aload_n X 1 dX12_nodeLine_226 rfl rfl ?_
                refine V_iload X 0 dX12_nodeLine_227 rfl ?_
                refine V_bipush X 8 dX12_nodeLine_229 (by decide) ?_
                refine V_iload X 4 dX12_nodeLine_231 rfl ?_
                obtain ⟨μ69, c68, h⟩ := bd_some h
                refine V_callVv X (As := [.int x63, .int 8, .int x13]) (M_X12_lays c68) (cwV 3 X.2.2.2.2.2.2.1 (gV wm_RX12_146 wi_X12_lays wse_X12_lays win_RX12 wc_X12_lays) rfl rfl rfl hd_X12_lays ⟨Nat.le_of_ble_eq_true rfl, Nat.le_of_ble_eq_true rfl⟩) (b := (0, 32, 0)) ⟨by decide, rfl⟩ rfl rfl rfl rfl (Nat.le_of_ble_eq_true rfl) dX12_nodeLine_233 rfl ?_
                refine V_aload_n X 1 dX12_nodeLine_236 rfl rfl ?_
                refine V_iload X 0 dX12_nodeLine_237 rfl ?_
                refine V_bipush X 9 dX12_nodeLine_239 (by decide) ?_
                refine V_iload X 5 dX12_nodeLine_241 rfl ?_
                obtain ⟨μ71, c70, h⟩ := bd_some h
                refine V_callVv X (As := [.int x63, .int 9, .int x25]) (M_X12_lays c70) (cwV 3 X.2.2.2.2.2.2.1 (gV wm_RX12_146 wi_X12_lays wse_X12_lays win_RX12 wc_X12_lays) rfl rfl rfl hd_X12_lays ⟨Nat.le_of_ble_eq_true rfl, Nat.le_of_ble_eq_true rfl⟩) (b := (0, 32, 0)) ⟨by decide, rfl⟩ rfl rfl rfl rfl (Nat.le_of_ble_eq_true rfl) dX12_nodeLine_243 rfl ?_
                refine V_aload_n X 1 dX12_nodeLine_246 rfl rfl ?_
                refine V_iload X 0 dX12_nodeLine_247 rfl ?_
                refine V_bipush X 10 dX12_nodeLine_249 (by decide) ?_
                refine V_iload X 6 dX12_nodeLine_251 rfl ?_
                obtain ⟨μ73, c72, h⟩ := bd_some h
                refine V_callVv X (As := [.int x63, .int 10, .int x42]) (M_X12_lays c72) (cwV 3 X.2.2.2.2.2.2.1 (gV wm_RX12_146 wi_X12_lays wse_X12_lays win_RX12 wc_X12_lays) rfl rfl rfl hd_X12_lays ⟨Nat.le_of_ble_eq_true rfl, Nat.le_of_ble_eq_true rfl⟩) (b := (0, 32, 0)) ⟨by decide, rfl⟩ rfl rfl rfl rfl (Nat.le_of_ble_eq_true rfl) dX12_nodeLine_253 rfl ?_
                refine V_aload_n X 1 dX12_nodeLine_256 rfl rfl ?_
                refine V_iload X 0 dX12_nodeLine_257 rfl ?_
                refine V_iconst X 3 dX12_nodeLine_259 (by decide) ?_
                refine V_iload X 7 dX12_nodeLine_260 rfl ?_
                obtain ⟨μ75, c74, h⟩ := bd_some h
                refine V_callVv X (As := [.int x63, .int 3, .int x50]) (M_X12_lays c74) (cwV 3 X.2.2.2.2.2.2.1 (gV wm_RX12_146 wi_X12_lays wse_X12_lays win_RX12 wc_X12_lays) rfl rfl rfl hd_X12_lays ⟨Nat.le_of_ble_eq_true rfl, Nat.le_of_ble_eq_true rfl⟩) (b := (0, 32, 0)) ⟨by decide, rfl⟩ rfl rfl rfl rfl (Nat.le_of_ble_eq_true rfl) dX12_nodeLine_262 rfl ?_
                refine V_iload X 7 dX12_nodeLine_265 rfl ?_
                refine V_iconst X 2 dX12_nodeLine_267 (by decide) ?_
                obtain ⟨μ77, h1, h⟩ := bd_some h
                have hk : V X μ77 282 [] [] := by
                  clear h1
                  exact V_vretW X h dX12_nodeLine_282
                replace h := h1
                clear h1
                refine V_icmp_ne X (tgt := 282) dX12_nodeLine_268 (by decide) (fun b76 => ?_) (fun b76 => ?_)
                · replace h := (if_neg b76).symm.trans h
                  refine V_sub X [] (lv' := []) rfl ?_
                  obtain rfl := so1 h
                  exact hk
                · replace h := (if_pos b76).symm.trans h
                  refine V_aload_n X 1 dX12_nodeLine_271 rfl rfl ?_
                  refine V_iload X 0 dX12_nodeLine_272 rfl ?_
                  refine V_iconst X 5 dX12_nodeLine_274 (by decide) ?_
                  refine V_iconst X 1 dX12_nodeLine_275 (by decide) ?_
                  refine V_iload X 0 dX12_nodeLine_276 rfl ?_
                  refine V_ishl X dX12_nodeLine_278 ?_
                  obtain ⟨μ79, c78, h⟩ := bd_some h
                  refine V_callVv X (As := [.int x63, .int 5, .int (1 <<< (x63 &&& 31))]) (M_X12_lays c78) (cwV 3 X.2.2.2.2.2.2.1 (gV wm_RX12_146 wi_X12_lays wse_X12_lays win_RX12 wc_X12_lays) rfl rfl rfl hd_X12_lays ⟨Nat.le_of_ble_eq_true rfl, Nat.le_of_ble_eq_true rfl⟩) (b := (0, 32, 0)) ⟨by decide, rfl⟩ rfl rfl rfl rfl (Nat.le_of_ble_eq_true rfl) dX12_nodeLine_279 rfl ?_
                  refine V_sub X [] (lv' := []) rfl ?_
                  obtain rfl := so1 h
                  exact hk
              · replace h := (if_neg b62).symm.trans h
                exact V_vretW X h dX12_nodeLine_204
            replace h := h1
            clear h1
            refine V_icmp_ne X (tgt := 196) dX12_nodeLine_164 (by decide) (fun b49 => ?_) (fun b49 => ?_)
            · replace h := (if_neg b49).symm.trans h
              refine V_sub X [2, 3, 4, 5, 6, 1, 0] (lv' := [(0, .ref (zad y (0, 32, 0))), (2, .int x7), (3, .int x10), (4, .int x13), (5, .int x25), (6, .int x42), (7, .int 1)]) rfl ?_
              obtain ⟨rfl, rfl⟩ := so2 h
              exact hk
            · replace h := (if_pos b49).symm.trans h
              refine V_aload_n X 2 dX12_nodeLine_167 rfl rfl ?_
              refine V_ldcS X (i := 9) (ix := 139) rfl dX12_nodeLine_168 ?_
              obtain ⟨x53, μ54, c52, h⟩ := bd2_some h
              refine V_callVi X (As := [.ref (zak y 9)]) (M_X12_has (by decide) c52) (cwV 1 X.2.2.2.2.2.2.1 (gV wm_RX12_112 wi_X12_has wse_X12_has win_RX12 wc_X12_has) rfl rfl rfl hd_X12_has ⟨Nat.le_of_ble_eq_true rfl, Nat.le_of_ble_eq_true rfl⟩) (b := (0, 32, 0)) ⟨by decide, rfl⟩ rfl rfl rfl rfl (Nat.le_of_ble_eq_true rfl) dX12_nodeLine_170 rfl ?_
              obtain ⟨x56, μ57, h1, h⟩ := bd2_some h
              have hk : V X μ57 194 [(0, .ref (zad y (0, 32, 0))), (2, .int x7), (3, .int x10), (4, .int x13), (5, .int x25), (6, .int x42)] [.int x56] := by
                clear h1
                refine V_istore X [(7, .int x56), (0, .ref (zad y (0, 32, 0))), (2, .int x7), (3, .int x10), (4, .int x13), (5, .int x25), (6, .int x42)] dX12_nodeLine_194 (by decide) rfl ?_
                refine V_sub X [1, 2, 3, 4, 5, 6, 0] (lv' := [(0, .ref (zad y (0, 32, 0))), (2, .int x7), (3, .int x10), (4, .int x13), (5, .int x25), (6, .int x42), (7, .int x56)]) rfl ?_
                obtain ⟨rfl, rfl⟩ := so2 h
                exact hk
              replace h := h1
              clear h1
              refine V_if_eq X (tgt := 180) dX12_nodeLine_173 (by decide) (fun b55 => ?_) (fun b55 => ?_)
              · replace h := (if_pos b55).symm.trans h
                refine V_aload_n X 2 dX12_nodeLine_180 rfl rfl ?_
                refine V_ldcS X (i := 10) (ix := 141) rfl dX12_nodeLine_181 ?_
                obtain ⟨x59, μ60, c58, h⟩ := bd2_some h
                refine V_callVi X (As := [.ref (zak y 10)]) (M_X12_has (by decide) c58) (cwV 1 X.2.2.2.2.2.2.1 (gV wm_RX12_112 wi_X12_has wse_X12_has win_RX12 wc_X12_has) rfl rfl rfl hd_X12_has ⟨Nat.le_of_ble_eq_true rfl, Nat.le_of_ble_eq_true rfl⟩) (b := (0, 32, 0)) ⟨by decide, rfl⟩ rfl rfl rfl rfl (Nat.le_of_ble_eq_true rfl) dX12_nodeLine_183 rfl ?_
                refine V_if_eq X (tgt := 193) dX12_nodeLine_186 (by decide) (fun b61 => ?_) (fun b61 => ?_)
                · replace h := (if_pos b61).symm.trans h
                  refine V_iconst X 1 dX12_nodeLine_193 (by decide) ?_
                  refine V_sub X [2, 3, 4, 5, 6, 1] (lv' := [(0, .ref (zad y (0, 32, 0))), (2, .int x7), (3, .int x10), (4, .int x13), (5, .int x25), (6, .int x42)]) rfl ?_
                  obtain ⟨rfl, rfl⟩ := so2 h
                  exact hk
                · replace h := (if_neg b61).symm.trans h
                  refine V_iconst X 2 dX12_nodeLine_189 (by decide) ?_
                  refine V_goto X (tgt := 194) dX12_nodeLine_190 (by decide) ?_
                  refine V_sub X [2, 3, 4, 5, 6, 1] (lv' := [(0, .ref (zad y (0, 32, 0))), (2, .int x7), (3, .int x10), (4, .int x13), (5, .int x25), (6, .int x42)]) rfl ?_
                  obtain ⟨rfl, rfl⟩ := so2 h
                  exact hk
              · replace h := (if_neg b55).symm.trans h
                refine V_iconst X 0 dX12_nodeLine_176 (by decide) ?_
                refine V_goto X (tgt := 194) dX12_nodeLine_177 (by decide) ?_
                refine V_sub X [2, 3, 4, 5, 6, 1] (lv' := [(0, .ref (zad y (0, 32, 0))), (2, .int x7), (3, .int x10), (4, .int x13), (5, .int x25), (6, .int x42)]) rfl ?_
                obtain ⟨rfl, rfl⟩ := so2 h
                exact hk
          replace h := h1
          clear h1
          refine jk0_el (P := V X μ26 143 [(0, .ref (zad y (0, 32, 0))), (2, .int x7), (3, .int x10), (4, .int x13), (5, .int x25)] []) h (fun h => ?_) (fun k44 hk44 h => ?_)
          · refine V_aload_n X 0 dX12_nodeLine_143 rfl rfl ?_
            refine V_iconst X 0 dX12_nodeLine_144 (by decide) ?_
            refine V_bipush X 99 dX12_nodeLine_145 (by decide) ?_
            obtain ⟨x47, μ48, c46, h⟩ := bd2_some h
            refine V_callVi X (As := [.int 0, .int 99]) (M_X12_figures c46) (cwV 2 X.2.2.2.2.2.2.1 (gV wm_RX12_116 wi_X12_figures wse_X12_figures win_RX12 wc_X12_figures) rfl rfl rfl hd_X12_figures ⟨Nat.le_of_ble_eq_true rfl, Nat.le_of_ble_eq_true rfl⟩) (b := (0, 32, 0)) ⟨by decide, rfl⟩ rfl rfl rfl rfl (Nat.le_of_ble_eq_true rfl) dX12_nodeLine_147 rfl ?_
            refine V_goto X (tgt := 154) dX12_nodeLine_150 (by decide) ?_
            obtain ⟨rfl, rfl⟩ := so2 h
            exact hk
          · refine V_icmp_eq X (tgt := 143) dX12_nodeLine_134 (by decide) (fun b41 => ?_) (fun b41 => ?_)
            · replace h := (if_pos b41).symm.trans h
              exact hk44 h
            · replace h := (if_neg b41).symm.trans h
              refine V_iload X 4 dX12_nodeLine_137 rfl ?_
              refine V_iconst X 3 dX12_nodeLine_139 (by decide) ?_
              refine V_icmp_ne X (tgt := 153) dX12_nodeLine_140 (by decide) (fun b45 => ?_) (fun b45 => ?_)
              · replace h := (if_neg b45).symm.trans h
                refine V_iconst X 0 dX12_nodeLine_153 (by decide) ?_
                obtain ⟨rfl, rfl⟩ := so2 h
                exact hk
              · replace h := (if_pos b45).symm.trans h
                exact hk44 h
        replace h := h1
        clear h1
        refine V_icmp_ne X (tgt := 131) dX12_nodeLine_86 (by decide) (fun b24 => ?_) (fun b24 => ?_)
        · replace h := (if_neg b24).symm.trans h
          refine V_sub X [2, 3, 4, 1, 0] (lv' := [(0, .ref (zad y (0, 32, 0))), (2, .int x7), (3, .int x10), (4, .int x13), (5, .int 0)]) rfl ?_
          obtain ⟨rfl, rfl⟩ := so2 h
          exact hk
        · replace h := (if_pos b24).symm.trans h
          refine V_aload_n X 2 dX12_nodeLine_89 rfl rfl ?_
          refine V_ldcS X (i := 6) (ix := 133) rfl dX12_nodeLine_90 ?_
          obtain ⟨x28, μ29, c27, h⟩ := bd2_some h
          refine V_callVi X (As := [.ref (zak y 6)]) (M_X12_has (by decide) c27) (cwV 1 X.2.2.2.2.2.2.1 (gV wm_RX12_112 wi_X12_has wse_X12_has win_RX12 wc_X12_has) rfl rfl rfl hd_X12_has ⟨Nat.le_of_ble_eq_true rfl, Nat.le_of_ble_eq_true rfl⟩) (b := (0, 32, 0)) ⟨by decide, rfl⟩ rfl rfl rfl rfl (Nat.le_of_ble_eq_true rfl) dX12_nodeLine_92 rfl ?_
          obtain ⟨x31, μ32, h1, h⟩ := bd2_some h
          have hk : V X μ32 129 [(0, .ref (zad y (0, 32, 0))), (2, .int x7), (3, .int x10), (4, .int x13)] [.int x31] := by
            clear h1
            refine V_istore X [(5, .int x31), (0, .ref (zad y (0, 32, 0))), (2, .int x7), (3, .int x10), (4, .int x13)] dX12_nodeLine_129 (by decide) rfl ?_
            refine V_sub X [1, 2, 3, 4, 0] (lv' := [(0, .ref (zad y (0, 32, 0))), (2, .int x7), (3, .int x10), (4, .int x13), (5, .int x31)]) rfl ?_
            obtain ⟨rfl, rfl⟩ := so2 h
            exact hk
          replace h := h1
          clear h1
          refine V_if_eq X (tgt := 102) dX12_nodeLine_95 (by decide) (fun b30 => ?_) (fun b30 => ?_)
          · replace h := (if_pos b30).symm.trans h
            refine V_aload_n X 2 dX12_nodeLine_102 rfl rfl ?_
            refine V_ldcS X (i := 7) (ix := 135) rfl dX12_nodeLine_103 ?_
            obtain ⟨x34, μ35, c33, h⟩ := bd2_some h
            refine V_callVi X (As := [.ref (zak y 7)]) (M_X12_has (by decide) c33) (cwV 1 X.2.2.2.2.2.2.1 (gV wm_RX12_112 wi_X12_has wse_X12_has win_RX12 wc_X12_has) rfl rfl rfl hd_X12_has ⟨Nat.le_of_ble_eq_true rfl, Nat.le_of_ble_eq_true rfl⟩) (b := (0, 32, 0)) ⟨by decide, rfl⟩ rfl rfl rfl rfl (Nat.le_of_ble_eq_true rfl) dX12_nodeLine_105 rfl ?_
            refine V_if_eq X (tgt := 115) dX12_nodeLine_108 (by decide) (fun b36 => ?_) (fun b36 => ?_)
            · replace h := (if_pos b36).symm.trans h
              refine V_aload_n X 2 dX12_nodeLine_115 rfl rfl ?_
              refine V_ldcS X (i := 8) (ix := 137) rfl dX12_nodeLine_116 ?_
              obtain ⟨x38, μ39, c37, h⟩ := bd2_some h
              refine V_callVi X (As := [.ref (zak y 8)]) (M_X12_has (by decide) c37) (cwV 1 X.2.2.2.2.2.2.1 (gV wm_RX12_112 wi_X12_has wse_X12_has win_RX12 wc_X12_has) rfl rfl rfl hd_X12_has ⟨Nat.le_of_ble_eq_true rfl, Nat.le_of_ble_eq_true rfl⟩) (b := (0, 32, 0)) ⟨by decide, rfl⟩ rfl rfl rfl rfl (Nat.le_of_ble_eq_true rfl) dX12_nodeLine_118 rfl ?_
              refine V_if_eq X (tgt := 128) dX12_nodeLine_121 (by decide) (fun b40 => ?_) (fun b40 => ?_)
              · replace h := (if_pos b40).symm.trans h
                refine V_iconst X 0 dX12_nodeLine_128 (by decide) ?_
                refine V_sub X [2, 3, 4, 1] (lv' := [(0, .ref (zad y (0, 32, 0))), (2, .int x7), (3, .int x10), (4, .int x13)]) rfl ?_
                obtain ⟨rfl, rfl⟩ := so2 h
                exact hk
              · replace h := (if_neg b40).symm.trans h
                refine V_iconst X 3 dX12_nodeLine_124 (by decide) ?_
                refine V_goto X (tgt := 129) dX12_nodeLine_125 (by decide) ?_
                refine V_sub X [2, 3, 4, 1] (lv' := [(0, .ref (zad y (0, 32, 0))), (2, .int x7), (3, .int x10), (4, .int x13)]) rfl ?_
                obtain ⟨rfl, rfl⟩ := so2 h
                exact hk
            · replace h := (if_neg b36).symm.trans h
              refine V_iconst X 2 dX12_nodeLine_111 (by decide) ?_
              refine V_goto X (tgt := 129) dX12_nodeLine_112 (by decide) ?_
              refine V_sub X [2, 3, 4, 1] (lv' := [(0, .ref (zad y (0, 32, 0))), (2, .int x7), (3, .int x10), (4, .int x13)]) rfl ?_
              obtain ⟨rfl, rfl⟩ := so2 h
              exact hk
          · replace h := (if_neg b30).symm.trans h
            refine V_iconst X 1 dX12_nodeLine_98 (by decide) ?_
            refine V_goto X (tgt := 129) dX12_nodeLine_99 (by decide) ?_
            refine V_sub X [2, 3, 4, 1] (lv' := [(0, .ref (zad y (0, 32, 0))), (2, .int x7), (3, .int x10), (4, .int x13)]) rfl ?_
            obtain ⟨rfl, rfl⟩ := so2 h
            exact hk
      replace h := h1
      clear h1
      refine jk1_el (P := fun (μ15 : ZMem) => V X μ15 75 [(0, .ref (zad y (0, 32, 0))), (2, .int x7), (3, .int x10)] []) h (fun μ15 h => ?_) (fun k16 hk16 h => ?_)
      · refine V_iconst X 0 dX12_nodeLine_75 (by decide) ?_
        obtain ⟨rfl, rfl⟩ := so2 h
        exact hk
      · refine V_icmp_ne X (tgt := 75) dX12_nodeLine_53 (by decide) (fun b12 => ?_) (fun b12 => ?_)
        · replace h := (if_neg b12).symm.trans h
          refine V_sub X [2, 1, 0] (lv' := [(0, .ref (zad y (0, 32, 0))), (2, .int x7), (3, .int x10)]) rfl ?_
          exact hk16 _ h
        · replace h := (if_pos b12).symm.trans h
          refine V_aload_n X 2 dX12_nodeLine_56 rfl rfl ?_
          refine V_ldcS X (i := 5) (ix := 131) rfl dX12_nodeLine_57 ?_
          obtain ⟨x18, μ19, c17, h⟩ := bd2_some h
          refine V_callVi X (As := [.ref (zak y 5)]) (M_X12_has (by decide) c17) (cwV 1 X.2.2.2.2.2.2.1 (gV wm_RX12_112 wi_X12_has wse_X12_has win_RX12 wc_X12_has) rfl rfl rfl hd_X12_has ⟨Nat.le_of_ble_eq_true rfl, Nat.le_of_ble_eq_true rfl⟩) (b := (0, 32, 0)) ⟨by decide, rfl⟩ rfl rfl rfl rfl (Nat.le_of_ble_eq_true rfl) dX12_nodeLine_59 rfl ?_
          refine V_if_eq X (tgt := 75) dX12_nodeLine_62 (by decide) (fun b20 => ?_) (fun b20 => ?_)
          · replace h := (if_pos b20).symm.trans h
            refine V_sub X [2, 1, 0] (lv' := [(0, .ref (zad y (0, 32, 0))), (2, .int x7), (3, .int x10)]) rfl ?_
            exact hk16 _ h
          · replace h := (if_neg b20).symm.trans h
            refine V_aload_n X 2 dX12_nodeLine_65 rfl rfl ?_
            refine V_iconst X 0 dX12_nodeLine_66 (by decide) ?_
            refine V_bipush X 100 dX12_nodeLine_67 (by decide) ?_
            obtain ⟨x22, μ23, c21, h⟩ := bd2_some h
            refine V_callVi X (As := [.int 0, .int 100]) (M_X12_figures c21) (cwV 2 X.2.2.2.2.2.2.1 (gV wm_RX12_116 wi_X12_figures wse_X12_figures win_RX12 wc_X12_figures) rfl rfl rfl hd_X12_figures ⟨Nat.le_of_ble_eq_true rfl, Nat.le_of_ble_eq_true rfl⟩) (b := (0, 32, 0)) ⟨by decide, rfl⟩ rfl rfl rfl rfl (Nat.le_of_ble_eq_true rfl) dX12_nodeLine_69 rfl ?_
            refine V_goto X (tgt := 76) dX12_nodeLine_72 (by decide) ?_
            refine V_sub X [2, 1, 0] (lv' := [(0, .ref (zad y (0, 32, 0))), (2, .int x7), (3, .int x10)]) rfl ?_
            obtain ⟨rfl, rfl⟩ := so2 h
            exact hk
    · replace h := (if_neg b5).symm.trans h
      exact V_vretW X h dX12_nodeLine_24
  replace h := h1
  clear h1
  refine V_icmp_ne X (tgt := 16) dX12_nodeLine_8 (by decide) (fun b1 => ?_) (fun b1 => ?_)
  · replace h := (if_neg b1).symm.trans h
    refine V_sub X [0] (lv' := [(0, .ref (zad y (0, 32, 0)))]) rfl ?_
    obtain rfl := so1 h
    exact hk
  · replace h := (if_pos b1).symm.trans h
    refine V_aload_n X 0 dX12_nodeLine_11 rfl rfl ?_
    refine V_iload_n X 1 dX12_nodeLine_12 rfl rfl ?_
    obtain ⟨μ4, c3, h⟩ := bd_some h
    refine V_callVv X (As := [.int a1]) (M_X12_wrong c3) (cwV 1 X.2.2.2.2.2.2.1 (gV wm_RX12_108 wi_X12_wrong wse_X12_wrong win_RX12 wc_X12_wrong) rfl rfl rfl hd_X12_wrong ⟨Nat.le_of_ble_eq_true rfl, Nat.le_of_ble_eq_true rfl⟩) (b := (0, 32, 0)) ⟨by decide, rfl⟩ rfl rfl rfl rfl (Nat.le_of_ble_eq_true rfl) dX12_nodeLine_13 rfl ?_
    refine V_sub X [0] (lv' := [(0, .ref (zad y (0, 32, 0)))]) rfl ?_
    obtain rfl := so1 h
    exact hk

