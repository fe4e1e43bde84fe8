def f_X1_putInOrder (s1 : Nat) (a2 : Int32) (μ : ZMem) : Option (Int32 × ZMem) := bd2 (lp (σ := Int32 × Int32 × ZMem) (fun q => un3 q (fun (x1 : Int32) (x2 : Int32) (μ3 : ZMem) => if (μ3 (1, s1, 0) 4) ≤ x2 then some (.inr (x1, μ3)) else gd (zin x2 8) (bd2 (α := Int32) (β := ZMem) (if (μ3 (3, s1, x2.toNatClampNeg) 3) = 2 then zlt (x1 - 1) (fun (x11 : Int32) => bd2 (lp (σ := Int32 × Int32 × ZMem) (fun q => un3 q (fun (x12 : Int32) (x13 : Int32) (μ14 : ZMem) => if x13 < 0 then some (.inr (x12, μ14)) else gd (zin x13 8) (gd (zin (μ14 (0, 16, 0) x13.toNatClampNeg) 8) (if ((μ14 (3, s1, (μ14 (0, 16, 0) x13.toNatClampNeg).toNatClampNeg) 0) * a2) ≤ ((μ14 (3, s1, x2.toNatClampNeg) 0) * a2) then some (.inr (x12, μ14)) else gd (zin (x13 + 1) 8) (zlt (mset μ14 (0, 16, 0) (x13 + 1).toNatClampNeg (μ14 (0, 16, 0) x13.toNatClampNeg)) (fun (μ22 : ZMem) => some (.inl (x13, (x13 + (-1)), μ22)))))))) FU (x1, x11, μ3)) (fun (x15 : Int32) (μ16 : ZMem) => gd (zin x15 8) (zlt (mset μ16 (0, 16, 0) x15.toNatClampNeg x2) (fun (μ24 : ZMem) => some ((x1 + 1), μ24))))) else some (x1, μ3)) (fun (x9 : Int32) (μ10 : ZMem) => some (.inl (x9, (x2 + 1), μ10)))))) FU (0, 0, μ)) (fun (x4 : Int32) (μ5 : ZMem) => some (x4, μ5))
set_option maxRecDepth 100000 in
set_option maxHeartbeats 4000000 in
theorem M_X1_putInOrder {l : Launch} {D : va_G} {y : ZLay} {s1 : Nat} {a2 : Int32} (hs1 : s1 < 15) {μ : ZMem} {r : Int32} {μ0 : ZMem} (h : f_X1_putInOrder s1 a2 μ = some (r, μ0)) : MI l yX1_putInOrder wb_X1_putInOrder rm_X1_putInOrder D y [.ref (zad y (0, 12, 0)), .ref (zad y (1, s1, 0)), .int a2] μ r μ0 := by
  unfold f_X1_putInOrder at h
  refine MI_of RX1 [(0, .ref (zad y (0, 12, 0))), (1, .ref (zad y (1, s1, 0))), (2, .int a2)] (by decide) rfl rfl (Nat.le_of_ble_eq_true rfl) rfl ?_
  intro p e s m args below meth c A X
  refine V_iconst X 0 dX1_putInOrder_0 (by decide) ?_
  refine V_istore_n X [(3, .int 0), (0, .ref (zad y (0, 12, 0))), (1, .ref (zad y (1, s1, 0))), (2, .int a2)] dX1_putInOrder_1 rfl (by decide) rfl ?_
  refine V_iconst X 0 dX1_putInOrder_2 (by decide) ?_
  refine V_istore X [(4, .int 0), (3, .int 0), (0, .ref (zad y (0, 12, 0))), (1, .ref (zad y (1, s1, 0))), (2, .int a2)] dX1_putInOrder_3 (by decide) rfl ?_
  refine V_sub X [2, 3, 4, 1, 0] (lv' := [(0, .ref (zad y (0, 12, 0))), (1, .ref (zad y (1, s1, 0))), (2, .int a2), (3, .int 0), (4, .int 0)]) rfl ?_
  obtain ⟨x4, μ5, hl, h⟩ := bd2_some h
  have hk : V X μ5 117 [(3, .int x4)] [] := by
    clear hl
    refine V_iload_n X 0 dX1_putInOrder_117 rfl rfl ?_
    exact V_iretW X h dX1_putInOrder_118
  refine lp_ind (P := fun q => V X q.2.2 5 [(0, .ref (zad y (0, 12, 0))), (1, .ref (zad y (1, s1, 0))), (2, .int a2), (3, .int q.1), (4, .int q.2.1)] []) (fun q z h hz => ?_) hl
  obtain ⟨x1, x2, μ3⟩ := q
  replace h := un3_eq h
  show V X μ3 5 [(0, .ref (zad y (0, 12, 0))), (1, .ref (zad y (1, s1, 0))), (2, .int a2), (3, .int x1), (4, .int x2)] []
  refine V_iload X 4 dX1_putInOrder_5 rfl ?_
  refine V_aload_n X 1 dX1_putInOrder_7 rfl rfl ?_
  refine V_geti X (o := (1, s1, 0)) (ci := 7) (k := 4) (N := 11) (T := TX7) (C := RX7) ⟨hs1, rfl⟩ rfl rfl rfl (by decide) (mBa inB_X7) (mB wl_RX1_58) dX1_putInOrder_8 ?_
  refine V_icmp_ge X (tgt := 117) dX1_putInOrder_11 (by decide) (fun b6 => ?_) (fun b6 => ?_)
  · replace h := (if_pos b6).symm.trans h
    refine V_sub X [3] (lv' := [(3, .int x1)]) rfl ?_
    cases h
    obtain ⟨rfl, rfl⟩ := pr2 hz
    exact hk
  · replace h := (if_neg b6).symm.trans h
    refine V_aload_n X 1 dX1_putInOrder_14 rfl rfl ?_
    refine V_getr X (o := (1, s1, 0)) (i := (2, s1, 0)) (ci := 7) (k := 0) (N := 11) (T := TX7) (C := RX7) ⟨hs1, rfl⟩ rfl rfl rfl (by decide) (mBa inB_X7) (mB wl_RX1_63) dX1_putInOrder_15 ?_
    refine V_iload X 4 dX1_putInOrder_18 rfl ?_
    obtain ⟨g7, h⟩ := gd_some h
    refine V_aald X x2.toNatClampNeg rfl (o := (2, s1, 0)) ⟨hs1, rfl⟩ rfl rfl rfl rfl g7 dX1_putInOrder_20 ?_
    refine V_geti X (o := (3, s1, x2.toNatClampNeg)) (ci := 5) (k := 3) (N := 11) (T := TX5) (C := RX5) ⟨hs1, zin_lt g7⟩ rfl rfl rfl (by decide) (mBa inB_X5) (mB wl_RX1_67) dX1_putInOrder_21 ?_
    refine V_iconst X 2 dX1_putInOrder_24 (by decide) ?_
    obtain ⟨x9, μ10, h1, h⟩ := bd2_some h
    have hk : V X μ10 111 [(0, .ref (zad y (0, 12, 0))), (1, .ref (zad y (1, s1, 0))), (2, .int a2), (3, .int x9), (4, .int x2)] [] := by
      clear h1
      refine V_inc X 4 1 [(4, .int (x2 + 1)), (0, .ref (zad y (0, 12, 0))), (1, .ref (zad y (1, s1, 0))), (2, .int a2), (3, .int x9)] dX1_putInOrder_111 rfl (by decide) (by decide) rfl ?_
      refine V_goto X (tgt := 5) dX1_putInOrder_114 (by decide) ?_
      refine V_sub X [1, 2, 3, 4, 0] (lv' := [(0, .ref (zad y (0, 12, 0))), (1, .ref (zad y (1, s1, 0))), (2, .int a2), (3, .int x9), (4, .int (x2 + 1))]) rfl ?_
      cases h
      exact hz
    replace h := h1
    clear h1
    refine V_icmp_ne X (tgt := 111) dX1_putInOrder_25 (by decide) (fun b8 => ?_) (fun b8 => ?_)
    · replace h := (if_neg b8).symm.trans h
      obtain ⟨rfl, rfl⟩ := so2 h
      exact hk
    · replace h := (if_pos b8).symm.trans h
      refine V_iload_n X 3 dX1_putInOrder_28 rfl rfl ?_
      refine V_istore X [(5, .int x1), (0, .ref (zad y (0, 12, 0))), (1, .ref (zad y (1, s1, 0))), (2, .int a2), (3, .int x1), (4, .int x2)] dX1_putInOrder_29 (by decide) rfl ?_
      refine V_iload_n X 4 dX1_putInOrder_31 rfl rfl ?_
      refine V_iconst X 1 dX1_putInOrder_32 (by decide) ?_
      refine V_isub X dX1_putInOrder_33 ?_
      refine V_istore X [(6, .int (x1 - 1)), (5, .int x1), (0, .ref (zad y (0, 12, 0))), (1, .ref (zad y (1, s1, 0))), (2, .int a2), (3, .int x1), (4, .int x2)] dX1_putInOrder_34 (by decide) rfl ?_
      refine zlt_el (P := fun (x11 : Int32) => V X μ3 36 [(6, .int x11), (5, .int x1), (0, .ref (zad y (0, 12, 0))), (1, .ref (zad y (1, s1, 0))), (2, .int a2), (3, .int x1), (4, .int x2)] []) h (fun x11 h => ?_)
      refine V_sub X [2, 3, 4, 5, 6, 1, 0] (lv' := [(0, .ref (zad y (0, 12, 0))), (1, .ref (zad y (1, s1, 0))), (2, .int a2), (3, .int x1), (4, .int x2), (5, .int x1), (6, .int x11)]) rfl ?_
      obtain ⟨x15, μ16, hl, h⟩ := bd2_some h
      have hk : V X μ16 99 [(0, .ref (zad y (0, 12, 0))), (1, .ref (zad y (1, s1, 0))), (2, .int a2), (3, .int x1), (4, .int x2), (5, .int x15)] [] := by
        clear hl
        refine V_aload_n X 0 dX1_putInOrder_99 rfl rfl ?_
        refine V_getr X (o := (0, 12, 0)) (i := (0, 16, 0)) (ci := 1) (k := 4) (N := 5) (T := TX1) (C := RX1) ⟨by decide, rfl⟩ rfl rfl rfl (by decide) (mBa inB_X1) (mB wl_RX1_21) dX1_putInOrder_100 ?_
        refine V_iload X 5 dX1_putInOrder_103 rfl ?_
        refine V_iload X 4 dX1_putInOrder_105 rfl ?_
        obtain ⟨g23, h⟩ := gd_some h
        refine V_iast X x15.toNatClampNeg rfl (o := (0, 16, 0)) (n := 8) ⟨by decide, rfl⟩ rfl rfl g23 dX1_putInOrder_107 ?_
        refine zlt_el (P := fun (μ24 : ZMem) => V X μ24 108 [(0, .ref (zad y (0, 12, 0))), (1, .ref (zad y (1, s1, 0))), (2, .int a2), (3, .int x1), (4, .int x2), (5, .int x15)] []) h (fun μ24 h => ?_)
        refine V_inc X 3 1 [(3, .int (x1 + 1)), (0, .ref (zad y (0, 12, 0))), (1, .ref (zad y (1, s1, 0))), (2, .int a2), (4, .int x2), (5, .int x15)] dX1_putInOrder_108 rfl (by decide) (by decide) rfl ?_
        refine V_sub X [1, 2, 3, 0, 4] (lv' := [(0, .ref (zad y (0, 12, 0))), (1, .ref (zad y (1, s1, 0))), (2, .int a2), (3, .int (x1 + 1)), (4, .int x2)]) rfl ?_
        obtain ⟨rfl, rfl⟩ := so2 h
        exact hk
      refine lp_ind (P := fun q => V X q.2.2 36 [(0, .ref (zad y (0, 12, 0))), (1, .ref (zad y (1, s1, 0))), (2, .int a2), (3, .int x1), (4, .int x2), (5, .int q.1), (6, .int q.2.1)] []) (fun q z h hz => ?_) hl
      obtain ⟨x12, x13, μ14⟩ := q
      replace h := un3_eq h
      show V X μ14 36 [(0, .ref (zad y (0, 12, 0))), (1, .ref (zad y (1, s1, 0))), (2, .int a2), (3, .int x1), (4, .int x2), (5, .int x12), (6, .int x13)] []
      refine V_iload X 6 dX1_putInOrder_36 rfl ?_
      refine V_if_lt X (tgt := 99) dX1_putInOrder_38 (by decide) (fun b17 => ?_) (fun b17 => ?_)
      · replace h := (if_pos b17).symm.trans h
        refine V_sub X [0, 1, 2, 3, 4, 5] (lv' := [(0, .ref (zad y (0, 12, 0))), (1, .ref (zad y (1, s1, 0))), (2, .int a2), (3, .int x1), (4, .int x2), (5, .int x12)]) rfl ?_
        cases h
        obtain ⟨rfl, rfl⟩ := pr2 hz
        exact hk
      · replace h := (if_neg b17).symm.trans h
        refine V_aload_n X 1 dX1_putInOrder_41 rfl rfl ?_
        refine V_getr X (o := (1, s1, 0)) (i := (2, s1, 0)) (ci := 7) (k := 0) (N := 11) (T := TX7) (C := RX7) ⟨hs1, rfl⟩ rfl rfl rfl (by decide) (mBa inB_X7) (mB wl_RX1_63) dX1_putInOrder_42 ?_
        refine V_aload_n X 0 dX1_putInOrder_45 rfl rfl ?_
        refine V_getr X (o := (0, 12, 0)) (i := (0, 16, 0)) (ci := 1) (k := 4) (N := 5) (T := TX1) (C := RX1) ⟨by decide, rfl⟩ rfl rfl rfl (by decide) (mBa inB_X1) (mB wl_RX1_21) dX1_putInOrder_46 ?_
        refine V_iload X 6 dX1_putInOrder_49 rfl ?_
        obtain ⟨g18, h⟩ := gd_some h
        refine V_iald X x13.toNatClampNeg rfl (o := (0, 16, 0)) (n := 8) ⟨by decide, rfl⟩ rfl rfl g18 dX1_putInOrder_51 ?_
        obtain ⟨g19, h⟩ := gd_some h
        refine V_aald X (μ14 (0, 16, 0) x13.toNatClampNeg).toNatClampNeg rfl (o := (2, s1, 0)) ⟨hs1, rfl⟩ rfl rfl rfl rfl g19 dX1_putInOrder_52 ?_
        refine V_geti X (o := (3, s1, (μ14 (0, 16, 0) x13.toNatClampNeg).toNatClampNeg)) (ci := 5) (k := 0) (N := 11) (T := TX5) (C := RX5) ⟨hs1, zin_lt g19⟩ rfl rfl rfl (by decide) (mBa inB_X5) (mB wl_RX1_72) dX1_putInOrder_53 ?_
        refine V_iload_n X 2 dX1_putInOrder_56 rfl rfl ?_
        refine V_imul X dX1_putInOrder_57 ?_
        refine V_aload_n X 1 dX1_putInOrder_58 rfl rfl ?_
        refine V_getr X (o := (1, s1, 0)) (i := (2, s1, 0)) (ci := 7) (k := 0) (N := 11) (T := TX7) (C := RX7) ⟨hs1, rfl⟩ rfl rfl rfl (by decide) (mBa inB_X7) (mB wl_RX1_63) dX1_putInOrder_59 ?_
        refine V_iload X 4 dX1_putInOrder_62 rfl ?_
        refine V_aald X x2.toNatClampNeg rfl (o := (2, s1, 0)) ⟨hs1, rfl⟩ rfl rfl rfl rfl g7 dX1_putInOrder_64 ?_
        refine V_geti X (o := (3, s1, x2.toNatClampNeg)) (ci := 5) (k := 0) (N := 11) (T := TX5) (C := RX5) ⟨hs1, zin_lt g7⟩ rfl rfl rfl (by decide) (mBa inB_X5) (mB wl_RX1_72) dX1_putInOrder_65 ?_
        refine V_iload_n X 2 dX1_putInOrder_68 rfl rfl ?_
        refine V_imul X dX1_putInOrder_69 ?_
        refine V_icmp_le X (tgt := 99) dX1_putInOrder_70 (by decide) (fun b20 => ?_) (fun b20 => ?_)
        · replace h := (if_pos b20).symm.trans h
          refine V_sub X [0, 1, 2, 3, 4, 5] (lv' := [(0, .ref (zad y (0, 12, 0))), (1, .ref (zad y (1, s1, 0))), (2, .int a2), (3, .int x1), (4, .int x2), (5, .int x12)]) rfl ?_
          cases h
          obtain ⟨rfl, rfl⟩ := pr2 hz
          exact hk
        · replace h := (if_neg b20).symm.trans h
          refine V_aload_n X 0 dX1_putInOrder_73 rfl rfl ?_
          refine V_getr X (o := (0, 12, 0)) (i := (0, 16, 0)) (ci := 1) (k := 4) (N := 5) (T := TX1) (C := RX1) ⟨by decide, rfl⟩ rfl rfl rfl (by decide) (mBa inB_X1) (mB wl_RX1_21) dX1_putInOrder_74 ?_
          refine V_iload X 6 dX1_putInOrder_77 rfl ?_
          refine V_iconst X 1 dX1_putInOrder_79 (by decide) ?_
          refine V_iadd X dX1_putInOrder_80 ?_
          refine V_aload_n X 0 dX1_putInOrder_81 rfl rfl ?_
          refine V_getr X (o := (0, 12, 0)) (i := (0, 16, 0)) (ci := 1) (k := 4) (N := 5) (T := TX1) (C := RX1) ⟨by decide, rfl⟩ rfl rfl rfl (by decide) (mBa inB_X1) (mB wl_RX1_21) dX1_putInOrder_82 ?_
          refine V_iload X 6 dX1_putInOrder_85 rfl ?_
          refine V_iald X x13.toNatClampNeg rfl (o := (0, 16, 0)) (n := 8) ⟨by decide, rfl⟩ rfl rfl g18 dX1_putInOrder_87 ?_
          obtain ⟨g21, h⟩ := gd_some h
          refine V_iast X (x13 + 1).toNatClampNeg rfl (o := (0, 16, 0)) (n := 8) ⟨by decide, rfl⟩ rfl rfl g21 dX1_putInOrder_88 ?_
          refine zlt_el (P := fun (μ22 : ZMem) => V X μ22 89 [(0, .ref (zad y (0, 12, 0))), (1, .ref (zad y (1, s1, 0))), (2, .int a2), (3, .int x1), (4, .int x2), (5, .int x12), (6, .int x13)] []) h (fun μ22 h => ?_)
          refine V_iload X 6 dX1_putInOrder_89 rfl ?_
          refine V_istore X [(5, .int x13), (0, .ref (zad y (0, 12, 0))), (1, .ref (zad y (1, s1, 0))), (2, .int a2), (3, .int x1), (4, .int x2), (6, .int x13)] dX1_putInOrder_91 (by decide) rfl ?_
          refine V_inc X 6 (-1) [(6, .int (x13 + (-1))), (5, .int x13), (0, .ref (zad y (0, 12, 0))), (1, .ref (zad y (1, s1, 0))), (2, .int a2), (3, .int x1), (4, .int x2)] dX1_putInOrder_93 rfl (by decide) (by decide) rfl ?_
          refine V_goto X (tgt := 36) dX1_putInOrder_96 (by decide) ?_
          refine V_sub X [2, 3, 4, 5, 6, 1, 0] (lv' := [(0, .ref (zad y (0, 12, 0))), (1, .ref (zad y (1, s1, 0))), (2, .int a2), (3, .int x1), (4, .int x2), (5, .int x13), (6, .int (x13 + (-1)))]) rfl ?_
          cases h
          exact hz

def f_X1_inOrder (s1 : Nat) (a2 : Int32) (μ : ZMem) : Option (Int32 × ZMem) := bd2 (f_X1_putInOrder s1 1 μ) (fun (x2 : Int32) (μ3 : ZMem) => jk (some ((-1), μ3)) (fun k5 => if a2 < 0 then k5 else if a2 < x2 then zlt (μ3 (0, 16, 0) 0) (fun (x7 : Int32) => bd2 (f_X1_putInOrder s1 (-1) μ3) (fun (x9 : Int32) (μ10 : ZMem) => bd (α := ZMem) (if (μ10 (0, 16, 0) 0) ≤ x7 then some μ10 else bd2 (f_X1_putInOrder s1 1 μ10) (fun (x14 : Int32) (μ15 : ZMem) => some μ15)) (fun (μ12 : ZMem) => gd (zin a2 8) (some ((μ12 (0, 16, 0) a2.toNatClampNeg), μ12))))) else k5))
set_option maxRecDepth 100000 in
set_option maxHeartbeats 4000000 in
theorem M_X1_inOrder {l : Launch} {D : va_G} {y : ZLay} {s1 : Nat} {a2 : Int32} (hs1 : s1 < 15) {μ : ZMem} {r : Int32} {μ0 : ZMem} (h : f_X1_inOrder s1 a2 μ = some (r, μ0)) : MI l yX1_inOrder wb_X1_inOrder rm_X1_inOrder D y [.ref (zad y (0, 12, 0)), .ref (zad y (1, s1, 0)), .int a2] μ r μ0 := by
  unfold f_X1_inOrder at h
  refine MI_of RX1 [(0, .ref (zad y (0, 12, 0))), (1, .ref (zad y (1, s1, 0))), (2, .int a2)] (by decide) rfl rfl (Nat.le_of_ble_eq_true rfl) rfl ?_
  intro p e s m args below meth c A X
  refine V_aload_n X 0 dX1_inOrder_0 rfl rfl ?_
  refine V_aload_n X 1 dX1_inOrder_1 rfl rfl ?_
  refine V_iconst X 1 dX1_inOrder_2 (by decide) ?_
  obtain ⟨x2, μ3, c1, h⟩ := bd2_some h
  refine V_callVi X (As := [.ref (zad y (1, s1, 0)), .int 1]) (M_X1_putInOrder hs1 c1) (cwV 2 X.2.2.2.2.2.2.1 (gV wm_RX1_54 wi_X1_putInOrder wse_X1_putInOrder win_RX1 wc_X1_putInOrder) rfl rfl rfl hd_X1_putInOrder ⟨Nat.le_of_ble_eq_true rfl, Nat.le_of_ble_eq_true rfl⟩) (b := (0, 12, 0)) ⟨by decide, rfl⟩ rfl rfl rfl rfl (Nat.le_of_ble_eq_true rfl) dX1_inOrder_3 rfl ?_
  refine V_istore_n X [(3, .int x2), (0, .ref (zad y (0, 12, 0))), (1, .ref (zad y (1, s1, 0))), (2, .int a2)] dX1_inOrder_6 rfl (by decide) rfl ?_
  refine V_iload_n X 3 dX1_inOrder_7 rfl rfl ?_
  refine jk0_el (P := V X μ3 16 [] []) h (fun h => ?_) (fun k5 hk5 h => ?_)
  · refine V_iconst X (-1) dX1_inOrder_16 (by decide) ?_
    exact V_iretW X h dX1_inOrder_17
  · refine V_if_lt X (tgt := 16) dX1_inOrder_8 (by decide) (fun b4 => ?_) (fun b4 => ?_)
    · replace h := (if_pos b4).symm.trans h
      refine V_sub X [] (lv' := []) rfl ?_
      exact hk5 h
    · replace h := (if_neg b4).symm.trans h
      refine V_iload_n X 3 dX1_inOrder_11 rfl rfl ?_
      refine V_iload_n X 0 dX1_inOrder_12 rfl rfl ?_
      refine V_icmp_lt X (tgt := 18) dX1_inOrder_13 (by decide) (fun b6 => ?_) (fun b6 => ?_)
      · replace h := (if_pos b6).symm.trans h
        refine V_aload_n X 1 dX1_inOrder_18 rfl rfl ?_
        refine V_getr X (o := (0, 12, 0)) (i := (0, 16, 0)) (ci := 1) (k := 4) (N := 5) (T := TX1) (C := RX1) ⟨by decide, rfl⟩ rfl rfl rfl (by decide) (mBa inB_X1) (mB wl_RX1_21) dX1_inOrder_19 ?_
        refine V_iconst X 0 dX1_inOrder_22 (by decide) ?_
        refine V_iald X 0 (by decide) (o := (0, 16, 0)) (n := 8) ⟨by decide, rfl⟩ rfl rfl (by decide) dX1_inOrder_23 ?_
        refine V_istore X [(4, .int (μ3 (0, 16, 0) 0)), (3, .int x2), (0, .ref (zad y (0, 12, 0))), (1, .ref (zad y (1, s1, 0))), (2, .int a2)] dX1_inOrder_24 (by decide) rfl ?_
        refine zlt_el (P := fun (x7 : Int32) => V X μ3 26 [(4, .int x7), (3, .int x2), (0, .ref (zad y (0, 12, 0))), (1, .ref (zad y (1, s1, 0))), (2, .int a2)] []) h (fun x7 h => ?_)
        refine V_aload_n X 2 dX1_inOrder_26 rfl rfl ?_
        refine V_aload_n X 3 dX1_inOrder_27 rfl rfl ?_
        refine V_iconst X (-1) dX1_inOrder_28 (by decide) ?_
        obtain ⟨x9, μ10, c8, h⟩ := bd2_some h
        refine V_callVi X (As := [.ref (zad y (1, s1, 0)), .int (-1)]) (M_X1_putInOrder hs1 c8) (cwV 2 X.2.2.2.2.2.2.1 (gV wm_RX1_54 wi_X1_putInOrder wse_X1_putInOrder win_RX1 wc_X1_putInOrder) rfl rfl rfl hd_X1_putInOrder ⟨Nat.le_of_ble_eq_true rfl, Nat.le_of_ble_eq_true rfl⟩) (b := (0, 12, 0)) ⟨by decide, rfl⟩ rfl rfl rfl rfl (Nat.le_of_ble_eq_true rfl) dX1_inOrder_29 rfl ?_
        refine V_pop X dX1_inOrder_32 rfl ?_
        refine V_iload X 0 dX1_inOrder_33 rfl ?_
        refine V_aload_n X 2 dX1_inOrder_35 rfl rfl ?_
        refine V_getr X (o := (0, 12, 0)) (i := (0, 16, 0)) (ci := 1) (k := 4) (N := 5) (T := TX1) (C := RX1) ⟨by decide, rfl⟩ rfl rfl rfl (by decide) (mBa inB_X1) (mB wl_RX1_21) dX1_inOrder_36 ?_
        refine V_iconst X 0 dX1_inOrder_39 (by decide) ?_
        refine V_iald X 0 (by decide) (o := (0, 16, 0)) (n := 8) ⟨by decide, rfl⟩ rfl rfl (by decide) dX1_inOrder_40 ?_
        obtain ⟨μ12, h1, h⟩ := bd_some h
        have hk : V X μ12 51 [(0, .ref (zad y (0, 12, 0))), (2, .int a2)] [] := by
          clear h1
          refine V_aload_n X 0 dX1_inOrder_51 rfl rfl ?_
          refine V_getr X (o := (0, 12, 0)) (i := (0, 16, 0)) (ci := 1) (k := 4) (N := 5) (T := TX1) (C := RX1) ⟨by decide, rfl⟩ rfl rfl rfl (by decide) (mBa inB_X1) (mB wl_RX1_21) dX1_inOrder_52 ?_
          refine V_iload_n X 1 dX1_inOrder_55 rfl rfl ?_
          obtain ⟨g16, h⟩ := gd_some h
          refine V_iald X a2.toNatClampNeg rfl (o := (0, 16, 0)) (n := 8) ⟨by decide, rfl⟩ rfl rfl g16 dX1_inOrder_56 ?_
          exact V_iretW X h dX1_inOrder_57
        replace h := h1
        clear h1
        refine V_icmp_ge X (tgt := 51) dX1_inOrder_41 (by decide) (fun b11 => ?_) (fun b11 => ?_)
        · replace h := (if_pos b11).symm.trans h
          refine V_sub X [2, 4] (lv' := [(0, .ref (zad y (0, 12, 0))), (2, .int a2)]) rfl ?_
          obtain rfl := so1 h
          exact hk
        · replace h := (if_neg b11).symm.trans h
          refine V_aload_n X 2 dX1_inOrder_44 rfl rfl ?_
          refine V_aload_n X 3 dX1_inOrder_45 rfl rfl ?_
          refine V_iconst X 1 dX1_inOrder_46 (by decide) ?_
          obtain ⟨x14, μ15, c13, h⟩ := bd2_some h
          refine V_callVi X (As := [.ref (zad y (1, s1, 0)), .int 1]) (M_X1_putInOrder hs1 c13) (cwV 2 X.2.2.2.2.2.2.1 (gV wm_RX1_54 wi_X1_putInOrder wse_X1_putInOrder win_RX1 wc_X1_putInOrder) rfl rfl rfl hd_X1_putInOrder ⟨Nat.le_of_ble_eq_true rfl, Nat.le_of_ble_eq_true rfl⟩) (b := (0, 12, 0)) ⟨by decide, rfl⟩ rfl rfl rfl rfl (Nat.le_of_ble_eq_true rfl) dX1_inOrder_47 rfl ?_
          refine V_pop X dX1_inOrder_50 rfl ?_
          refine V_sub X [2, 4] (lv' := [(0, .ref (zad y (0, 12, 0))), (2, .int a2)]) rfl ?_
          obtain rfl := so1 h
          exact hk
      · replace h := (if_neg b6).symm.trans h
        refine V_sub X [] (lv' := []) rfl ?_
        exact hk5 h

def f_X11_lowest (a0 : Int32) : Option (Int32) := bd (lp (σ := Int32) (fun (x1 : Int32) => if 8 ≤ x1 then some (.inr (.inl ())) else bd (f_X11_isIn a0 x1) (fun (x4 : Int32) => if x4 = 0 then some (.inl (x1 + 1)) else some (.inr (.inr x1)))) FU 0) (fun z => sm z (fun (_ : Unit) => some (-1)) (fun r0 => some r0))
set_option maxRecDepth 100000 in
set_option maxHeartbeats 4000000 in
theorem M_X11_lowest {l : Launch} {D : va_G} {y : ZLay} {a0 : Int32}  {μ : ZMem} {r : Int32} (h : f_X11_lowest a0 = some r) : MI l yX11_lowest wb_X11_lowest rm_X11_lowest D y [.int a0] μ r μ := by
  unfold f_X11_lowest at h
  refine MI_of RX11 [(0, .int a0)] (by decide) rfl rfl (Nat.le_of_ble_eq_true rfl) rfl ?_
  intro p e s m args below meth c A X
  refine V_iconst X 0 dX11_lowest_0 (by decide) ?_
  refine V_istore_n X [(1, .int 0), (0, .int a0)] dX11_lowest_1 rfl (by decide) rfl ?_
  refine V_sub X [1, 0] (lv' := [(0, .int a0), (1, .int 0)]) rfl ?_
  obtain ⟨zz, hl, h⟩ := bd_some h
  have hk : ∀ (_ : Unit), .inl () = zz → V X μ 24 [] [] := by
    intro _ hzz
    subst hzz
    clear hl
    replace h := sm_l h
    refine V_iconst X (-1) dX11_lowest_24 (by decide) ?_
    exact V_iretR X h dX11_lowest_25
  have hr : ∀ r0, .inr r0 = zz → some r0 = some r := by
    intro r0 hzz
    subst hzz
    exact h
  refine lp_ind (P := fun (x1 : Int32) => V X μ 2 [(0, .int a0), (1, .int x1)] []) (fun q z h hz => ?_) hl
  obtain ⟨x1, hq⟩ : ∃ x, x = q := ⟨q, rfl⟩
  subst hq
  show V X μ 2 [(0, .int a0), (1, .int x1)] []
  refine V_iload_n X 1 dX11_lowest_2 rfl rfl ?_
  refine V_bipush X 8 dX11_lowest_3 (by decide) ?_
  refine V_icmp_ge X (tgt := 24) dX11_lowest_5 (by decide) (fun b2 => ?_) (fun b2 => ?_)
  · replace h := (if_pos b2).symm.trans h
    refine V_sub X [] (lv' := []) rfl ?_
    cases h
    exact hk () hz
  · replace h := (if_neg b2).symm.trans h
    refine V_iload_n X 0 dX11_lowest_8 rfl rfl ?_
    refine V_iload_n X 1 dX11_lowest_9 rfl rfl ?_
    obtain ⟨x4, c3, h⟩ := bd_some h
    refine V_callSi X (As := [.int a0, .int x1]) (M_X11_isIn c3) (va_cwS 2 X.2.2.2.2.2.2.1 (gS wm_RX11_212 wst_X11_isIn win_RX11 wc_X11_isIn) rfl rfl rfl hd_X11_isIn.2 ⟨Nat.le_of_ble_eq_true rfl, Nat.le_of_ble_eq_true rfl⟩) rfl (Nat.le_of_ble_eq_true rfl) dX11_lowest_10 rfl ?_
    refine V_if_eq X (tgt := 18) dX11_lowest_13 (by decide) (fun b5 => ?_) (fun b5 => ?_)
    · replace h := (if_pos b5).symm.trans h
      refine V_inc X 1 1 [(1, .int (x1 + 1)), (0, .int a0)] dX11_lowest_18 rfl (by decide) (by decide) rfl ?_
      refine V_goto X (tgt := 2) dX11_lowest_21 (by decide) ?_
      refine V_sub X [1, 0] (lv' := [(0, .int a0), (1, .int (x1 + 1))]) rfl ?_
      cases h
      exact hz
    · replace h := (if_neg b5).symm.trans h
      refine V_iload_n X 1 dX11_lowest_16 rfl rfl ?_
      cases h
      have h := hr _ hz
      exact V_iretR X h dX11_lowest_17

def f_X1_weighPairs (s1 : Nat) (μ : ZMem) : Option (ZMem) := bd (lp (σ := Int32 × ZMem) (fun q => un2 q (fun (x1 : Int32) (μ2 : ZMem) => if 8 ≤ x1 then some (.inr μ2) else bd (lp (σ := Int32 × ZMem) (fun q => un2 q (fun (x5 : Int32) (μ6 : ZMem) => if 8 ≤ x5 then some (.inr μ6) else gd (zin x1 8) (gd (zin x5 8) (zlt (zabs ((μ6 (3, s1, x1.toNatClampNeg) 0) - (μ6 (3, s1, x5.toNatClampNeg) 0))) (fun (x11 : Int32) => bd (f_X11_isIn (μ6 (0, 13, 0) x1.toNatClampNeg) x5) (fun (x13 : Int32) => zlt (α := Int32) (if x13 = 0 then 0 else (zmax 0 (100 - x11))) (fun (x15 : Int32) => gd (zin ((8 * x1) + x5) 64) (zlt (mset μ6 (0, 15, 0) ((8 * x1) + x5).toNatClampNeg x15) (fun (μ17 : ZMem) => some (.inl ((x5 + 1), μ17))))))))))) FU (0, μ2)) (fun (μ7 : ZMem) => some (.inl ((x1 + 1), μ7))))) FU (0, μ)) (fun (μ3 : ZMem) => zlt (mset μ3 (0, 14, 0) 0 0) (fun (μ18 : ZMem) => bd (lp (σ := Int32 × ZMem) (fun q => un2 q (fun (x19 : Int32) (μ20 : ZMem) => if 256 ≤ x19 then some (.inr μ20) else bd (f_X11_lowest x19) (fun (x24 : Int32) => zlt (x19 &&& ((f_X11_bit x24) ^^^ (-1))) (fun (x25 : Int32) => gd (zin x25 256) (zlt (μ20 (0, 14, 0) x25.toNatClampNeg) (fun (x27 : Int32) => zlt (x24 + 1) (fun (x28 : Int32) => bd (lp (σ := Int32 × Int32) (fun q => un2 q (fun (x29 : Int32) (x30 : Int32) => if 8 ≤ x30 then some (.inr x29) else bd (f_X11_isIn x25 x30) (fun (x34 : Int32) => bd (α := Int32) (if x34 = 0 then some x29 else gd (zin ((8 * x24) + x30) 64) (gd (zin (x25 &&& ((f_X11_bit x30) ^^^ (-1))) 256) (zlt (zmax x29 ((μ20 (0, 15, 0) ((8 * x24) + x30).toNatClampNeg) + (μ20 (0, 14, 0) (x25 &&& ((f_X11_bit x30) ^^^ (-1))).toNatClampNeg))) (fun (x39 : Int32) => some x39)))) (fun (x36 : Int32) => some (.inl (x36, (x30 + 1))))))) FU (x27, x28)) (fun (x31 : Int32) => gd (zin x19 256) (zlt (mset μ20 (0, 14, 0) x19.toNatClampNeg x31) (fun (μ41 : ZMem) => some (.inl ((x19 + 1), μ41)))))))))))) FU (1, μ18)) (fun (μ21 : ZMem) => some μ21)))
set_option maxRecDepth 100000 in
set_option maxHeartbeats 4000000 in
theorem M_X1_weighPairs {l : Launch} {D : va_G} {y : ZLay} {s1 : Nat} (hs1 : s1 < 15) {μ : ZMem} {μ0 : ZMem} (h : f_X1_weighPairs s1 μ = some μ0) : MV l yX1_weighPairs wb_X1_weighPairs rm_X1_weighPairs D y [.ref (zad y (0, 12, 0)), .ref (zad y (1, s1, 0))] μ μ0 := by
  unfold f_X1_weighPairs at h
  refine MV_of RX1 [(0, .ref (zad y (0, 12, 0))), (1, .ref (zad y (1, s1, 0)))] (by decide) rfl rfl (Nat.le_of_ble_eq_true rfl) rfl ?_
  intro p e s m args below meth c A X
  refine V_iconst X 0 dX1_weighPairs_0 (by decide) ?_
  refine V_istore_n X [(2, .int 0), (0, .ref (zad y (0, 12, 0))), (1, .ref (zad y (1, s1, 0)))] dX1_weighPairs_1 rfl (by decide) rfl ?_
  refine V_sub X [1, 2, 0] (lv' := [(0, .ref (zad y (0, 12, 0))), (1, .ref (zad y (1, s1, 0))), (2, .int 0)]) rfl ?_
  obtain ⟨μ3, hl, h⟩ := bd_some h
  have hk : V X μ3 89 [(0, .ref (zad y (0, 12, 0)))] [] := by
    clear hl
    refine V_aload_n X 0 dX1_weighPairs_89 rfl rfl ?_
    refine V_getr X (o := (0, 12, 0)) (i := (0, 14, 0)) (ci := 1) (k := 2) (N := 5) (T := TX1) (C := RX1) ⟨by decide, rfl⟩ rfl rfl rfl (by decide) (mBa inB_X1) (mB wl_RX1_15) dX1_weighPairs_90 ?_
    refine V_iconst X 0 dX1_weighPairs_93 (by decide) ?_
    refine V_iconst X 0 dX1_weighPairs_94 (by decide) ?_
    refine V_iast X 0 (by decide) (o := (0, 14, 0)) (n := 256) ⟨by decide, rfl⟩ rfl rfl (by decide) dX1_weighPairs_95 ?_
    refine zlt_el (P := fun (μ18 : ZMem) => V X μ18 96 [(0, .ref (zad y (0, 12, 0)))] []) h (fun μ18 h => ?_)
    refine V_iconst X 1 dX1_weighPairs_96 (by decide) ?_
    refine V_istore_n X [(2, .int 1), (0, .ref (zad y (0, 12, 0)))] dX1_weighPairs_97 rfl (by decide) rfl ?_
    refine V_sub X [1, 0] (lv' := [(0, .ref (zad y (0, 12, 0))), (2, .int 1)]) rfl ?_
    obtain ⟨μ21, hl, h⟩ := bd_some h
    have hk : V X μ21 208 [] [] := by
      clear hl
      exact V_vretW X h dX1_weighPairs_208
    refine lp_ind (P := fun q => V X q.2 98 [(0, .ref (zad y (0, 12, 0))), (2, .int q.1)] []) (fun q z h hz => ?_) hl
    obtain ⟨x19, μ20⟩ := q
    replace h := un2_eq h
    show V X μ20 98 [(0, .ref (zad y (0, 12, 0))), (2, .int x19)] []
    refine V_iload_n X 1 dX1_weighPairs_98 rfl rfl ?_
    refine V_aload_n X 0 dX1_weighPairs_99 rfl rfl ?_
    refine V_getr X (o := (0, 12, 0)) (i := (0, 14, 0)) (ci := 1) (k := 2) (N := 5) (T := TX1) (C := RX1) ⟨by decide, rfl⟩ rfl rfl rfl (by decide) (mBa inB_X1) (mB wl_RX1_15) dX1_weighPairs_100 ?_
    refine V_alen X 256 (o := (0, 14, 0)) (n := 256) ⟨by decide, rfl⟩ rfl rfl (by decide) dX1_weighPairs_103 ?_
    refine V_icmp_ge X (tgt := 208) dX1_weighPairs_104 (by decide) (fun b22 => ?_) (fun b22 => ?_)
    · replace h := (if_pos b22).symm.trans h
      refine V_sub X [] (lv' := []) rfl ?_
      cases h
      obtain rfl := pr1 hz
      exact hk
    · replace h := (if_neg b22).symm.trans h
      refine V_iload_n X 1 dX1_weighPairs_107 rfl rfl ?_
      obtain ⟨x24, c23, h⟩ := bd_some h
      refine V_callSNi X (As := [.int x19]) (M_X11_lowest c23) ⟨va_cnB (host := "SlotCluster") 1 X.2.2.2.2.2.2.1 (gN wc_X11_lowest) rfl rfl rfl (X.2.2.2.2.2.2.2.2.1 _ (List.mem_of_getElem? wn_RX1_84)) (X.2.2.2.2.2.2.1 (.initialized RX11) (mB win_RX11)) hd_X11_lowest.2 ⟨Nat.le_of_ble_eq_true rfl, Nat.le_of_ble_eq_true rfl⟩, X.2.2.2.2.2.2.1 (.static yX11_lowest) (mB wst_X11_lowest), trivial⟩ rfl (Nat.le_of_ble_eq_true rfl) dX1_weighPairs_108 rfl ?_
      refine V_istore_n X [(3, .int x24), (0, .ref (zad y (0, 12, 0))), (2, .int x19)] dX1_weighPairs_111 rfl (by decide) rfl ?_
      refine V_iload_n X 2 dX1_weighPairs_112 rfl rfl ?_
      refine V_iload_n X 0 dX1_weighPairs_113 rfl rfl ?_
      refine V_callSNi X (As := [.int x24]) (M_X11_bit) ⟨va_cnB (host := "SlotCluster") 1 X.2.2.2.2.2.2.1 (gN wc_X11_bit) rfl rfl rfl (X.2.2.2.2.2.2.2.2.1 _ (List.mem_of_getElem? wn_RX1_38)) (X.2.2.2.2.2.2.1 (.initialized RX11) (mB win_RX11)) hd_X11_bit.2 ⟨Nat.le_of_ble_eq_true rfl, Nat.le_of_ble_eq_true rfl⟩, X.2.2.2.2.2.2.1 (.static yX11_bit) (mB wst_X11_bit), trivial⟩ rfl (Nat.le_of_ble_eq_true rfl) dX1_weighPairs_114 rfl ?_
      refine V_iconst X (-1) dX1_weighPairs_117 (by decide) ?_
      refine V_ixor X dX1_weighPairs_118 ?_
      refine V_iand X dX1_weighPairs_119 ?_
      refine V_istore X [(4, .int (x19 &&& ((f_X11_bit x24) ^^^ (-1)))), (3, .int x24), (0, .ref (zad y (0, 12, 0))), (2, .int x19)] dX1_weighPairs_120 (by decide) rfl ?_
      refine zlt_el (P := fun (x25 : Int32) => V X μ20 122 [(4, .int x25), (3, .int x24), (0, .ref (zad y (0, 12, 0))), (2, .int x19)] []) h (fun x25 h => ?_)
      refine V_aload_n X 2 dX1_weighPairs_122 rfl rfl ?_
      refine V_getr X (o := (0, 12, 0)) (i := (0, 14, 0)) (ci := 1) (k := 2) (N := 5) (T := TX1) (C := RX1) ⟨by decide, rfl⟩ rfl rfl rfl (by decide) (mBa inB_X1) (mB wl_RX1_15) dX1_weighPairs_123 ?_
      refine V_iload X 0 dX1_weighPairs_126 rfl ?_
      obtain ⟨g26, h⟩ := gd_some h
      refine V_iald X x25.toNatClampNeg rfl (o := (0, 14, 0)) (n := 256) ⟨by decide, rfl⟩ rfl rfl g26 dX1_weighPairs_128 ?_
      refine V_istore X [(5, .int (μ20 (0, 14, 0) x25.toNatClampNeg)), (4, .int x25), (3, .int x24), (0, .ref (zad y (0, 12, 0))), (2, .int x19)] dX1_weighPairs_129 (by decide) rfl ?_
      refine zlt_el (P := fun (x27 : Int32) => V X μ20 131 [(5, .int x27), (4, .int x25), (3, .int x24), (0, .ref (zad y (0, 12, 0))), (2, .int x19)] []) h (fun x27 h => ?_)
      refine V_iload_n X 2 dX1_weighPairs_131 rfl rfl ?_
      refine V_iconst X 1 dX1_weighPairs_132 (by decide) ?_
      refine V_iadd X dX1_weighPairs_133 ?_
      refine V_istore X [(6, .int (x24 + 1)), (5, .int x27), (4, .int x25), (3, .int x24), (0, .ref (zad y (0, 12, 0))), (2, .int x19)] dX1_weighPairs_134 (by decide) rfl ?_
      refine zlt_el (P := fun (x28 : Int32) => V X μ20 136 [(6, .int x28), (5, .int x27), (4, .int x25), (3, .int x24), (0, .ref (zad y (0, 12, 0))), (2, .int x19)] []) h (fun x28 h => ?_)
      refine V_sub X [4, 5, 3, 2, 1, 0] (lv' := [(0, .ref (zad y (0, 12, 0))), (2, .int x19), (3, .int x24), (4, .int x25), (5, .int x27), (6, .int x28)]) rfl ?_
      obtain ⟨x31, hl, h⟩ := bd_some h
      have hk : V X μ20 194 [(0, .ref (zad y (0, 12, 0))), (2, .int x19), (5, .int x31)] [] := by
        clear hl
        refine V_aload_n X 0 dX1_weighPairs_194 rfl rfl ?_
        refine V_getr X (o := (0, 12, 0)) (i := (0, 14, 0)) (ci := 1) (k := 2) (N := 5) (T := TX1) (C := RX1) ⟨by decide, rfl⟩ rfl rfl rfl (by decide) (mBa inB_X1) (mB wl_RX1_15) dX1_weighPairs_195 ?_
        refine V_iload_n X 1 dX1_weighPairs_198 rfl rfl ?_
        refine V_iload X 2 dX1_weighPairs_199 rfl ?_
        obtain ⟨g40, h⟩ := gd_some h
        refine V_iast X x19.toNatClampNeg rfl (o := (0, 14, 0)) (n := 256) ⟨by decide, rfl⟩ rfl rfl g40 dX1_weighPairs_201 ?_
        refine zlt_el (P := fun (μ41 : ZMem) => V X μ41 202 [(0, .ref (zad y (0, 12, 0))), (2, .int x19), (5, .int x31)] []) h (fun μ41 h => ?_)
        refine V_inc X 1 1 [(2, .int (x19 + 1)), (0, .ref (zad y (0, 12, 0))), (5, .int x31)] dX1_weighPairs_202 rfl (by decide) (by decide) rfl ?_
        refine V_goto X (tgt := 98) dX1_weighPairs_205 (by decide) ?_
        refine V_sub X [1, 0] (lv' := [(0, .ref (zad y (0, 12, 0))), (2, .int (x19 + 1))]) rfl ?_
        cases h
        exact hz
      refine lp_ind (P := fun q => V X μ20 136 [(0, .ref (zad y (0, 12, 0))), (2, .int x19), (3, .int x24), (4, .int x25), (5, .int q.1), (6, .int q.2)] []) (fun q z h hz => ?_) hl
      obtain ⟨x29, x30⟩ := q
      replace h := un2_eq h
      show V X μ20 136 [(0, .ref (zad y (0, 12, 0))), (2, .int x19), (3, .int x24), (4, .int x25), (5, .int x29), (6, .int x30)] []
      refine V_iload X 5 dX1_weighPairs_136 rfl ?_
      refine V_bipush X 8 dX1_weighPairs_138 (by decide) ?_
      refine V_icmp_ge X (tgt := 194) dX1_weighPairs_140 (by decide) (fun b32 => ?_) (fun b32 => ?_)
      · replace h := (if_pos b32).symm.trans h
        refine V_sub X [0, 1, 4] (lv' := [(0, .ref (zad y (0, 12, 0))), (2, .int x19), (5, .int x29)]) rfl ?_
        cases h
        obtain rfl := pr1 hz
        exact hk
      · replace h := (if_neg b32).symm.trans h
        refine V_iload X 3 dX1_weighPairs_143 rfl ?_
        refine V_iload X 5 dX1_weighPairs_145 rfl ?_
        obtain ⟨x34, c33, h⟩ := bd_some h
        refine V_callSNi X (As := [.int x25, .int x30]) (M_X11_isIn c33) ⟨va_cnB (host := "SlotCluster") 2 X.2.2.2.2.2.2.1 (gN wc_X11_isIn) rfl rfl rfl (X.2.2.2.2.2.2.2.2.1 _ (List.mem_of_getElem? wn_RX1_31)) (X.2.2.2.2.2.2.1 (.initialized RX11) (mB win_RX11)) hd_X11_isIn.2 ⟨Nat.le_of_ble_eq_true rfl, Nat.le_of_ble_eq_true rfl⟩, X.2.2.2.2.2.2.1 (.static yX11_isIn) (mB wst_X11_isIn), trivial⟩ rfl (Nat.le_of_ble_eq_true rfl) dX1_weighPairs_147 rfl ?_
        obtain ⟨x36, h1, h⟩ := bd_some h
        have hk : V X μ20 188 [(0, .ref (zad y (0, 12, 0))), (2, .int x19), (3, .int x24), (4, .int x25), (5, .int x36), (6, .int x30)] [] := by
          clear h1
          refine V_inc X 5 1 [(6, .int (x30 + 1)), (0, .ref (zad y (0, 12, 0))), (2, .int x19), (3, .int x24), (4, .int x25), (5, .int x36)] dX1_weighPairs_188 rfl (by decide) (by decide) rfl ?_
          refine V_goto X (tgt := 136) dX1_weighPairs_191 (by decide) ?_
          refine V_sub X [1, 2, 3, 4, 5, 0] (lv' := [(0, .ref (zad y (0, 12, 0))), (2, .int x19), (3, .int x24), (4, .int x25), (5, .int x36), (6, .int (x30 + 1))]) rfl ?_
          cases h
          exact hz
        replace h := h1
        clear h1
        refine V_if_eq X (tgt := 188) dX1_weighPairs_150 (by decide) (fun b35 => ?_) (fun b35 => ?_)
        · replace h := (if_pos b35).symm.trans h
          obtain rfl := so1 h
          exact hk
        · replace h := (if_neg b35).symm.trans h
          refine V_iload X 4 dX1_weighPairs_153 rfl ?_
          refine V_aload_n X 0 dX1_weighPairs_155 rfl rfl ?_
          refine V_getr X (o := (0, 12, 0)) (i := (0, 15, 0)) (ci := 1) (k := 3) (N := 5) (T := TX1) (C := RX1) ⟨by decide, rfl⟩ rfl rfl rfl (by decide) (mBa inB_X1) (mB wl_RX1_18) dX1_weighPairs_156 ?_
          refine V_bipush X 8 dX1_weighPairs_159 (by decide) ?_
          refine V_iload_n X 2 dX1_weighPairs_161 rfl rfl ?_
          refine V_imul X dX1_weighPairs_162 ?_
          refine V_iload X 5 dX1_weighPairs_163 rfl ?_
          refine V_iadd X dX1_weighPairs_165 ?_
          obtain ⟨g37, h⟩ := gd_some h
          refine V_iald X ((8 * x24) + x30).toNatClampNeg rfl (o := (0, 15, 0)) (n := 64) ⟨by decide, rfl⟩ rfl rfl g37 dX1_weighPairs_166 ?_
          refine V_aload_n X 0 dX1_weighPairs_167 rfl rfl ?_
          refine V_getr X (o := (0, 12, 0)) (i := (0, 14, 0)) (ci := 1) (k := 2) (N := 5) (T := TX1) (C := RX1) ⟨by decide, rfl⟩ rfl rfl rfl (by decide) (mBa inB_X1) (mB wl_RX1_15) dX1_weighPairs_168 ?_
          refine V_iload X 3 dX1_weighPairs_171 rfl ?_
          refine V_iload X 5 dX1_weighPairs_173 rfl ?_
          refine V_callSNi X (As := [.int x30]) (M_X11_bit) ⟨va_cnB (host := "SlotCluster") 1 X.2.2.2.2.2.2.1 (gN wc_X11_bit) rfl rfl rfl (X.2.2.2.2.2.2.2.2.1 _ (List.mem_of_getElem? wn_RX1_38)) (X.2.2.2.2.2.2.1 (.initialized RX11) (mB win_RX11)) hd_X11_bit.2 ⟨Nat.le_of_ble_eq_true rfl, Nat.le_of_ble_eq_true rfl⟩, X.2.2.2.2.2.2.1 (.static yX11_bit) (mB wst_X11_bit), trivial⟩ rfl (Nat.le_of_ble_eq_true rfl) dX1_weighPairs_175 rfl ?_
          refine V_iconst X (-1) dX1_weighPairs_178 (by decide) ?_
          refine V_ixor X dX1_weighPairs_179 ?_
          refine V_iand X dX1_weighPairs_180 ?_
          obtain ⟨g38, h⟩ := gd_some h
          refine V_iald X (x25 &&& ((f_X11_bit x30) ^^^ (-1))).toNatClampNeg rfl (o := (0, 14, 0)) (n := 256) ⟨by decide, rfl⟩ rfl rfl g38 dX1_weighPairs_181 ?_
          refine V_iadd X dX1_weighPairs_182 ?_
          refine V_zmax X (ix := 80) (mB wm_RX1_80) (mB wst_Math_max) (mB win_Math) (mB wc_Math_max) (Nat.le_of_ble_eq_true rfl) (Nat.le_of_ble_eq_true rfl) dX1_weighPairs_183 ?_
          refine V_istore X [(5, .int (zmax x29 ((μ20 (0, 15, 0) ((8 * x24) + x30).toNatClampNeg) + (μ20 (0, 14, 0) (x25 &&& ((f_X11_bit x30) ^^^ (-1))).toNatClampNeg)))), (0, .ref (zad y (0, 12, 0))), (2, .int x19), (3, .int x24), (4, .int x25), (6, .int x30)] dX1_weighPairs_186 (by decide) rfl ?_
          refine zlt_el (P := fun (x39 : Int32) => V X μ20 188 [(5, .int x39), (0, .ref (zad y (0, 12, 0))), (2, .int x19), (3, .int x24), (4, .int x25), (6, .int x30)] []) h (fun x39 h => ?_)
          refine V_sub X [1, 2, 3, 4, 0, 5] (lv' := [(0, .ref (zad y (0, 12, 0))), (2, .int x19), (3, .int x24), (4, .int x25), (5, .int x39), (6, .int x30)]) rfl ?_
          obtain rfl := so1 h
          exact hk
  refine lp_ind (P := fun q => V X q.2 2 [(0, .ref (zad y (0, 12, 0))), (1, .ref (zad y (1, s1, 0))), (2, .int q.1)] []) (fun q z h hz => ?_) hl
  obtain ⟨x1, μ2⟩ := q
  replace h := un2_eq h
  show V X μ2 2 [(0, .ref (zad y (0, 12, 0))), (1, .ref (zad y (1, s1, 0))), (2, .int x1)] []
  refine V_iload_n X 2 dX1_weighPairs_2 rfl rfl ?_
  refine V_bipush X 8 dX1_weighPairs_3 (by decide) ?_
  refine V_icmp_ge X (tgt := 89) dX1_weighPairs_5 (by decide) (fun b4 => ?_) (fun b4 => ?_)
  · replace h := (if_pos b4).symm.trans h
    refine V_sub X [0] (lv' := [(0, .ref (zad y (0, 12, 0)))]) rfl ?_
    cases h
    obtain rfl := pr1 hz
    exact hk
  · replace h := (if_neg b4).symm.trans h
    refine V_iconst X 0 dX1_weighPairs_8 (by decide) ?_
    refine V_istore_n X [(3, .int 0), (0, .ref (zad y (0, 12, 0))), (1, .ref (zad y (1, s1, 0))), (2, .int x1)] dX1_weighPairs_9 rfl (by decide) rfl ?_
    refine V_sub X [1, 2, 3, 0] (lv' := [(0, .ref (zad y (0, 12, 0))), (1, .ref (zad y (1, s1, 0))), (2, .int x1), (3, .int 0)]) rfl ?_
    obtain ⟨μ7, hl, h⟩ := bd_some h
    have hk : V X μ7 83 [(0, .ref (zad y (0, 12, 0))), (1, .ref (zad y (1, s1, 0))), (2, .int x1)] [] := by
      clear hl
      refine V_inc X 2 1 [(2, .int (x1 + 1)), (0, .ref (zad y (0, 12, 0))), (1, .ref (zad y (1, s1, 0)))] dX1_weighPairs_83 rfl (by decide) (by decide) rfl ?_
      refine V_goto X (tgt := 2) dX1_weighPairs_86 (by decide) ?_
      refine V_sub X [1, 2, 0] (lv' := [(0, .ref (zad y (0, 12, 0))), (1, .ref (zad y (1, s1, 0))), (2, .int (x1 + 1))]) rfl ?_
      cases h
      exact hz
    refine lp_ind (P := fun q => V X q.2 10 [(0, .ref (zad y (0, 12, 0))), (1, .ref (zad y (1, s1, 0))), (2, .int x1), (3, .int q.1)] []) (fun q z h hz => ?_) hl
    obtain ⟨x5, μ6⟩ := q
    replace h := un2_eq h
    show V X μ6 10 [(0, .ref (zad y (0, 12, 0))), (1, .ref (zad y (1, s1, 0))), (2, .int x1), (3, .int x5)] []
    refine V_iload_n X 3 dX1_weighPairs_10 rfl rfl ?_
    refine V_bipush X 8 dX1_weighPairs_11 (by decide) ?_
    refine V_icmp_ge X (tgt := 83) dX1_weighPairs_13 (by decide) (fun b8 => ?_) (fun b8 => ?_)
    · replace h := (if_pos b8).symm.trans h
      refine V_sub X [0, 1, 2] (lv' := [(0, .ref (zad y (0, 12, 0))), (1, .ref (zad y (1, s1, 0))), (2, .int x1)]) rfl ?_
      cases h
      obtain rfl := pr1 hz
      exact hk
    · replace h := (if_neg b8).symm.trans h
      refine V_aload_n X 1 dX1_weighPairs_16 rfl rfl ?_
      refine V_getr X (o := (1, s1, 0)) (i := (2, s1, 0)) (ci := 7) (k := 0) (N := 11) (T := TX7) (C := RX7) ⟨hs1, rfl⟩ rfl rfl rfl (by decide) (mBa inB_X7) (mB wl_RX1_63) dX1_weighPairs_17 ?_
      refine V_iload_n X 2 dX1_weighPairs_20 rfl rfl ?_
      obtain ⟨g9, h⟩ := gd_some h
      refine V_aald X x1.toNatClampNeg rfl (o := (2, s1, 0)) ⟨hs1, rfl⟩ rfl rfl rfl rfl g9 dX1_weighPairs_21 ?_
      refine V_geti X (o := (3, s1, x1.toNatClampNeg)) (ci := 5) (k := 0) (N := 11) (T := TX5) (C := RX5) ⟨hs1, zin_lt g9⟩ rfl rfl rfl (by decide) (mBa inB_X5) (mB wl_RX1_72) dX1_weighPairs_22 ?_
      refine V_aload_n X 1 dX1_weighPairs_25 rfl rfl ?_
      refine V_getr X (o := (1, s1, 0)) (i := (2, s1, 0)) (ci := 7) (k := 0) (N := 11) (T := TX7) (C := RX7) ⟨hs1, rfl⟩ rfl rfl rfl (by decide) (mBa inB_X7) (mB wl_RX1_63) dX1_weighPairs_26 ?_
      refine V_iload_n X 3 dX1_weighPairs_29 rfl rfl ?_
      obtain ⟨g10, h⟩ := gd_some h
      refine V_aald X x5.toNatClampNeg rfl (o := (2, s1, 0)) ⟨hs1, rfl⟩ rfl rfl rfl rfl g10 dX1_weighPairs_30 ?_
      refine V_geti X (o := (3, s1, x5.toNatClampNeg)) (ci := 5) (k := 0) (N := 11) (T := TX5) (C := RX5) ⟨hs1, zin_lt g10⟩ rfl rfl rfl (by decide) (mBa inB_X5) (mB wl_RX1_72) dX1_weighPairs_31 ?_
      refine V_isub X dX1_weighPairs_34 ?_
      refine V_zabs X (ix := 75) (mB wm_RX1_75) (mB wst_Math_abs) (mB win_Math) (mB wc_Math_abs) (Nat.le_of_ble_eq_true rfl) (Nat.le_of_ble_eq_true rfl) dX1_weighPairs_35 ?_
      refine V_istore X [(4, .int (zabs ((μ6 (3, s1, x1.toNatClampNeg) 0) - (μ6 (3, s1, x5.toNatClampNeg) 0)))), (0, .ref (zad y (0, 12, 0))), (1, .ref (zad y (1, s1, 0))), (2, .int x1), (3, .int x5)] dX1_weighPairs_38 (by decide) rfl ?_
      refine zlt_el (P := fun (x11 : Int32) => V X μ6 40 [(4, .int x11), (0, .ref (zad y (0, 12, 0))), (1, .ref (zad y (1, s1, 0))), (2, .int x1), (3, .int x5)] []) h (fun x11 h => ?_)
      refine V_aload_n X 1 dX1_weighPairs_40 rfl rfl ?_
      refine V_getr X (o := (0, 12, 0)) (i := (0, 15, 0)) (ci := 1) (k := 3) (N := 5) (T := TX1) (C := RX1) ⟨by decide, rfl⟩ rfl rfl rfl (by decide) (mBa inB_X1) (mB wl_RX1_18) dX1_weighPairs_41 ?_
      refine V_bipush X 8 dX1_weighPairs_44 (by decide) ?_
      refine V_iload_n X 3 dX1_weighPairs_46 rfl rfl ?_
      refine V_imul X dX1_weighPairs_47 ?_
      refine V_iload_n X 4 dX1_weighPairs_48 rfl rfl ?_
      refine V_iadd X dX1_weighPairs_49 ?_
      refine V_aload_n X 1 dX1_weighPairs_50 rfl rfl ?_
      refine V_getr X (o := (0, 12, 0)) (i := (0, 13, 0)) (ci := 1) (k := 1) (N := 5) (T := TX1) (C := RX1) ⟨by decide, rfl⟩ rfl rfl rfl (by decide) (mBa inB_X1) (mB wl_RX1_9) dX1_weighPairs_51 ?_
      refine V_iload_n X 3 dX1_weighPairs_54 rfl rfl ?_
      refine V_iald X x1.toNatClampNeg rfl (o := (0, 13, 0)) (n := 8) ⟨by decide, rfl⟩ rfl rfl g9 dX1_weighPairs_55 ?_
      refine V_iload_n X 4 dX1_weighPairs_56 rfl rfl ?_
      obtain ⟨x13, c12, h⟩ := bd_some h
      refine V_callSNi X (As := [.int (μ6 (0, 13, 0) x1.toNatClampNeg), .int x5]) (M_X11_isIn c12) ⟨va_cnB (host := "SlotCluster") 2 X.2.2.2.2.2.2.1 (gN wc_X11_isIn) rfl rfl rfl (X.2.2.2.2.2.2.2.2.1 _ (List.mem_of_getElem? wn_RX1_31)) (X.2.2.2.2.2.2.1 (.initialized RX11) (mB win_RX11)) hd_X11_isIn.2 ⟨Nat.le_of_ble_eq_true rfl, Nat.le_of_ble_eq_true rfl⟩, X.2.2.2.2.2.2.1 (.static yX11_isIn) (mB wst_X11_isIn), trivial⟩ rfl (Nat.le_of_ble_eq_true rfl) dX1_weighPairs_57 rfl ?_
      obtain ⟨x15, h1, h⟩ := zl1_some h
      have hk : V X μ6 76 [(0, .ref (zad y (0, 12, 0))), (1, .ref (zad y (1, s1, 0))), (2, .int x1), (3, .int x5)] [.int x15, .int ((8 * x1) + x5), .ref (zad y (0, 15, 0))] := by
        clear h1
        obtain ⟨g16, h⟩ := gd_some h
        refine V_iast X ((8 * x1) + x5).toNatClampNeg rfl (o := (0, 15, 0)) (n := 64) ⟨by decide, rfl⟩ rfl rfl g16 dX1_weighPairs_76 ?_
        refine zlt_el (P := fun (μ17 : ZMem) => V X μ17 77 [(0, .ref (zad y (0, 12, 0))), (1, .ref (zad y (1, s1, 0))), (2, .int x1), (3, .int x5)] []) h (fun μ17 h => ?_)
        refine V_inc X 3 1 [(3, .int (x5 + 1)), (0, .ref (zad y (0, 12, 0))), (1, .ref (zad y (1, s1, 0))), (2, .int x1)] dX1_weighPairs_77 rfl (by decide) (by decide) rfl ?_
        refine V_goto X (tgt := 10) dX1_weighPairs_80 (by decide) ?_
        refine V_sub X [1, 2, 3, 0] (lv' := [(0, .ref (zad y (0, 12, 0))), (1, .ref (zad y (1, s1, 0))), (2, .int x1), (3, .int (x5 + 1))]) rfl ?_
        cases h
        exact hz
      replace h := h1
      clear h1
      refine V_if_eq X (tgt := 75) dX1_weighPairs_60 (by decide) (fun b14 => ?_) (fun b14 => ?_)
      · replace h := (if_pos b14).symm.trans h
        refine V_iconst X 0 dX1_weighPairs_75 (by decide) ?_
        refine V_sub X [1, 2, 3, 4] (lv' := [(0, .ref (zad y (0, 12, 0))), (1, .ref (zad y (1, s1, 0))), (2, .int x1), (3, .int x5)]) rfl ?_
        obtain rfl := pr1 h
        exact hk
      · replace h := (if_neg b14).symm.trans h
        refine V_iconst X 0 dX1_weighPairs_63 (by decide) ?_
        refine V_bipush X 100 dX1_weighPairs_64 (by decide) ?_
        refine V_iload X 0 dX1_weighPairs_66 rfl ?_
        refine V_isub X dX1_weighPairs_68 ?_
        refine V_zmax X (ix := 80) (mB wm_RX1_80) (mB wst_Math_max) (mB win_Math) (mB wc_Math_max) (Nat.le_of_ble_eq_true rfl) (Nat.le_of_ble_eq_true rfl) dX1_weighPairs_69 ?_
        refine V_goto X (tgt := 76) dX1_weighPairs_72 (by decide) ?_
        refine V_sub X [1, 2, 3, 4] (lv' := [(0, .ref (zad y (0, 12, 0))), (1, .ref (zad y (1, s1, 0))), (2, .int x1), (3, .int x5)]) rfl ?_
        obtain rfl := pr1 h
        exact hk

def f_X1_mostOfPairs (μ : ZMem) : Option (Int32) := gd (zin (256 - 1) 256) (some (μ (0, 14, 0) ((256 - 1) : Int32).toNatClampNeg))
set_option maxRecDepth 100000 in
set_option maxHeartbeats 4000000 in
theorem M_X1_mostOfPairs {l : Launch} {D : va_G} {y : ZLay}   {μ : ZMem} {r : Int32} (h : f_X1_mostOfPairs μ = some r) : MI l yX1_mostOfPairs wb_X1_mostOfPairs rm_X1_mostOfPairs D y [.ref (zad y (0, 12, 0))] μ r μ := by
  unfold f_X1_mostOfPairs at h
  refine MI_of RX1 [(0, .ref (zad y (0, 12, 0)))] (by decide) rfl rfl (Nat.le_of_ble_eq_true rfl) rfl ?_
  intro p e s m args below meth c A X
  refine V_aload_n X 0 dX1_mostOfPairs_0 rfl rfl ?_
  refine V_getr X (o := (0, 12, 0)) (i := (0, 14, 0)) (ci := 1) (k := 2) (N := 5) (T := TX1) (C := RX1) ⟨by decide, rfl⟩ rfl rfl rfl (by decide) (mBa inB_X1) (mB wl_RX1_15) dX1_mostOfPairs_1 ?_
  refine V_aload_n X 0 dX1_mostOfPairs_4 rfl rfl ?_
  refine V_getr X (o := (0, 12, 0)) (i := (0, 14, 0)) (ci := 1) (k := 2) (N := 5) (T := TX1) (C := RX1) ⟨by decide, rfl⟩ rfl rfl rfl (by decide) (mBa inB_X1) (mB wl_RX1_15) dX1_mostOfPairs_5 ?_
  refine V_alen X 256 (o := (0, 14, 0)) (n := 256) ⟨by decide, rfl⟩ rfl rfl (by decide) dX1_mostOfPairs_8 ?_
  refine V_iconst X 1 dX1_mostOfPairs_9 (by decide) ?_
  refine V_isub X dX1_mostOfPairs_10 ?_
  obtain ⟨g1, h⟩ := gd_some h
  refine V_iald X ((256 - 1) : Int32).toNatClampNeg rfl (o := (0, 14, 0)) (n := 256) ⟨by decide, rfl⟩ rfl rfl g1 dX1_mostOfPairs_11 ?_
  exact V_iretR X h dX1_mostOfPairs_12

def f_X1_firstPartner (a1 : Int32) (a2 : Int32) (μ : ZMem) : Option (Int32) := gd (zin (a1 ||| (f_X11_bit a2)) 256) (zlt (μ (0, 14, 0) (a1 ||| (f_X11_bit a2)).toNatClampNeg) (fun (x2 : Int32) => gd (zin a1 256) (if (μ (0, 14, 0) a1.toNatClampNeg) = x2 then some (-1) else zlt (a2 + 1) (fun (x5 : Int32) => bd (lp (σ := Int32) (fun (x6 : Int32) => if 8 ≤ x6 then some (.inr (.inl ())) else bd (f_X11_isIn a1 x6) (fun (x9 : Int32) => jk (some (.inl (x6 + 1))) (fun k11 => if x9 = 0 then k11 else gd (zin ((8 * a2) + x6) 64) (gd (zin (a1 &&& ((f_X11_bit x6) ^^^ (-1))) 256) (if ((μ (0, 15, 0) ((8 * a2) + x6).toNatClampNeg) + (μ (0, 14, 0) (a1 &&& ((f_X11_bit x6) ^^^ (-1))).toNatClampNeg)) = x2 then some (.inr (.inr x6)) else k11))))) FU x5) (fun z => sm z (fun (_ : Unit) => some (-1)) (fun r0 => some r0))))))
set_option maxRecDepth 100000 in
set_option maxHeartbeats 4000000 in
theorem M_X1_firstPartner {l : Launch} {D : va_G} {y : ZLay} {a1 : Int32} {a2 : Int32}  {μ : ZMem} {r : Int32} (h : f_X1_firstPartner a1 a2 μ = some r) : MI l yX1_firstPartner wb_X1_firstPartner rm_X1_firstPartner D y [.ref (zad y (0, 12, 0)), .int a1, .int a2] μ r μ := by
  unfold f_X1_firstPartner at h
  refine MI_of RX1 [(0, .ref (zad y (0, 12, 0))), (1, .int a1), (2, .int a2)] (by decide) rfl rfl (Nat.le_of_ble_eq_true rfl) rfl ?_
  intro p e s m args below meth c A X
  refine V_aload_n X 0 dX1_firstPartner_0 rfl rfl ?_
  refine V_getr X (o := (0, 12, 0)) (i := (0, 14, 0)) (ci := 1) (k := 2) (N := 5) (T := TX1) (C := RX1) ⟨by decide, rfl⟩ rfl rfl rfl (by decide) (mBa inB_X1) (mB wl_RX1_15) dX1_firstPartner_1 ?_
  refine V_iload_n X 1 dX1_firstPartner_4 rfl rfl ?_
  refine V_iload_n X 2 dX1_firstPartner_5 rfl rfl ?_
  refine V_callSNi X (As := [.int a2]) (M_X11_bit) ⟨va_cnB (host := "SlotCluster") 1 X.2.2.2.2.2.2.1 (gN wc_X11_bit) rfl rfl rfl (X.2.2.2.2.2.2.2.2.1 _ (List.mem_of_getElem? wn_RX1_38)) (X.2.2.2.2.2.2.1 (.initialized RX11) (mB win_RX11)) hd_X11_bit.2 ⟨Nat.le_of_ble_eq_true rfl, Nat.le_of_ble_eq_true rfl⟩, X.2.2.2.2.2.2.1 (.static yX11_bit) (mB wst_X11_bit), trivial⟩ rfl (Nat.le_of_ble_eq_true rfl) dX1_firstPartner_6 rfl ?_
  refine V_ior X dX1_firstPartner_9 ?_
  obtain ⟨g1, h⟩ := gd_some h
  refine V_iald X (a1 ||| (f_X11_bit a2)).toNatClampNeg rfl (o := (0, 14, 0)) (n := 256) ⟨by decide, rfl⟩ rfl rfl g1 dX1_firstPartner_10 ?_
  refine V_istore_n X [(3, .int (μ (0, 14, 0) (a1 ||| (f_X11_bit a2)).toNatClampNeg)), (0, .ref (zad y (0, 12, 0))), (1, .int a1), (2, .int a2)] dX1_firstPartner_11 rfl (by decide) rfl ?_
  refine zlt_el (P := fun (x2 : Int32) => V X μ 12 [(3, .int x2), (0, .ref (zad y (0, 12, 0))), (1, .int a1), (2, .int a2)] []) h (fun x2 h => ?_)
  refine V_aload_n X 1 dX1_firstPartner_12 rfl rfl ?_
  refine V_getr X (o := (0, 12, 0)) (i := (0, 14, 0)) (ci := 1) (k := 2) (N := 5) (T := TX1) (C := RX1) ⟨by decide, rfl⟩ rfl rfl rfl (by decide) (mBa inB_X1) (mB wl_RX1_15) dX1_firstPartner_13 ?_
  refine V_iload_n X 2 dX1_firstPartner_16 rfl rfl ?_
  obtain ⟨g3, h⟩ := gd_some h
  refine V_iald X a1.toNatClampNeg rfl (o := (0, 14, 0)) (n := 256) ⟨by decide, rfl⟩ rfl rfl g3 dX1_firstPartner_17 ?_
  refine V_iload_n X 0 dX1_firstPartner_18 rfl rfl ?_
  refine V_icmp_ne X (tgt := 24) dX1_firstPartner_19 (by decide) (fun b4 => ?_) (fun b4 => ?_)
  · replace h := (if_neg b4).symm.trans h
    refine V_iload_n X 3 dX1_firstPartner_24 rfl rfl ?_
    refine V_iconst X 1 dX1_firstPartner_25 (by decide) ?_
    refine V_iadd X dX1_firstPartner_26 ?_
    refine V_istore X [(4, .int (a2 + 1)), (3, .int x2), (0, .ref (zad y (0, 12, 0))), (1, .int a1), (2, .int a2)] dX1_firstPartner_27 (by decide) rfl ?_
    refine zlt_el (P := fun (x5 : Int32) => V X μ 29 [(4, .int x5), (3, .int x2), (0, .ref (zad y (0, 12, 0))), (1, .int a1), (2, .int a2)] []) h (fun x5 h => ?_)
    refine V_sub X [2, 3, 4, 1, 0] (lv' := [(0, .ref (zad y (0, 12, 0))), (1, .int a1), (2, .int a2), (3, .int x2), (4, .int x5)]) rfl ?_
    obtain ⟨zz, hl, h⟩ := bd_some h
    have hk : ∀ (_ : Unit), .inl () = zz → V X μ 85 [] [] := by
      intro _ hzz
      subst hzz
      clear hl
      replace h := sm_l h
      refine V_iconst X (-1) dX1_firstPartner_85 (by decide) ?_
      exact V_iretR X h dX1_firstPartner_86
    have hr : ∀ r0, .inr r0 = zz → some r0 = some r := by
      intro r0 hzz
      subst hzz
      exact h
    refine lp_ind (P := fun (x6 : Int32) => V X μ 29 [(0, .ref (zad y (0, 12, 0))), (1, .int a1), (2, .int a2), (3, .int x2), (4, .int x6)] []) (fun q z h hz => ?_) hl
    obtain ⟨x6, hq⟩ : ∃ x, x = q := ⟨q, rfl⟩
    subst hq
    show V X μ 29 [(0, .ref (zad y (0, 12, 0))), (1, .int a1), (2, .int a2), (3, .int x2), (4, .int x6)] []
    refine V_iload X 4 dX1_firstPartner_29 rfl ?_
    refine V_bipush X 8 dX1_firstPartner_31 (by decide) ?_
    refine V_icmp_ge X (tgt := 85) dX1_firstPartner_33 (by decide) (fun b7 => ?_) (fun b7 => ?_)
    · replace h := (if_pos b7).symm.trans h
      refine V_sub X [] (lv' := []) rfl ?_
      cases h
      exact hk () hz
    · replace h := (if_neg b7).symm.trans h
      refine V_iload_n X 1 dX1_firstPartner_36 rfl rfl ?_
      refine V_iload X 4 dX1_firstPartner_37 rfl ?_
      obtain ⟨x9, c8, h⟩ := bd_some h
      refine V_callSNi X (As := [.int a1, .int x6]) (M_X11_isIn c8) ⟨va_cnB (host := "SlotCluster") 2 X.2.2.2.2.2.2.1 (gN wc_X11_isIn) rfl rfl rfl (X.2.2.2.2.2.2.2.2.1 _ (List.mem_of_getElem? wn_RX1_31)) (X.2.2.2.2.2.2.1 (.initialized RX11) (mB win_RX11)) hd_X11_isIn.2 ⟨Nat.le_of_ble_eq_true rfl, Nat.le_of_ble_eq_true rfl⟩, X.2.2.2.2.2.2.1 (.static yX11_isIn) (mB wst_X11_isIn), trivial⟩ rfl (Nat.le_of_ble_eq_true rfl) dX1_firstPartner_39 rfl ?_
      refine jk0_el (P := V X μ 79 [(0, .ref (zad y (0, 12, 0))), (1, .int a1), (2, .int a2), (3, .int x2), (4, .int x6)] []) h (fun h => ?_) (fun k11 hk11 h => ?_)
      · refine V_inc X 4 1 [(4, .int (x6 + 1)), (0, .ref (zad y (0, 12, 0))), (1, .int a1), (2, .int a2), (3, .int x2)] dX1_firstPartner_79 rfl (by decide) (by decide) rfl ?_
        refine V_goto X (tgt := 29) dX1_firstPartner_82 (by decide) ?_
        refine V_sub X [1, 2, 3, 4, 0] (lv' := [(0, .ref (zad y (0, 12, 0))), (1, .int a1), (2, .int a2), (3, .int x2), (4, .int (x6 + 1))]) rfl ?_
        cases h
        exact hz
      · refine V_if_eq X (tgt := 79) dX1_firstPartner_42 (by decide) (fun b10 => ?_) (fun b10 => ?_)
        · replace h := (if_pos b10).symm.trans h
          exact hk11 h
        · replace h := (if_neg b10).symm.trans h
          refine V_aload_n X 0 dX1_firstPartner_45 rfl rfl ?_
          refine V_getr X (o := (0, 12, 0)) (i := (0, 15, 0)) (ci := 1) (k := 3) (N := 5) (T := TX1) (C := RX1) ⟨by decide, rfl⟩ rfl rfl rfl (by decide) (mBa inB_X1) (mB wl_RX1_18) dX1_firstPartner_46 ?_
          refine V_bipush X 8 dX1_firstPartner_49 (by decide) ?_
          refine V_iload_n X 2 dX1_firstPartner_51 rfl rfl ?_
          refine V_imul X dX1_firstPartner_52 ?_
          refine V_iload X 4 dX1_firstPartner_53 rfl ?_
          refine V_iadd X dX1_firstPartner_55 ?_
          obtain ⟨g12, h⟩ := gd_some h
          refine V_iald X ((8 * a2) + x6).toNatClampNeg rfl (o := (0, 15, 0)) (n := 64) ⟨by decide, rfl⟩ rfl rfl g12 dX1_firstPartner_56 ?_
          refine V_aload_n X 0 dX1_firstPartner_57 rfl rfl ?_
          refine V_getr X (o := (0, 12, 0)) (i := (0, 14, 0)) (ci := 1) (k := 2) (N := 5) (T := TX1) (C := RX1) ⟨by decide, rfl⟩ rfl rfl rfl (by decide) (mBa inB_X1) (mB wl_RX1_15) dX1_firstPartner_58 ?_
          refine V_iload_n X 1 dX1_firstPartner_61 rfl rfl ?_
          refine V_iload X 4 dX1_firstPartner_62 rfl ?_
          refine V_callSNi X (As := [.int x6]) (M_X11_bit) ⟨va_cnB (host := "SlotCluster") 1 X.2.2.2.2.2.2.1 (gN wc_X11_bit) rfl rfl rfl (X.2.2.2.2.2.2.2.2.1 _ (List.mem_of_getElem? wn_RX1_38)) (X.2.2.2.2.2.2.1 (.initialized RX11) (mB win_RX11)) hd_X11_bit.2 ⟨Nat.le_of_ble_eq_true rfl, Nat.le_of_ble_eq_true rfl⟩, X.2.2.2.2.2.2.1 (.static yX11_bit) (mB wst_X11_bit), trivial⟩ rfl (Nat.le_of_ble_eq_true rfl) dX1_firstPartner_64 rfl ?_
          refine V_iconst X (-1) dX1_firstPartner_67 (by decide) ?_
          refine V_ixor X dX1_firstPartner_68 ?_
          refine V_iand X dX1_firstPartner_69 ?_
          obtain ⟨g13, h⟩ := gd_some h
          refine V_iald X (a1 &&& ((f_X11_bit x6) ^^^ (-1))).toNatClampNeg rfl (o := (0, 14, 0)) (n := 256) ⟨by decide, rfl⟩ rfl rfl g13 dX1_firstPartner_70 ?_
          refine V_iadd X dX1_firstPartner_71 ?_
          refine V_iload_n X 3 dX1_firstPartner_72 rfl rfl ?_
          refine V_icmp_ne X (tgt := 79) dX1_firstPartner_73 (by decide) (fun b14 => ?_) (fun b14 => ?_)
          · replace h := (if_neg b14).symm.trans h
            exact hk11 h
          · replace h := (if_pos b14).symm.trans h
            refine V_iload X 4 dX1_firstPartner_76 rfl ?_
            cases h
            have h := hr _ hz
            exact V_iretR X h dX1_firstPartner_78
  · replace h := (if_pos b4).symm.trans h
    refine V_iconst X (-1) dX1_firstPartner_22 (by decide) ?_
    exact V_iretR X h dX1_firstPartner_23

def f_X1_partnerOf (a1 : Int32) (μ : ZMem) : Option (Int32) := zlt (256 - 1) (fun (x1 : Int32) => bd (lp (σ := Int32 × Int32) (fun q => un2 q (fun (x2 : Int32) (x3 : Int32) => if 8 ≤ x3 then some (.inr (.inl ())) else bd (f_X11_isIn x2 x3) (fun (x6 : Int32) => jk (fun (x8 : Int32) => some (.inl (x8, (x3 + 1)))) (fun k9 => if x6 = 0 then k9 x2 else zlt (x2 &&& ((f_X11_bit x3) ^^^ (-1))) (fun (x10 : Int32) => bd (f_X1_firstPartner x10 x3 μ) (fun (x12 : Int32) => jk (zlt (α := Int32) (if x3 = a1 then x12 else x3) (fun (x20 : Int32) => some (.inr (.inr x20)))) (fun k14 => if x3 = a1 then k14 else if x12 = a1 then k14 else zlt (α := Int32) (if x12 = (-1) then x10 else ((f_X11_bit x12) ^^^ (-1))) (fun (x17 : Int32) => zlt (x10 &&& x17) (fun (x18 : Int32) => k9 x18))))))))) FU (x1, 0)) (fun z => sm z (fun (_ : Unit) => some (-1)) (fun r0 => some r0)))
set_option maxRecDepth 100000 in
set_option maxHeartbeats 4000000 in
theorem M_X1_partnerOf {l : Launch} {D : va_G} {y : ZLay} {a1 : Int32}  {μ : ZMem} {r : Int32} (h : f_X1_partnerOf a1 μ = some r) : MI l yX1_partnerOf wb_X1_partnerOf rm_X1_partnerOf D y [.ref (zad y (0, 12, 0)), .int a1] μ r μ := by
  unfold f_X1_partnerOf at h
  refine MI_of RX1 [(0, .ref (zad y (0, 12, 0))), (1, .int a1)] (by decide) rfl rfl (Nat.le_of_ble_eq_true rfl) rfl ?_
  intro p e s m args below meth c A X
  refine V_aload_n X 0 dX1_partnerOf_0 rfl rfl ?_
  refine V_getr X (o := (0, 12, 0)) (i := (0, 14, 0)) (ci := 1) (k := 2) (N := 5) (T := TX1) (C := RX1) ⟨by decide, rfl⟩ rfl rfl rfl (by decide) (mBa inB_X1) (mB wl_RX1_15) dX1_partnerOf_1 ?_
  refine V_alen X 256 (o := (0, 14, 0)) (n := 256) ⟨by decide, rfl⟩ rfl rfl (by decide) dX1_partnerOf_4 ?_
  refine V_iconst X 1 dX1_partnerOf_5 (by decide) ?_
  refine V_isub X dX1_partnerOf_6 ?_
  refine V_istore_n X [(2, .int (256 - 1)), (0, .ref (zad y (0, 12, 0))), (1, .int a1)] dX1_partnerOf_7 rfl (by decide) rfl ?_
  refine zlt_el (P := fun (x1 : Int32) => V X μ 8 [(2, .int x1), (0, .ref (zad y (0, 12, 0))), (1, .int a1)] []) h (fun x1 h => ?_)
  refine V_iconst X 0 dX1_partnerOf_8 (by decide) ?_
  refine V_istore_n X [(3, .int 0), (2, .int x1), (0, .ref (zad y (0, 12, 0))), (1, .int a1)] dX1_partnerOf_9 rfl (by decide) rfl ?_
  refine V_sub X [2, 3, 1, 0] (lv' := [(0, .ref (zad y (0, 12, 0))), (1, .int a1), (2, .int x1), (3, .int 0)]) rfl ?_
  obtain ⟨zz, hl, h⟩ := bd_some h
  have hk : ∀ (_ : Unit), .inl () = zz → V X μ 90 [] [] := by
    intro _ hzz
    subst hzz
    clear hl
    replace h := sm_l h
    refine V_iconst X (-1) dX1_partnerOf_90 (by decide) ?_
    exact V_iretR X h dX1_partnerOf_91
  have hr : ∀ r0, .inr r0 = zz → some r0 = some r := by
    intro r0 hzz
    subst hzz
    exact h
  refine lp_ind (P := fun q => V X μ 10 [(0, .ref (zad y (0, 12, 0))), (1, .int a1), (2, .int q.1), (3, .int q.2)] []) (fun q z h hz => ?_) hl
  obtain ⟨x2, x3⟩ := q
  replace h := un2_eq h
  show V X μ 10 [(0, .ref (zad y (0, 12, 0))), (1, .int a1), (2, .int x2), (3, .int x3)] []
  refine V_iload_n X 3 dX1_partnerOf_10 rfl rfl ?_
  refine V_bipush X 8 dX1_partnerOf_11 (by decide) ?_
  refine V_icmp_ge X (tgt := 90) dX1_partnerOf_13 (by decide) (fun b4 => ?_) (fun b4 => ?_)
  · replace h := (if_pos b4).symm.trans h
    refine V_sub X [] (lv' := []) rfl ?_
    cases h
    exact hk () hz
  · replace h := (if_neg b4).symm.trans h
    refine V_iload_n X 2 dX1_partnerOf_16 rfl rfl ?_
    refine V_iload_n X 3 dX1_partnerOf_17 rfl rfl ?_
    obtain ⟨x6, c5, h⟩ := bd_some h
    refine V_callSNi X (As := [.int x2, .int x3]) (M_X11_isIn c5) ⟨va_cnB (host := "SlotCluster") 2 X.2.2.2.2.2.2.1 (gN wc_X11_isIn) rfl rfl rfl (X.2.2.2.2.2.2.2.2.1 _ (List.mem_of_getElem? wn_RX1_31)) (X.2.2.2.2.2.2.1 (.initialized RX11) (mB win_RX11)) hd_X11_isIn.2 ⟨Nat.le_of_ble_eq_true rfl, Nat.le_of_ble_eq_true rfl⟩, X.2.2.2.2.2.2.1 (.static yX11_isIn) (mB wst_X11_isIn), trivial⟩ rfl (Nat.le_of_ble_eq_true rfl) dX1_partnerOf_18 rfl ?_
    refine jk1_el (P := fun (x8 : Int32) => V X μ 84 [(0, .ref (zad y (0, 12, 0))), (1, .int a1), (2, .int x8), (3, .int x3)] []) h (fun x8 h => ?_) (fun k9 hk9 h => ?_)
    · refine V_inc X 3 1 [(3, .int (x3 + 1)), (0, .ref (zad y (0, 12, 0))), (1, .int a1), (2, .int x8)] dX1_partnerOf_84 rfl (by decide) (by decide) rfl ?_
      refine V_goto X (tgt := 10) dX1_partnerOf_87 (by decide) ?_
      refine V_sub X [1, 2, 3, 0] (lv' := [(0, .ref (zad y (0, 12, 0))), (1, .int a1), (2, .int x8), (3, .int (x3 + 1))]) rfl ?_
      cases h
      exact hz
    · refine V_if_eq X (tgt := 84) dX1_partnerOf_21 (by decide) (fun b7 => ?_) (fun b7 => ?_)
      · replace h := (if_pos b7).symm.trans h
        exact hk9 _ h
      · replace h := (if_neg b7).symm.trans h
        refine V_iload_n X 2 dX1_partnerOf_24 rfl rfl ?_
        refine V_iload_n X 3 dX1_partnerOf_25 rfl rfl ?_
        refine V_callSNi X (As := [.int x3]) (M_X11_bit) ⟨va_cnB (host := "SlotCluster") 1 X.2.2.2.2.2.2.1 (gN wc_X11_bit) rfl rfl rfl (X.2.2.2.2.2.2.2.2.1 _ (List.mem_of_getElem? wn_RX1_38)) (X.2.2.2.2.2.2.1 (.initialized RX11) (mB win_RX11)) hd_X11_bit.2 ⟨Nat.le_of_ble_eq_true rfl, Nat.le_of_ble_eq_true rfl⟩, X.2.2.2.2.2.2.1 (.static yX11_bit) (mB wst_X11_bit), trivial⟩ rfl (Nat.le_of_ble_eq_true rfl) dX1_partnerOf_26 rfl ?_
        refine V_iconst X (-1) dX1_partnerOf_29 (by decide) ?_
        refine V_ixor X dX1_partnerOf_30 ?_
        refine V_iand X dX1_partnerOf_31 ?_
        refine V_istore_n X [(2, .int (x2 &&& ((f_X11_bit x3) ^^^ (-1)))), (0, .ref (zad y (0, 12, 0))), (1, .int a1), (3, .int x3)] dX1_partnerOf_32 rfl (by decide) rfl ?_
        refine zlt_el (P := fun (x10 : Int32) => V X μ 33 [(2, .int x10), (0, .ref (zad y (0, 12, 0))), (1, .int a1), (3, .int x3)] []) h (fun x10 h => ?_)
        refine V_aload_n X 1 dX1_partnerOf_33 rfl rfl ?_
        refine V_iload_n X 0 dX1_partnerOf_34 rfl rfl ?_
        refine V_iload_n X 3 dX1_partnerOf_35 rfl rfl ?_
        obtain ⟨x12, c11, h⟩ := bd_some h
        refine V_callVi X (As := [.int x10, .int x3]) (M_X1_firstPartner c11) (cwV 2 X.2.2.2.2.2.2.1 (gV wm_RX1_87 wi_X1_firstPartner wse_X1_firstPartner win_RX1 wc_X1_firstPartner) rfl rfl rfl hd_X1_firstPartner ⟨Nat.le_of_ble_eq_true rfl, Nat.le_of_ble_eq_true rfl⟩) (b := (0, 12, 0)) ⟨by decide, rfl⟩ rfl rfl rfl rfl (Nat.le_of_ble_eq_true rfl) dX1_partnerOf_36 rfl ?_
        refine V_istore X [(4, .int x12), (2, .int x10), (0, .ref (zad y (0, 12, 0))), (1, .int a1), (3, .int x3)] dX1_partnerOf_39 (by decide) rfl ?_
        refine V_iload_n X 4 dX1_partnerOf_41 rfl rfl ?_
        refine V_iload_n X 3 dX1_partnerOf_42 rfl rfl ?_
        refine jk0_el (P := V X μ 52 [(1, .int a1), (3, .int x3), (4, .int x12)] []) h (fun h => ?_) (fun k14 hk14 h => ?_)
        · refine V_iload_n X 1 dX1_partnerOf_52 rfl rfl ?_
          refine V_iload_n X 0 dX1_partnerOf_53 rfl rfl ?_
          obtain ⟨x20, h1, h⟩ := zl1_some h
          have hk : V X μ 63 [] [.int x20] := by
            clear h1
            cases h
            have h := hr _ hz
            exact V_iretR X h dX1_partnerOf_63
          replace h := h1
          clear h1
          refine V_icmp_ne X (tgt := 62) dX1_partnerOf_54 (by decide) (fun b19 => ?_) (fun b19 => ?_)
          · replace h := (if_neg b19).symm.trans h
            refine V_iload_n X 1 dX1_partnerOf_62 rfl rfl ?_
            refine V_sub X [] (lv' := []) rfl ?_
            obtain rfl := pr1 h
            exact hk
          · replace h := (if_pos b19).symm.trans h
            refine V_iload X 2 dX1_partnerOf_57 rfl ?_
            refine V_goto X (tgt := 63) dX1_partnerOf_59 (by decide) ?_
            refine V_sub X [] (lv' := []) rfl ?_
            obtain rfl := pr1 h
            exact hk
        · refine V_icmp_eq X (tgt := 52) dX1_partnerOf_43 (by decide) (fun b13 => ?_) (fun b13 => ?_)
          · replace h := (if_pos b13).symm.trans h
            refine V_sub X [3, 4, 0] (lv' := [(1, .int a1), (3, .int x3), (4, .int x12)]) rfl ?_
            exact hk14 h
          · replace h := (if_neg b13).symm.trans h
            refine V_iload X 0 dX1_partnerOf_46 rfl ?_
            refine V_iload_n X 3 dX1_partnerOf_48 rfl rfl ?_
            refine V_icmp_ne X (tgt := 64) dX1_partnerOf_49 (by decide) (fun b15 => ?_) (fun b15 => ?_)
            · replace h := (if_neg b15).symm.trans h
              refine V_iload_n X 1 dX1_partnerOf_64 rfl rfl ?_
              refine V_iload X 0 dX1_partnerOf_65 rfl ?_
              refine V_iconst X (-1) dX1_partnerOf_67 (by decide) ?_
              obtain ⟨x17, h1, h⟩ := zl1_some h
              have hk : V X μ 82 [(0, .ref (zad y (0, 12, 0))), (1, .int a1), (3, .int x3)] [.int x17, .int x10] := by
                clear h1
                refine V_iand X dX1_partnerOf_82 ?_
                refine V_istore_n X [(2, .int (x10 &&& x17)), (0, .ref (zad y (0, 12, 0))), (1, .int a1), (3, .int x3)] dX1_partnerOf_83 rfl (by decide) rfl ?_
                refine zlt_el (P := fun (x18 : Int32) => V X μ 84 [(2, .int x18), (0, .ref (zad y (0, 12, 0))), (1, .int a1), (3, .int x3)] []) h (fun x18 h => ?_)
                refine V_sub X [1, 2, 0, 3] (lv' := [(0, .ref (zad y (0, 12, 0))), (1, .int a1), (2, .int x18), (3, .int x3)]) rfl ?_
                exact hk9 _ h
              replace h := h1
              clear h1
              refine V_icmp_ne X (tgt := 75) dX1_partnerOf_68 (by decide) (fun b16 => ?_) (fun b16 => ?_)
              · replace h := (if_neg b16).symm.trans h
                refine V_iload X 0 dX1_partnerOf_75 rfl ?_
                refine V_callSNi X (As := [.int x12]) (M_X11_bit) ⟨va_cnB (host := "SlotCluster") 1 X.2.2.2.2.2.2.1 (gN wc_X11_bit) rfl rfl rfl (X.2.2.2.2.2.2.2.2.1 _ (List.mem_of_getElem? wn_RX1_38)) (X.2.2.2.2.2.2.1 (.initialized RX11) (mB win_RX11)) hd_X11_bit.2 ⟨Nat.le_of_ble_eq_true rfl, Nat.le_of_ble_eq_true rfl⟩, X.2.2.2.2.2.2.1 (.static yX11_bit) (mB wst_X11_bit), trivial⟩ rfl (Nat.le_of_ble_eq_true rfl) dX1_partnerOf_77 rfl ?_
                refine V_iconst X (-1) dX1_partnerOf_80 (by decide) ?_
                refine V_ixor X dX1_partnerOf_81 ?_
                refine V_sub X [2, 3, 4] (lv' := [(0, .ref (zad y (0, 12, 0))), (1, .int a1), (3, .int x3)]) rfl ?_
                obtain rfl := pr1 h
                exact hk
              · replace h := (if_pos b16).symm.trans h
                refine V_iload_n X 1 dX1_partnerOf_71 rfl rfl ?_
                refine V_goto X (tgt := 82) dX1_partnerOf_72 (by decide) ?_
                refine V_sub X [2, 3, 4] (lv' := [(0, .ref (zad y (0, 12, 0))), (1, .int a1), (3, .int x3)]) rfl ?_
                obtain rfl := pr1 h
                exact hk
            · replace h := (if_pos b15).symm.trans h
              refine V_sub X [3, 4, 0] (lv' := [(1, .int a1), (3, .int x3), (4, .int x12)]) rfl ?_
              exact hk14 h

def f_X2_clockOf (a0 : Int32) (a1 : Int32) : Int32 := (((a0 / 19) - 40) + (((zrem a0 19) - 9) * a1))
set_option maxRecDepth 100000 in
set_option maxHeartbeats 4000000 in
theorem M_X2_clockOf {l : Launch} {D : va_G} {y : ZLay} {a0 : Int32} {a1 : Int32}  {μ : ZMem} : MI l yX2_clockOf wb_X2_clockOf rm_X2_clockOf D y [.int a0, .int a1] μ (f_X2_clockOf a0 a1) μ := by
  obtain ⟨r, h⟩ : ∃ r, f_X2_clockOf a0 a1 = r := ⟨_, rfl⟩
  rw [h]
  unfold f_X2_clockOf at h
  refine MI_of RX2 [(0, .int a0), (1, .int a1)] (by decide) rfl rfl (Nat.le_of_ble_eq_true rfl) rfl ?_
  intro p e s m args below meth c A X
  refine V_iload_n X 0 dX2_clockOf_0 rfl rfl ?_
  refine V_bipush X 19 dX2_clockOf_1 (by decide) ?_
  refine V_idiv X dX2_clockOf_3 (by decide) ?_
  refine V_bipush X 40 dX2_clockOf_4 (by decide) ?_
  refine V_isub X dX2_clockOf_6 ?_
  refine V_iload_n X 0 dX2_clockOf_7 rfl rfl ?_
  refine V_bipush X 19 dX2_clockOf_8 (by decide) ?_
  refine V_rem X dX2_clockOf_10 (by decide) ?_
  refine V_bipush X 9 dX2_clockOf_11 (by decide) ?_
  refine V_isub X dX2_clockOf_13 ?_
  refine V_iload_n X 1 dX2_clockOf_14 rfl rfl ?_
  refine V_imul X dX2_clockOf_15 ?_
  refine V_iadd X dX2_clockOf_16 ?_
  exact V_iretT X h dX2_clockOf_17

def f_X2_weighCourses (y : ZLay) (o1 : ZId) (a2 : Int32) (μ : ZMem) : Option (ZMem) := zlt (mset μ (0, 17, 0) 2 1539) (fun (μ1 : ZMem) => bd (lp (σ := Int32 × ZMem) (fun q => un2 q (fun (x2 : Int32) (μ3 : ZMem) => if (μ3 (0, 17, 0) 2) ≤ x2 then some (.inr μ3) else gd (zin x2 1539) (zlt (mset μ3 (0, 18, 0) x2.toNatClampNeg 0) (fun (μ7 : ZMem) => bd (lp (σ := Int32 × ZMem) (fun q => un2 q (fun (x8 : Int32) (μ9 : ZMem) => if a2 ≤ x8 then some (.inr μ9) else if (Int32.ofNat (zlen y o1)) ≤ ((2 * x8) + 1) then some (.inr μ9) else gd (zin (2 * x8) (zlen y o1)) (gd (zin ((2 * x8) + 1) (zlen y o1)) (zlt (α := ZMem) (if (f_X2_clockOf x2 (μ9 o1 (2 * x8).toNatClampNeg)) = ((μ9 o1 ((2 * x8) + 1).toNatClampNeg) - 128) then μ9 else zlt (mset μ9 (0, 18, 0) x2.toNatClampNeg ((μ9 (0, 18, 0) x2.toNatClampNeg) + 1)) (fun (μ17 : ZMem) => μ17)) (fun (μ16 : ZMem) => some (.inl ((x8 + 1), μ16))))))) FU (0, μ7)) (fun (μ10 : ZMem) => some (.inl ((x2 + 1), μ10))))))) FU (0, μ1)) (fun (μ4 : ZMem) => some μ4))
set_option maxRecDepth 100000 in
set_option maxHeartbeats 4000000 in
theorem M_X2_weighCourses {l : Launch} {D : va_G} {y : ZLay} {o1 : ZId} {a2 : Int32} (ho1 : okI y o1) (hz1 : zisI o1 = true) {μ : ZMem} {μ0 : ZMem} (h : f_X2_weighCourses y o1 a2 μ = some μ0) : MV l yX2_weighCourses wb_X2_weighCourses rm_X2_weighCourses D y [.ref (zad y (0, 17, 0)), .ref (zad y o1), .int a2] μ μ0 := by
  unfold f_X2_weighCourses at h
  refine MV_of RX2 [(0, .ref (zad y (0, 17, 0))), (1, .ref (zad y o1)), (2, .int a2)] (by decide) rfl rfl (Nat.le_of_ble_eq_true rfl) rfl ?_
  intro p e s m args below meth c A X
  refine V_aload_n X 0 dX2_weighCourses_0 rfl rfl ?_
  refine V_sipush X 1539 dX2_weighCourses_1 (by decide) ?_
  refine V_puti X tyX2 .int (o := (0, 17, 0)) (ci := 2) (k := 2) (N := 3) (T := TX2) (C := RX2) ⟨by decide, rfl⟩ rfl rfl rfl (by decide) (mBa inB_X2) tyX2_ok nmX2 (mB wl_RX2_18) rfl rfl rfl rfl dX2_weighCourses_4 ?_
  refine zlt_el (P := fun (μ1 : ZMem) => V X μ1 7 [(0, .ref (zad y (0, 17, 0))), (1, .ref (zad y o1)), (2, .int a2)] []) h (fun μ1 h => ?_)
  refine V_iconst X 0 dX2_weighCourses_7 (by decide) ?_
  refine V_istore_n X [(3, .int 0), (0, .ref (zad y (0, 17, 0))), (1, .ref (zad y o1)), (2, .int a2)] dX2_weighCourses_8 rfl (by decide) rfl ?_
  refine V_sub X [1, 2, 3, 0] (lv' := [(0, .ref (zad y (0, 17, 0))), (1, .ref (zad y o1)), (2, .int a2), (3, .int 0)]) rfl ?_
  obtain ⟨μ4, hl, h⟩ := bd_some h
  have hk : V X μ4 91 [] [] := by
    clear hl
    exact V_vretW X h dX2_weighCourses_91
  refine lp_ind (P := fun q => V X q.2 9 [(0, .ref (zad y (0, 17, 0))), (1, .ref (zad y o1)), (2, .int a2), (3, .int q.1)] []) (fun q z h hz => ?_) hl
  obtain ⟨x2, μ3⟩ := q
  replace h := un2_eq h
  show V X μ3 9 [(0, .ref (zad y (0, 17, 0))), (1, .ref (zad y o1)), (2, .int a2), (3, .int x2)] []
  refine V_iload_n X 3 dX2_weighCourses_9 rfl rfl ?_
  refine V_aload_n X 0 dX2_weighCourses_10 rfl rfl ?_
  refine V_geti X (o := (0, 17, 0)) (ci := 2) (k := 2) (N := 3) (T := TX2) (C := RX2) ⟨by decide, rfl⟩ rfl rfl rfl (by decide) (mBa inB_X2) (mB wl_RX2_18) dX2_weighCourses_11 ?_
  refine V_icmp_ge X (tgt := 91) dX2_weighCourses_14 (by decide) (fun b5 => ?_) (fun b5 => ?_)
  · replace h := (if_pos b5).symm.trans h
    refine V_sub X [] (lv' := []) rfl ?_
    cases h
    obtain rfl := pr1 hz
    exact hk
  · replace h := (if_neg b5).symm.trans h
    refine V_aload_n X 0 dX2_weighCourses_17 rfl rfl ?_
    refine V_getr X (o := (0, 17, 0)) (i := (0, 18, 0)) (ci := 2) (k := 0) (N := 3) (T := TX2) (C := RX2) ⟨by decide, rfl⟩ rfl rfl rfl (by decide) (mBa inB_X2) (mB wl_RX2_11) dX2_weighCourses_18 ?_
    refine V_iload_n X 3 dX2_weighCourses_21 rfl rfl ?_
    refine V_iconst X 0 dX2_weighCourses_22 (by decide) ?_
    obtain ⟨g6, h⟩ := gd_some h
    refine V_iast X x2.toNatClampNeg rfl (o := (0, 18, 0)) (n := 1539) ⟨by decide, rfl⟩ rfl rfl g6 dX2_weighCourses_23 ?_
    refine zlt_el (P := fun (μ7 : ZMem) => V X μ7 24 [(0, .ref (zad y (0, 17, 0))), (1, .ref (zad y o1)), (2, .int a2), (3, .int x2)] []) h (fun μ7 h => ?_)
    refine V_iconst X 0 dX2_weighCourses_24 (by decide) ?_
    refine V_istore X [(4, .int 0), (0, .ref (zad y (0, 17, 0))), (1, .ref (zad y o1)), (2, .int a2), (3, .int x2)] dX2_weighCourses_25 (by decide) rfl ?_
    refine V_sub X [1, 2, 3, 4, 0] (lv' := [(0, .ref (zad y (0, 17, 0))), (1, .ref (zad y o1)), (2, .int a2), (3, .int x2), (4, .int 0)]) rfl ?_
    obtain ⟨μ10, hl, h⟩ := bd_some h
    have hk : V X μ10 85 [(0, .ref (zad y (0, 17, 0))), (1, .ref (zad y o1)), (2, .int a2), (3, .int x2)] [] := by
      clear hl
      refine V_inc X 3 1 [(3, .int (x2 + 1)), (0, .ref (zad y (0, 17, 0))), (1, .ref (zad y o1)), (2, .int a2)] dX2_weighCourses_85 rfl (by decide) (by decide) rfl ?_
      refine V_goto X (tgt := 9) dX2_weighCourses_88 (by decide) ?_
      refine V_sub X [1, 2, 3, 0] (lv' := [(0, .ref (zad y (0, 17, 0))), (1, .ref (zad y o1)), (2, .int a2), (3, .int (x2 + 1))]) rfl ?_
      cases h
      exact hz
    refine lp_ind (P := fun q => V X q.2 27 [(0, .ref (zad y (0, 17, 0))), (1, .ref (zad y o1)), (2, .int a2), (3, .int x2), (4, .int q.1)] []) (fun q z h hz => ?_) hl
    obtain ⟨x8, μ9⟩ := q
    replace h := un2_eq h
    show V X μ9 27 [(0, .ref (zad y (0, 17, 0))), (1, .ref (zad y o1)), (2, .int a2), (3, .int x2), (4, .int x8)] []
    refine V_iload X 4 dX2_weighCourses_27 rfl ?_
    refine V_iload_n X 2 dX2_weighCourses_29 rfl rfl ?_
    refine V_icmp_ge X (tgt := 85) dX2_weighCourses_30 (by decide) (fun b11 => ?_) (fun b11 => ?_)
    · replace h := (if_pos b11).symm.trans h
      refine V_sub X [0, 1, 2, 3] (lv' := [(0, .ref (zad y (0, 17, 0))), (1, .ref (zad y o1)), (2, .int a2), (3, .int x2)]) rfl ?_
      cases h
      obtain rfl := pr1 hz
      exact hk
    · replace h := (if_neg b11).symm.trans h
      refine V_iconst X 2 dX2_weighCourses_33 (by decide) ?_
      refine V_iload X 4 dX2_weighCourses_34 rfl ?_
      refine V_imul X dX2_weighCourses_36 ?_
      refine V_iconst X 1 dX2_weighCourses_37 (by decide) ?_
      refine V_iadd X dX2_weighCourses_38 ?_
      refine V_aload_n X 1 dX2_weighCourses_39 rfl rfl ?_
      refine V_alen X (Int32.ofNat (zlen y o1)) (o := o1) (n := (zlen y o1)) ho1 hz1 rfl rfl dX2_weighCourses_40 ?_
      refine V_icmp_ge X (tgt := 85) dX2_weighCourses_41 (by decide) (fun b12 => ?_) (fun b12 => ?_)
      · replace h := (if_pos b12).symm.trans h
        refine V_sub X [0, 1, 2, 3] (lv' := [(0, .ref (zad y (0, 17, 0))), (1, .ref (zad y o1)), (2, .int a2), (3, .int x2)]) rfl ?_
        cases h
        obtain rfl := pr1 hz
        exact hk
      · replace h := (if_neg b12).symm.trans h
        refine V_iload_n X 3 dX2_weighCourses_44 rfl rfl ?_
        refine V_aload_n X 1 dX2_weighCourses_45 rfl rfl ?_
        refine V_iconst X 2 dX2_weighCourses_46 (by decide) ?_
        refine V_iload X 4 dX2_weighCourses_47 rfl ?_
        refine V_imul X dX2_weighCourses_49 ?_
        obtain ⟨g13, h⟩ := gd_some h
        refine V_iald X (2 * x8).toNatClampNeg rfl (o := o1) (n := (zlen y o1)) ho1 hz1 rfl g13 dX2_weighCourses_50 ?_
        refine V_callSi X (As := [.int x2, .int (μ9 o1 (2 * x8).toNatClampNeg)]) (M_X2_clockOf) (va_cwS 2 X.2.2.2.2.2.2.1 (gS wm_RX2_22 wst_X2_clockOf win_RX2 wc_X2_clockOf) rfl rfl rfl hd_X2_clockOf.2 ⟨Nat.le_of_ble_eq_true rfl, Nat.le_of_ble_eq_true rfl⟩) rfl (Nat.le_of_ble_eq_true rfl) dX2_weighCourses_51 rfl ?_
        refine V_aload_n X 1 dX2_weighCourses_54 rfl rfl ?_
        refine V_iconst X 2 dX2_weighCourses_55 (by decide) ?_
        refine V_iload X 4 dX2_weighCourses_56 rfl ?_
        refine V_imul X dX2_weighCourses_58 ?_
        refine V_iconst X 1 dX2_weighCourses_59 (by decide) ?_
        refine V_iadd X dX2_weighCourses_60 ?_
        obtain ⟨g14, h⟩ := gd_some h
        refine V_iald X ((2 * x8) + 1).toNatClampNeg rfl (o := o1) (n := (zlen y o1)) ho1 hz1 rfl g14 dX2_weighCourses_61 ?_
        refine V_sipush X 128 dX2_weighCourses_62 (by decide) ?_
        refine V_isub X dX2_weighCourses_65 ?_
        obtain ⟨μ16, h1, h⟩ := zl1_some h
        have hk : V X μ16 79 [(0, .ref (zad y (0, 17, 0))), (1, .ref (zad y o1)), (2, .int a2), (3, .int x2), (4, .int x8)] [] := by
          clear h1
          refine V_inc X 4 1 [(4, .int (x8 + 1)), (0, .ref (zad y (0, 17, 0))), (1, .ref (zad y o1)), (2, .int a2), (3, .int x2)] dX2_weighCourses_79 rfl (by decide) (by decide) rfl ?_
          refine V_goto X (tgt := 27) dX2_weighCourses_82 (by decide) ?_
          refine V_sub X [1, 2, 3, 4, 0] (lv' := [(0, .ref (zad y (0, 17, 0))), (1, .ref (zad y o1)), (2, .int a2), (3, .int x2), (4, .int (x8 + 1))]) rfl ?_
          cases h
          exact hz
        replace h := h1
        clear h1
        refine V_icmp_eq X (tgt := 79) dX2_weighCourses_66 (by decide) (fun b15 => ?_) (fun b15 => ?_)
        · replace h := (if_pos b15).symm.trans h
          obtain rfl := pr1 h
          exact hk
        · replace h := (if_neg b15).symm.trans h
          refine V_aload_n X 0 dX2_weighCourses_69 rfl rfl ?_
          refine V_getr X (o := (0, 17, 0)) (i := (0, 18, 0)) (ci := 2) (k := 0) (N := 3) (T := TX2) (C := RX2) ⟨by decide, rfl⟩ rfl rfl rfl (by decide) (mBa inB_X2) (mB wl_RX2_11) dX2_weighCourses_70 ?_
          refine V_iload_n X 3 dX2_weighCourses_73 rfl rfl ?_
          refine V_dup2 X dX2_weighCourses_74 rfl rfl ?_
          refine V_iald X x2.toNatClampNeg rfl (o := (0, 18, 0)) (n := 1539) ⟨by decide, rfl⟩ rfl rfl g6 dX2_weighCourses_75 ?_
          refine V_iconst X 1 dX2_weighCourses_76 (by decide) ?_
          refine V_iadd X dX2_weighCourses_77 ?_
          refine V_iast X x2.toNatClampNeg rfl (o := (0, 18, 0)) (n := 1539) ⟨by decide, rfl⟩ rfl rfl g6 dX2_weighCourses_78 ?_
          refine zlt_el (P := fun (μ17 : ZMem) => V X μ17 79 [(0, .ref (zad y (0, 17, 0))), (1, .ref (zad y o1)), (2, .int a2), (3, .int x2), (4, .int x8)] []) h (fun μ17 h => ?_)
          obtain rfl := pr1 h
          exact hk

def f_X2_isHeard (a0 : Int32) (a1 : Int32) (a2 : Int32) : Option (Int32) := bd (α := Int32) (jk (some 0) (fun k3 => if a0 = (1 + a1) then k3 else if a0 = (9 + a2) then k3 else some 1)) (fun (x2 : Int32) => gd (zbo x2) (some x2))
set_option maxRecDepth 100000 in
set_option maxHeartbeats 4000000 in
theorem M_X2_isHeard {l : Launch} {D : va_G} {y : ZLay} {a0 : Int32} {a1 : Int32} {a2 : Int32}  {μ : ZMem} {r : Int32} (h : f_X2_isHeard a0 a1 a2 = some r) : MI l yX2_isHeard wb_X2_isHeard rm_X2_isHeard D y [.int a0, .int a1, .int a2] μ r μ := by
  unfold f_X2_isHeard at h
  refine MI_of RX2 [(0, .int a0), (1, .int a1), (2, .int a2)] (by decide) rfl rfl (Nat.le_of_ble_eq_true rfl) rfl ?_
  intro p e s m args below meth c A X
  refine V_iload_n X 0 dX2_isHeard_0 rfl rfl ?_
  refine V_iconst X 1 dX2_isHeard_1 (by decide) ?_
  refine V_iload_n X 1 dX2_isHeard_2 rfl rfl ?_
  refine V_iadd X dX2_isHeard_3 ?_
  obtain ⟨x2, h1, h⟩ := bd_some h
  have hk : V X μ 20 [] [.int x2] := by
    clear h1
    obtain ⟨hzb, h⟩ := gd_some h
    exact V_zretR X h hzb dX2_isHeard_20
  replace h := h1
  clear h1
  refine jk0_el (P := V X μ 19 [] []) h (fun h => ?_) (fun k3 hk3 h => ?_)
  · refine V_iconst X 0 dX2_isHeard_19 (by decide) ?_
    obtain rfl := so1 h
    exact hk
  · refine V_icmp_eq X (tgt := 19) dX2_isHeard_4 (by decide) (fun b1 => ?_) (fun b1 => ?_)
    · replace h := (if_pos b1).symm.trans h
      refine V_sub X [] (lv' := []) rfl ?_
      exact hk3 h
    · replace h := (if_neg b1).symm.trans h
      refine V_iload_n X 0 dX2_isHeard_7 rfl rfl ?_
      refine V_bipush X 9 dX2_isHeard_8 (by decide) ?_
      refine V_iload_n X 2 dX2_isHeard_10 rfl rfl ?_
      refine V_iadd X dX2_isHeard_11 ?_
      refine V_icmp_eq X (tgt := 19) dX2_isHeard_12 (by decide) (fun b4 => ?_) (fun b4 => ?_)
      · replace h := (if_pos b4).symm.trans h
        refine V_sub X [] (lv' := []) rfl ?_
        exact hk3 h
      · replace h := (if_neg b4).symm.trans h
        refine V_iconst X 1 dX2_isHeard_15 (by decide) ?_
        refine V_goto X (tgt := 20) dX2_isHeard_16 (by decide) ?_
        refine V_sub X [] (lv' := []) rfl ?_
        obtain rfl := so1 h
        exact hk

def f_X2_weighBlames (y : ZLay) (o1 : ZId) (a2 : Int32) (μ : ZMem) : Option (ZMem) := zlt (mset μ (0, 17, 0) 2 17) (fun (μ1 : ZMem) => bd (lp (σ := Int32 × ZMem) (fun q => un2 q (fun (x2 : Int32) (μ3 : ZMem) => if (μ3 (0, 17, 0) 2) ≤ x2 then some (.inr μ3) else gd (zin x2 1539) (zlt (mset μ3 (0, 18, 0) x2.toNatClampNeg 0) (fun (μ7 : ZMem) => bd (lp (σ := Int32 × ZMem) (fun q => un2 q (fun (x8 : Int32) (μ9 : ZMem) => if (3 * a2) ≤ x8 then some (.inr μ9) else if (Int32.ofNat (zlen y o1)) ≤ (x8 + 2) then some (.inr μ9) else gd (zin x8 (zlen y o1)) (gd (zin (x8 + 1) (zlen y o1)) (bd (f_X2_isHeard x2 (μ9 o1 x8.toNatClampNeg) (μ9 o1 (x8 + 1).toNatClampNeg)) (fun (x16 : Int32) => gd (zin (x8 + 2) (zlen y o1)) (zlt (α := Int32) (if (μ9 o1 (x8 + 2).toNatClampNeg) = 1 then 1 else 0) (fun (x19 : Int32) => zlt (α := ZMem) (if x16 = x19 then μ9 else zlt (mset μ9 (0, 18, 0) x2.toNatClampNeg ((μ9 (0, 18, 0) x2.toNatClampNeg) + 1)) (fun (μ22 : ZMem) => μ22)) (fun (μ21 : ZMem) => some (.inl ((x8 + 3), μ21)))))))))) FU (0, μ7)) (fun (μ10 : ZMem) => some (.inl ((x2 + 1), μ10))))))) FU (0, μ1)) (fun (μ4 : ZMem) => some μ4))
set_option maxRecDepth 100000 in
set_option maxHeartbeats 4000000 in
theorem M_X2_weighBlames {l : Launch} {D : va_G} {y : ZLay} {o1 : ZId} {a2 : Int32} (ho1 : okI y o1) (hz1 : zisI o1 = true) {μ : ZMem} {μ0 : ZMem} (h : f_X2_weighBlames y o1 a2 μ = some μ0) : MV l yX2_weighBlames wb_X2_weighBlames rm_X2_weighBlames D y [.ref (zad y (0, 17, 0)), .ref (zad y o1), .int a2] μ μ0 := by
  unfold f_X2_weighBlames at h
  refine MV_of RX2 [(0, .ref (zad y (0, 17, 0))), (1, .ref (zad y o1)), (2, .int a2)] (by decide) rfl rfl (Nat.le_of_ble_eq_true rfl) rfl ?_
  intro p e s m args below meth c A X
  refine V_aload_n X 0 dX2_weighBlames_0 rfl rfl ?_
  refine V_bipush X 17 dX2_weighBlames_1 (by decide) ?_
  refine V_puti X tyX2 .int (o := (0, 17, 0)) (ci := 2) (k := 2) (N := 3) (T := TX2) (C := RX2) ⟨by decide, rfl⟩ rfl rfl rfl (by decide) (mBa inB_X2) tyX2_ok nmX2 (mB wl_RX2_18) rfl rfl rfl rfl dX2_weighBlames_3 ?_
  refine zlt_el (P := fun (μ1 : ZMem) => V X μ1 6 [(0, .ref (zad y (0, 17, 0))), (1, .ref (zad y o1)), (2, .int a2)] []) h (fun μ1 h => ?_)
  refine V_iconst X 0 dX2_weighBlames_6 (by decide) ?_
  refine V_istore_n X [(3, .int 0), (0, .ref (zad y (0, 17, 0))), (1, .ref (zad y o1)), (2, .int a2)] dX2_weighBlames_7 rfl (by decide) rfl ?_
  refine V_sub X [1, 2, 3, 0] (lv' := [(0, .ref (zad y (0, 17, 0))), (1, .ref (zad y o1)), (2, .int a2), (3, .int 0)]) rfl ?_
  obtain ⟨μ4, hl, h⟩ := bd_some h
  have hk : V X μ4 97 [] [] := by
    clear hl
    exact V_vretW X h dX2_weighBlames_97
  refine lp_ind (P := fun q => V X q.2 8 [(0, .ref (zad y (0, 17, 0))), (1, .ref (zad y o1)), (2, .int a2), (3, .int q.1)] []) (fun q z h hz => ?_) hl
  obtain ⟨x2, μ3⟩ := q
  replace h := un2_eq h
  show V X μ3 8 [(0, .ref (zad y (0, 17, 0))), (1, .ref (zad y o1)), (2, .int a2), (3, .int x2)] []
  refine V_iload_n X 3 dX2_weighBlames_8 rfl rfl ?_
  refine V_aload_n X 0 dX2_weighBlames_9 rfl rfl ?_
  refine V_geti X (o := (0, 17, 0)) (ci := 2) (k := 2) (N := 3) (T := TX2) (C := RX2) ⟨by decide, rfl⟩ rfl rfl rfl (by decide) (mBa inB_X2) (mB wl_RX2_18) dX2_weighBlames_10 ?_
  refine V_icmp_ge X (tgt := 97) dX2_weighBlames_13 (by decide) (fun b5 => ?_) (fun b5 => ?_)
  · replace h := (if_pos b5).symm.trans h
    refine V_sub X [] (lv' := []) rfl ?_
    cases h
    obtain rfl := pr1 hz
    exact hk
  · replace h := (if_neg b5).symm.trans h
    refine V_aload_n X 0 dX2_weighBlames_16 rfl rfl ?_
    refine V_getr X (o := (0, 17, 0)) (i := (0, 18, 0)) (ci := 2) (k := 0) (N := 3) (T := TX2) (C := RX2) ⟨by decide, rfl⟩ rfl rfl rfl (by decide) (mBa inB_X2) (mB wl_RX2_11) dX2_weighBlames_17 ?_
    refine V_iload_n X 3 dX2_weighBlames_20 rfl rfl ?_
    refine V_iconst X 0 dX2_weighBlames_21 (by decide) ?_
    obtain ⟨g6, h⟩ := gd_some h
    refine V_iast X x2.toNatClampNeg rfl (o := (0, 18, 0)) (n := 1539) ⟨by decide, rfl⟩ rfl rfl g6 dX2_weighBlames_22 ?_
    refine zlt_el (P := fun (μ7 : ZMem) => V X μ7 23 [(0, .ref (zad y (0, 17, 0))), (1, .ref (zad y o1)), (2, .int a2), (3, .int x2)] []) h (fun μ7 h => ?_)
    refine V_iconst X 0 dX2_weighBlames_23 (by decide) ?_
    refine V_istore X [(4, .int 0), (0, .ref (zad y (0, 17, 0))), (1, .ref (zad y o1)), (2, .int a2), (3, .int x2)] dX2_weighBlames_24 (by decide) rfl ?_
    refine V_sub X [1, 2, 3, 4, 0] (lv' := [(0, .ref (zad y (0, 17, 0))), (1, .ref (zad y o1)), (2, .int a2), (3, .int x2), (4, .int 0)]) rfl ?_
    obtain ⟨μ10, hl, h⟩ := bd_some h
    have hk : V X μ10 91 [(0, .ref (zad y (0, 17, 0))), (1, .ref (zad y o1)), (2, .int a2), (3, .int x2)] [] := by
      clear hl
      refine V_inc X 3 1 [(3, .int (x2 + 1)), (0, .ref (zad y (0, 17, 0))), (1, .ref (zad y o1)), (2, .int a2)] dX2_weighBlames_91 rfl (by decide) (by decide) rfl ?_
      refine V_goto X (tgt := 8) dX2_weighBlames_94 (by decide) ?_
      refine V_sub X [1, 2, 3, 0] (lv' := [(0, .ref (zad y (0, 17, 0))), (1, .ref (zad y o1)), (2, .int a2), (3, .int (x2 + 1))]) rfl ?_
      cases h
      exact hz
    refine lp_ind (P := fun q => V X q.2 26 [(0, .ref (zad y (0, 17, 0))), (1, .ref (zad y o1)), (2, .int a2), (3, .int x2), (4, .int q.1)] []) (fun q z h hz => ?_) hl
    obtain ⟨x8, μ9⟩ := q
    replace h := un2_eq h
    show V X μ9 26 [(0, .ref (zad y (0, 17, 0))), (1, .ref (zad y o1)), (2, .int a2), (3, .int x2), (4, .int x8)] []
    refine V_iload X 4 dX2_weighBlames_26 rfl ?_
    refine V_iconst X 3 dX2_weighBlames_28 (by decide) ?_
    refine V_iload_n X 2 dX2_weighBlames_29 rfl rfl ?_
    refine V_imul X dX2_weighBlames_30 ?_
    refine V_icmp_ge X (tgt := 91) dX2_weighBlames_31 (by decide) (fun b11 => ?_) (fun b11 => ?_)
    · replace h := (if_pos b11).symm.trans h
      refine V_sub X [0, 1, 2, 3] (lv' := [(0, .ref (zad y (0, 17, 0))), (1, .ref (zad y o1)), (2, .int a2), (3, .int x2)]) rfl ?_
      cases h
      obtain rfl := pr1 hz
      exact hk
    · replace h := (if_neg b11).symm.trans h
      refine V_iload X 4 dX2_weighBlames_34 rfl ?_
      refine V_iconst X 2 dX2_weighBlames_36 (by decide) ?_
      refine V_iadd X dX2_weighBlames_37 ?_
      refine V_aload_n X 1 dX2_weighBlames_38 rfl rfl ?_
      refine V_alen X (Int32.ofNat (zlen y o1)) (o := o1) (n := (zlen y o1)) ho1 hz1 rfl rfl dX2_weighBlames_39 ?_
      refine V_icmp_ge X (tgt := 91) dX2_weighBlames_40 (by decide) (fun b12 => ?_) (fun b12 => ?_)
      · replace h := (if_pos b12).symm.trans h
        refine V_sub X [0, 1, 2, 3] (lv' := [(0, .ref (zad y (0, 17, 0))), (1, .ref (zad y o1)), (2, .int a2), (3, .int x2)]) rfl ?_
        cases h
        obtain rfl := pr1 hz
        exact hk
      · replace h := (if_neg b12).symm.trans h
        refine V_iload_n X 3 dX2_weighBlames_43 rfl rfl ?_
        refine V_aload_n X 1 dX2_weighBlames_44 rfl rfl ?_
        refine V_iload X 4 dX2_weighBlames_45 rfl ?_
        obtain ⟨g13, h⟩ := gd_some h
        refine V_iald X x8.toNatClampNeg rfl (o := o1) (n := (zlen y o1)) ho1 hz1 rfl g13 dX2_weighBlames_47 ?_
        refine V_aload_n X 1 dX2_weighBlames_48 rfl rfl ?_
        refine V_iload X 4 dX2_weighBlames_49 rfl ?_
        refine V_iconst X 1 dX2_weighBlames_51 (by decide) ?_
        refine V_iadd X dX2_weighBlames_52 ?_
        obtain ⟨g14, h⟩ := gd_some h
        refine V_iald X (x8 + 1).toNatClampNeg rfl (o := o1) (n := (zlen y o1)) ho1 hz1 rfl g14 dX2_weighBlames_53 ?_
        obtain ⟨x16, c15, h⟩ := bd_some h
        refine V_callSi X (As := [.int x2, .int (μ9 o1 x8.toNatClampNeg), .int (μ9 o1 (x8 + 1).toNatClampNeg)]) (M_X2_isHeard c15) (va_cwS 3 X.2.2.2.2.2.2.1 (gS wm_RX2_26 wst_X2_isHeard win_RX2 wc_X2_isHeard) rfl rfl rfl hd_X2_isHeard.2 ⟨Nat.le_of_ble_eq_true rfl, Nat.le_of_ble_eq_true rfl⟩) rfl (Nat.le_of_ble_eq_true rfl) dX2_weighBlames_54 rfl ?_
        refine V_aload_n X 1 dX2_weighBlames_57 rfl rfl ?_
        refine V_iload X 4 dX2_weighBlames_58 rfl ?_
        refine V_iconst X 2 dX2_weighBlames_60 (by decide) ?_
        refine V_iadd X dX2_weighBlames_61 ?_
        obtain ⟨g17, h⟩ := gd_some h
        refine V_iald X (x8 + 2).toNatClampNeg rfl (o := o1) (n := (zlen y o1)) ho1 hz1 rfl g17 dX2_weighBlames_62 ?_
        refine V_iconst X 1 dX2_weighBlames_63 (by decide) ?_
        obtain ⟨x19, h1, h⟩ := zl1_some h
        have hk : V X μ9 72 [(0, .ref (zad y (0, 17, 0))), (1, .ref (zad y o1)), (2, .int a2), (3, .int x2), (4, .int x8)] [.int x19, .int x16] := by
          clear h1
          obtain ⟨μ21, h1, h⟩ := zl1_some h
          have hk : V X μ21 85 [(0, .ref (zad y (0, 17, 0))), (1, .ref (zad y o1)), (2, .int a2), (3, .int x2), (4, .int x8)] [] := by
            clear h1
            refine V_inc X 4 3 [(4, .int (x8 + 3)), (0, .ref (zad y (0, 17, 0))), (1, .ref (zad y o1)), (2, .int a2), (3, .int x2)] dX2_weighBlames_85 rfl (by decide) (by decide) rfl ?_
            refine V_goto X (tgt := 26) dX2_weighBlames_88 (by decide) ?_
            refine V_sub X [1, 2, 3, 4, 0] (lv' := [(0, .ref (zad y (0, 17, 0))), (1, .ref (zad y o1)), (2, .int a2), (3, .int x2), (4, .int (x8 + 3))]) rfl ?_
            cases h
            exact hz
          replace h := h1
          clear h1
          refine V_icmp_eq X (tgt := 85) dX2_weighBlames_72 (by decide) (fun b20 => ?_) (fun b20 => ?_)
          · replace h := (if_pos b20).symm.trans h
            obtain rfl := pr1 h
            exact hk
          · replace h := (if_neg b20).symm.trans h
            refine V_aload_n X 0 dX2_weighBlames_75 rfl rfl ?_
            refine V_getr X (o := (0, 17, 0)) (i := (0, 18, 0)) (ci := 2) (k := 0) (N := 3) (T := TX2) (C := RX2) ⟨by decide, rfl⟩ rfl rfl rfl (by decide) (mBa inB_X2) (mB wl_RX2_11) dX2_weighBlames_76 ?_
            refine V_iload_n X 3 dX2_weighBlames_79 rfl rfl ?_
            refine V_dup2 X dX2_weighBlames_80 rfl rfl ?_
            refine V_iald X x2.toNatClampNeg rfl (o := (0, 18, 0)) (n := 1539) ⟨by decide, rfl⟩ rfl rfl g6 dX2_weighBlames_81 ?_
            refine V_iconst X 1 dX2_weighBlames_82 (by decide) ?_
            refine V_iadd X dX2_weighBlames_83 ?_
            refine V_iast X x2.toNatClampNeg rfl (o := (0, 18, 0)) (n := 1539) ⟨by decide, rfl⟩ rfl rfl g6 dX2_weighBlames_84 ?_
            refine zlt_el (P := fun (μ22 : ZMem) => V X μ22 85 [(0, .ref (zad y (0, 17, 0))), (1, .ref (zad y o1)), (2, .int a2), (3, .int x2), (4, .int x8)] []) h (fun μ22 h => ?_)
            obtain rfl := pr1 h
            exact hk
        replace h := h1
        clear h1
        refine V_icmp_ne X (tgt := 71) dX2_weighBlames_64 (by decide) (fun b18 => ?_) (fun b18 => ?_)
        · replace h := (if_neg b18).symm.trans h
          refine V_iconst X 0 dX2_weighBlames_71 (by decide) ?_
          obtain rfl := pr1 h
          exact hk
        · replace h := (if_pos b18).symm.trans h
          refine V_iconst X 1 dX2_weighBlames_67 (by decide) ?_
          refine V_goto X (tgt := 72) dX2_weighBlames_68 (by decide) ?_
          obtain rfl := pr1 h
          exact hk

def f_X2_countFits (μ : ZMem) : Option (Int32) := bd (lp (σ := Int32 × Int32) (fun q => un2 q (fun (x1 : Int32) (x2 : Int32) => if (μ (0, 17, 0) 2) ≤ x2 then some (.inr x1) else gd (zin x2 1539) (zlt (α := Int32) (if 1 < (μ (0, 18, 0) x2.toNatClampNeg) then 0 else 1) (fun (x7 : Int32) => zlt (x1 + x7) (fun (x8 : Int32) => some (.inl (x8, (x2 + 1)))))))) FU (0, 0)) (fun (x3 : Int32) => some x3)
set_option maxRecDepth 100000 in
set_option maxHeartbeats 4000000 in
theorem M_X2_countFits {l : Launch} {D : va_G} {y : ZLay}   {μ : ZMem} {r : Int32} (h : f_X2_countFits μ = some r) : MI l yX2_countFits wb_X2_countFits rm_X2_countFits D y [.ref (zad y (0, 17, 0))] μ r μ := by
  unfold f_X2_countFits at h
  refine MI_of RX2 [(0, .ref (zad y (0, 17, 0)))] (by decide) rfl rfl (Nat.le_of_ble_eq_true rfl) rfl ?_
  intro p e s m args below meth c A X
  refine V_iconst X 0 dX2_countFits_0 (by decide) ?_
  refine V_istore_n X [(1, .int 0), (0, .ref (zad y (0, 17, 0)))] dX2_countFits_1 rfl (by decide) rfl ?_
  refine V_iconst X 0 dX2_countFits_2 (by decide) ?_
  refine V_istore_n X [(2, .int 0), (1, .int 0), (0, .ref (zad y (0, 17, 0)))] dX2_countFits_3 rfl (by decide) rfl ?_
  refine V_sub X [2, 1, 0] (lv' := [(0, .ref (zad y (0, 17, 0))), (1, .int 0), (2, .int 0)]) rfl ?_
  obtain ⟨x3, hl, h⟩ := bd_some h
  have hk : V X μ 36 [(1, .int x3)] [] := by
    clear hl
    refine V_iload_n X 0 dX2_countFits_36 rfl rfl ?_
    exact V_iretR X h dX2_countFits_37
  refine lp_ind (P := fun q => V X μ 4 [(0, .ref (zad y (0, 17, 0))), (1, .int q.1), (2, .int q.2)] []) (fun q z h hz => ?_) hl
  obtain ⟨x1, x2⟩ := q
  replace h := un2_eq h
  show V X μ 4 [(0, .ref (zad y (0, 17, 0))), (1, .int x1), (2, .int x2)] []
  refine V_iload_n X 2 dX2_countFits_4 rfl rfl ?_
  refine V_aload_n X 0 dX2_countFits_5 rfl rfl ?_
  refine V_geti X (o := (0, 17, 0)) (ci := 2) (k := 2) (N := 3) (T := TX2) (C := RX2) ⟨by decide, rfl⟩ rfl rfl rfl (by decide) (mBa inB_X2) (mB wl_RX2_18) dX2_countFits_6 ?_
  refine V_icmp_ge X (tgt := 36) dX2_countFits_9 (by decide) (fun b4 => ?_) (fun b4 => ?_)
  · replace h := (if_pos b4).symm.trans h
    refine V_sub X [1] (lv' := [(1, .int x1)]) rfl ?_
    cases h
    obtain rfl := pr1 hz
    exact hk
  · replace h := (if_neg b4).symm.trans h
    refine V_iload_n X 1 dX2_countFits_12 rfl rfl ?_
    refine V_aload_n X 0 dX2_countFits_13 rfl rfl ?_
    refine V_getr X (o := (0, 17, 0)) (i := (0, 18, 0)) (ci := 2) (k := 0) (N := 3) (T := TX2) (C := RX2) ⟨by decide, rfl⟩ rfl rfl rfl (by decide) (mBa inB_X2) (mB wl_RX2_11) dX2_countFits_14 ?_
    refine V_iload_n X 2 dX2_countFits_17 rfl rfl ?_
    obtain ⟨g5, h⟩ := gd_some h
    refine V_iald X x2.toNatClampNeg rfl (o := (0, 18, 0)) (n := 1539) ⟨by decide, rfl⟩ rfl rfl g5 dX2_countFits_18 ?_
    refine V_iconst X 1 dX2_countFits_19 (by decide) ?_
    obtain ⟨x7, h1, h⟩ := zl1_some h
    have hk : V X μ 28 [(0, .ref (zad y (0, 17, 0))), (2, .int x2)] [.int x7, .int x1] := by
      clear h1
      refine V_iadd X dX2_countFits_28 ?_
      refine V_istore_n X [(1, .int (x1 + x7)), (0, .ref (zad y (0, 17, 0))), (2, .int x2)] dX2_countFits_29 rfl (by decide) rfl ?_
      refine zlt_el (P := fun (x8 : Int32) => V X μ 30 [(1, .int x8), (0, .ref (zad y (0, 17, 0))), (2, .int x2)] []) h (fun x8 h => ?_)
      refine V_inc X 2 1 [(2, .int (x2 + 1)), (1, .int x8), (0, .ref (zad y (0, 17, 0)))] dX2_countFits_30 rfl (by decide) (by decide) rfl ?_
      refine V_goto X (tgt := 4) dX2_countFits_33 (by decide) ?_
      refine V_sub X [2, 1, 0] (lv' := [(0, .ref (zad y (0, 17, 0))), (1, .int x8), (2, .int (x2 + 1))]) rfl ?_
      cases h
      exact hz
    replace h := h1
    clear h1
    refine V_icmp_gt X (tgt := 27) dX2_countFits_20 (by decide) (fun b6 => ?_) (fun b6 => ?_)
    · replace h := (if_pos b6).symm.trans h
      refine V_iconst X 0 dX2_countFits_27 (by decide) ?_
      refine V_sub X [0, 2] (lv' := [(0, .ref (zad y (0, 17, 0))), (2, .int x2)]) rfl ?_
      obtain rfl := pr1 h
      exact hk
    · replace h := (if_neg b6).symm.trans h
      refine V_iconst X 1 dX2_countFits_23 (by decide) ?_
      refine V_goto X (tgt := 28) dX2_countFits_24 (by decide) ?_
      refine V_sub X [0, 2] (lv' := [(0, .ref (zad y (0, 17, 0))), (2, .int x2)]) rfl ?_
      obtain rfl := pr1 h
      exact hk

def f_X2_firstFit (μ : ZMem) : Option (Int32) := bd (lp (σ := Int32 × Int32 × Int32) (fun q => un3 q (fun (x1 : Int32) (x2 : Int32) (x3 : Int32) => if (μ (0, 17, 0) 2) ≤ x3 then some (.inr x1) else gd (zin x3 1539) (zl2 (α := Int32) (β := Int32) (if x2 ≤ (μ (0, 18, 0) x3.toNatClampNeg) then (x1, x2) else zlt (μ (0, 18, 0) x3.toNatClampNeg) (fun (x10 : Int32) => (x3, x10))) (fun (x8 : Int32) (x9 : Int32) => some (.inl (x8, x9, (x3 + 1))))))) FU ((-1), 2, 0)) (fun (x4 : Int32) => some x4)
set_option maxRecDepth 100000 in
set_option maxHeartbeats 4000000 in
theorem M_X2_firstFit {l : Launch} {D : va_G} {y : ZLay}   {μ : ZMem} {r : Int32} (h : f_X2_firstFit μ = some r) : MI l yX2_firstFit wb_X2_firstFit rm_X2_firstFit D y [.ref (zad y (0, 17, 0))] μ r μ := by
  unfold f_X2_firstFit at h
  refine MI_of RX2 [(0, .ref (zad y (0, 17, 0)))] (by decide) rfl rfl (Nat.le_of_ble_eq_true rfl) rfl ?_
  intro p e s m args below meth c A X
  refine V_iconst X (-1) dX2_firstFit_0 (by decide) ?_
  refine V_istore_n X [(1, .int (-1)), (0, .ref (zad y (0, 17, 0)))] dX2_firstFit_1 rfl (by decide) rfl ?_
  refine V_iconst X 2 dX2_firstFit_2 (by decide) ?_
  refine V_istore_n X [(2, .int 2), (1, .int (-1)), (0, .ref (zad y (0, 17, 0)))] dX2_firstFit_3 rfl (by decide) rfl ?_
  refine V_iconst X 0 dX2_firstFit_4 (by decide) ?_
  refine V_istore_n X [(3, .int 0), (2, .int 2), (1, .int (-1)), (0, .ref (zad y (0, 17, 0)))] dX2_firstFit_5 rfl (by decide) rfl ?_
  refine V_sub X [3, 2, 1, 0] (lv' := [(0, .ref (zad y (0, 17, 0))), (1, .int (-1)), (2, .int 2), (3, .int 0)]) rfl ?_
  obtain ⟨x4, hl, h⟩ := bd_some h
  have hk : V X μ 39 [(1, .int x4)] [] := by
    clear hl
    refine V_iload_n X 0 dX2_firstFit_39 rfl rfl ?_
    exact V_iretR X h dX2_firstFit_40
  refine lp_ind (P := fun q => V X μ 6 [(0, .ref (zad y (0, 17, 0))), (1, .int q.1), (2, .int q.2.1), (3, .int q.2.2)] []) (fun q z h hz => ?_) hl
  obtain ⟨x1, x2, x3⟩ := q
  replace h := un3_eq h
  show V X μ 6 [(0, .ref (zad y (0, 17, 0))), (1, .int x1), (2, .int x2), (3, .int x3)] []
  refine V_iload_n X 3 dX2_firstFit_6 rfl rfl ?_
  refine V_aload_n X 0 dX2_firstFit_7 rfl rfl ?_
  refine V_geti X (o := (0, 17, 0)) (ci := 2) (k := 2) (N := 3) (T := TX2) (C := RX2) ⟨by decide, rfl⟩ rfl rfl rfl (by decide) (mBa inB_X2) (mB wl_RX2_18) dX2_firstFit_8 ?_
  refine V_icmp_ge X (tgt := 39) dX2_firstFit_11 (by decide) (fun b5 => ?_) (fun b5 => ?_)
  · replace h := (if_pos b5).symm.trans h
    refine V_sub X [1] (lv' := [(1, .int x1)]) rfl ?_
    cases h
    obtain rfl := pr1 hz
    exact hk
  · replace h := (if_neg b5).symm.trans h
    refine V_aload_n X 0 dX2_firstFit_14 rfl rfl ?_
    refine V_getr X (o := (0, 17, 0)) (i := (0, 18, 0)) (ci := 2) (k := 0) (N := 3) (T := TX2) (C := RX2) ⟨by decide, rfl⟩ rfl rfl rfl (by decide) (mBa inB_X2) (mB wl_RX2_11) dX2_firstFit_15 ?_
    refine V_iload_n X 3 dX2_firstFit_18 rfl rfl ?_
    obtain ⟨g6, h⟩ := gd_some h
    refine V_iald X x3.toNatClampNeg rfl (o := (0, 18, 0)) (n := 1539) ⟨by decide, rfl⟩ rfl rfl g6 dX2_firstFit_19 ?_
    refine V_iload_n X 2 dX2_firstFit_20 rfl rfl ?_
    obtain ⟨x8, x9, h1, h⟩ := zl2_some h
    have hk : V X μ 33 [(0, .ref (zad y (0, 17, 0))), (1, .int x8), (2, .int x9), (3, .int x3)] [] := by
      clear h1
      refine V_inc X 3 1 [(3, .int (x3 + 1)), (0, .ref (zad y (0, 17, 0))), (1, .int x8), (2, .int x9)] dX2_firstFit_33 rfl (by decide) (by decide) rfl ?_
      refine V_goto X (tgt := 6) dX2_firstFit_36 (by decide) ?_
      refine V_sub X [1, 2, 3, 0] (lv' := [(0, .ref (zad y (0, 17, 0))), (1, .int x8), (2, .int x9), (3, .int (x3 + 1))]) rfl ?_
      cases h
      exact hz
    replace h := h1
    clear h1
    refine V_icmp_ge X (tgt := 33) dX2_firstFit_21 (by decide) (fun b7 => ?_) (fun b7 => ?_)
    · replace h := (if_pos b7).symm.trans h
      obtain ⟨rfl, rfl⟩ := pr2 h
      exact hk
    · replace h := (if_neg b7).symm.trans h
      refine V_aload_n X 0 dX2_firstFit_24 rfl rfl ?_
      refine V_getr X (o := (0, 17, 0)) (i := (0, 18, 0)) (ci := 2) (k := 0) (N := 3) (T := TX2) (C := RX2) ⟨by decide, rfl⟩ rfl rfl rfl (by decide) (mBa inB_X2) (mB wl_RX2_11) dX2_firstFit_25 ?_
      refine V_iload_n X 3 dX2_firstFit_28 rfl rfl ?_
      refine V_iald X x3.toNatClampNeg rfl (o := (0, 18, 0)) (n := 1539) ⟨by decide, rfl⟩ rfl rfl g6 dX2_firstFit_29 ?_
      refine V_istore_n X [(2, .int (μ (0, 18, 0) x3.toNatClampNeg)), (0, .ref (zad y (0, 17, 0))), (1, .int x1), (3, .int x3)] dX2_firstFit_30 rfl (by decide) rfl ?_
      refine zlt_el (P := fun (x10 : Int32) => V X μ 31 [(2, .int x10), (0, .ref (zad y (0, 17, 0))), (1, .int x1), (3, .int x3)] []) h (fun x10 h => ?_)
      refine V_iload_n X 3 dX2_firstFit_31 rfl rfl ?_
      refine V_istore_n X [(1, .int x3), (2, .int x10), (0, .ref (zad y (0, 17, 0))), (3, .int x3)] dX2_firstFit_32 rfl (by decide) rfl ?_
      refine V_sub X [2, 0, 1, 3] (lv' := [(0, .ref (zad y (0, 17, 0))), (1, .int x3), (2, .int x10), (3, .int x3)]) rfl ?_
      obtain ⟨rfl, rfl⟩ := pr2 h
      exact hk

def f_X2_greatestPart (a1 : Int32) (μ : ZMem) : Option (Int32 × ZMem) := bd (lp (σ := Int32 × ZMem) (fun q => un2 q (fun (x1 : Int32) (μ2 : ZMem) => if 243 ≤ x1 then some (.inr μ2) else gd (zin x1 243) (zlt (mset μ2 (0, 19, 0) x1.toNatClampNeg 0) (fun (μ6 : ZMem) => some (.inl ((x1 + 1), μ6)))))) FU (0, μ)) (fun (μ3 : ZMem) => bd2 (lp (σ := Int32 × Int32 × ZMem) (fun q => un3 q (fun (x7 : Int32) (x8 : Int32) (μ9 : ZMem) => if (μ9 (0, 17, 0) 2) ≤ x8 then some (.inr (x7, μ9)) else zlt ((f_X2_clockOf x8 a1) - (-121)) (fun (x13 : Int32) => gd (zin x8 1539) (bd2 (α := Int32) (β := ZMem) (if 1 < (μ9 (0, 18, 0) x8.toNatClampNeg) then some (x7, μ9) else if x13 < 0 then some (x7, μ9) else if 243 ≤ x13 then some (x7, μ9) else gd (zin x13 243) (zlt (mset μ9 (0, 19, 0) x13.toNatClampNeg ((μ9 (0, 19, 0) x13.toNatClampNeg) + 1)) (fun (μ21 : ZMem) => zlt (zmax x7 (μ21 (0, 19, 0) x13.toNatClampNeg)) (fun (x22 : Int32) => some (x22, μ21))))) (fun (x16 : Int32) (μ17 : ZMem) => some (.inl (x16, (x8 + 1), μ17))))))) FU (0, 0, μ3)) (fun (x10 : Int32) (μ11 : ZMem) => some (x10, μ11)))
set_option maxRecDepth 100000 in
set_option maxHeartbeats 4000000 in
theorem M_X2_greatestPart {l : Launch} {D : va_G} {y : ZLay} {a1 : Int32}  {μ : ZMem} {r : Int32} {μ0 : ZMem} (h : f_X2_greatestPart a1 μ = some (r, μ0)) : MI l yX2_greatestPart wb_X2_greatestPart rm_X2_greatestPart D y [.ref (zad y (0, 17, 0)), .int a1] μ r μ0 := by
  unfold f_X2_greatestPart at h
  refine MI_of RX2 [(0, .ref (zad y (0, 17, 0))), (1, .int a1)] (by decide) rfl rfl (Nat.le_of_ble_eq_true rfl) rfl ?_
  intro p e s m args below meth c A X
  refine V_iconst X 0 dX2_greatestPart_0 (by decide) ?_
  refine V_istore_n X [(2, .int 0), (0, .ref (zad y (0, 17, 0))), (1, .int a1)] dX2_greatestPart_1 rfl (by decide) rfl ?_
  refine V_sub X [1, 2, 0] (lv' := [(0, .ref (zad y (0, 17, 0))), (1, .int a1), (2, .int 0)]) rfl ?_
  obtain ⟨μ3, hl, h⟩ := bd_some h
  have hk : V X μ3 24 [(0, .ref (zad y (0, 17, 0))), (1, .int a1)] [] := by
    clear hl
    refine V_iconst X 0 dX2_greatestPart_24 (by decide) ?_
    refine V_istore_n X [(2, .int 0), (0, .ref (zad y (0, 17, 0))), (1, .int a1)] dX2_greatestPart_25 rfl (by decide) rfl ?_
    refine V_iconst X 0 dX2_greatestPart_26 (by decide) ?_
    refine V_istore_n X [(3, .int 0), (2, .int 0), (0, .ref (zad y (0, 17, 0))), (1, .int a1)] dX2_greatestPart_27 rfl (by decide) rfl ?_
    refine V_sub X [2, 3, 1, 0] (lv' := [(0, .ref (zad y (0, 17, 0))), (1, .int a1), (2, .int 0), (3, .int 0)]) rfl ?_
    obtain ⟨x10, μ11, hl, h⟩ := bd2_some h
    have hk : V X μ11 100 [(2, .int x10)] [] := by
      clear hl
      refine V_iload_n X 0 dX2_greatestPart_100 rfl rfl ?_
      exact V_iretW X h dX2_greatestPart_101
    refine lp_ind (P := fun q => V X q.2.2 28 [(0, .ref (zad y (0, 17, 0))), (1, .int a1), (2, .int q.1), (3, .int q.2.1)] []) (fun q z h hz => ?_) hl
    obtain ⟨x7, x8, μ9⟩ := q
    replace h := un3_eq h
    show V X μ9 28 [(0, .ref (zad y (0, 17, 0))), (1, .int a1), (2, .int x7), (3, .int x8)] []
    refine V_iload_n X 3 dX2_greatestPart_28 rfl rfl ?_
    refine V_aload_n X 0 dX2_greatestPart_29 rfl rfl ?_
    refine V_geti X (o := (0, 17, 0)) (ci := 2) (k := 2) (N := 3) (T := TX2) (C := RX2) ⟨by decide, rfl⟩ rfl rfl rfl (by decide) (mBa inB_X2) (mB wl_RX2_18) dX2_greatestPart_30 ?_
    refine V_icmp_ge X (tgt := 100) dX2_greatestPart_33 (by decide) (fun b12 => ?_) (fun b12 => ?_)
    · replace h := (if_pos b12).symm.trans h
      refine V_sub X [2] (lv' := [(2, .int x7)]) rfl ?_
      cases h
      obtain ⟨rfl, rfl⟩ := pr2 hz
      exact hk
    · replace h := (if_neg b12).symm.trans h
      refine V_iload_n X 3 dX2_greatestPart_36 rfl rfl ?_
      refine V_iload_n X 1 dX2_greatestPart_37 rfl rfl ?_
      refine V_callSi X (As := [.int x8, .int a1]) (M_X2_clockOf) (va_cwS 2 X.2.2.2.2.2.2.1 (gS wm_RX2_22 wst_X2_clockOf win_RX2 wc_X2_clockOf) rfl rfl rfl hd_X2_clockOf.2 ⟨Nat.le_of_ble_eq_true rfl, Nat.le_of_ble_eq_true rfl⟩) rfl (Nat.le_of_ble_eq_true rfl) dX2_greatestPart_38 rfl ?_
      refine V_bipush X (-121) dX2_greatestPart_41 (by decide) ?_
      refine V_isub X dX2_greatestPart_43 ?_
      refine V_istore X [(4, .int ((f_X2_clockOf x8 a1) - (-121))), (0, .ref (zad y (0, 17, 0))), (1, .int a1), (2, .int x7), (3, .int x8)] dX2_greatestPart_44 (by decide) rfl ?_
      refine zlt_el (P := fun (x13 : Int32) => V X μ9 46 [(4, .int x13), (0, .ref (zad y (0, 17, 0))), (1, .int a1), (2, .int x7), (3, .int x8)] []) h (fun x13 h => ?_)
      refine V_aload_n X 1 dX2_greatestPart_46 rfl rfl ?_
      refine V_getr X (o := (0, 17, 0)) (i := (0, 18, 0)) (ci := 2) (k := 0) (N := 3) (T := TX2) (C := RX2) ⟨by decide, rfl⟩ rfl rfl rfl (by decide) (mBa inB_X2) (mB wl_RX2_11) dX2_greatestPart_47 ?_
      refine V_iload_n X 4 dX2_greatestPart_50 rfl rfl ?_
      obtain ⟨g14, h⟩ := gd_some h
      refine V_iald X x8.toNatClampNeg rfl (o := (0, 18, 0)) (n := 1539) ⟨by decide, rfl⟩ rfl rfl g14 dX2_greatestPart_51 ?_
      refine V_iconst X 1 dX2_greatestPart_52 (by decide) ?_
      obtain ⟨x16, μ17, h1, h⟩ := bd2_some h
      have hk : V X μ17 94 [(0, .ref (zad y (0, 17, 0))), (1, .int a1), (2, .int x16), (3, .int x8)] [] := by
        clear h1
        refine V_inc X 3 1 [(3, .int (x8 + 1)), (0, .ref (zad y (0, 17, 0))), (1, .int a1), (2, .int x16)] dX2_greatestPart_94 rfl (by decide) (by decide) rfl ?_
        refine V_goto X (tgt := 28) dX2_greatestPart_97 (by decide) ?_
        refine V_sub X [1, 2, 3, 0] (lv' := [(0, .ref (zad y (0, 17, 0))), (1, .int a1), (2, .int x16), (3, .int (x8 + 1))]) rfl ?_
        cases h
        exact hz
      replace h := h1
      clear h1
      refine V_icmp_gt X (tgt := 94) dX2_greatestPart_53 (by decide) (fun b15 => ?_) (fun b15 => ?_)
      · replace h := (if_pos b15).symm.trans h
        refine V_sub X [1, 2, 3, 4] (lv' := [(0, .ref (zad y (0, 17, 0))), (1, .int a1), (2, .int x7), (3, .int x8)]) rfl ?_
        obtain ⟨rfl, rfl⟩ := so2 h
        exact hk
      · replace h := (if_neg b15).symm.trans h
        refine V_iload X 0 dX2_greatestPart_56 rfl ?_
        refine V_if_lt X (tgt := 94) dX2_greatestPart_58 (by decide) (fun b18 => ?_) (fun b18 => ?_)
        · replace h := (if_pos b18).symm.trans h
          refine V_sub X [1, 2, 3, 4] (lv' := [(0, .ref (zad y (0, 17, 0))), (1, .int a1), (2, .int x7), (3, .int x8)]) rfl ?_
          obtain ⟨rfl, rfl⟩ := so2 h
          exact hk
        · replace h := (if_neg b18).symm.trans h
          refine V_iload X 0 dX2_greatestPart_61 rfl ?_
          refine V_aload_n X 1 dX2_greatestPart_63 rfl rfl ?_
          refine V_getr X (o := (0, 17, 0)) (i := (0, 19, 0)) (ci := 2) (k := 1) (N := 3) (T := TX2) (C := RX2) ⟨by decide, rfl⟩ rfl rfl rfl (by decide) (mBa inB_X2) (mB wl_RX2_15) dX2_greatestPart_64 ?_
          refine V_alen X 243 (o := (0, 19, 0)) (n := 243) ⟨by decide, rfl⟩ rfl rfl (by decide) dX2_greatestPart_67 ?_
          refine V_icmp_ge X (tgt := 94) dX2_greatestPart_68 (by decide) (fun b19 => ?_) (fun b19 => ?_)
          · replace h := (if_pos b19).symm.trans h
            refine V_sub X [1, 2, 3, 4] (lv' := [(0, .ref (zad y (0, 17, 0))), (1, .int a1), (2, .int x7), (3, .int x8)]) rfl ?_
            obtain ⟨rfl, rfl⟩ := so2 h
            exact hk
          · replace h := (if_neg b19).symm.trans h
            refine V_aload_n X 1 dX2_greatestPart_71 rfl rfl ?_
            refine V_getr X (o := (0, 17, 0)) (i := (0, 19, 0)) (ci := 2) (k := 1) (N := 3) (T := TX2) (C := RX2) ⟨by decide, rfl⟩ rfl rfl rfl (by decide) (mBa inB_X2) (mB wl_RX2_15) dX2_greatestPart_72 ?_
            refine V_iload X 0 dX2_greatestPart_75 rfl ?_
            refine V_dup2 X dX2_greatestPart_77 rfl rfl ?_
            obtain ⟨g20, h⟩ := gd_some h
            refine V_iald X x13.toNatClampNeg rfl (o := (0, 19, 0)) (n := 243) ⟨by decide, rfl⟩ rfl rfl g20 dX2_greatestPart_78 ?_
            refine V_iconst X 1 dX2_greatestPart_79 (by decide) ?_
            refine V_iadd X dX2_greatestPart_80 ?_
            refine V_iast X x13.toNatClampNeg rfl (o := (0, 19, 0)) (n := 243) ⟨by decide, rfl⟩ rfl rfl g20 dX2_greatestPart_81 ?_
            refine zlt_el (P := fun (μ21 : ZMem) => V X μ21 82 [(4, .int x13), (0, .ref (zad y (0, 17, 0))), (1, .int a1), (2, .int x7), (3, .int x8)] []) h (fun μ21 h => ?_)
            refine V_iload_n X 3 dX2_greatestPart_82 rfl rfl ?_
            refine V_aload_n X 1 dX2_greatestPart_83 rfl rfl ?_
            refine V_getr X (o := (0, 17, 0)) (i := (0, 19, 0)) (ci := 2) (k := 1) (N := 3) (T := TX2) (C := RX2) ⟨by decide, rfl⟩ rfl rfl rfl (by decide) (mBa inB_X2) (mB wl_RX2_15) dX2_greatestPart_84 ?_
            refine V_iload X 0 dX2_greatestPart_87 rfl ?_
            refine V_iald X x13.toNatClampNeg rfl (o := (0, 19, 0)) (n := 243) ⟨by decide, rfl⟩ rfl rfl g20 dX2_greatestPart_89 ?_
            refine V_zmax X (ix := 38) (mB wm_RX2_38) (mB wst_Math_max) (mB win_Math) (mB wc_Math_max) (Nat.le_of_ble_eq_true rfl) (Nat.le_of_ble_eq_true rfl) dX2_greatestPart_90 ?_
            refine V_istore_n X [(2, .int (zmax x7 (μ21 (0, 19, 0) x13.toNatClampNeg))), (4, .int x13), (0, .ref (zad y (0, 17, 0))), (1, .int a1), (3, .int x8)] dX2_greatestPart_93 rfl (by decide) rfl ?_
            refine zlt_el (P := fun (x22 : Int32) => V X μ21 94 [(2, .int x22), (4, .int x13), (0, .ref (zad y (0, 17, 0))), (1, .int a1), (3, .int x8)] []) h (fun x22 h => ?_)
            refine V_sub X [2, 3, 0, 4] (lv' := [(0, .ref (zad y (0, 17, 0))), (1, .int a1), (2, .int x22), (3, .int x8)]) rfl ?_
            obtain ⟨rfl, rfl⟩ := so2 h
            exact hk
  refine lp_ind (P := fun q => V X q.2 2 [(0, .ref (zad y (0, 17, 0))), (1, .int a1), (2, .int q.1)] []) (fun q z h hz => ?_) hl
  obtain ⟨x1, μ2⟩ := q
  replace h := un2_eq h
  show V X μ2 2 [(0, .ref (zad y (0, 17, 0))), (1, .int a1), (2, .int x1)] []
  refine V_iload_n X 2 dX2_greatestPart_2 rfl rfl ?_
  refine V_aload_n X 0 dX2_greatestPart_3 rfl rfl ?_
  refine V_getr X (o := (0, 17, 0)) (i := (0, 19, 0)) (ci := 2) (k := 1) (N := 3) (T := TX2) (C := RX2) ⟨by decide, rfl⟩ rfl rfl rfl (by decide) (mBa inB_X2) (mB wl_RX2_15) dX2_greatestPart_4 ?_
  refine V_alen X 243 (o := (0, 19, 0)) (n := 243) ⟨by decide, rfl⟩ rfl rfl (by decide) dX2_greatestPart_7 ?_
  refine V_icmp_ge X (tgt := 24) dX2_greatestPart_8 (by decide) (fun b4 => ?_) (fun b4 => ?_)
  · replace h := (if_pos b4).symm.trans h
    refine V_sub X [0, 1] (lv' := [(0, .ref (zad y (0, 17, 0))), (1, .int a1)]) rfl ?_
    cases h
    obtain rfl := pr1 hz
    exact hk
  · replace h := (if_neg b4).symm.trans h
    refine V_aload_n X 0 dX2_greatestPart_11 rfl rfl ?_
    refine V_getr X (o := (0, 17, 0)) (i := (0, 19, 0)) (ci := 2) (k := 1) (N := 3) (T := TX2) (C := RX2) ⟨by decide, rfl⟩ rfl rfl rfl (by decide) (mBa inB_X2) (mB wl_RX2_15) dX2_greatestPart_12 ?_
    refine V_iload_n X 2 dX2_greatestPart_15 rfl rfl ?_
    refine V_iconst X 0 dX2_greatestPart_16 (by decide) ?_
    obtain ⟨g5, h⟩ := gd_some h
    refine V_iast X x1.toNatClampNeg rfl (o := (0, 19, 0)) (n := 243) ⟨by decide, rfl⟩ rfl rfl g5 dX2_greatestPart_17 ?_
    refine zlt_el (P := fun (μ6 : ZMem) => V X μ6 18 [(0, .ref (zad y (0, 17, 0))), (1, .int a1), (2, .int x1)] []) h (fun μ6 h => ?_)
    refine V_inc X 2 1 [(2, .int (x1 + 1)), (0, .ref (zad y (0, 17, 0))), (1, .int a1)] dX2_greatestPart_18 rfl (by decide) (by decide) rfl ?_
    refine V_goto X (tgt := 2) dX2_greatestPart_21 (by decide) ?_
    refine V_sub X [1, 2, 0] (lv' := [(0, .ref (zad y (0, 17, 0))), (1, .int a1), (2, .int (x1 + 1))]) rfl ?_
    cases h
    exact hz

def f_X2_bestRound (μ : ZMem) : Option (Int32 × ZMem) := bd (f_X2_countFits μ) (fun (x2 : Int32) => if 2 ≤ x2 then bd2 (lp (σ := Int32 × Int32 × Int32 × ZMem) (fun q => un4 q (fun (x4 : Int32) (x5 : Int32) (x6 : Int32) (μ7 : ZMem) => if 9 < x6 then some (.inr (x4, μ7)) else bd2 (f_X2_greatestPart x6 μ7) (fun (x12 : Int32) (μ13 : ZMem) => bd2 (α := Int32) (β := Int32) (jk (some (x6, x12)) (fun k17 => if x4 = (-1) then k17 else if x5 ≤ x12 then some (x4, x5) else k17)) (fun (x15 : Int32) (x16 : Int32) => some (.inl (x15, x16, (x6 + 1), μ13)))))) FU ((-1), 0, 0, μ)) (fun (x8 : Int32) (μ9 : ZMem) => some (x8, μ9)) else some ((-1), μ))
set_option maxRecDepth 100000 in
set_option maxHeartbeats 4000000 in
theorem M_X2_bestRound {l : Launch} {D : va_G} {y : ZLay}   {μ : ZMem} {r : Int32} {μ0 : ZMem} (h : f_X2_bestRound μ = some (r, μ0)) : MI l yX2_bestRound wb_X2_bestRound rm_X2_bestRound D y [.ref (zad y (0, 17, 0))] μ r μ0 := by
  unfold f_X2_bestRound at h
  refine MI_of RX2 [(0, .ref (zad y (0, 17, 0)))] (by decide) rfl rfl (Nat.le_of_ble_eq_true rfl) rfl ?_
  intro p e s m args below meth c A X
  refine V_aload_n X 0 dX2_bestRound_0 rfl rfl ?_
  obtain ⟨x2, c1, h⟩ := bd_some h
  refine V_callVi X (As := []) (M_X2_countFits c1) (cwV 0 X.2.2.2.2.2.2.1 (gV wm_RX2_30 wi_X2_countFits wse_X2_countFits win_RX2 wc_X2_countFits) rfl rfl rfl hd_X2_countFits ⟨Nat.le_of_ble_eq_true rfl, Nat.le_of_ble_eq_true rfl⟩) (b := (0, 17, 0)) ⟨by decide, rfl⟩ rfl rfl rfl rfl (Nat.le_of_ble_eq_true rfl) dX2_bestRound_1 rfl ?_
  refine V_iconst X 2 dX2_bestRound_4 (by decide) ?_
  refine V_icmp_ge X (tgt := 10) dX2_bestRound_5 (by decide) (fun b3 => ?_) (fun b3 => ?_)
  · replace h := (if_pos b3).symm.trans h
    refine V_iconst X (-1) dX2_bestRound_10 (by decide) ?_
    refine V_istore_n X [(1, .int (-1)), (0, .ref (zad y (0, 17, 0)))] dX2_bestRound_11 rfl (by decide) rfl ?_
    refine V_iconst X 0 dX2_bestRound_12 (by decide) ?_
    refine V_istore_n X [(2, .int 0), (1, .int (-1)), (0, .ref (zad y (0, 17, 0)))] dX2_bestRound_13 rfl (by decide) rfl ?_
    refine V_iconst X 0 dX2_bestRound_14 (by decide) ?_
    refine V_istore_n X [(3, .int 0), (2, .int 0), (1, .int (-1)), (0, .ref (zad y (0, 17, 0)))] dX2_bestRound_15 rfl (by decide) rfl ?_
    refine V_sub X [3, 2, 1, 0] (lv' := [(0, .ref (zad y (0, 17, 0))), (1, .int (-1)), (2, .int 0), (3, .int 0)]) rfl ?_
    obtain ⟨x8, μ9, hl, h⟩ := bd2_some h
    have hk : V X μ9 51 [(1, .int x8)] [] := by
      clear hl
      refine V_iload_n X 0 dX2_bestRound_51 rfl rfl ?_
      exact V_iretW X h dX2_bestRound_52
    refine lp_ind (P := fun q => V X q.2.2.2 16 [(0, .ref (zad y (0, 17, 0))), (1, .int q.1), (2, .int q.2.1), (3, .int q.2.2.1)] []) (fun q z h hz => ?_) hl
    obtain ⟨x4, x5, x6, μ7⟩ := q
    replace h := un4_eq h
    show V X μ7 16 [(0, .ref (zad y (0, 17, 0))), (1, .int x4), (2, .int x5), (3, .int x6)] []
    refine V_iload_n X 3 dX2_bestRound_16 rfl rfl ?_
    refine V_bipush X 9 dX2_bestRound_17 (by decide) ?_
    refine V_icmp_gt X (tgt := 51) dX2_bestRound_19 (by decide) (fun b10 => ?_) (fun b10 => ?_)
    · replace h := (if_pos b10).symm.trans h
      refine V_sub X [1] (lv' := [(1, .int x4)]) rfl ?_
      cases h
      obtain ⟨rfl, rfl⟩ := pr2 hz
      exact hk
    · replace h := (if_neg b10).symm.trans h
      refine V_aload_n X 0 dX2_bestRound_22 rfl rfl ?_
      refine V_iload_n X 3 dX2_bestRound_23 rfl rfl ?_
      obtain ⟨x12, μ13, c11, h⟩ := bd2_some h
      refine V_callVi X (As := [.int x6]) (M_X2_greatestPart c11) (cwV 1 X.2.2.2.2.2.2.1 (gV wm_RX2_34 wi_X2_greatestPart wse_X2_greatestPart win_RX2 wc_X2_greatestPart) rfl rfl rfl hd_X2_greatestPart ⟨Nat.le_of_ble_eq_true rfl, Nat.le_of_ble_eq_true rfl⟩) (b := (0, 17, 0)) ⟨by decide, rfl⟩ rfl rfl rfl rfl (Nat.le_of_ble_eq_true rfl) dX2_bestRound_24 rfl ?_
      refine V_istore X [(4, .int x12), (0, .ref (zad y (0, 17, 0))), (1, .int x4), (2, .int x5), (3, .int x6)] dX2_bestRound_27 (by decide) rfl ?_
      refine V_iload_n X 2 dX2_bestRound_29 rfl rfl ?_
      refine V_iconst X (-1) dX2_bestRound_30 (by decide) ?_
      obtain ⟨x15, x16, h1, h⟩ := bd2_some h
      have hk : V X μ13 45 [(0, .ref (zad y (0, 17, 0))), (1, .int x15), (2, .int x16), (3, .int x6)] [] := by
        clear h1
        refine V_inc X 3 1 [(3, .int (x6 + 1)), (0, .ref (zad y (0, 17, 0))), (1, .int x15), (2, .int x16)] dX2_bestRound_45 rfl (by decide) (by decide) rfl ?_
        refine V_goto X (tgt := 16) dX2_bestRound_48 (by decide) ?_
        refine V_sub X [1, 2, 3, 0] (lv' := [(0, .ref (zad y (0, 17, 0))), (1, .int x15), (2, .int x16), (3, .int (x6 + 1))]) rfl ?_
        cases h
        exact hz
      replace h := h1
      clear h1
      refine jk0_el (P := V X μ13 40 [(0, .ref (zad y (0, 17, 0))), (3, .int x6), (4, .int x12)] []) h (fun h => ?_) (fun k17 hk17 h => ?_)
      · refine V_iload_n X 1 dX2_bestRound_40 rfl rfl ?_
        refine V_istore_n X [(1, .int x6), (0, .ref (zad y (0, 17, 0))), (3, .int x6), (4, .int x12)] dX2_bestRound_41 rfl (by decide) rfl ?_
        refine V_iload X 3 dX2_bestRound_42 rfl ?_
        refine V_istore_n X [(2, .int x12), (1, .int x6), (0, .ref (zad y (0, 17, 0))), (3, .int x6), (4, .int x12)] dX2_bestRound_44 rfl (by decide) rfl ?_
        refine V_sub X [2, 1, 0, 3] (lv' := [(0, .ref (zad y (0, 17, 0))), (1, .int x6), (2, .int x12), (3, .int x6)]) rfl ?_
        obtain ⟨rfl, rfl⟩ := so2 h
        exact hk
      · refine V_icmp_eq X (tgt := 40) dX2_bestRound_31 (by decide) (fun b14 => ?_) (fun b14 => ?_)
        · replace h := (if_pos b14).symm.trans h
          refine V_sub X [1, 4, 0] (lv' := [(0, .ref (zad y (0, 17, 0))), (3, .int x6), (4, .int x12)]) rfl ?_
          exact hk17 h
        · replace h := (if_neg b14).symm.trans h
          refine V_iload X 0 dX2_bestRound_34 rfl ?_
          refine V_iload_n X 3 dX2_bestRound_36 rfl rfl ?_
          refine V_icmp_ge X (tgt := 45) dX2_bestRound_37 (by decide) (fun b18 => ?_) (fun b18 => ?_)
          · replace h := (if_pos b18).symm.trans h
            refine V_sub X [1, 2, 3, 4] (lv' := [(0, .ref (zad y (0, 17, 0))), (1, .int x4), (2, .int x5), (3, .int x6)]) rfl ?_
            obtain ⟨rfl, rfl⟩ := so2 h
            exact hk
          · replace h := (if_neg b18).symm.trans h
            refine V_sub X [1, 4, 0] (lv' := [(0, .ref (zad y (0, 17, 0))), (3, .int x6), (4, .int x12)]) rfl ?_
            exact hk17 h
  · replace h := (if_neg b3).symm.trans h
    refine V_iconst X (-1) dX2_bestRound_8 (by decide) ?_
    exact V_iretW X h dX2_bestRound_9

def f_X2_countHearing (a1 : Int32) (a2 : Int32) (μ : ZMem) : Option (Int32) := bd (lp (σ := Int32 × Int32) (fun q => un2 q (fun (x1 : Int32) (x2 : Int32) => if (μ (0, 17, 0) 2) ≤ x2 then some (.inr x1) else gd (zin x2 1539) (bd (α := Int32) (jk (some 0) (fun k8 => if 1 < (μ (0, 18, 0) x2.toNatClampNeg) then k8 else bd (f_X2_isHeard x2 a1 a2) (fun (x10 : Int32) => if x10 = 0 then k8 else some 1))) (fun (x7 : Int32) => zlt (x1 + x7) (fun (x12 : Int32) => some (.inl (x12, (x2 + 1)))))))) FU (0, 0)) (fun (x3 : Int32) => some x3)
set_option maxRecDepth 100000 in
set_option maxHeartbeats 4000000 in
theorem M_X2_countHearing {l : Launch} {D : va_G} {y : ZLay} {a1 : Int32} {a2 : Int32}  {μ : ZMem} {r : Int32} (h : f_X2_countHearing a1 a2 μ = some r) : MI l yX2_countHearing wb_X2_countHearing rm_X2_countHearing D y [.ref (zad y (0, 17, 0)), .int a1, .int a2] μ r μ := by
  unfold f_X2_countHearing at h
  refine MI_of RX2 [(0, .ref (zad y (0, 17, 0))), (1, .int a1), (2, .int a2)] (by decide) rfl rfl (Nat.le_of_ble_eq_true rfl) rfl ?_
  intro p e s m args below meth c A X
  refine V_iconst X 0 dX2_countHearing_0 (by decide) ?_
  refine V_istore_n X [(3, .int 0), (0, .ref (zad y (0, 17, 0))), (1, .int a1), (2, .int a2)] dX2_countHearing_1 rfl (by decide) rfl ?_
  refine V_iconst X 0 dX2_countHearing_2 (by decide) ?_
  refine V_istore X [(4, .int 0), (3, .int 0), (0, .ref (zad y (0, 17, 0))), (1, .int a1), (2, .int a2)] dX2_countHearing_3 (by decide) rfl ?_
  refine V_sub X [2, 3, 4, 1, 0] (lv' := [(0, .ref (zad y (0, 17, 0))), (1, .int a1), (2, .int a2), (3, .int 0), (4, .int 0)]) rfl ?_
  obtain ⟨x3, hl, h⟩ := bd_some h
  have hk : V X μ 49 [(3, .int x3)] [] := by
    clear hl
    refine V_iload_n X 0 dX2_countHearing_49 rfl rfl ?_
    exact V_iretR X h dX2_countHearing_50
  refine lp_ind (P := fun q => V X μ 5 [(0, .ref (zad y (0, 17, 0))), (1, .int a1), (2, .int a2), (3, .int q.1), (4, .int q.2)] []) (fun q z h hz => ?_) hl
  obtain ⟨x1, x2⟩ := q
  replace h := un2_eq h
  show V X μ 5 [(0, .ref (zad y (0, 17, 0))), (1, .int a1), (2, .int a2), (3, .int x1), (4, .int x2)] []
  refine V_iload X 4 dX2_countHearing_5 rfl ?_
  refine V_aload_n X 0 dX2_countHearing_7 rfl rfl ?_
  refine V_geti X (o := (0, 17, 0)) (ci := 2) (k := 2) (N := 3) (T := TX2) (C := RX2) ⟨by decide, rfl⟩ rfl rfl rfl (by decide) (mBa inB_X2) (mB wl_RX2_18) dX2_countHearing_8 ?_
  refine V_icmp_ge X (tgt := 49) dX2_countHearing_11 (by decide) (fun b4 => ?_) (fun b4 => ?_)
  · replace h := (if_pos b4).symm.trans h
    refine V_sub X [3] (lv' := [(3, .int x1)]) rfl ?_
    cases h
    obtain rfl := pr1 hz
    exact hk
  · replace h := (if_neg b4).symm.trans h
    refine V_iload_n X 3 dX2_countHearing_14 rfl rfl ?_
    refine V_aload_n X 0 dX2_countHearing_15 rfl rfl ?_
    refine V_getr X (o := (0, 17, 0)) (i := (0, 18, 0)) (ci := 2) (k := 0) (N := 3) (T := TX2) (C := RX2) ⟨by decide, rfl⟩ rfl rfl rfl (by decide) (mBa inB_X2) (mB wl_RX2_11) dX2_countHearing_16 ?_
    refine V_iload X 4 dX2_countHearing_19 rfl ?_
    obtain ⟨g5, h⟩ := gd_some h
    refine V_iald X x2.toNatClampNeg rfl (o := (0, 18, 0)) (n := 1539) ⟨by decide, rfl⟩ rfl rfl g5 dX2_countHearing_21 ?_
    refine V_iconst X 1 dX2_countHearing_22 (by decide) ?_
    obtain ⟨x7, h1, h⟩ := bd_some h
    have hk : V X μ 41 [(0, .ref (zad y (0, 17, 0))), (1, .int a1), (2, .int a2), (4, .int x2)] [.int x7, .int x1] := by
      clear h1
      refine V_iadd X dX2_countHearing_41 ?_
      refine V_istore_n X [(3, .int (x1 + x7)), (0, .ref (zad y (0, 17, 0))), (1, .int a1), (2, .int a2), (4, .int x2)] dX2_countHearing_42 rfl (by decide) rfl ?_
      refine zlt_el (P := fun (x12 : Int32) => V X μ 43 [(3, .int x12), (0, .ref (zad y (0, 17, 0))), (1, .int a1), (2, .int a2), (4, .int x2)] []) h (fun x12 h => ?_)
      refine V_inc X 4 1 [(4, .int (x2 + 1)), (3, .int x12), (0, .ref (zad y (0, 17, 0))), (1, .int a1), (2, .int a2)] dX2_countHearing_43 rfl (by decide) (by decide) rfl ?_
      refine V_goto X (tgt := 5) dX2_countHearing_46 (by decide) ?_
      refine V_sub X [2, 3, 4, 1, 0] (lv' := [(0, .ref (zad y (0, 17, 0))), (1, .int a1), (2, .int a2), (3, .int x12), (4, .int (x2 + 1))]) rfl ?_
      cases h
      exact hz
    replace h := h1
    clear h1
    refine jk0_el (P := V X μ 40 [(0, .ref (zad y (0, 17, 0))), (1, .int a1), (2, .int a2), (4, .int x2)] [.int x1]) h (fun h => ?_) (fun k8 hk8 h => ?_)
    · refine V_iconst X 0 dX2_countHearing_40 (by decide) ?_
      obtain rfl := so1 h
      exact hk
    · refine V_icmp_gt X (tgt := 40) dX2_countHearing_23 (by decide) (fun b6 => ?_) (fun b6 => ?_)
      · replace h := (if_pos b6).symm.trans h
        refine V_sub X [0, 1, 2, 4] (lv' := [(0, .ref (zad y (0, 17, 0))), (1, .int a1), (2, .int a2), (4, .int x2)]) rfl ?_
        exact hk8 h
      · replace h := (if_neg b6).symm.trans h
        refine V_iload X 4 dX2_countHearing_26 rfl ?_
        refine V_iload_n X 1 dX2_countHearing_28 rfl rfl ?_
        refine V_iload_n X 2 dX2_countHearing_29 rfl rfl ?_
        obtain ⟨x10, c9, h⟩ := bd_some h
        refine V_callSi X (As := [.int x2, .int a1, .int a2]) (M_X2_isHeard c9) (va_cwS 3 X.2.2.2.2.2.2.1 (gS wm_RX2_26 wst_X2_isHeard win_RX2 wc_X2_isHeard) rfl rfl rfl hd_X2_isHeard.2 ⟨Nat.le_of_ble_eq_true rfl, Nat.le_of_ble_eq_true rfl⟩) rfl (Nat.le_of_ble_eq_true rfl) dX2_countHearing_30 rfl ?_
        refine V_if_eq X (tgt := 40) dX2_countHearing_33 (by decide) (fun b11 => ?_) (fun b11 => ?_)
        · replace h := (if_pos b11).symm.trans h
          refine V_sub X [0, 1, 2, 4] (lv' := [(0, .ref (zad y (0, 17, 0))), (1, .int a1), (2, .int a2), (4, .int x2)]) rfl ?_
          exact hk8 h
        · replace h := (if_neg b11).symm.trans h
          refine V_iconst X 1 dX2_countHearing_36 (by decide) ?_
          refine V_goto X (tgt := 41) dX2_countHearing_37 (by decide) ?_
          refine V_sub X [0, 1, 2, 4] (lv' := [(0, .ref (zad y (0, 17, 0))), (1, .int a1), (2, .int a2), (4, .int x2)]) rfl ?_
          obtain rfl := so1 h
          exact hk

