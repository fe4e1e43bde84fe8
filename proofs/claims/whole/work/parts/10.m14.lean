def f_X12_blameMany (μ : ZMem) : Option (Int32 × ZMem) := zlt (μ (0, 32, 0) 8) (fun (x1 : Int32) => zlt (mset μ (0, 32, 0) 8 0) (fun (μ2 : ZMem) => bd (α := Int32) (jk (some 0) (fun k5 => if (zrem x1 3) = 0 then if 60 < x1 then k5 else some 1 else k5)) (fun (x4 : Int32) => bd (lp (σ := Int32 × Int32) (fun q => un2 q (fun (x7 : Int32) (x8 : Int32) => if x1 ≤ x8 then some (.inr x7) else if x7 = 0 then some (.inr x7) else gd (zin x8 400) (bd (α := Int32) (jk (some 0) (fun k15 => if 8 ≤ (μ2 (0, 37, 0) x8.toNatClampNeg) then k15 else gd (zin (x8 + 1) 400) (if 8 ≤ (μ2 (0, 37, 0) (x8 + 1).toNatClampNeg) then k15 else if (μ2 (0, 37, 0) x8.toNatClampNeg) = (μ2 (0, 37, 0) (x8 + 1).toNatClampNeg) then k15 else gd (zin (x8 + 2) 400) (if 2 ≤ (μ2 (0, 37, 0) (x8 + 2).toNatClampNeg) then k15 else some 1)))) (fun (x14 : Int32) => some (.inl (x14, (x8 + 3))))))) FU (x4, 0)) (fun (x9 : Int32) => zlt (α := Int32) (if x9 = 0 then 1 else 0) (fun (x22 : Int32) => zlt (mset μ2 (0, 32, 0) 0 x22) (fun (μ23 : ZMem) => some (x1, μ23)))))))
set_option maxRecDepth 100000 in
set_option maxHeartbeats 4000000 in
theorem M_X12_blameMany {l : Launch} {D : va_G} {y : ZLay}   {μ : ZMem} {r : Int32} {μ0 : ZMem} (h : f_X12_blameMany μ = some (r, μ0)) : MI l yX12_blameMany wb_X12_blameMany rm_X12_blameMany D y [.ref (zad y (0, 32, 0))] μ r μ0 := by
  unfold f_X12_blameMany at h
  refine MI_of RX12 [(0, .ref (zad y (0, 32, 0)))] (by decide) rfl rfl (Nat.le_of_ble_eq_true rfl) rfl ?_
  intro p e s m args below meth c A X
  refine V_aload_n X 0 dX12_blameMany_0 rfl rfl ?_
  refine V_geti X (o := (0, 32, 0)) (ci := 12) (k := 8) (N := 30) (T := TX12) (C := RX12) ⟨by decide, rfl⟩ rfl rfl rfl (by decide) (mBa inB_X12) (mB wl_RX12_76) dX12_blameMany_1 ?_
  refine V_istore_n X [(1, .int (μ (0, 32, 0) 8)), (0, .ref (zad y (0, 32, 0)))] dX12_blameMany_4 rfl (by decide) rfl ?_
  refine zlt_el (P := fun (x1 : Int32) => V X μ 5 [(1, .int x1), (0, .ref (zad y (0, 32, 0)))] []) h (fun x1 h => ?_)
  refine V_aload_n X 1 dX12_blameMany_5 rfl rfl ?_
  refine V_iconst X 0 dX12_blameMany_6 (by decide) ?_
  refine V_puti X tyX12 .int (o := (0, 32, 0)) (ci := 12) (k := 8) (N := 30) (T := TX12) (C := RX12) ⟨by decide, rfl⟩ rfl rfl rfl (by decide) (mBa inB_X12) tyX12_ok nmX12 (mB wl_RX12_76) rfl rfl rfl rfl dX12_blameMany_7 ?_
  refine zlt_el (P := fun (μ2 : ZMem) => V X μ2 10 [(1, .int x1), (0, .ref (zad y (0, 32, 0)))] []) h (fun μ2 h => ?_)
  refine V_iload_n X 0 dX12_blameMany_10 rfl rfl ?_
  refine V_iconst X 3 dX12_blameMany_11 (by decide) ?_
  refine V_rem X dX12_blameMany_12 (by decide) ?_
  obtain ⟨x4, h1, h⟩ := bd_some h
  have hk : V X μ2 27 [(0, .ref (zad y (0, 32, 0))), (1, .int x1)] [.int x4] := by
    clear h1
    refine V_istore_n X [(2, .int x4), (0, .ref (zad y (0, 32, 0))), (1, .int x1)] dX12_blameMany_27 rfl (by decide) rfl ?_
    refine V_iconst X 0 dX12_blameMany_28 (by decide) ?_
    refine V_istore_n X [(3, .int 0), (2, .int x4), (0, .ref (zad y (0, 32, 0))), (1, .int x1)] dX12_blameMany_29 rfl (by decide) rfl ?_
    refine V_sub X [2, 3, 1, 0] (lv' := [(0, .ref (zad y (0, 32, 0))), (1, .int x1), (2, .int x4), (3, .int 0)]) rfl ?_
    obtain ⟨x9, hl, h⟩ := bd_some h
    have hk : V X μ2 104 [(0, .ref (zad y (0, 32, 0))), (1, .int x1), (2, .int x9)] [] := by
      clear hl
      refine V_aload_n X 0 dX12_blameMany_104 rfl rfl ?_
      refine V_iload_n X 2 dX12_blameMany_105 rfl rfl ?_
      obtain ⟨x22, h1, h⟩ := zl1_some h
      have hk : V X μ2 114 [(1, .int x1)] [.int x22, .ref (zad y (0, 32, 0))] := by
        clear h1
        refine V_puti X tyX12 .int (o := (0, 32, 0)) (ci := 12) (k := 0) (N := 30) (T := TX12) (C := RX12) ⟨by decide, rfl⟩ rfl rfl rfl (by decide) (mBa inB_X12) tyX12_ok nmX12 (mB wl_RX12_59) rfl rfl rfl rfl dX12_blameMany_114 ?_
        refine zlt_el (P := fun (μ23 : ZMem) => V X μ23 117 [(1, .int x1)] []) h (fun μ23 h => ?_)
        refine V_iload_n X 0 dX12_blameMany_117 rfl rfl ?_
        exact V_iretW X h dX12_blameMany_118
      replace h := h1
      clear h1
      refine V_if_eq X (tgt := 113) dX12_blameMany_106 (by decide) (fun b21 => ?_) (fun b21 => ?_)
      · replace h := (if_pos b21).symm.trans h
        refine V_iconst X 1 dX12_blameMany_113 (by decide) ?_
        refine V_sub X [1] (lv' := [(1, .int x1)]) rfl ?_
        obtain rfl := pr1 h
        exact hk
      · replace h := (if_neg b21).symm.trans h
        refine V_iconst X 0 dX12_blameMany_109 (by decide) ?_
        refine V_goto X (tgt := 114) dX12_blameMany_110 (by decide) ?_
        refine V_sub X [1] (lv' := [(1, .int x1)]) rfl ?_
        obtain rfl := pr1 h
        exact hk
    refine lp_ind (P := fun q => V X μ2 30 [(0, .ref (zad y (0, 32, 0))), (1, .int x1), (2, .int q.1), (3, .int q.2)] []) (fun q z h hz => ?_) hl
    obtain ⟨x7, x8⟩ := q
    replace h := un2_eq h
    show V X μ2 30 [(0, .ref (zad y (0, 32, 0))), (1, .int x1), (2, .int x7), (3, .int x8)] []
    refine V_iload_n X 3 dX12_blameMany_30 rfl rfl ?_
    refine V_iload_n X 1 dX12_blameMany_31 rfl rfl ?_
    refine V_icmp_ge X (tgt := 104) dX12_blameMany_32 (by decide) (fun b10 => ?_) (fun b10 => ?_)
    · replace h := (if_pos b10).symm.trans h
      refine V_sub X [0, 1, 2] (lv' := [(0, .ref (zad y (0, 32, 0))), (1, .int x1), (2, .int x7)]) rfl ?_
      cases h
      obtain rfl := pr1 hz
      exact hk
    · replace h := (if_neg b10).symm.trans h
      refine V_iload_n X 2 dX12_blameMany_35 rfl rfl ?_
      refine V_if_eq X (tgt := 104) dX12_blameMany_36 (by decide) (fun b11 => ?_) (fun b11 => ?_)
      · replace h := (if_pos b11).symm.trans h
        refine V_sub X [0, 1, 2] (lv' := [(0, .ref (zad y (0, 32, 0))), (1, .int x1), (2, .int x7)]) rfl ?_
        cases h
        obtain rfl := pr1 hz
        exact hk
      · replace h := (if_neg b11).symm.trans h
        refine V_aload_n X 0 dX12_blameMany_39 rfl rfl ?_
        refine V_getr X (o := (0, 32, 0)) (i := (0, 37, 0)) (ci := 12) (k := 7) (N := 30) (T := TX12) (C := RX12) ⟨by decide, rfl⟩ rfl rfl rfl (by decide) (mBa inB_X12) (mB wl_RX12_22) dX12_blameMany_40 ?_
        refine V_iload_n X 3 dX12_blameMany_43 rfl rfl ?_
        obtain ⟨g12, h⟩ := gd_some h
        refine V_iald X x8.toNatClampNeg rfl (o := (0, 37, 0)) (n := 400) ⟨by decide, rfl⟩ rfl rfl g12 dX12_blameMany_44 ?_
        refine V_bipush X 8 dX12_blameMany_45 (by decide) ?_
        obtain ⟨x14, h1, h⟩ := bd_some h
        have hk : V X μ2 97 [(0, .ref (zad y (0, 32, 0))), (1, .int x1), (3, .int x8)] [.int x14] := by
          clear h1
          refine V_istore_n X [(2, .int x14), (0, .ref (zad y (0, 32, 0))), (1, .int x1), (3, .int x8)] dX12_blameMany_97 rfl (by decide) rfl ?_
          refine V_inc X 3 3 [(3, .int (x8 + 3)), (2, .int x14), (0, .ref (zad y (0, 32, 0))), (1, .int x1)] dX12_blameMany_98 rfl (by decide) (by decide) rfl ?_
          refine V_goto X (tgt := 30) dX12_blameMany_101 (by decide) ?_
          refine V_sub X [2, 3, 1, 0] (lv' := [(0, .ref (zad y (0, 32, 0))), (1, .int x1), (2, .int x14), (3, .int (x8 + 3))]) rfl ?_
          cases h
          exact hz
        replace h := h1
        clear h1
        refine jk0_el (P := V X μ2 96 [(0, .ref (zad y (0, 32, 0))), (1, .int x1), (3, .int x8)] []) h (fun h => ?_) (fun k15 hk15 h => ?_)
        · refine V_iconst X 0 dX12_blameMany_96 (by decide) ?_
          obtain rfl := so1 h
          exact hk
        · refine V_icmp_ge X (tgt := 96) dX12_blameMany_47 (by decide) (fun b13 => ?_) (fun b13 => ?_)
          · replace h := (if_pos b13).symm.trans h
            refine V_sub X [0, 1, 3] (lv' := [(0, .ref (zad y (0, 32, 0))), (1, .int x1), (3, .int x8)]) rfl ?_
            exact hk15 h
          · replace h := (if_neg b13).symm.trans h
            refine V_aload_n X 0 dX12_blameMany_50 rfl rfl ?_
            refine V_getr X (o := (0, 32, 0)) (i := (0, 37, 0)) (ci := 12) (k := 7) (N := 30) (T := TX12) (C := RX12) ⟨by decide, rfl⟩ rfl rfl rfl (by decide) (mBa inB_X12) (mB wl_RX12_22) dX12_blameMany_51 ?_
            refine V_iload_n X 3 dX12_blameMany_54 rfl rfl ?_
            refine V_iconst X 1 dX12_blameMany_55 (by decide) ?_
            refine V_iadd X dX12_blameMany_56 ?_
            obtain ⟨g16, h⟩ := gd_some h
            refine V_iald X (x8 + 1).toNatClampNeg rfl (o := (0, 37, 0)) (n := 400) ⟨by decide, rfl⟩ rfl rfl g16 dX12_blameMany_57 ?_
            refine V_bipush X 8 dX12_blameMany_58 (by decide) ?_
            refine V_icmp_ge X (tgt := 96) dX12_blameMany_60 (by decide) (fun b17 => ?_) (fun b17 => ?_)
            · replace h := (if_pos b17).symm.trans h
              refine V_sub X [0, 1, 3] (lv' := [(0, .ref (zad y (0, 32, 0))), (1, .int x1), (3, .int x8)]) rfl ?_
              exact hk15 h
            · replace h := (if_neg b17).symm.trans h
              refine V_aload_n X 0 dX12_blameMany_63 rfl rfl ?_
              refine V_getr X (o := (0, 32, 0)) (i := (0, 37, 0)) (ci := 12) (k := 7) (N := 30) (T := TX12) (C := RX12) ⟨by decide, rfl⟩ rfl rfl rfl (by decide) (mBa inB_X12) (mB wl_RX12_22) dX12_blameMany_64 ?_
              refine V_iload_n X 3 dX12_blameMany_67 rfl rfl ?_
              refine V_iald X x8.toNatClampNeg rfl (o := (0, 37, 0)) (n := 400) ⟨by decide, rfl⟩ rfl rfl g12 dX12_blameMany_68 ?_
              refine V_aload_n X 0 dX12_blameMany_69 rfl rfl ?_
              refine V_getr X (o := (0, 32, 0)) (i := (0, 37, 0)) (ci := 12) (k := 7) (N := 30) (T := TX12) (C := RX12) ⟨by decide, rfl⟩ rfl rfl rfl (by decide) (mBa inB_X12) (mB wl_RX12_22) dX12_blameMany_70 ?_
              refine V_iload_n X 3 dX12_blameMany_73 rfl rfl ?_
              refine V_iconst X 1 dX12_blameMany_74 (by decide) ?_
              refine V_iadd X dX12_blameMany_75 ?_
              refine V_iald X (x8 + 1).toNatClampNeg rfl (o := (0, 37, 0)) (n := 400) ⟨by decide, rfl⟩ rfl rfl g16 dX12_blameMany_76 ?_
              refine V_icmp_eq X (tgt := 96) dX12_blameMany_77 (by decide) (fun b18 => ?_) (fun b18 => ?_)
              · replace h := (if_pos b18).symm.trans h
                refine V_sub X [0, 1, 3] (lv' := [(0, .ref (zad y (0, 32, 0))), (1, .int x1), (3, .int x8)]) rfl ?_
                exact hk15 h
              · replace h := (if_neg b18).symm.trans h
                refine V_aload_n X 0 dX12_blameMany_80 rfl rfl ?_
                refine V_getr X (o := (0, 32, 0)) (i := (0, 37, 0)) (ci := 12) (k := 7) (N := 30) (T := TX12) (C := RX12) ⟨by decide, rfl⟩ rfl rfl rfl (by decide) (mBa inB_X12) (mB wl_RX12_22) dX12_blameMany_81 ?_
                refine V_iload_n X 3 dX12_blameMany_84 rfl rfl ?_
                refine V_iconst X 2 dX12_blameMany_85 (by decide) ?_
                refine V_iadd X dX12_blameMany_86 ?_
                obtain ⟨g19, h⟩ := gd_some h
                refine V_iald X (x8 + 2).toNatClampNeg rfl (o := (0, 37, 0)) (n := 400) ⟨by decide, rfl⟩ rfl rfl g19 dX12_blameMany_87 ?_
                refine V_iconst X 2 dX12_blameMany_88 (by decide) ?_
                refine V_icmp_ge X (tgt := 96) dX12_blameMany_89 (by decide) (fun b20 => ?_) (fun b20 => ?_)
                · replace h := (if_pos b20).symm.trans h
                  refine V_sub X [0, 1, 3] (lv' := [(0, .ref (zad y (0, 32, 0))), (1, .int x1), (3, .int x8)]) rfl ?_
                  exact hk15 h
                · replace h := (if_neg b20).symm.trans h
                  refine V_iconst X 1 dX12_blameMany_92 (by decide) ?_
                  refine V_goto X (tgt := 97) dX12_blameMany_93 (by decide) ?_
                  refine V_sub X [0, 1, 3] (lv' := [(0, .ref (zad y (0, 32, 0))), (1, .int x1), (3, .int x8)]) rfl ?_
                  obtain rfl := so1 h
                  exact hk
  replace h := h1
  clear h1
  refine jk0_el (P := V X μ2 26 [(0, .ref (zad y (0, 32, 0))), (1, .int x1)] []) h (fun h => ?_) (fun k5 hk5 h => ?_)
  · refine V_iconst X 0 dX12_blameMany_26 (by decide) ?_
    obtain rfl := so1 h
    exact hk
  · refine V_if_ne X (tgt := 26) dX12_blameMany_13 (by decide) (fun b3 => ?_) (fun b3 => ?_)
    · replace h := (if_neg b3).symm.trans h
      refine V_sub X [1, 0] (lv' := [(0, .ref (zad y (0, 32, 0))), (1, .int x1)]) rfl ?_
      exact hk5 h
    · replace h := (if_pos b3).symm.trans h
      refine V_iload_n X 0 dX12_blameMany_16 rfl rfl ?_
      refine V_bipush X 60 dX12_blameMany_17 (by decide) ?_
      refine V_icmp_gt X (tgt := 26) dX12_blameMany_19 (by decide) (fun b6 => ?_) (fun b6 => ?_)
      · replace h := (if_pos b6).symm.trans h
        refine V_sub X [1, 0] (lv' := [(0, .ref (zad y (0, 32, 0))), (1, .int x1)]) rfl ?_
        exact hk5 h
      · replace h := (if_neg b6).symm.trans h
        refine V_iconst X 1 dX12_blameMany_22 (by decide) ?_
        refine V_goto X (tgt := 27) dX12_blameMany_23 (by decide) ?_
        refine V_sub X [1, 0] (lv' := [(0, .ref (zad y (0, 32, 0))), (1, .int x1)]) rfl ?_
        obtain rfl := so1 h
        exact hk

def f_X12_wrongBlames (a1 : Int32) (a2 : Int32) (μ : ZMem) : Option (Int32) := bd (lp (σ := Int32 × Int32) (fun q => un2 q (fun (x1 : Int32) (x2 : Int32) => if a2 ≤ x2 then some (.inr x1) else gd (zin x2 400) (gd (zin (x2 + 1) 400) (bd (f_X12_wouldHear a1 (μ (0, 37, 0) x2.toNatClampNeg) (μ (0, 37, 0) (x2 + 1).toNatClampNeg)) (fun (x8 : Int32) => gd (zin (x2 + 2) 400) (zlt (α := Int32) (if (μ (0, 37, 0) (x2 + 2).toNatClampNeg) = 1 then 1 else 0) (fun (x11 : Int32) => zlt (α := Int32) (if x8 = x11 then 0 else 1) (fun (x13 : Int32) => zlt (x1 + x13) (fun (x14 : Int32) => some (.inl (x14, (x2 + 3)))))))))))) FU (0, 0)) (fun (x3 : Int32) => some x3)
set_option maxRecDepth 100000 in
set_option maxHeartbeats 4000000 in
theorem M_X12_wrongBlames {l : Launch} {D : va_G} {y : ZLay} {a1 : Int32} {a2 : Int32}  {μ : ZMem} {r : Int32} (h : f_X12_wrongBlames a1 a2 μ = some r) : MI l yX12_wrongBlames wb_X12_wrongBlames rm_X12_wrongBlames D y [.ref (zad y (0, 32, 0)), .int a1, .int a2] μ r μ := by
  unfold f_X12_wrongBlames at h
  refine MI_of RX12 [(0, .ref (zad y (0, 32, 0))), (1, .int a1), (2, .int a2)] (by decide) rfl rfl (Nat.le_of_ble_eq_true rfl) rfl ?_
  intro p e s m args below meth c A X
  refine V_iconst X 0 dX12_wrongBlames_0 (by decide) ?_
  refine V_istore_n X [(3, .int 0), (0, .ref (zad y (0, 32, 0))), (1, .int a1), (2, .int a2)] dX12_wrongBlames_1 rfl (by decide) rfl ?_
  refine V_iconst X 0 dX12_wrongBlames_2 (by decide) ?_
  refine V_istore X [(4, .int 0), (3, .int 0), (0, .ref (zad y (0, 32, 0))), (1, .int a1), (2, .int a2)] dX12_wrongBlames_3 (by decide) rfl ?_
  refine V_sub X [2, 3, 4, 1, 0] (lv' := [(0, .ref (zad y (0, 32, 0))), (1, .int a1), (2, .int a2), (3, .int 0), (4, .int 0)]) rfl ?_
  obtain ⟨x3, hl, h⟩ := bd_some h
  have hk : V X μ 66 [(3, .int x3)] [] := by
    clear hl
    refine V_iload_n X 0 dX12_wrongBlames_66 rfl rfl ?_
    exact V_iretR X h dX12_wrongBlames_67
  refine lp_ind (P := fun q => V X μ 5 [(0, .ref (zad y (0, 32, 0))), (1, .int a1), (2, .int a2), (3, .int q.1), (4, .int q.2)] []) (fun q z h hz => ?_) hl
  obtain ⟨x1, x2⟩ := q
  replace h := un2_eq h
  show V X μ 5 [(0, .ref (zad y (0, 32, 0))), (1, .int a1), (2, .int a2), (3, .int x1), (4, .int x2)] []
  refine V_iload X 4 dX12_wrongBlames_5 rfl ?_
  refine V_iload_n X 2 dX12_wrongBlames_7 rfl rfl ?_
  refine V_icmp_ge X (tgt := 66) dX12_wrongBlames_8 (by decide) (fun b4 => ?_) (fun b4 => ?_)
  · replace h := (if_pos b4).symm.trans h
    refine V_sub X [3] (lv' := [(3, .int x1)]) rfl ?_
    cases h
    obtain rfl := pr1 hz
    exact hk
  · replace h := (if_neg b4).symm.trans h
    refine V_iload_n X 3 dX12_wrongBlames_11 rfl rfl ?_
    refine V_iload_n X 1 dX12_wrongBlames_12 rfl rfl ?_
    refine V_aload_n X 0 dX12_wrongBlames_13 rfl rfl ?_
    refine V_getr X (o := (0, 32, 0)) (i := (0, 37, 0)) (ci := 12) (k := 7) (N := 30) (T := TX12) (C := RX12) ⟨by decide, rfl⟩ rfl rfl rfl (by decide) (mBa inB_X12) (mB wl_RX12_22) dX12_wrongBlames_14 ?_
    refine V_iload X 4 dX12_wrongBlames_17 rfl ?_
    obtain ⟨g5, h⟩ := gd_some h
    refine V_iald X x2.toNatClampNeg rfl (o := (0, 37, 0)) (n := 400) ⟨by decide, rfl⟩ rfl rfl g5 dX12_wrongBlames_19 ?_
    refine V_aload_n X 0 dX12_wrongBlames_20 rfl rfl ?_
    refine V_getr X (o := (0, 32, 0)) (i := (0, 37, 0)) (ci := 12) (k := 7) (N := 30) (T := TX12) (C := RX12) ⟨by decide, rfl⟩ rfl rfl rfl (by decide) (mBa inB_X12) (mB wl_RX12_22) dX12_wrongBlames_21 ?_
    refine V_iload X 4 dX12_wrongBlames_24 rfl ?_
    refine V_iconst X 1 dX12_wrongBlames_26 (by decide) ?_
    refine V_iadd X dX12_wrongBlames_27 ?_
    obtain ⟨g6, h⟩ := gd_some h
    refine V_iald X (x2 + 1).toNatClampNeg rfl (o := (0, 37, 0)) (n := 400) ⟨by decide, rfl⟩ rfl rfl g6 dX12_wrongBlames_28 ?_
    obtain ⟨x8, c7, h⟩ := bd_some h
    refine V_callSi X (As := [.int a1, .int (μ (0, 37, 0) x2.toNatClampNeg), .int (μ (0, 37, 0) (x2 + 1).toNatClampNeg)]) (M_X12_wouldHear c7) (va_cwS 3 X.2.2.2.2.2.2.1 (gS wm_RX12_398 wst_X12_wouldHear win_RX12 wc_X12_wouldHear) rfl rfl rfl hd_X12_wouldHear.2 ⟨Nat.le_of_ble_eq_true rfl, Nat.le_of_ble_eq_true rfl⟩) rfl (Nat.le_of_ble_eq_true rfl) dX12_wrongBlames_29 rfl ?_
    refine V_aload_n X 0 dX12_wrongBlames_32 rfl rfl ?_
    refine V_getr X (o := (0, 32, 0)) (i := (0, 37, 0)) (ci := 12) (k := 7) (N := 30) (T := TX12) (C := RX12) ⟨by decide, rfl⟩ rfl rfl rfl (by decide) (mBa inB_X12) (mB wl_RX12_22) dX12_wrongBlames_33 ?_
    refine V_iload X 4 dX12_wrongBlames_36 rfl ?_
    refine V_iconst X 2 dX12_wrongBlames_38 (by decide) ?_
    refine V_iadd X dX12_wrongBlames_39 ?_
    obtain ⟨g9, h⟩ := gd_some h
    refine V_iald X (x2 + 2).toNatClampNeg rfl (o := (0, 37, 0)) (n := 400) ⟨by decide, rfl⟩ rfl rfl g9 dX12_wrongBlames_40 ?_
    refine V_iconst X 1 dX12_wrongBlames_41 (by decide) ?_
    obtain ⟨x11, h1, h⟩ := zl1_some h
    have hk : V X μ 50 [(0, .ref (zad y (0, 32, 0))), (1, .int a1), (2, .int a2), (4, .int x2)] [.int x11, .int x8, .int x1] := by
      clear h1
      obtain ⟨x13, h1, h⟩ := zl1_some h
      have hk : V X μ 58 [(0, .ref (zad y (0, 32, 0))), (1, .int a1), (2, .int a2), (4, .int x2)] [.int x13, .int x1] := by
        clear h1
        refine V_iadd X dX12_wrongBlames_58 ?_
        refine V_istore_n X [(3, .int (x1 + x13)), (0, .ref (zad y (0, 32, 0))), (1, .int a1), (2, .int a2), (4, .int x2)] dX12_wrongBlames_59 rfl (by decide) rfl ?_
        refine zlt_el (P := fun (x14 : Int32) => V X μ 60 [(3, .int x14), (0, .ref (zad y (0, 32, 0))), (1, .int a1), (2, .int a2), (4, .int x2)] []) h (fun x14 h => ?_)
        refine V_inc X 4 3 [(4, .int (x2 + 3)), (3, .int x14), (0, .ref (zad y (0, 32, 0))), (1, .int a1), (2, .int a2)] dX12_wrongBlames_60 rfl (by decide) (by decide) rfl ?_
        refine V_goto X (tgt := 5) dX12_wrongBlames_63 (by decide) ?_
        refine V_sub X [2, 3, 4, 1, 0] (lv' := [(0, .ref (zad y (0, 32, 0))), (1, .int a1), (2, .int a2), (3, .int x14), (4, .int (x2 + 3))]) rfl ?_
        cases h
        exact hz
      replace h := h1
      clear h1
      refine V_icmp_ne X (tgt := 57) dX12_wrongBlames_50 (by decide) (fun b12 => ?_) (fun b12 => ?_)
      · replace h := (if_neg b12).symm.trans h
        refine V_iconst X 1 dX12_wrongBlames_57 (by decide) ?_
        obtain rfl := pr1 h
        exact hk
      · replace h := (if_pos b12).symm.trans h
        refine V_iconst X 0 dX12_wrongBlames_53 (by decide) ?_
        refine V_goto X (tgt := 58) dX12_wrongBlames_54 (by decide) ?_
        obtain rfl := pr1 h
        exact hk
    replace h := h1
    clear h1
    refine V_icmp_ne X (tgt := 49) dX12_wrongBlames_42 (by decide) (fun b10 => ?_) (fun b10 => ?_)
    · replace h := (if_neg b10).symm.trans h
      refine V_iconst X 0 dX12_wrongBlames_49 (by decide) ?_
      refine V_sub X [0, 1, 2, 4] (lv' := [(0, .ref (zad y (0, 32, 0))), (1, .int a1), (2, .int a2), (4, .int x2)]) rfl ?_
      obtain rfl := pr1 h
      exact hk
    · replace h := (if_pos b10).symm.trans h
      refine V_iconst X 1 dX12_wrongBlames_45 (by decide) ?_
      refine V_goto X (tgt := 50) dX12_wrongBlames_46 (by decide) ?_
      refine V_sub X [0, 1, 2, 4] (lv' := [(0, .ref (zad y (0, 32, 0))), (1, .int a1), (2, .int a2), (4, .int x2)]) rfl ?_
      obtain rfl := pr1 h
      exact hk

def f_X12_blame (μ : ZMem) : Option (Int32 × ZMem) := bd2 (f_X12_blameMany μ) (fun (x2 : Int32) (μ3 : ZMem) => if (μ3 (0, 32, 0) 0) ≤ 0 then bd (lp (σ := Int32 × Int32) (fun q => un2 q (fun (x5 : Int32) (x6 : Int32) => if 17 ≤ x6 then some (.inr x5) else bd (f_X12_wrongBlames x6 x2 μ3) (fun (x10 : Int32) => zlt (α := Int32) (if 2 ≤ x10 then 0 else 1) (fun (x12 : Int32) => zlt (x5 + x12) (fun (x13 : Int32) => some (.inl (x13, (x6 + 1)))))))) FU (0, 0)) (fun (x7 : Int32) => some (x7, μ3)) else some (0, μ3))
set_option maxRecDepth 100000 in
set_option maxHeartbeats 4000000 in
theorem M_X12_blame {l : Launch} {D : va_G} {y : ZLay}   {μ : ZMem} {r : Int32} {μ0 : ZMem} (h : f_X12_blame μ = some (r, μ0)) : MI l yX12_blame wb_X12_blame rm_X12_blame D y [.ref (zad y (0, 32, 0))] μ r μ0 := by
  unfold f_X12_blame at h
  refine MI_of RX12 [(0, .ref (zad y (0, 32, 0)))] (by decide) rfl rfl (Nat.le_of_ble_eq_true rfl) rfl ?_
  intro p e s m args below meth c A X
  refine V_aload_n X 0 dX12_blame_0 rfl rfl ?_
  obtain ⟨x2, μ3, c1, h⟩ := bd2_some h
  refine V_callVi X (As := []) (M_X12_blameMany c1) (cwV 0 X.2.2.2.2.2.2.1 (gV wm_RX12_401 wi_X12_blameMany wse_X12_blameMany win_RX12 wc_X12_blameMany) rfl rfl rfl hd_X12_blameMany ⟨Nat.le_of_ble_eq_true rfl, Nat.le_of_ble_eq_true rfl⟩) (b := (0, 32, 0)) ⟨by decide, rfl⟩ rfl rfl rfl rfl (Nat.le_of_ble_eq_true rfl) dX12_blame_1 rfl ?_
  refine V_istore_n X [(1, .int x2), (0, .ref (zad y (0, 32, 0)))] dX12_blame_4 rfl (by decide) rfl ?_
  refine V_aload_n X 1 dX12_blame_5 rfl rfl ?_
  refine V_geti X (o := (0, 32, 0)) (ci := 12) (k := 0) (N := 30) (T := TX12) (C := RX12) ⟨by decide, rfl⟩ rfl rfl rfl (by decide) (mBa inB_X12) (mB wl_RX12_59) dX12_blame_6 ?_
  refine V_if_le X (tgt := 14) dX12_blame_9 (by decide) (fun b4 => ?_) (fun b4 => ?_)
  · replace h := (if_pos b4).symm.trans h
    refine V_iconst X 0 dX12_blame_14 (by decide) ?_
    refine V_istore_n X [(2, .int 0), (1, .int x2), (0, .ref (zad y (0, 32, 0)))] dX12_blame_15 rfl (by decide) rfl ?_
    refine V_iconst X 0 dX12_blame_16 (by decide) ?_
    refine V_istore_n X [(3, .int 0), (2, .int 0), (1, .int x2), (0, .ref (zad y (0, 32, 0)))] dX12_blame_17 rfl (by decide) rfl ?_
    refine V_sub X [3, 2, 1, 0] (lv' := [(0, .ref (zad y (0, 32, 0))), (1, .int x2), (2, .int 0), (3, .int 0)]) rfl ?_
    obtain ⟨x7, hl, h⟩ := bd_some h
    have hk : V X μ3 48 [(2, .int x7)] [] := by
      clear hl
      refine V_iload_n X 0 dX12_blame_48 rfl rfl ?_
      exact V_iretW X h dX12_blame_49
    refine lp_ind (P := fun q => V X μ3 18 [(0, .ref (zad y (0, 32, 0))), (1, .int x2), (2, .int q.1), (3, .int q.2)] []) (fun q z h hz => ?_) hl
    obtain ⟨x5, x6⟩ := q
    replace h := un2_eq h
    show V X μ3 18 [(0, .ref (zad y (0, 32, 0))), (1, .int x2), (2, .int x5), (3, .int x6)] []
    refine V_iload_n X 3 dX12_blame_18 rfl rfl ?_
    refine V_bipush X 17 dX12_blame_19 (by decide) ?_
    refine V_icmp_ge X (tgt := 48) dX12_blame_21 (by decide) (fun b8 => ?_) (fun b8 => ?_)
    · replace h := (if_pos b8).symm.trans h
      refine V_sub X [2] (lv' := [(2, .int x5)]) rfl ?_
      cases h
      obtain rfl := pr1 hz
      exact hk
    · replace h := (if_neg b8).symm.trans h
      refine V_iload_n X 2 dX12_blame_24 rfl rfl ?_
      refine V_aload_n X 0 dX12_blame_25 rfl rfl ?_
      refine V_iload_n X 3 dX12_blame_26 rfl rfl ?_
      refine V_iload_n X 1 dX12_blame_27 rfl rfl ?_
      obtain ⟨x10, c9, h⟩ := bd_some h
      refine V_callVi X (As := [.int x6, .int x2]) (M_X12_wrongBlames c9) (cwV 2 X.2.2.2.2.2.2.1 (gV wm_RX12_404 wi_X12_wrongBlames wse_X12_wrongBlames win_RX12 wc_X12_wrongBlames) rfl rfl rfl hd_X12_wrongBlames ⟨Nat.le_of_ble_eq_true rfl, Nat.le_of_ble_eq_true rfl⟩) (b := (0, 32, 0)) ⟨by decide, rfl⟩ rfl rfl rfl rfl (Nat.le_of_ble_eq_true rfl) dX12_blame_28 rfl ?_
      refine V_iconst X 2 dX12_blame_31 (by decide) ?_
      obtain ⟨x12, h1, h⟩ := zl1_some h
      have hk : V X μ3 40 [(0, .ref (zad y (0, 32, 0))), (1, .int x2), (3, .int x6)] [.int x12, .int x5] := by
        clear h1
        refine V_iadd X dX12_blame_40 ?_
        refine V_istore_n X [(2, .int (x5 + x12)), (0, .ref (zad y (0, 32, 0))), (1, .int x2), (3, .int x6)] dX12_blame_41 rfl (by decide) rfl ?_
        refine zlt_el (P := fun (x13 : Int32) => V X μ3 42 [(2, .int x13), (0, .ref (zad y (0, 32, 0))), (1, .int x2), (3, .int x6)] []) h (fun x13 h => ?_)
        refine V_inc X 3 1 [(3, .int (x6 + 1)), (2, .int x13), (0, .ref (zad y (0, 32, 0))), (1, .int x2)] dX12_blame_42 rfl (by decide) (by decide) rfl ?_
        refine V_goto X (tgt := 18) dX12_blame_45 (by decide) ?_
        refine V_sub X [2, 3, 1, 0] (lv' := [(0, .ref (zad y (0, 32, 0))), (1, .int x2), (2, .int x13), (3, .int (x6 + 1))]) rfl ?_
        cases h
        exact hz
      replace h := h1
      clear h1
      refine V_icmp_ge X (tgt := 39) dX12_blame_32 (by decide) (fun b11 => ?_) (fun b11 => ?_)
      · replace h := (if_pos b11).symm.trans h
        refine V_iconst X 0 dX12_blame_39 (by decide) ?_
        refine V_sub X [0, 1, 3] (lv' := [(0, .ref (zad y (0, 32, 0))), (1, .int x2), (3, .int x6)]) rfl ?_
        obtain rfl := pr1 h
        exact hk
      · replace h := (if_neg b11).symm.trans h
        refine V_iconst X 1 dX12_blame_35 (by decide) ?_
        refine V_goto X (tgt := 40) dX12_blame_36 (by decide) ?_
        refine V_sub X [0, 1, 3] (lv' := [(0, .ref (zad y (0, 32, 0))), (1, .int x2), (3, .int x6)]) rfl ?_
        obtain rfl := pr1 h
        exact hk
  · replace h := (if_neg b4).symm.trans h
    refine V_iconst X 0 dX12_blame_12 (by decide) ?_
    exact V_iretW X h dX12_blame_13

def f_X12_guilty (μ : ZMem) : Option (Int32 × ZMem) := bd2 (f_X12_blameMany μ) (fun (x2 : Int32) (μ3 : ZMem) => if (μ3 (0, 32, 0) 0) ≤ 0 then bd (lp (σ := Int32 × Int32 × Int32) (fun q => un3 q (fun (x5 : Int32) (x6 : Int32) (x7 : Int32) => if 17 ≤ x7 then some (.inr x5) else bd (f_X12_wrongBlames x7 x2 μ3) (fun (x11 : Int32) => bd2 (α := Int32) (β := Int32) (if x11 < x6 then bd (f_X12_wrongBlames x7 x2 μ3) (fun (x16 : Int32) => some (x7, x16)) else some (x5, x6)) (fun (x13 : Int32) (x14 : Int32) => some (.inl (x13, x14, (x7 + 1))))))) FU ((-1), 2, 0)) (fun (x8 : Int32) => some (x8, μ3)) else some (0, μ3))
set_option maxRecDepth 100000 in
set_option maxHeartbeats 4000000 in
theorem M_X12_guilty {l : Launch} {D : va_G} {y : ZLay}   {μ : ZMem} {r : Int32} {μ0 : ZMem} (h : f_X12_guilty μ = some (r, μ0)) : MI l yX12_guilty wb_X12_guilty rm_X12_guilty D y [.ref (zad y (0, 32, 0))] μ r μ0 := by
  unfold f_X12_guilty at h
  refine MI_of RX12 [(0, .ref (zad y (0, 32, 0)))] (by decide) rfl rfl (Nat.le_of_ble_eq_true rfl) rfl ?_
  intro p e s m args below meth c A X
  refine V_aload_n X 0 dX12_guilty_0 rfl rfl ?_
  obtain ⟨x2, μ3, c1, h⟩ := bd2_some h
  refine V_callVi X (As := []) (M_X12_blameMany c1) (cwV 0 X.2.2.2.2.2.2.1 (gV wm_RX12_401 wi_X12_blameMany wse_X12_blameMany win_RX12 wc_X12_blameMany) rfl rfl rfl hd_X12_blameMany ⟨Nat.le_of_ble_eq_true rfl, Nat.le_of_ble_eq_true rfl⟩) (b := (0, 32, 0)) ⟨by decide, rfl⟩ rfl rfl rfl rfl (Nat.le_of_ble_eq_true rfl) dX12_guilty_1 rfl ?_
  refine V_istore_n X [(1, .int x2), (0, .ref (zad y (0, 32, 0)))] dX12_guilty_4 rfl (by decide) rfl ?_
  refine V_aload_n X 1 dX12_guilty_5 rfl rfl ?_
  refine V_geti X (o := (0, 32, 0)) (ci := 12) (k := 0) (N := 30) (T := TX12) (C := RX12) ⟨by decide, rfl⟩ rfl rfl rfl (by decide) (mBa inB_X12) (mB wl_RX12_59) dX12_guilty_6 ?_
  refine V_if_le X (tgt := 14) dX12_guilty_9 (by decide) (fun b4 => ?_) (fun b4 => ?_)
  · replace h := (if_pos b4).symm.trans h
    refine V_iconst X (-1) dX12_guilty_14 (by decide) ?_
    refine V_istore_n X [(2, .int (-1)), (1, .int x2), (0, .ref (zad y (0, 32, 0)))] dX12_guilty_15 rfl (by decide) rfl ?_
    refine V_iconst X 2 dX12_guilty_16 (by decide) ?_
    refine V_istore_n X [(3, .int 2), (2, .int (-1)), (1, .int x2), (0, .ref (zad y (0, 32, 0)))] dX12_guilty_17 rfl (by decide) rfl ?_
    refine V_iconst X 0 dX12_guilty_18 (by decide) ?_
    refine V_istore X [(4, .int 0), (3, .int 2), (2, .int (-1)), (1, .int x2), (0, .ref (zad y (0, 32, 0)))] dX12_guilty_19 (by decide) rfl ?_
    refine V_sub X [4, 3, 2, 1, 0] (lv' := [(0, .ref (zad y (0, 32, 0))), (1, .int x2), (2, .int (-1)), (3, .int 2), (4, .int 0)]) rfl ?_
    obtain ⟨x8, hl, h⟩ := bd_some h
    have hk : V X μ3 59 [(2, .int x8)] [] := by
      clear hl
      refine V_iload_n X 0 dX12_guilty_59 rfl rfl ?_
      exact V_iretW X h dX12_guilty_60
    refine lp_ind (P := fun q => V X μ3 21 [(0, .ref (zad y (0, 32, 0))), (1, .int x2), (2, .int q.1), (3, .int q.2.1), (4, .int q.2.2)] []) (fun q z h hz => ?_) hl
    obtain ⟨x5, x6, x7⟩ := q
    replace h := un3_eq h
    show V X μ3 21 [(0, .ref (zad y (0, 32, 0))), (1, .int x2), (2, .int x5), (3, .int x6), (4, .int x7)] []
    refine V_iload X 4 dX12_guilty_21 rfl ?_
    refine V_bipush X 17 dX12_guilty_23 (by decide) ?_
    refine V_icmp_ge X (tgt := 59) dX12_guilty_25 (by decide) (fun b9 => ?_) (fun b9 => ?_)
    · replace h := (if_pos b9).symm.trans h
      refine V_sub X [2] (lv' := [(2, .int x5)]) rfl ?_
      cases h
      obtain rfl := pr1 hz
      exact hk
    · replace h := (if_neg b9).symm.trans h
      refine V_aload_n X 0 dX12_guilty_28 rfl rfl ?_
      refine V_iload X 4 dX12_guilty_29 rfl ?_
      refine V_iload_n X 1 dX12_guilty_31 rfl rfl ?_
      obtain ⟨x11, c10, h⟩ := bd_some h
      refine V_callVi X (As := [.int x7, .int x2]) (M_X12_wrongBlames c10) (cwV 2 X.2.2.2.2.2.2.1 (gV wm_RX12_404 wi_X12_wrongBlames wse_X12_wrongBlames win_RX12 wc_X12_wrongBlames) rfl rfl rfl hd_X12_wrongBlames ⟨Nat.le_of_ble_eq_true rfl, Nat.le_of_ble_eq_true rfl⟩) (b := (0, 32, 0)) ⟨by decide, rfl⟩ rfl rfl rfl rfl (Nat.le_of_ble_eq_true rfl) dX12_guilty_32 rfl ?_
      refine V_iload_n X 3 dX12_guilty_35 rfl rfl ?_
      obtain ⟨x13, x14, h1, h⟩ := bd2_some h
      have hk : V X μ3 53 [(0, .ref (zad y (0, 32, 0))), (1, .int x2), (2, .int x13), (3, .int x14), (4, .int x7)] [] := by
        clear h1
        refine V_inc X 4 1 [(4, .int (x7 + 1)), (0, .ref (zad y (0, 32, 0))), (1, .int x2), (2, .int x13), (3, .int x14)] dX12_guilty_53 rfl (by decide) (by decide) rfl ?_
        refine V_goto X (tgt := 21) dX12_guilty_56 (by decide) ?_
        refine V_sub X [1, 2, 3, 4, 0] (lv' := [(0, .ref (zad y (0, 32, 0))), (1, .int x2), (2, .int x13), (3, .int x14), (4, .int (x7 + 1))]) rfl ?_
        cases h
        exact hz
      replace h := h1
      clear h1
      refine V_icmp_lt X (tgt := 42) dX12_guilty_36 (by decide) (fun b12 => ?_) (fun b12 => ?_)
      · replace h := (if_pos b12).symm.trans h
        refine V_aload_n X 0 dX12_guilty_42 rfl rfl ?_
        refine V_iload X 4 dX12_guilty_43 rfl ?_
        refine V_iload_n X 1 dX12_guilty_45 rfl rfl ?_
        obtain ⟨x16, c15, h⟩ := bd_some h
        refine V_callVi X (As := [.int x7, .int x2]) (M_X12_wrongBlames c15) (cwV 2 X.2.2.2.2.2.2.1 (gV wm_RX12_404 wi_X12_wrongBlames wse_X12_wrongBlames win_RX12 wc_X12_wrongBlames) rfl rfl rfl hd_X12_wrongBlames ⟨Nat.le_of_ble_eq_true rfl, Nat.le_of_ble_eq_true rfl⟩) (b := (0, 32, 0)) ⟨by decide, rfl⟩ rfl rfl rfl rfl (Nat.le_of_ble_eq_true rfl) dX12_guilty_46 rfl ?_
        refine V_istore_n X [(3, .int x16), (0, .ref (zad y (0, 32, 0))), (1, .int x2), (2, .int x5), (4, .int x7)] dX12_guilty_49 rfl (by decide) rfl ?_
        refine V_iload X 4 dX12_guilty_50 rfl ?_
        refine V_istore_n X [(2, .int x7), (3, .int x16), (0, .ref (zad y (0, 32, 0))), (1, .int x2), (4, .int x7)] dX12_guilty_52 rfl (by decide) rfl ?_
        refine V_sub X [2, 3, 0, 1, 4] (lv' := [(0, .ref (zad y (0, 32, 0))), (1, .int x2), (2, .int x7), (3, .int x16), (4, .int x7)]) rfl ?_
        obtain ⟨rfl, rfl⟩ := so2 h
        exact hk
      · replace h := (if_neg b12).symm.trans h
        refine V_goto X (tgt := 53) dX12_guilty_39 (by decide) ?_
        obtain ⟨rfl, rfl⟩ := so2 h
        exact hk
  · replace h := (if_neg b4).symm.trans h
    refine V_iconst X 0 dX12_guilty_12 (by decide) ?_
    exact V_iretW X h dX12_guilty_13

def f_X12_probe (μ : ZMem) : Option (Int32 × ZMem) := bd2 (f_X12_blameMany μ) (fun (x2 : Int32) (μ3 : ZMem) => if (μ3 (0, 32, 0) 0) ≤ 0 then bd (lp (σ := Int32 × Int32 × Int32) (fun q => un3 q (fun (x5 : Int32) (x6 : Int32) (x7 : Int32) => if 64 ≤ x7 then some (.inr x5) else bd2 (α := Int32) (β := Int32) (if (x7 / 8) = (zrem x7 8) then some (x5, x6) else bd2 (lp (σ := Int32 × Int32 × Int32) (fun q => un3 q (fun (x13 : Int32) (x14 : Int32) (x15 : Int32) => if 17 ≤ x15 then some (.inr (x13, x14)) else bd (f_X12_wrongBlames x15 x2 μ3) (fun (x20 : Int32) => bd2 (α := Int32) (β := Int32) (if x20 ≤ 1 then bd (f_X12_wouldHear x15 (x7 / 8) (zrem x7 8)) (fun (x25 : Int32) => zlt (α := Int32) (if x25 = 0 then 0 else 1) (fun (x27 : Int32) => zlt (x14 + x27) (fun (x28 : Int32) => some ((x13 + 1), x28)))) else some (x13, x14)) (fun (x22 : Int32) (x23 : Int32) => some (.inl (x22, x23, (x15 + 1))))))) FU (0, 0, 0)) (fun (x16 : Int32) (x17 : Int32) => zlt (f_X12_greater x17 (x16 - x17)) (fun (x29 : Int32) => if x16 < 2 then some (x5, x6) else if x29 < x6 then some (x7, x29) else some (x5, x6)))) (fun (x11 : Int32) (x12 : Int32) => some (.inl (x11, x12, (x7 + 1)))))) FU ((-1), 2000000000, 0)) (fun (x8 : Int32) => some (x8, μ3)) else some (0, μ3))
set_option maxRecDepth 100000 in
set_option maxHeartbeats 4000000 in
theorem M_X12_probe {l : Launch} {D : va_G} {y : ZLay}   {μ : ZMem} {r : Int32} {μ0 : ZMem} (h : f_X12_probe μ = some (r, μ0)) : MI l yX12_probe wb_X12_probe rm_X12_probe D y [.ref (zad y (0, 32, 0))] μ r μ0 := by
  unfold f_X12_probe at h
  refine MI_of RX12 [(0, .ref (zad y (0, 32, 0)))] (by decide) rfl rfl (Nat.le_of_ble_eq_true rfl) rfl ?_
  intro p e s m args below meth c A X
  refine V_aload_n X 0 dX12_probe_0 rfl rfl ?_
  obtain ⟨x2, μ3, c1, h⟩ := bd2_some h
  refine V_callVi X (As := []) (M_X12_blameMany c1) (cwV 0 X.2.2.2.2.2.2.1 (gV wm_RX12_401 wi_X12_blameMany wse_X12_blameMany win_RX12 wc_X12_blameMany) rfl rfl rfl hd_X12_blameMany ⟨Nat.le_of_ble_eq_true rfl, Nat.le_of_ble_eq_true rfl⟩) (b := (0, 32, 0)) ⟨by decide, rfl⟩ rfl rfl rfl rfl (Nat.le_of_ble_eq_true rfl) dX12_probe_1 rfl ?_
  refine V_istore_n X [(1, .int x2), (0, .ref (zad y (0, 32, 0)))] dX12_probe_4 rfl (by decide) rfl ?_
  refine V_aload_n X 1 dX12_probe_5 rfl rfl ?_
  refine V_geti X (o := (0, 32, 0)) (ci := 12) (k := 0) (N := 30) (T := TX12) (C := RX12) ⟨by decide, rfl⟩ rfl rfl rfl (by decide) (mBa inB_X12) (mB wl_RX12_59) dX12_probe_6 ?_
  refine V_if_le X (tgt := 14) dX12_probe_9 (by decide) (fun b4 => ?_) (fun b4 => ?_)
  · replace h := (if_pos b4).symm.trans h
    refine V_iconst X (-1) dX12_probe_14 (by decide) ?_
    refine V_istore_n X [(2, .int (-1)), (1, .int x2), (0, .ref (zad y (0, 32, 0)))] dX12_probe_15 rfl (by decide) rfl ?_
    refine V_ldcw X (ix := 339) (v := 2000000000) (mB wk_RX12_339) dX12_probe_16 ?_
    refine V_istore_n X [(3, .int 2000000000), (2, .int (-1)), (1, .int x2), (0, .ref (zad y (0, 32, 0)))] dX12_probe_19 rfl (by decide) rfl ?_
    refine V_iconst X 0 dX12_probe_20 (by decide) ?_
    refine V_istore X [(4, .int 0), (3, .int 2000000000), (2, .int (-1)), (1, .int x2), (0, .ref (zad y (0, 32, 0)))] dX12_probe_21 (by decide) rfl ?_
    refine V_sub X [4, 3, 2, 1, 0] (lv' := [(0, .ref (zad y (0, 32, 0))), (1, .int x2), (2, .int (-1)), (3, .int 2000000000), (4, .int 0)]) rfl ?_
    obtain ⟨x8, hl, h⟩ := bd_some h
    have hk : V X μ3 152 [(2, .int x8)] [] := by
      clear hl
      refine V_iload_n X 0 dX12_probe_152 rfl rfl ?_
      exact V_iretW X h dX12_probe_153
    refine lp_ind (P := fun q => V X μ3 23 [(0, .ref (zad y (0, 32, 0))), (1, .int x2), (2, .int q.1), (3, .int q.2.1), (4, .int q.2.2)] []) (fun q z h hz => ?_) hl
    obtain ⟨x5, x6, x7⟩ := q
    replace h := un3_eq h
    show V X μ3 23 [(0, .ref (zad y (0, 32, 0))), (1, .int x2), (2, .int x5), (3, .int x6), (4, .int x7)] []
    refine V_iload X 4 dX12_probe_23 rfl ?_
    refine V_bipush X 64 dX12_probe_25 (by decide) ?_
    refine V_icmp_ge X (tgt := 152) dX12_probe_27 (by decide) (fun b9 => ?_) (fun b9 => ?_)
    · replace h := (if_pos b9).symm.trans h
      refine V_sub X [2] (lv' := [(2, .int x5)]) rfl ?_
      cases h
      obtain rfl := pr1 hz
      exact hk
    · replace h := (if_neg b9).symm.trans h
      refine V_iload X 4 dX12_probe_30 rfl ?_
      refine V_bipush X 8 dX12_probe_32 (by decide) ?_
      refine V_idiv X dX12_probe_34 (by decide) ?_
      refine V_iload X 4 dX12_probe_35 rfl ?_
      refine V_bipush X 8 dX12_probe_37 (by decide) ?_
      refine V_rem X dX12_probe_39 (by decide) ?_
      obtain ⟨x11, x12, h1, h⟩ := bd2_some h
      have hk : V X μ3 146 [(0, .ref (zad y (0, 32, 0))), (1, .int x2), (2, .int x11), (3, .int x12), (4, .int x7)] [] := by
        clear h1
        refine V_inc X 4 1 [(4, .int (x7 + 1)), (0, .ref (zad y (0, 32, 0))), (1, .int x2), (2, .int x11), (3, .int x12)] dX12_probe_146 rfl (by decide) (by decide) rfl ?_
        refine V_goto X (tgt := 23) dX12_probe_149 (by decide) ?_
        refine V_sub X [1, 2, 3, 4, 0] (lv' := [(0, .ref (zad y (0, 32, 0))), (1, .int x2), (2, .int x11), (3, .int x12), (4, .int (x7 + 1))]) rfl ?_
        cases h
        exact hz
      replace h := h1
      clear h1
      refine V_icmp_ne X (tgt := 46) dX12_probe_40 (by decide) (fun b10 => ?_) (fun b10 => ?_)
      · replace h := (if_neg b10).symm.trans h
        refine V_iconst X 0 dX12_probe_46 (by decide) ?_
        refine V_istore X [(5, .int 0), (0, .ref (zad y (0, 32, 0))), (1, .int x2), (2, .int x5), (3, .int x6), (4, .int x7)] dX12_probe_47 (by decide) rfl ?_
        refine V_iconst X 0 dX12_probe_49 (by decide) ?_
        refine V_istore X [(6, .int 0), (5, .int 0), (0, .ref (zad y (0, 32, 0))), (1, .int x2), (2, .int x5), (3, .int x6), (4, .int x7)] dX12_probe_50 (by decide) rfl ?_
        refine V_iconst X 0 dX12_probe_52 (by decide) ?_
        refine V_istore X [(7, .int 0), (6, .int 0), (5, .int 0), (0, .ref (zad y (0, 32, 0))), (1, .int x2), (2, .int x5), (3, .int x6), (4, .int x7)] dX12_probe_53 (by decide) rfl ?_
        refine V_sub X [3, 4, 5, 6, 7, 2, 1, 0] (lv' := [(0, .ref (zad y (0, 32, 0))), (1, .int x2), (2, .int x5), (3, .int x6), (4, .int x7), (5, .int 0), (6, .int 0), (7, .int 0)]) rfl ?_
        obtain ⟨x16, x17, hl, h⟩ := bd2_some h
        have hk : V X μ3 113 [(0, .ref (zad y (0, 32, 0))), (1, .int x2), (2, .int x5), (3, .int x6), (4, .int x7), (5, .int x16), (6, .int x17)] [] := by
          clear hl
          refine V_iload X 6 dX12_probe_113 rfl ?_
          refine V_iload X 5 dX12_probe_115 rfl ?_
          refine V_iload X 6 dX12_probe_117 rfl ?_
          refine V_isub X dX12_probe_119 ?_
          refine V_callSi X (As := [.int x17, .int (x16 - x17)]) (M_X12_greater) (va_cwS 2 X.2.2.2.2.2.2.1 (gS wm_RX12_73 wst_X12_greater win_RX12 wc_X12_greater) rfl rfl rfl hd_X12_greater.2 ⟨Nat.le_of_ble_eq_true rfl, Nat.le_of_ble_eq_true rfl⟩) rfl (Nat.le_of_ble_eq_true rfl) dX12_probe_120 rfl ?_
          refine V_istore X [(7, .int (f_X12_greater x17 (x16 - x17))), (0, .ref (zad y (0, 32, 0))), (1, .int x2), (2, .int x5), (3, .int x6), (4, .int x7), (5, .int x16), (6, .int x17)] dX12_probe_123 (by decide) rfl ?_
          refine zlt_el (P := fun (x29 : Int32) => V X μ3 125 [(7, .int x29), (0, .ref (zad y (0, 32, 0))), (1, .int x2), (2, .int x5), (3, .int x6), (4, .int x7), (5, .int x16), (6, .int x17)] []) h (fun x29 h => ?_)
          refine V_iload X 6 dX12_probe_125 rfl ?_
          refine V_iconst X 2 dX12_probe_127 (by decide) ?_
          refine V_icmp_lt X (tgt := 146) dX12_probe_128 (by decide) (fun b30 => ?_) (fun b30 => ?_)
          · replace h := (if_pos b30).symm.trans h
            refine V_sub X [1, 2, 3, 4, 5] (lv' := [(0, .ref (zad y (0, 32, 0))), (1, .int x2), (2, .int x5), (3, .int x6), (4, .int x7)]) rfl ?_
            obtain ⟨rfl, rfl⟩ := so2 h
            exact hk
          · replace h := (if_neg b30).symm.trans h
            refine V_iload X 0 dX12_probe_131 rfl ?_
            refine V_iload_n X 4 dX12_probe_133 rfl rfl ?_
            refine V_icmp_lt X (tgt := 140) dX12_probe_134 (by decide) (fun b31 => ?_) (fun b31 => ?_)
            · replace h := (if_pos b31).symm.trans h
              refine V_iload X 0 dX12_probe_140 rfl ?_
              refine V_istore_n X [(3, .int x29), (7, .int x29), (0, .ref (zad y (0, 32, 0))), (1, .int x2), (2, .int x5), (4, .int x7), (5, .int x16), (6, .int x17)] dX12_probe_142 rfl (by decide) rfl ?_
              refine V_iload X 5 dX12_probe_143 rfl ?_
              refine V_istore_n X [(2, .int x7), (3, .int x29), (7, .int x29), (0, .ref (zad y (0, 32, 0))), (1, .int x2), (4, .int x7), (5, .int x16), (6, .int x17)] dX12_probe_145 rfl (by decide) rfl ?_
              refine V_sub X [3, 4, 0, 1, 5] (lv' := [(0, .ref (zad y (0, 32, 0))), (1, .int x2), (2, .int x7), (3, .int x29), (4, .int x7)]) rfl ?_
              obtain ⟨rfl, rfl⟩ := so2 h
              exact hk
            · replace h := (if_neg b31).symm.trans h
              refine V_goto X (tgt := 146) dX12_probe_137 (by decide) ?_
              refine V_sub X [1, 2, 3, 4, 5] (lv' := [(0, .ref (zad y (0, 32, 0))), (1, .int x2), (2, .int x5), (3, .int x6), (4, .int x7)]) rfl ?_
              obtain ⟨rfl, rfl⟩ := so2 h
              exact hk
        refine lp_ind (P := fun q => V X μ3 55 [(0, .ref (zad y (0, 32, 0))), (1, .int x2), (2, .int x5), (3, .int x6), (4, .int x7), (5, .int q.1), (6, .int q.2.1), (7, .int q.2.2)] []) (fun q z h hz => ?_) hl
        obtain ⟨x13, x14, x15⟩ := q
        replace h := un3_eq h
        show V X μ3 55 [(0, .ref (zad y (0, 32, 0))), (1, .int x2), (2, .int x5), (3, .int x6), (4, .int x7), (5, .int x13), (6, .int x14), (7, .int x15)] []
        refine V_iload X 7 dX12_probe_55 rfl ?_
        refine V_bipush X 17 dX12_probe_57 (by decide) ?_
        refine V_icmp_ge X (tgt := 113) dX12_probe_59 (by decide) (fun b18 => ?_) (fun b18 => ?_)
        · replace h := (if_pos b18).symm.trans h
          refine V_sub X [0, 1, 2, 3, 4, 5, 6] (lv' := [(0, .ref (zad y (0, 32, 0))), (1, .int x2), (2, .int x5), (3, .int x6), (4, .int x7), (5, .int x13), (6, .int x14)]) rfl ?_
          cases h
          obtain ⟨rfl, rfl⟩ := pr2 hz
          exact hk
        · replace h := (if_neg b18).symm.trans h
          refine V_aload_n X 0 dX12_probe_62 rfl rfl ?_
          refine V_iload X 7 dX12_probe_63 rfl ?_
          refine V_iload_n X 1 dX12_probe_65 rfl rfl ?_
          obtain ⟨x20, c19, h⟩ := bd_some h
          refine V_callVi X (As := [.int x15, .int x2]) (M_X12_wrongBlames c19) (cwV 2 X.2.2.2.2.2.2.1 (gV wm_RX12_404 wi_X12_wrongBlames wse_X12_wrongBlames win_RX12 wc_X12_wrongBlames) rfl rfl rfl hd_X12_wrongBlames ⟨Nat.le_of_ble_eq_true rfl, Nat.le_of_ble_eq_true rfl⟩) (b := (0, 32, 0)) ⟨by decide, rfl⟩ rfl rfl rfl rfl (Nat.le_of_ble_eq_true rfl) dX12_probe_66 rfl ?_
          refine V_iconst X 1 dX12_probe_69 (by decide) ?_
          obtain ⟨x22, x23, h1, h⟩ := bd2_some h
          have hk : V X μ3 107 [(0, .ref (zad y (0, 32, 0))), (1, .int x2), (2, .int x5), (3, .int x6), (4, .int x7), (5, .int x22), (6, .int x23), (7, .int x15)] [] := by
            clear h1
            refine V_inc X 7 1 [(7, .int (x15 + 1)), (0, .ref (zad y (0, 32, 0))), (1, .int x2), (2, .int x5), (3, .int x6), (4, .int x7), (5, .int x22), (6, .int x23)] dX12_probe_107 rfl (by decide) (by decide) rfl ?_
            refine V_goto X (tgt := 55) dX12_probe_110 (by decide) ?_
            refine V_sub X [1, 2, 3, 4, 5, 6, 7, 0] (lv' := [(0, .ref (zad y (0, 32, 0))), (1, .int x2), (2, .int x5), (3, .int x6), (4, .int x7), (5, .int x22), (6, .int x23), (7, .int (x15 + 1))]) rfl ?_
            cases h
            exact hz
          replace h := h1
          clear h1
          refine V_icmp_le X (tgt := 76) dX12_probe_70 (by decide) (fun b21 => ?_) (fun b21 => ?_)
          · replace h := (if_pos b21).symm.trans h
            refine V_inc X 5 1 [(5, .int (x13 + 1)), (0, .ref (zad y (0, 32, 0))), (1, .int x2), (2, .int x5), (3, .int x6), (4, .int x7), (6, .int x14), (7, .int x15)] dX12_probe_76 rfl (by decide) (by decide) rfl ?_
            refine V_iload X 6 dX12_probe_79 rfl ?_
            refine V_iload X 7 dX12_probe_81 rfl ?_
            refine V_iload X 5 dX12_probe_83 rfl ?_
            refine V_bipush X 8 dX12_probe_85 (by decide) ?_
            refine V_idiv X dX12_probe_87 (by decide) ?_
            refine V_iload X 5 dX12_probe_88 rfl ?_
            refine V_bipush X 8 dX12_probe_90 (by decide) ?_
            refine V_rem X dX12_probe_92 (by decide) ?_
            obtain ⟨x25, c24, h⟩ := bd_some h
            refine V_callSi X (As := [.int x15, .int (x7 / 8), .int (zrem x7 8)]) (M_X12_wouldHear c24) (va_cwS 3 X.2.2.2.2.2.2.1 (gS wm_RX12_398 wst_X12_wouldHear win_RX12 wc_X12_wouldHear) rfl rfl rfl hd_X12_wouldHear.2 ⟨Nat.le_of_ble_eq_true rfl, Nat.le_of_ble_eq_true rfl⟩) rfl (Nat.le_of_ble_eq_true rfl) dX12_probe_93 rfl ?_
            obtain ⟨x27, h1, h⟩ := zl1_some h
            have hk : V X μ3 104 [(0, .ref (zad y (0, 32, 0))), (1, .int x2), (2, .int x5), (3, .int x6), (4, .int x7), (5, .int (x13 + 1)), (7, .int x15)] [.int x27, .int x14] := by
              clear h1
              refine V_iadd X dX12_probe_104 ?_
              refine V_istore X [(6, .int (x14 + x27)), (0, .ref (zad y (0, 32, 0))), (1, .int x2), (2, .int x5), (3, .int x6), (4, .int x7), (5, .int (x13 + 1)), (7, .int x15)] dX12_probe_105 (by decide) rfl ?_
              refine zlt_el (P := fun (x28 : Int32) => V X μ3 107 [(6, .int x28), (0, .ref (zad y (0, 32, 0))), (1, .int x2), (2, .int x5), (3, .int x6), (4, .int x7), (5, .int (x13 + 1)), (7, .int x15)] []) h (fun x28 h => ?_)
              refine V_sub X [1, 2, 3, 4, 5, 6, 0, 7] (lv' := [(0, .ref (zad y (0, 32, 0))), (1, .int x2), (2, .int x5), (3, .int x6), (4, .int x7), (5, .int (x13 + 1)), (6, .int x28), (7, .int x15)]) rfl ?_
              obtain ⟨rfl, rfl⟩ := so2 h
              exact hk
            replace h := h1
            clear h1
            refine V_if_eq X (tgt := 103) dX12_probe_96 (by decide) (fun b26 => ?_) (fun b26 => ?_)
            · replace h := (if_pos b26).symm.trans h
              refine V_iconst X 0 dX12_probe_103 (by decide) ?_
              refine V_sub X [1, 2, 3, 4, 5, 0, 7] (lv' := [(0, .ref (zad y (0, 32, 0))), (1, .int x2), (2, .int x5), (3, .int x6), (4, .int x7), (5, .int (x13 + 1)), (7, .int x15)]) rfl ?_
              obtain rfl := pr1 h
              exact hk
            · replace h := (if_neg b26).symm.trans h
              refine V_iconst X 1 dX12_probe_99 (by decide) ?_
              refine V_goto X (tgt := 104) dX12_probe_100 (by decide) ?_
              refine V_sub X [1, 2, 3, 4, 5, 0, 7] (lv' := [(0, .ref (zad y (0, 32, 0))), (1, .int x2), (2, .int x5), (3, .int x6), (4, .int x7), (5, .int (x13 + 1)), (7, .int x15)]) rfl ?_
              obtain rfl := pr1 h
              exact hk
          · replace h := (if_neg b21).symm.trans h
            refine V_goto X (tgt := 107) dX12_probe_73 (by decide) ?_
            obtain ⟨rfl, rfl⟩ := so2 h
            exact hk
      · replace h := (if_pos b10).symm.trans h
        refine V_goto X (tgt := 146) dX12_probe_43 (by decide) ?_
        obtain ⟨rfl, rfl⟩ := so2 h
        exact hk
  · replace h := (if_neg b4).symm.trans h
    refine V_iconst X 0 dX12_probe_12 (by decide) ?_
    exact V_iretW X h dX12_probe_13

def f_X12_both (a1 : Int32) (a2 : Int32) (μ : ZMem) : Option (Int32 × ZMem) := bd (f_X12_apart a1 a2 μ) (fun (x2 : Int32) => zlt (100 - x2) (fun (x3 : Int32) => bd2 (α := Int32) (β := ZMem) (jk (fun (μ7 : ZMem) => some ((-1), μ7)) (fun k8 => if x3 ≤ 0 then k8 μ else bd2 (f_X12_areFriends a1 a2 μ) (fun (x10 : Int32) (μ11 : ZMem) => if x10 = 0 then k8 μ11 else some (x3, μ11)))) (fun (x5 : Int32) (μ6 : ZMem) => some (x5, μ6))))
set_option maxRecDepth 100000 in
set_option maxHeartbeats 4000000 in
theorem M_X12_both {l : Launch} {D : va_G} {y : ZLay} {a1 : Int32} {a2 : Int32}  {μ : ZMem} {r : Int32} {μ0 : ZMem} (h : f_X12_both a1 a2 μ = some (r, μ0)) : MI l yX12_both wb_X12_both rm_X12_both D y [.ref (zad y (0, 32, 0)), .int a1, .int a2] μ r μ0 := by
  unfold f_X12_both at h
  refine MI_of RX12 [(0, .ref (zad y (0, 32, 0))), (1, .int a1), (2, .int a2)] (by decide) rfl rfl (Nat.le_of_ble_eq_true rfl) rfl ?_
  intro p e s m args below meth c A X
  refine V_bipush X 100 dX12_both_0 (by decide) ?_
  refine V_aload_n X 0 dX12_both_2 rfl rfl ?_
  refine V_iload_n X 1 dX12_both_3 rfl rfl ?_
  refine V_iload_n X 2 dX12_both_4 rfl rfl ?_
  obtain ⟨x2, c1, h⟩ := bd_some h
  refine V_callVi X (As := [.int a1, .int a2]) (M_X12_apart c1) (cwV 2 X.2.2.2.2.2.2.1 (gV wm_RX12_383 wi_X12_apart wse_X12_apart win_RX12 wc_X12_apart) rfl rfl rfl hd_X12_apart ⟨Nat.le_of_ble_eq_true rfl, Nat.le_of_ble_eq_true rfl⟩) (b := (0, 32, 0)) ⟨by decide, rfl⟩ rfl rfl rfl rfl (Nat.le_of_ble_eq_true rfl) dX12_both_5 rfl ?_
  refine V_isub X dX12_both_8 ?_
  refine V_istore_n X [(3, .int (100 - x2)), (0, .ref (zad y (0, 32, 0))), (1, .int a1), (2, .int a2)] dX12_both_9 rfl (by decide) rfl ?_
  refine zlt_el (P := fun (x3 : Int32) => V X μ 10 [(3, .int x3), (0, .ref (zad y (0, 32, 0))), (1, .int a1), (2, .int a2)] []) h (fun x3 h => ?_)
  refine V_iload_n X 0 dX12_both_10 rfl rfl ?_
  obtain ⟨x5, μ6, h1, h⟩ := bd2_some h
  have hk : V X μ6 28 [] [.int x5] := by
    clear h1
    exact V_iretW X h dX12_both_28
  replace h := h1
  clear h1
  refine jk1_el (P := fun (μ7 : ZMem) => V X μ7 27 [] []) h (fun μ7 h => ?_) (fun k8 hk8 h => ?_)
  · refine V_iconst X (-1) dX12_both_27 (by decide) ?_
    obtain ⟨rfl, rfl⟩ := so2 h
    exact hk
  · refine V_if_le X (tgt := 27) dX12_both_11 (by decide) (fun b4 => ?_) (fun b4 => ?_)
    · replace h := (if_pos b4).symm.trans h
      refine V_sub X [] (lv' := []) rfl ?_
      exact hk8 _ h
    · replace h := (if_neg b4).symm.trans h
      refine V_aload_n X 1 dX12_both_14 rfl rfl ?_
      refine V_iload_n X 2 dX12_both_15 rfl rfl ?_
      refine V_iload_n X 3 dX12_both_16 rfl rfl ?_
      obtain ⟨x10, μ11, c9, h⟩ := bd2_some h
      refine V_callVi X (As := [.int a1, .int a2]) (M_X12_areFriends c9) (cwV 2 X.2.2.2.2.2.2.1 (gV wm_RX12_344 wi_X12_areFriends wse_X12_areFriends win_RX12 wc_X12_areFriends) rfl rfl rfl hd_X12_areFriends ⟨Nat.le_of_ble_eq_true rfl, Nat.le_of_ble_eq_true rfl⟩) (b := (0, 32, 0)) ⟨by decide, rfl⟩ rfl rfl rfl rfl (Nat.le_of_ble_eq_true rfl) dX12_both_17 rfl ?_
      refine V_if_eq X (tgt := 27) dX12_both_20 (by decide) (fun b12 => ?_) (fun b12 => ?_)
      · replace h := (if_pos b12).symm.trans h
        refine V_sub X [] (lv' := []) rfl ?_
        exact hk8 _ h
      · replace h := (if_neg b12).symm.trans h
        refine V_iload_n X 0 dX12_both_23 rfl rfl ?_
        refine V_goto X (tgt := 28) dX12_both_24 (by decide) ?_
        refine V_sub X [] (lv' := []) rfl ?_
        obtain ⟨rfl, rfl⟩ := so2 h
        exact hk

def f_X12_allBest (μ : ZMem) : Option (ZMem) := zlt (mset μ (0, 44, 0) 0 0) (fun (μ1 : ZMem) => bd (lp (σ := Int32 × ZMem) (fun q => un2 q (fun (x2 : Int32) (μ3 : ZMem) => if (1 <<< ((μ3 (0, 33, 0) 3) &&& 31)) ≤ x2 then some (.inr μ3) else bd (f_X12_lowest x2) (fun (x7 : Int32) => zlt (x2 &&& ((1 <<< (x7 &&& 31)) ^^^ (-1))) (fun (x8 : Int32) => gd (zin x8 256) (gd (zin x2 256) (zlt (mset μ3 (0, 44, 0) x2.toNatClampNeg (μ3 (0, 44, 0) x8.toNatClampNeg)) (fun (μ11 : ZMem) => zlt (x7 + 1) (fun (x12 : Int32) => bd (lp (σ := Int32 × ZMem) (fun q => un2 q (fun (x13 : Int32) (μ14 : ZMem) => if (μ14 (0, 33, 0) 3) ≤ x13 then some (.inr μ14) else bd (f_X12_isOf x8 x13) (fun (x18 : Int32) => bd (α := ZMem) (if x18 = 0 then some μ14 else gd (zin ((8 * x7) + x13) 2048) (if (μ14 (0, 45, 0) ((8 * x7) + x13).toNatClampNeg) ≤ 0 then some μ14 else gd (zin (x8 &&& ((1 <<< (x13 &&& 31)) ^^^ (-1))) 256) (zlt (mset μ14 (0, 44, 0) x2.toNatClampNeg (f_X12_greater (μ14 (0, 44, 0) x2.toNatClampNeg) ((μ14 (0, 45, 0) ((8 * x7) + x13).toNatClampNeg) + (μ14 (0, 44, 0) (x8 &&& ((1 <<< (x13 &&& 31)) ^^^ (-1))).toNatClampNeg)))) (fun (μ24 : ZMem) => some μ24)))) (fun (μ20 : ZMem) => some (.inl ((x13 + 1), μ20)))))) FU (x12, μ11)) (fun (μ15 : ZMem) => some (.inl ((x2 + 1), μ15))))))))))) FU (1, μ1)) (fun (μ4 : ZMem) => some μ4))
set_option maxRecDepth 100000 in
set_option maxHeartbeats 4000000 in
theorem M_X12_allBest {l : Launch} {D : va_G} {y : ZLay}   {μ : ZMem} {μ0 : ZMem} (h : f_X12_allBest μ = some μ0) : MV l yX12_allBest wb_X12_allBest rm_X12_allBest D y [.ref (zad y (0, 32, 0))] μ μ0 := by
  unfold f_X12_allBest at h
  refine MV_of RX12 [(0, .ref (zad y (0, 32, 0)))] (by decide) rfl rfl (Nat.le_of_ble_eq_true rfl) rfl ?_
  intro p e s m args below meth c A X
  refine V_aload_n X 0 dX12_allBest_0 rfl rfl ?_
  refine V_getr X (o := (0, 32, 0)) (i := (0, 44, 0)) (ci := 12) (k := 26) (N := 30) (T := TX12) (C := RX12) ⟨by decide, rfl⟩ rfl rfl rfl (by decide) (mBa inB_X12) (mB wl_RX12_47) dX12_allBest_1 ?_
  refine V_iconst X 0 dX12_allBest_4 (by decide) ?_
  refine V_iconst X 0 dX12_allBest_5 (by decide) ?_
  refine V_iast X 0 (by decide) (o := (0, 44, 0)) (n := 256) ⟨by decide, rfl⟩ rfl rfl (by decide) dX12_allBest_6 ?_
  refine zlt_el (P := fun (μ1 : ZMem) => V X μ1 7 [(0, .ref (zad y (0, 32, 0)))] []) h (fun μ1 h => ?_)
  refine V_iconst X 1 dX12_allBest_7 (by decide) ?_
  refine V_istore_n X [(1, .int 1), (0, .ref (zad y (0, 32, 0)))] dX12_allBest_8 rfl (by decide) rfl ?_
  refine V_sub X [1, 0] (lv' := [(0, .ref (zad y (0, 32, 0))), (1, .int 1)]) rfl ?_
  obtain ⟨μ4, hl, h⟩ := bd_some h
  have hk : V X μ4 139 [] [] := by
    clear hl
    exact V_vretW X h dX12_allBest_139
  refine lp_ind (P := fun q => V X q.2 9 [(0, .ref (zad y (0, 32, 0))), (1, .int q.1)] []) (fun q z h hz => ?_) hl
  obtain ⟨x2, μ3⟩ := q
  replace h := un2_eq h
  show V X μ3 9 [(0, .ref (zad y (0, 32, 0))), (1, .int x2)] []
  refine V_iload_n X 1 dX12_allBest_9 rfl rfl ?_
  refine V_iconst X 1 dX12_allBest_10 (by decide) ?_
  refine V_aload_n X 0 dX12_allBest_11 rfl rfl ?_
  refine V_getr X (o := (0, 32, 0)) (i := (0, 33, 0)) (ci := 12) (k := 1) (N := 30) (T := TX12) (C := RX12) ⟨by decide, rfl⟩ rfl rfl rfl (by decide) (mBa inB_X12) (mB wl_RX12_7) dX12_allBest_12 ?_
  refine V_iconst X 3 dX12_allBest_15 (by decide) ?_
  refine V_iald X 3 (by decide) (o := (0, 33, 0)) (n := 737) ⟨by decide, rfl⟩ rfl rfl (by decide) dX12_allBest_16 ?_
  refine V_ishl X dX12_allBest_17 ?_
  refine V_icmp_ge X (tgt := 139) dX12_allBest_18 (by decide) (fun b5 => ?_) (fun b5 => ?_)
  · replace h := (if_pos b5).symm.trans h
    refine V_sub X [] (lv' := []) rfl ?_
    cases h
    obtain rfl := pr1 hz
    exact hk
  · replace h := (if_neg b5).symm.trans h
    refine V_iload_n X 1 dX12_allBest_21 rfl rfl ?_
    obtain ⟨x7, c6, h⟩ := bd_some h
    refine V_callSi X (As := [.int x2]) (M_X12_lowest c6) (va_cwS 1 X.2.2.2.2.2.2.1 (gS wm_RX12_374 wst_X12_lowest win_RX12 wc_X12_lowest) rfl rfl rfl hd_X12_lowest.2 ⟨Nat.le_of_ble_eq_true rfl, Nat.le_of_ble_eq_true rfl⟩) rfl (Nat.le_of_ble_eq_true rfl) dX12_allBest_22 rfl ?_
    refine V_istore_n X [(2, .int x7), (0, .ref (zad y (0, 32, 0))), (1, .int x2)] dX12_allBest_25 rfl (by decide) rfl ?_
    refine V_iload_n X 2 dX12_allBest_26 rfl rfl ?_
    refine V_iconst X 1 dX12_allBest_27 (by decide) ?_
    refine V_iload_n X 0 dX12_allBest_28 rfl rfl ?_
    refine V_ishl X dX12_allBest_29 ?_
    refine V_iconst X (-1) dX12_allBest_30 (by decide) ?_
    refine V_ixor X dX12_allBest_31 ?_
    refine V_iand X dX12_allBest_32 ?_
    refine V_istore_n X [(3, .int (x2 &&& ((1 <<< (x7 &&& 31)) ^^^ (-1)))), (2, .int x7), (0, .ref (zad y (0, 32, 0))), (1, .int x2)] dX12_allBest_33 rfl (by decide) rfl ?_
    refine zlt_el (P := fun (x8 : Int32) => V X μ3 34 [(3, .int x8), (2, .int x7), (0, .ref (zad y (0, 32, 0))), (1, .int x2)] []) h (fun x8 h => ?_)
    refine V_aload_n X 2 dX12_allBest_34 rfl rfl ?_
    refine V_getr X (o := (0, 32, 0)) (i := (0, 44, 0)) (ci := 12) (k := 26) (N := 30) (T := TX12) (C := RX12) ⟨by decide, rfl⟩ rfl rfl rfl (by decide) (mBa inB_X12) (mB wl_RX12_47) dX12_allBest_35 ?_
    refine V_iload_n X 3 dX12_allBest_38 rfl rfl ?_
    refine V_aload_n X 2 dX12_allBest_39 rfl rfl ?_
    refine V_getr X (o := (0, 32, 0)) (i := (0, 44, 0)) (ci := 12) (k := 26) (N := 30) (T := TX12) (C := RX12) ⟨by decide, rfl⟩ rfl rfl rfl (by decide) (mBa inB_X12) (mB wl_RX12_47) dX12_allBest_40 ?_
    refine V_iload_n X 0 dX12_allBest_43 rfl rfl ?_
    obtain ⟨g9, h⟩ := gd_some h
    refine V_iald X x8.toNatClampNeg rfl (o := (0, 44, 0)) (n := 256) ⟨by decide, rfl⟩ rfl rfl g9 dX12_allBest_44 ?_
    obtain ⟨g10, h⟩ := gd_some h
    refine V_iast X x2.toNatClampNeg rfl (o := (0, 44, 0)) (n := 256) ⟨by decide, rfl⟩ rfl rfl g10 dX12_allBest_45 ?_
    refine zlt_el (P := fun (μ11 : ZMem) => V X μ11 46 [(3, .int x8), (2, .int x7), (0, .ref (zad y (0, 32, 0))), (1, .int x2)] []) h (fun μ11 h => ?_)
    refine V_iload_n X 1 dX12_allBest_46 rfl rfl ?_
    refine V_iconst X 1 dX12_allBest_47 (by decide) ?_
    refine V_iadd X dX12_allBest_48 ?_
    refine V_istore X [(4, .int (x7 + 1)), (3, .int x8), (2, .int x7), (0, .ref (zad y (0, 32, 0))), (1, .int x2)] dX12_allBest_49 (by decide) rfl ?_
    refine zlt_el (P := fun (x12 : Int32) => V X μ11 51 [(4, .int x12), (3, .int x8), (2, .int x7), (0, .ref (zad y (0, 32, 0))), (1, .int x2)] []) h (fun x12 h => ?_)
    refine V_sub X [3, 4, 2, 1, 0] (lv' := [(0, .ref (zad y (0, 32, 0))), (1, .int x2), (2, .int x7), (3, .int x8), (4, .int x12)]) rfl ?_
    obtain ⟨μ15, hl, h⟩ := bd_some h
    have hk : V X μ15 133 [(0, .ref (zad y (0, 32, 0))), (1, .int x2)] [] := by
      clear hl
      refine V_inc X 1 1 [(1, .int (x2 + 1)), (0, .ref (zad y (0, 32, 0)))] dX12_allBest_133 rfl (by decide) (by decide) rfl ?_
      refine V_goto X (tgt := 9) dX12_allBest_136 (by decide) ?_
      refine V_sub X [1, 0] (lv' := [(0, .ref (zad y (0, 32, 0))), (1, .int (x2 + 1))]) rfl ?_
      cases h
      exact hz
    refine lp_ind (P := fun q => V X q.2 51 [(0, .ref (zad y (0, 32, 0))), (1, .int x2), (2, .int x7), (3, .int x8), (4, .int q.1)] []) (fun q z h hz => ?_) hl
    obtain ⟨x13, μ14⟩ := q
    replace h := un2_eq h
    show V X μ14 51 [(0, .ref (zad y (0, 32, 0))), (1, .int x2), (2, .int x7), (3, .int x8), (4, .int x13)] []
    refine V_iload X 4 dX12_allBest_51 rfl ?_
    refine V_aload_n X 0 dX12_allBest_53 rfl rfl ?_
    refine V_getr X (o := (0, 32, 0)) (i := (0, 33, 0)) (ci := 12) (k := 1) (N := 30) (T := TX12) (C := RX12) ⟨by decide, rfl⟩ rfl rfl rfl (by decide) (mBa inB_X12) (mB wl_RX12_7) dX12_allBest_54 ?_
    refine V_iconst X 3 dX12_allBest_57 (by decide) ?_
    refine V_iald X 3 (by decide) (o := (0, 33, 0)) (n := 737) ⟨by decide, rfl⟩ rfl rfl (by decide) dX12_allBest_58 ?_
    refine V_icmp_ge X (tgt := 133) dX12_allBest_59 (by decide) (fun b16 => ?_) (fun b16 => ?_)
    · replace h := (if_pos b16).symm.trans h
      refine V_sub X [0, 1] (lv' := [(0, .ref (zad y (0, 32, 0))), (1, .int x2)]) rfl ?_
      cases h
      obtain rfl := pr1 hz
      exact hk
    · replace h := (if_neg b16).symm.trans h
      refine V_iload_n X 3 dX12_allBest_62 rfl rfl ?_
      refine V_iload X 4 dX12_allBest_63 rfl ?_
      obtain ⟨x18, c17, h⟩ := bd_some h
      refine V_callSi X (As := [.int x8, .int x13]) (M_X12_isOf c17) (va_cwS 2 X.2.2.2.2.2.2.1 (gS wm_RX12_274 wst_X12_isOf win_RX12 wc_X12_isOf) rfl rfl rfl hd_X12_isOf.2 ⟨Nat.le_of_ble_eq_true rfl, Nat.le_of_ble_eq_true rfl⟩) rfl (Nat.le_of_ble_eq_true rfl) dX12_allBest_65 rfl ?_
      obtain ⟨μ20, h1, h⟩ := bd_some h
      have hk : V X μ20 127 [(0, .ref (zad y (0, 32, 0))), (1, .int x2), (2, .int x7), (3, .int x8), (4, .int x13)] [] := by
        clear h1
        refine V_inc X 4 1 [(4, .int (x13 + 1)), (0, .ref (zad y (0, 32, 0))), (1, .int x2), (2, .int x7), (3, .int x8)] dX12_allBest_127 rfl (by decide) (by decide) rfl ?_
        refine V_goto X (tgt := 51) dX12_allBest_130 (by decide) ?_
        refine V_sub X [1, 2, 3, 4, 0] (lv' := [(0, .ref (zad y (0, 32, 0))), (1, .int x2), (2, .int x7), (3, .int x8), (4, .int (x13 + 1))]) rfl ?_
        cases h
        exact hz
      replace h := h1
      clear h1
      refine V_if_eq X (tgt := 127) dX12_allBest_68 (by decide) (fun b19 => ?_) (fun b19 => ?_)
      · replace h := (if_pos b19).symm.trans h
        obtain rfl := so1 h
        exact hk
      · replace h := (if_neg b19).symm.trans h
        refine V_aload_n X 0 dX12_allBest_71 rfl rfl ?_
        refine V_getr X (o := (0, 32, 0)) (i := (0, 45, 0)) (ci := 12) (k := 27) (N := 30) (T := TX12) (C := RX12) ⟨by decide, rfl⟩ rfl rfl rfl (by decide) (mBa inB_X12) (mB wl_RX12_50) dX12_allBest_72 ?_
        refine V_bipush X 8 dX12_allBest_75 (by decide) ?_
        refine V_iload_n X 2 dX12_allBest_77 rfl rfl ?_
        refine V_imul X dX12_allBest_78 ?_
        refine V_iload X 4 dX12_allBest_79 rfl ?_
        refine V_iadd X dX12_allBest_81 ?_
        obtain ⟨g21, h⟩ := gd_some h
        refine V_iald X ((8 * x7) + x13).toNatClampNeg rfl (o := (0, 45, 0)) (n := 2048) ⟨by decide, rfl⟩ rfl rfl g21 dX12_allBest_82 ?_
        refine V_if_le X (tgt := 127) dX12_allBest_83 (by decide) (fun b22 => ?_) (fun b22 => ?_)
        · replace h := (if_pos b22).symm.trans h
          obtain rfl := so1 h
          exact hk
        · replace h := (if_neg b22).symm.trans h
          refine V_aload_n X 0 dX12_allBest_86 rfl rfl ?_
          refine V_getr X (o := (0, 32, 0)) (i := (0, 44, 0)) (ci := 12) (k := 26) (N := 30) (T := TX12) (C := RX12) ⟨by decide, rfl⟩ rfl rfl rfl (by decide) (mBa inB_X12) (mB wl_RX12_47) dX12_allBest_87 ?_
          refine V_iload_n X 1 dX12_allBest_90 rfl rfl ?_
          refine V_aload_n X 0 dX12_allBest_91 rfl rfl ?_
          refine V_getr X (o := (0, 32, 0)) (i := (0, 44, 0)) (ci := 12) (k := 26) (N := 30) (T := TX12) (C := RX12) ⟨by decide, rfl⟩ rfl rfl rfl (by decide) (mBa inB_X12) (mB wl_RX12_47) dX12_allBest_92 ?_
          refine V_iload_n X 1 dX12_allBest_95 rfl rfl ?_
          refine V_iald X x2.toNatClampNeg rfl (o := (0, 44, 0)) (n := 256) ⟨by decide, rfl⟩ rfl rfl g10 dX12_allBest_96 ?_
          refine V_aload_n X 0 dX12_allBest_97 rfl rfl ?_
          refine V_getr X (o := (0, 32, 0)) (i := (0, 45, 0)) (ci := 12) (k := 27) (N := 30) (T := TX12) (C := RX12) ⟨by decide, rfl⟩ rfl rfl rfl (by decide) (mBa inB_X12) (mB wl_RX12_50) dX12_allBest_98 ?_
          refine V_bipush X 8 dX12_allBest_101 (by decide) ?_
          refine V_iload_n X 2 dX12_allBest_103 rfl rfl ?_
          refine V_imul X dX12_allBest_104 ?_
          refine V_iload X 4 dX12_allBest_105 rfl ?_
          refine V_iadd X dX12_allBest_107 ?_
          refine V_iald X ((8 * x7) + x13).toNatClampNeg rfl (o := (0, 45, 0)) (n := 2048) ⟨by decide, rfl⟩ rfl rfl g21 dX12_allBest_108 ?_
          refine V_aload_n X 0 dX12_allBest_109 rfl rfl ?_
          refine V_getr X (o := (0, 32, 0)) (i := (0, 44, 0)) (ci := 12) (k := 26) (N := 30) (T := TX12) (C := RX12) ⟨by decide, rfl⟩ rfl rfl rfl (by decide) (mBa inB_X12) (mB wl_RX12_47) dX12_allBest_110 ?_
          refine V_iload_n X 3 dX12_allBest_113 rfl rfl ?_
          refine V_iconst X 1 dX12_allBest_114 (by decide) ?_
          refine V_iload X 4 dX12_allBest_115 rfl ?_
          refine V_ishl X dX12_allBest_117 ?_
          refine V_iconst X (-1) dX12_allBest_118 (by decide) ?_
          refine V_ixor X dX12_allBest_119 ?_
          refine V_iand X dX12_allBest_120 ?_
          obtain ⟨g23, h⟩ := gd_some h
          refine V_iald X (x8 &&& ((1 <<< (x13 &&& 31)) ^^^ (-1))).toNatClampNeg rfl (o := (0, 44, 0)) (n := 256) ⟨by decide, rfl⟩ rfl rfl g23 dX12_allBest_121 ?_
          refine V_iadd X dX12_allBest_122 ?_
          refine V_callSi X (As := [.int (μ14 (0, 44, 0) x2.toNatClampNeg), .int ((μ14 (0, 45, 0) ((8 * x7) + x13).toNatClampNeg) + (μ14 (0, 44, 0) (x8 &&& ((1 <<< (x13 &&& 31)) ^^^ (-1))).toNatClampNeg))]) (M_X12_greater) (va_cwS 2 X.2.2.2.2.2.2.1 (gS wm_RX12_73 wst_X12_greater win_RX12 wc_X12_greater) rfl rfl rfl hd_X12_greater.2 ⟨Nat.le_of_ble_eq_true rfl, Nat.le_of_ble_eq_true rfl⟩) rfl (Nat.le_of_ble_eq_true rfl) dX12_allBest_123 rfl ?_
          refine V_iast X x2.toNatClampNeg rfl (o := (0, 44, 0)) (n := 256) ⟨by decide, rfl⟩ rfl rfl g10 dX12_allBest_126 ?_
          refine zlt_el (P := fun (μ24 : ZMem) => V X μ24 127 [(0, .ref (zad y (0, 32, 0))), (1, .int x2), (2, .int x7), (3, .int x8), (4, .int x13)] []) h (fun μ24 h => ?_)
          obtain rfl := so1 h
          exact hk

def f_X12_pairs (a1 : Int32) (μ : ZMem) : Option (Int32 × ZMem) := bd (α := Int32) (jk (some 0) (fun k3 => if a1 = (-1) then k3 else bd (f_X12_isNode a1 μ) (fun (x5 : Int32) => if x5 = 0 then some 1 else k3))) (fun (x2 : Int32) => zlt (mset μ (0, 32, 0) 0 x2) (fun (μ7 : ZMem) => if (μ7 (0, 32, 0) 0) ≤ 0 then bd (lp (σ := Int32 × ZMem) (fun q => un2 q (fun (x9 : Int32) (μ10 : ZMem) => if (μ10 (0, 33, 0) 3) ≤ x9 then some (.inr μ10) else bd (lp (σ := Int32 × ZMem) (fun q => un2 q (fun (x13 : Int32) (μ14 : ZMem) => if (μ14 (0, 33, 0) 3) ≤ x13 then some (.inr μ14) else bd2 (α := Int32) (β := ZMem) (if x9 = x13 then some ((-1), μ14) else bd2 (f_X12_both x9 x13 μ14) (fun (x21 : Int32) (μ22 : ZMem) => some (x21, μ22))) (fun (x18 : Int32) (μ19 : ZMem) => gd (zin ((8 * x9) + x13) 2048) (zlt (mset μ19 (0, 45, 0) ((8 * x9) + x13).toNatClampNeg x18) (fun (μ24 : ZMem) => some (.inl ((x13 + 1), μ24))))))) FU (0, μ10)) (fun (μ15 : ZMem) => some (.inl ((x9 + 1), μ15))))) FU (0, μ7)) (fun (μ11 : ZMem) => bd (f_X12_allBest μ11) (fun (μ26 : ZMem) => bd (f_X12_inState 2 μ26) (fun (x28 : Int32) => if a1 = (-1) then gd (zin x28 256) (some ((μ26 (0, 44, 0) x28.toNatClampNeg), μ26)) else bd (lp (σ := Int32) (fun (x30 : Int32) => if x30 = 0 then some (.inr (.inl ())) else bd (f_X12_lowest x30) (fun (x33 : Int32) => zlt (x30 &&& ((1 <<< (x33 &&& 31)) ^^^ (-1))) (fun (x34 : Int32) => zlt ((μ26 (0, 33, 0) 3) - 1) (fun (x35 : Int32) => bd (lp (σ := Int32 × Int32) (fun q => un2 q (fun (x36 : Int32) (x37 : Int32) => if x37 ≤ x33 then some (.inr x36) else gd (zin x34 256) (gd (zin x30 256) (if (μ26 (0, 44, 0) x34.toNatClampNeg) = (μ26 (0, 44, 0) x30.toNatClampNeg) then some (.inr x36) else bd (f_X12_isOf x34 x37) (fun (x44 : Int32) => bd (α := Int32) (if x44 = 0 then some x36 else gd (zin ((8 * x33) + x37) 2048) (if (μ26 (0, 45, 0) ((8 * x33) + x37).toNatClampNeg) ≤ 0 then some x36 else gd (zin (x34 &&& ((1 <<< (x37 &&& 31)) ^^^ (-1))) 256) (if ((μ26 (0, 45, 0) ((8 * x33) + x37).toNatClampNeg) + (μ26 (0, 44, 0) (x34 &&& ((1 <<< (x37 &&& 31)) ^^^ (-1))).toNatClampNeg)) = (μ26 (0, 44, 0) x30.toNatClampNeg) then some x37 else some x36))) (fun (x46 : Int32) => some (.inl (x46, (x37 + (-1)))))))))) FU ((-1), x35)) (fun (x38 : Int32) => if x33 = a1 then some (.inr (.inr (x38, μ26))) else if x38 = a1 then some (.inr (.inr (x33, μ26))) else zlt (α := Int32) (if x38 = (-1) then x34 else (x34 &&& ((1 <<< (x38 &&& 31)) ^^^ (-1)))) (fun (x54 : Int32) => some (.inl x54))))))) FU x28) (fun z => sm z (fun (_ : Unit) => some ((-1), μ26)) (fun r0 => some r0))))) else some (0, μ7)))
set_option maxRecDepth 100000 in
set_option maxHeartbeats 4000000 in
theorem M_X12_pairs {l : Launch} {D : va_G} {y : ZLay} {a1 : Int32}  {μ : ZMem} {r : Int32} {μ0 : ZMem} (h : f_X12_pairs a1 μ = some (r, μ0)) : MI l yX12_pairs wb_X12_pairs rm_X12_pairs D y [.ref (zad y (0, 32, 0)), .int a1] μ r μ0 := by
  unfold f_X12_pairs at h
  refine MI_of RX12 [(0, .ref (zad y (0, 32, 0))), (1, .int a1)] (by decide) rfl rfl (Nat.le_of_ble_eq_true rfl) rfl ?_
  intro p e s m args below meth c A X
  refine V_aload_n X 0 dX12_pairs_0 rfl rfl ?_
  refine V_iload_n X 1 dX12_pairs_1 rfl rfl ?_
  refine V_iconst X (-1) dX12_pairs_2 (by decide) ?_
  obtain ⟨x2, h1, h⟩ := bd_some h
  have hk : V X μ 19 [(0, .ref (zad y (0, 32, 0))), (1, .int a1)] [.int x2, .ref (zad y (0, 32, 0))] := by
    clear h1
    refine V_puti X tyX12 .int (o := (0, 32, 0)) (ci := 12) (k := 0) (N := 30) (T := TX12) (C := RX12) ⟨by decide, rfl⟩ rfl rfl rfl (by decide) (mBa inB_X12) tyX12_ok nmX12 (mB wl_RX12_59) rfl rfl rfl rfl dX12_pairs_19 ?_
    refine zlt_el (P := fun (μ7 : ZMem) => V X μ7 22 [(0, .ref (zad y (0, 32, 0))), (1, .int a1)] []) h (fun μ7 h => ?_)
    refine V_aload_n X 0 dX12_pairs_22 rfl rfl ?_
    refine V_geti X (o := (0, 32, 0)) (ci := 12) (k := 0) (N := 30) (T := TX12) (C := RX12) ⟨by decide, rfl⟩ rfl rfl rfl (by decide) (mBa inB_X12) (mB wl_RX12_59) dX12_pairs_23 ?_
    refine V_if_le X (tgt := 31) dX12_pairs_26 (by decide) (fun b8 => ?_) (fun b8 => ?_)
    · replace h := (if_pos b8).symm.trans h
      refine V_iconst X 0 dX12_pairs_31 (by decide) ?_
      refine V_istore_n X [(2, .int 0), (0, .ref (zad y (0, 32, 0))), (1, .int a1)] dX12_pairs_32 rfl (by decide) rfl ?_
      refine V_sub X [1, 2, 0] (lv' := [(0, .ref (zad y (0, 32, 0))), (1, .int a1), (2, .int 0)]) rfl ?_
      obtain ⟨μ11, hl, h⟩ := bd_some h
      have hk : V X μ11 93 [(0, .ref (zad y (0, 32, 0))), (1, .int a1)] [] := by
        clear hl
        refine V_aload_n X 0 dX12_pairs_93 rfl rfl ?_
        obtain ⟨μ26, c25, h⟩ := bd_some h
        refine V_callVv X (As := []) (M_X12_allBest c25) (cwV 0 X.2.2.2.2.2.2.1 (gV wm_RX12_410 wi_X12_allBest wse_X12_allBest win_RX12 wc_X12_allBest) rfl rfl rfl hd_X12_allBest ⟨Nat.le_of_ble_eq_true rfl, Nat.le_of_ble_eq_true rfl⟩) (b := (0, 32, 0)) ⟨by decide, rfl⟩ rfl rfl rfl rfl (Nat.le_of_ble_eq_true rfl) dX12_pairs_94 rfl ?_
        refine V_aload_n X 0 dX12_pairs_97 rfl rfl ?_
        refine V_iconst X 2 dX12_pairs_98 (by decide) ?_
        obtain ⟨x28, c27, h⟩ := bd_some h
        refine V_callVi X (As := [.int 2]) (M_X12_inState c27) (cwV 1 X.2.2.2.2.2.2.1 (gV wm_RX12_250 wi_X12_inState wse_X12_inState win_RX12 wc_X12_inState) rfl rfl rfl hd_X12_inState ⟨Nat.le_of_ble_eq_true rfl, Nat.le_of_ble_eq_true rfl⟩) (b := (0, 32, 0)) ⟨by decide, rfl⟩ rfl rfl rfl rfl (Nat.le_of_ble_eq_true rfl) dX12_pairs_99 rfl ?_
        refine V_istore_n X [(2, .int x28), (0, .ref (zad y (0, 32, 0))), (1, .int a1)] dX12_pairs_102 rfl (by decide) rfl ?_
        refine V_iload_n X 2 dX12_pairs_103 rfl rfl ?_
        refine V_iconst X (-1) dX12_pairs_104 (by decide) ?_
        refine V_icmp_ne X (tgt := 115) dX12_pairs_105 (by decide) (fun b29 => ?_) (fun b29 => ?_)
        · replace h := (if_neg b29).symm.trans h
          refine V_sub X [1, 2, 0] (lv' := [(0, .ref (zad y (0, 32, 0))), (1, .int a1), (2, .int x28)]) rfl ?_
          obtain ⟨zz, hl, h⟩ := bd_some h
          have hk : ∀ (_ : Unit), .inl () = zz → V X μ26 279 [] [] := by
            intro _ hzz
            subst hzz
            clear hl
            replace h := sm_l h
            refine V_iconst X (-1) dX12_pairs_279 (by decide) ?_
            exact V_iretW X h dX12_pairs_280
          have hr : ∀ r0, .inr r0 = zz → some r0 = some (r, μ0) := by
            intro r0 hzz
            subst hzz
            exact h
          refine lp_ind (P := fun (x30 : Int32) => V X μ26 115 [(0, .ref (zad y (0, 32, 0))), (1, .int a1), (2, .int x30)] []) (fun q z h hz => ?_) hl
          obtain ⟨x30, hq⟩ : ∃ x, x = q := ⟨q, rfl⟩
          subst hq
          show V X μ26 115 [(0, .ref (zad y (0, 32, 0))), (1, .int a1), (2, .int x30)] []
          refine V_iload_n X 2 dX12_pairs_115 rfl rfl ?_
          refine V_if_eq X (tgt := 279) dX12_pairs_116 (by decide) (fun b31 => ?_) (fun b31 => ?_)
          · replace h := (if_pos b31).symm.trans h
            refine V_sub X [] (lv' := []) rfl ?_
            cases h
            exact hk () hz
          · replace h := (if_neg b31).symm.trans h
            refine V_iload_n X 2 dX12_pairs_119 rfl rfl ?_
            obtain ⟨x33, c32, h⟩ := bd_some h
            refine V_callSi X (As := [.int x30]) (M_X12_lowest c32) (va_cwS 1 X.2.2.2.2.2.2.1 (gS wm_RX12_374 wst_X12_lowest win_RX12 wc_X12_lowest) rfl rfl rfl hd_X12_lowest.2 ⟨Nat.le_of_ble_eq_true rfl, Nat.le_of_ble_eq_true rfl⟩) rfl (Nat.le_of_ble_eq_true rfl) dX12_pairs_120 rfl ?_
            refine V_istore_n X [(3, .int x33), (0, .ref (zad y (0, 32, 0))), (1, .int a1), (2, .int x30)] dX12_pairs_123 rfl (by decide) rfl ?_
            refine V_iload_n X 3 dX12_pairs_124 rfl rfl ?_
            refine V_iconst X 1 dX12_pairs_125 (by decide) ?_
            refine V_iload_n X 0 dX12_pairs_126 rfl rfl ?_
            refine V_ishl X dX12_pairs_127 ?_
            refine V_iconst X (-1) dX12_pairs_128 (by decide) ?_
            refine V_ixor X dX12_pairs_129 ?_
            refine V_iand X dX12_pairs_130 ?_
            refine V_istore X [(4, .int (x30 &&& ((1 <<< (x33 &&& 31)) ^^^ (-1)))), (3, .int x33), (0, .ref (zad y (0, 32, 0))), (1, .int a1), (2, .int x30)] dX12_pairs_131 (by decide) rfl ?_
            refine zlt_el (P := fun (x34 : Int32) => V X μ26 133 [(4, .int x34), (3, .int x33), (0, .ref (zad y (0, 32, 0))), (1, .int a1), (2, .int x30)] []) h (fun x34 h => ?_)
            refine V_iconst X (-1) dX12_pairs_133 (by decide) ?_
            refine V_istore X [(5, .int (-1)), (4, .int x34), (3, .int x33), (0, .ref (zad y (0, 32, 0))), (1, .int a1), (2, .int x30)] dX12_pairs_134 (by decide) rfl ?_
            refine V_aload_n X 3 dX12_pairs_136 rfl rfl ?_
            refine V_getr X (o := (0, 32, 0)) (i := (0, 33, 0)) (ci := 12) (k := 1) (N := 30) (T := TX12) (C := RX12) ⟨by decide, rfl⟩ rfl rfl rfl (by decide) (mBa inB_X12) (mB wl_RX12_7) dX12_pairs_137 ?_
            refine V_iconst X 3 dX12_pairs_140 (by decide) ?_
            refine V_iald X 3 (by decide) (o := (0, 33, 0)) (n := 737) ⟨by decide, rfl⟩ rfl rfl (by decide) dX12_pairs_141 ?_
            refine V_iconst X 1 dX12_pairs_142 (by decide) ?_
            refine V_isub X dX12_pairs_143 ?_
            refine V_istore X [(6, .int ((μ26 (0, 33, 0) 3) - 1)), (5, .int (-1)), (4, .int x34), (3, .int x33), (0, .ref (zad y (0, 32, 0))), (1, .int a1), (2, .int x30)] dX12_pairs_144 (by decide) rfl ?_
            refine zlt_el (P := fun (x35 : Int32) => V X μ26 146 [(6, .int x35), (5, .int (-1)), (4, .int x34), (3, .int x33), (0, .ref (zad y (0, 32, 0))), (1, .int a1), (2, .int x30)] []) h (fun x35 h => ?_)
            refine V_sub X [4, 5, 6, 3, 2, 1, 0] (lv' := [(0, .ref (zad y (0, 32, 0))), (1, .int a1), (2, .int x30), (3, .int x33), (4, .int x34), (5, .int (-1)), (6, .int x35)]) rfl ?_
            obtain ⟨x38, hl, h⟩ := bd_some h
            have hk : V X μ26 239 [(0, .ref (zad y (0, 32, 0))), (1, .int a1), (3, .int x33), (4, .int x34), (5, .int x38)] [] := by
              clear hl
              refine V_iload_n X 2 dX12_pairs_239 rfl rfl ?_
              refine V_iload_n X 1 dX12_pairs_240 rfl rfl ?_
              refine V_icmp_ne X (tgt := 247) dX12_pairs_241 (by decide) (fun b51 => ?_) (fun b51 => ?_)
              · replace h := (if_neg b51).symm.trans h
                refine V_iload X 4 dX12_pairs_247 rfl ?_
                refine V_iload_n X 1 dX12_pairs_249 rfl rfl ?_
                refine V_icmp_ne X (tgt := 255) dX12_pairs_250 (by decide) (fun b52 => ?_) (fun b52 => ?_)
                · replace h := (if_neg b52).symm.trans h
                  refine V_iload X 4 dX12_pairs_255 rfl ?_
                  refine V_iconst X (-1) dX12_pairs_257 (by decide) ?_
                  obtain ⟨x54, h1, h⟩ := zl1_some h
                  have hk : V X μ26 275 [(0, .ref (zad y (0, 32, 0))), (1, .int a1)] [.int x54] := by
                    clear h1
                    refine V_istore_n X [(2, .int x54), (0, .ref (zad y (0, 32, 0))), (1, .int a1)] dX12_pairs_275 rfl (by decide) rfl ?_
                    refine V_goto X (tgt := 115) dX12_pairs_276 (by decide) ?_
                    refine V_sub X [1, 2, 0] (lv' := [(0, .ref (zad y (0, 32, 0))), (1, .int a1), (2, .int x54)]) rfl ?_
                    cases h
                    exact hz
                  replace h := h1
                  clear h1
                  refine V_icmp_ne X (tgt := 266) dX12_pairs_258 (by decide) (fun b53 => ?_) (fun b53 => ?_)
                  · replace h := (if_neg b53).symm.trans h
                    refine V_iload X 3 dX12_pairs_266 rfl ?_
                    refine V_iconst X 1 dX12_pairs_268 (by decide) ?_
                    refine V_iload X 4 dX12_pairs_269 rfl ?_
                    refine V_ishl X dX12_pairs_271 ?_
                    refine V_iconst X (-1) dX12_pairs_272 (by decide) ?_
                    refine V_ixor X dX12_pairs_273 ?_
                    refine V_iand X dX12_pairs_274 ?_
                    refine V_sub X [0, 1] (lv' := [(0, .ref (zad y (0, 32, 0))), (1, .int a1)]) rfl ?_
                    obtain rfl := pr1 h
                    exact hk
                  · replace h := (if_pos b53).symm.trans h
                    refine V_iload X 3 dX12_pairs_261 rfl ?_
                    refine V_goto X (tgt := 275) dX12_pairs_263 (by decide) ?_
                    refine V_sub X [0, 1] (lv' := [(0, .ref (zad y (0, 32, 0))), (1, .int a1)]) rfl ?_
                    obtain rfl := pr1 h
                    exact hk
                · replace h := (if_pos b52).symm.trans h
                  refine V_iload_n X 2 dX12_pairs_253 rfl rfl ?_
                  cases h
                  have h := hr _ hz
                  exact V_iretW X h dX12_pairs_254
              · replace h := (if_pos b51).symm.trans h
                refine V_iload X 4 dX12_pairs_244 rfl ?_
                cases h
                have h := hr _ hz
                exact V_iretW X h dX12_pairs_246
            refine lp_ind (P := fun q => V X μ26 146 [(0, .ref (zad y (0, 32, 0))), (1, .int a1), (2, .int x30), (3, .int x33), (4, .int x34), (5, .int q.1), (6, .int q.2)] []) (fun q z h hz => ?_) hl
            obtain ⟨x36, x37⟩ := q
            replace h := un2_eq h
            show V X μ26 146 [(0, .ref (zad y (0, 32, 0))), (1, .int a1), (2, .int x30), (3, .int x33), (4, .int x34), (5, .int x36), (6, .int x37)] []
            refine V_iload X 6 dX12_pairs_146 rfl ?_
            refine V_iload_n X 3 dX12_pairs_148 rfl rfl ?_
            refine V_icmp_le X (tgt := 239) dX12_pairs_149 (by decide) (fun b39 => ?_) (fun b39 => ?_)
            · replace h := (if_pos b39).symm.trans h
              refine V_sub X [0, 1, 3, 4, 5] (lv' := [(0, .ref (zad y (0, 32, 0))), (1, .int a1), (3, .int x33), (4, .int x34), (5, .int x36)]) rfl ?_
              cases h
              obtain rfl := pr1 hz
              exact hk
            · replace h := (if_neg b39).symm.trans h
              refine V_aload_n X 0 dX12_pairs_152 rfl rfl ?_
              refine V_getr X (o := (0, 32, 0)) (i := (0, 44, 0)) (ci := 12) (k := 26) (N := 30) (T := TX12) (C := RX12) ⟨by decide, rfl⟩ rfl rfl rfl (by decide) (mBa inB_X12) (mB wl_RX12_47) dX12_pairs_153 ?_
              refine V_iload X 4 dX12_pairs_156 rfl ?_
              obtain ⟨g40, h⟩ := gd_some h
              refine V_iald X x34.toNatClampNeg rfl (o := (0, 44, 0)) (n := 256) ⟨by decide, rfl⟩ rfl rfl g40 dX12_pairs_158 ?_
              refine V_aload_n X 0 dX12_pairs_159 rfl rfl ?_
              refine V_getr X (o := (0, 32, 0)) (i := (0, 44, 0)) (ci := 12) (k := 26) (N := 30) (T := TX12) (C := RX12) ⟨by decide, rfl⟩ rfl rfl rfl (by decide) (mBa inB_X12) (mB wl_RX12_47) dX12_pairs_160 ?_
              refine V_iload_n X 2 dX12_pairs_163 rfl rfl ?_
              obtain ⟨g41, h⟩ := gd_some h
              refine V_iald X x30.toNatClampNeg rfl (o := (0, 44, 0)) (n := 256) ⟨by decide, rfl⟩ rfl rfl g41 dX12_pairs_164 ?_
              refine V_icmp_eq X (tgt := 239) dX12_pairs_165 (by decide) (fun b42 => ?_) (fun b42 => ?_)
              · replace h := (if_pos b42).symm.trans h
                refine V_sub X [0, 1, 3, 4, 5] (lv' := [(0, .ref (zad y (0, 32, 0))), (1, .int a1), (3, .int x33), (4, .int x34), (5, .int x36)]) rfl ?_
                cases h
                obtain rfl := pr1 hz
                exact hk
              · replace h := (if_neg b42).symm.trans h
                refine V_iload X 4 dX12_pairs_168 rfl ?_
                refine V_iload X 6 dX12_pairs_170 rfl ?_
                obtain ⟨x44, c43, h⟩ := bd_some h
                refine V_callSi X (As := [.int x34, .int x37]) (M_X12_isOf c43) (va_cwS 2 X.2.2.2.2.2.2.1 (gS wm_RX12_274 wst_X12_isOf win_RX12 wc_X12_isOf) rfl rfl rfl hd_X12_isOf.2 ⟨Nat.le_of_ble_eq_true rfl, Nat.le_of_ble_eq_true rfl⟩) rfl (Nat.le_of_ble_eq_true rfl) dX12_pairs_172 rfl ?_
                obtain ⟨x46, h1, h⟩ := bd_some h
                have hk : V X μ26 233 [(0, .ref (zad y (0, 32, 0))), (1, .int a1), (2, .int x30), (3, .int x33), (4, .int x34), (5, .int x46), (6, .int x37)] [] := by
                  clear h1
                  refine V_inc X 6 (-1) [(6, .int (x37 + (-1))), (0, .ref (zad y (0, 32, 0))), (1, .int a1), (2, .int x30), (3, .int x33), (4, .int x34), (5, .int x46)] dX12_pairs_233 rfl (by decide) (by decide) rfl ?_
                  refine V_goto X (tgt := 146) dX12_pairs_236 (by decide) ?_
                  refine V_sub X [1, 2, 3, 4, 5, 6, 0] (lv' := [(0, .ref (zad y (0, 32, 0))), (1, .int a1), (2, .int x30), (3, .int x33), (4, .int x34), (5, .int x46), (6, .int (x37 + (-1)))]) rfl ?_
                  cases h
                  exact hz
                replace h := h1
                clear h1
                refine V_if_eq X (tgt := 233) dX12_pairs_175 (by decide) (fun b45 => ?_) (fun b45 => ?_)
                · replace h := (if_pos b45).symm.trans h
                  obtain rfl := so1 h
                  exact hk
                · replace h := (if_neg b45).symm.trans h
                  refine V_aload_n X 0 dX12_pairs_178 rfl rfl ?_
                  refine V_getr X (o := (0, 32, 0)) (i := (0, 45, 0)) (ci := 12) (k := 27) (N := 30) (T := TX12) (C := RX12) ⟨by decide, rfl⟩ rfl rfl rfl (by decide) (mBa inB_X12) (mB wl_RX12_50) dX12_pairs_179 ?_
                  refine V_bipush X 8 dX12_pairs_182 (by decide) ?_
                  refine V_iload_n X 3 dX12_pairs_184 rfl rfl ?_
                  refine V_imul X dX12_pairs_185 ?_
                  refine V_iload X 6 dX12_pairs_186 rfl ?_
                  refine V_iadd X dX12_pairs_188 ?_
                  obtain ⟨g47, h⟩ := gd_some h
                  refine V_iald X ((8 * x33) + x37).toNatClampNeg rfl (o := (0, 45, 0)) (n := 2048) ⟨by decide, rfl⟩ rfl rfl g47 dX12_pairs_189 ?_
                  refine V_if_le X (tgt := 233) dX12_pairs_190 (by decide) (fun b48 => ?_) (fun b48 => ?_)
                  · replace h := (if_pos b48).symm.trans h
                    obtain rfl := so1 h
                    exact hk
                  · replace h := (if_neg b48).symm.trans h
                    refine V_aload_n X 0 dX12_pairs_193 rfl rfl ?_
                    refine V_getr X (o := (0, 32, 0)) (i := (0, 45, 0)) (ci := 12) (k := 27) (N := 30) (T := TX12) (C := RX12) ⟨by decide, rfl⟩ rfl rfl rfl (by decide) (mBa inB_X12) (mB wl_RX12_50) dX12_pairs_194 ?_
                    refine V_bipush X 8 dX12_pairs_197 (by decide) ?_
                    refine V_iload_n X 3 dX12_pairs_199 rfl rfl ?_
                    refine V_imul X dX12_pairs_200 ?_
                    refine V_iload X 6 dX12_pairs_201 rfl ?_
                    refine V_iadd X dX12_pairs_203 ?_
                    refine V_iald X ((8 * x33) + x37).toNatClampNeg rfl (o := (0, 45, 0)) (n := 2048) ⟨by decide, rfl⟩ rfl rfl g47 dX12_pairs_204 ?_
                    refine V_aload_n X 0 dX12_pairs_205 rfl rfl ?_
                    refine V_getr X (o := (0, 32, 0)) (i := (0, 44, 0)) (ci := 12) (k := 26) (N := 30) (T := TX12) (C := RX12) ⟨by decide, rfl⟩ rfl rfl rfl (by decide) (mBa inB_X12) (mB wl_RX12_47) dX12_pairs_206 ?_
                    refine V_iload X 4 dX12_pairs_209 rfl ?_
                    refine V_iconst X 1 dX12_pairs_211 (by decide) ?_
                    refine V_iload X 6 dX12_pairs_212 rfl ?_
                    refine V_ishl X dX12_pairs_214 ?_
                    refine V_iconst X (-1) dX12_pairs_215 (by decide) ?_
                    refine V_ixor X dX12_pairs_216 ?_
                    refine V_iand X dX12_pairs_217 ?_
                    obtain ⟨g49, h⟩ := gd_some h
                    refine V_iald X (x34 &&& ((1 <<< (x37 &&& 31)) ^^^ (-1))).toNatClampNeg rfl (o := (0, 44, 0)) (n := 256) ⟨by decide, rfl⟩ rfl rfl g49 dX12_pairs_218 ?_
                    refine V_iadd X dX12_pairs_219 ?_
                    refine V_aload_n X 0 dX12_pairs_220 rfl rfl ?_
                    refine V_getr X (o := (0, 32, 0)) (i := (0, 44, 0)) (ci := 12) (k := 26) (N := 30) (T := TX12) (C := RX12) ⟨by decide, rfl⟩ rfl rfl rfl (by decide) (mBa inB_X12) (mB wl_RX12_47) dX12_pairs_221 ?_
                    refine V_iload_n X 2 dX12_pairs_224 rfl rfl ?_
                    refine V_iald X x30.toNatClampNeg rfl (o := (0, 44, 0)) (n := 256) ⟨by decide, rfl⟩ rfl rfl g41 dX12_pairs_225 ?_
                    refine V_icmp_ne X (tgt := 233) dX12_pairs_226 (by decide) (fun b50 => ?_) (fun b50 => ?_)
                    · replace h := (if_neg b50).symm.trans h
                      obtain rfl := so1 h
                      exact hk
                    · replace h := (if_pos b50).symm.trans h
                      refine V_iload X 6 dX12_pairs_229 rfl ?_
                      refine V_istore X [(5, .int x37), (0, .ref (zad y (0, 32, 0))), (1, .int a1), (2, .int x30), (3, .int x33), (4, .int x34), (6, .int x37)] dX12_pairs_231 (by decide) rfl ?_
                      refine V_sub X [1, 2, 3, 4, 5, 0, 6] (lv' := [(0, .ref (zad y (0, 32, 0))), (1, .int a1), (2, .int x30), (3, .int x33), (4, .int x34), (5, .int x37), (6, .int x37)]) rfl ?_
                      obtain rfl := so1 h
                      exact hk
        · replace h := (if_pos b29).symm.trans h
          refine V_aload_n X 1 dX12_pairs_108 rfl rfl ?_
          refine V_getr X (o := (0, 32, 0)) (i := (0, 44, 0)) (ci := 12) (k := 26) (N := 30) (T := TX12) (C := RX12) ⟨by decide, rfl⟩ rfl rfl rfl (by decide) (mBa inB_X12) (mB wl_RX12_47) dX12_pairs_109 ?_
          refine V_iload_n X 0 dX12_pairs_112 rfl rfl ?_
          obtain ⟨g55, h⟩ := gd_some h
          refine V_iald X x28.toNatClampNeg rfl (o := (0, 44, 0)) (n := 256) ⟨by decide, rfl⟩ rfl rfl g55 dX12_pairs_113 ?_
          exact V_iretW X h dX12_pairs_114
      refine lp_ind (P := fun q => V X q.2 33 [(0, .ref (zad y (0, 32, 0))), (1, .int a1), (2, .int q.1)] []) (fun q z h hz => ?_) hl
      obtain ⟨x9, μ10⟩ := q
      replace h := un2_eq h
      show V X μ10 33 [(0, .ref (zad y (0, 32, 0))), (1, .int a1), (2, .int x9)] []
      refine V_iload_n X 2 dX12_pairs_33 rfl rfl ?_
      refine V_aload_n X 0 dX12_pairs_34 rfl rfl ?_
      refine V_getr X (o := (0, 32, 0)) (i := (0, 33, 0)) (ci := 12) (k := 1) (N := 30) (T := TX12) (C := RX12) ⟨by decide, rfl⟩ rfl rfl rfl (by decide) (mBa inB_X12) (mB wl_RX12_7) dX12_pairs_35 ?_
      refine V_iconst X 3 dX12_pairs_38 (by decide) ?_
      refine V_iald X 3 (by decide) (o := (0, 33, 0)) (n := 737) ⟨by decide, rfl⟩ rfl rfl (by decide) dX12_pairs_39 ?_
      refine V_icmp_ge X (tgt := 93) dX12_pairs_40 (by decide) (fun b12 => ?_) (fun b12 => ?_)
      · replace h := (if_pos b12).symm.trans h
        refine V_sub X [0, 1] (lv' := [(0, .ref (zad y (0, 32, 0))), (1, .int a1)]) rfl ?_
        cases h
        obtain rfl := pr1 hz
        exact hk
      · replace h := (if_neg b12).symm.trans h
        refine V_iconst X 0 dX12_pairs_43 (by decide) ?_
        refine V_istore_n X [(3, .int 0), (0, .ref (zad y (0, 32, 0))), (1, .int a1), (2, .int x9)] dX12_pairs_44 rfl (by decide) rfl ?_
        refine V_sub X [1, 2, 3, 0] (lv' := [(0, .ref (zad y (0, 32, 0))), (1, .int a1), (2, .int x9), (3, .int 0)]) rfl ?_
        obtain ⟨μ15, hl, h⟩ := bd_some h
        have hk : V X μ15 87 [(0, .ref (zad y (0, 32, 0))), (1, .int a1), (2, .int x9)] [] := by
          clear hl
          refine V_inc X 2 1 [(2, .int (x9 + 1)), (0, .ref (zad y (0, 32, 0))), (1, .int a1)] dX12_pairs_87 rfl (by decide) (by decide) rfl ?_
          refine V_goto X (tgt := 33) dX12_pairs_90 (by decide) ?_
          refine V_sub X [1, 2, 0] (lv' := [(0, .ref (zad y (0, 32, 0))), (1, .int a1), (2, .int (x9 + 1))]) rfl ?_
          cases h
          exact hz
        refine lp_ind (P := fun q => V X q.2 45 [(0, .ref (zad y (0, 32, 0))), (1, .int a1), (2, .int x9), (3, .int q.1)] []) (fun q z h hz => ?_) hl
        obtain ⟨x13, μ14⟩ := q
        replace h := un2_eq h
        show V X μ14 45 [(0, .ref (zad y (0, 32, 0))), (1, .int a1), (2, .int x9), (3, .int x13)] []
        refine V_iload_n X 3 dX12_pairs_45 rfl rfl ?_
        refine V_aload_n X 0 dX12_pairs_46 rfl rfl ?_
        refine V_getr X (o := (0, 32, 0)) (i := (0, 33, 0)) (ci := 12) (k := 1) (N := 30) (T := TX12) (C := RX12) ⟨by decide, rfl⟩ rfl rfl rfl (by decide) (mBa inB_X12) (mB wl_RX12_7) dX12_pairs_47 ?_
        refine V_iconst X 3 dX12_pairs_50 (by decide) ?_
        refine V_iald X 3 (by decide) (o := (0, 33, 0)) (n := 737) ⟨by decide, rfl⟩ rfl rfl (by decide) dX12_pairs_51 ?_
        refine V_icmp_ge X (tgt := 87) dX12_pairs_52 (by decide) (fun b16 => ?_) (fun b16 => ?_)
        · replace h := (if_pos b16).symm.trans h
          refine V_sub X [0, 1, 2] (lv' := [(0, .ref (zad y (0, 32, 0))), (1, .int a1), (2, .int x9)]) rfl ?_
          cases h
          obtain rfl := pr1 hz
          exact hk
        · replace h := (if_neg b16).symm.trans h
          refine V_aload_n X 0 dX12_pairs_55 rfl rfl ?_
          refine V_getr X (o := (0, 32, 0)) (i := (0, 45, 0)) (ci := 12) (k := 27) (N := 30) (T := TX12) (C := RX12) ⟨by decide, rfl⟩ rfl rfl rfl (by decide) (mBa inB_X12) (mB wl_RX12_50) dX12_pairs_56 ?_
          refine V_bipush X 8 dX12_pairs_59 (by decide) ?_
          refine V_iload_n X 2 dX12_pairs_61 rfl rfl ?_
          refine V_imul X dX12_pairs_62 ?_
          refine V_iload_n X 3 dX12_pairs_63 rfl rfl ?_
          refine V_iadd X dX12_pairs_64 ?_
          refine V_iload_n X 2 dX12_pairs_65 rfl rfl ?_
          refine V_iload_n X 3 dX12_pairs_66 rfl rfl ?_
          obtain ⟨x18, μ19, h1, h⟩ := bd2_some h
          have hk : V X μ19 80 [(0, .ref (zad y (0, 32, 0))), (1, .int a1), (2, .int x9), (3, .int x13)] [.int x18, .int ((8 * x9) + x13), .ref (zad y (0, 45, 0))] := by
            clear h1
            obtain ⟨g23, h⟩ := gd_some h
            refine V_iast X ((8 * x9) + x13).toNatClampNeg rfl (o := (0, 45, 0)) (n := 2048) ⟨by decide, rfl⟩ rfl rfl g23 dX12_pairs_80 ?_
            refine zlt_el (P := fun (μ24 : ZMem) => V X μ24 81 [(0, .ref (zad y (0, 32, 0))), (1, .int a1), (2, .int x9), (3, .int x13)] []) h (fun μ24 h => ?_)
            refine V_inc X 3 1 [(3, .int (x13 + 1)), (0, .ref (zad y (0, 32, 0))), (1, .int a1), (2, .int x9)] dX12_pairs_81 rfl (by decide) (by decide) rfl ?_
            refine V_goto X (tgt := 45) dX12_pairs_84 (by decide) ?_
            refine V_sub X [1, 2, 3, 0] (lv' := [(0, .ref (zad y (0, 32, 0))), (1, .int a1), (2, .int x9), (3, .int (x13 + 1))]) rfl ?_
            cases h
            exact hz
          replace h := h1
          clear h1
          refine V_icmp_ne X (tgt := 74) dX12_pairs_67 (by decide) (fun b17 => ?_) (fun b17 => ?_)
          · replace h := (if_neg b17).symm.trans h
            refine V_aload_n X 0 dX12_pairs_74 rfl rfl ?_
            refine V_iload_n X 2 dX12_pairs_75 rfl rfl ?_
            refine V_iload_n X 3 dX12_pairs_76 rfl rfl ?_
            obtain ⟨x21, μ22, c20, h⟩ := bd2_some h
            refine V_callVi X (As := [.int x9, .int x13]) (M_X12_both c20) (cwV 2 X.2.2.2.2.2.2.1 (gV wm_RX12_407 wi_X12_both wse_X12_both win_RX12 wc_X12_both) rfl rfl rfl hd_X12_both ⟨Nat.le_of_ble_eq_true rfl, Nat.le_of_ble_eq_true rfl⟩) (b := (0, 32, 0)) ⟨by decide, rfl⟩ rfl rfl rfl rfl (Nat.le_of_ble_eq_true rfl) dX12_pairs_77 rfl ?_
            obtain ⟨rfl, rfl⟩ := so2 h
            exact hk
          · replace h := (if_pos b17).symm.trans h
            refine V_iconst X (-1) dX12_pairs_70 (by decide) ?_
            refine V_goto X (tgt := 80) dX12_pairs_71 (by decide) ?_
            obtain ⟨rfl, rfl⟩ := so2 h
            exact hk
    · replace h := (if_neg b8).symm.trans h
      refine V_iconst X 0 dX12_pairs_29 (by decide) ?_
      exact V_iretW X h dX12_pairs_30
  replace h := h1
  clear h1
  refine jk0_el (P := V X μ 18 [(0, .ref (zad y (0, 32, 0))), (1, .int a1)] [.ref (zad y (0, 32, 0))]) h (fun h => ?_) (fun k3 hk3 h => ?_)
  · refine V_iconst X 0 dX12_pairs_18 (by decide) ?_
    obtain rfl := so1 h
    exact hk
  · refine V_icmp_eq X (tgt := 18) dX12_pairs_3 (by decide) (fun b1 => ?_) (fun b1 => ?_)
    · replace h := (if_pos b1).symm.trans h
      exact hk3 h
    · replace h := (if_neg b1).symm.trans h
      refine V_aload_n X 0 dX12_pairs_6 rfl rfl ?_
      refine V_iload_n X 1 dX12_pairs_7 rfl rfl ?_
      obtain ⟨x5, c4, h⟩ := bd_some h
      refine V_callVi X (As := [.int a1]) (M_X12_isNode c4) (cwV 1 X.2.2.2.2.2.2.1 (gV wm_RX12_347 wi_X12_isNode wse_X12_isNode win_RX12 wc_X12_isNode) rfl rfl rfl hd_X12_isNode ⟨Nat.le_of_ble_eq_true rfl, Nat.le_of_ble_eq_true rfl⟩) (b := (0, 32, 0)) ⟨by decide, rfl⟩ rfl rfl rfl rfl (Nat.le_of_ble_eq_true rfl) dX12_pairs_8 rfl ?_
      refine V_if_ne X (tgt := 18) dX12_pairs_11 (by decide) (fun b6 => ?_) (fun b6 => ?_)
      · replace h := (if_neg b6).symm.trans h
        exact hk3 h
      · replace h := (if_pos b6).symm.trans h
        refine V_iconst X 1 dX12_pairs_14 (by decide) ?_
        refine V_goto X (tgt := 19) dX12_pairs_15 (by decide) ?_
        obtain rfl := so1 h
        exact hk

def f_X12_share (a1 : Int32) (a2 : Int32) (μ : ZMem) : Option (Int32 × ZMem) := bd (f_X12_isNode a1 μ) (fun (x2 : Int32) => bd (α := Int32) (if x2 = 0 then some 1 else bd (f_X12_isIn a2 0 99) (fun (x6 : Int32) => if x6 = 0 then some 2 else some 0)) (fun (x4 : Int32) => zlt (mset μ (0, 32, 0) 0 x4) (fun (μ8 : ZMem) => if (μ8 (0, 32, 0) 0) ≤ 0 then bd (lp (σ := Int32 × ZMem) (fun q => un2 q (fun (x10 : Int32) (μ11 : ZMem) => if 8 ≤ x10 then some (.inr μ11) else gd (zin x10 8) (zlt (mset μ11 (0, 46, 0) x10.toNatClampNeg 0) (fun (μ15 : ZMem) => some (.inl ((x10 + 1), μ15)))))) FU (0, μ8)) (fun (μ12 : ZMem) => bd (lp (σ := Int32 × ZMem) (fun q => un2 q (fun (x16 : Int32) (μ17 : ZMem) => if a2 ≤ x16 then some (.inr μ17) else bd (lp (σ := Int32 × Int32) (fun q => un2 q (fun (x20 : Int32) (x21 : Int32) => if (μ17 (0, 33, 0) 3) ≤ x21 then some (.inr x20) else bd (f_X12_of x21 8 μ17) (fun (x25 : Int32) => gd (zin x21 8) (gd (gnz ((μ17 (0, 46, 0) x21.toNatClampNeg) + 1)) (bd (f_X12_of x20 8 μ17) (fun (x29 : Int32) => gd (zin x20 8) (gd (gnz ((μ17 (0, 46, 0) x20.toNatClampNeg) + 1)) (zlt (α := Int32) (if ((100 - x25) / ((μ17 (0, 46, 0) x21.toNatClampNeg) + 1)) ≤ ((100 - x29) / ((μ17 (0, 46, 0) x20.toNatClampNeg) + 1)) then x20 else x21) (fun (x33 : Int32) => some (.inl (x33, (x21 + 1)))))))))))) FU (0, 1)) (fun (x22 : Int32) => gd (zin x22 8) (zlt (mset μ17 (0, 46, 0) x22.toNatClampNeg ((μ17 (0, 46, 0) x22.toNatClampNeg) + 1)) (fun (μ35 : ZMem) => some (.inl ((x16 + 1), μ35))))))) FU (0, μ12)) (fun (μ18 : ZMem) => gd (zin a1 8) (some ((μ18 (0, 46, 0) a1.toNatClampNeg), μ18)))) else some (0, μ8))))
set_option maxRecDepth 100000 in
set_option maxHeartbeats 4000000 in
theorem M_X12_share {l : Launch} {D : va_G} {y : ZLay} {a1 : Int32} {a2 : Int32}  {μ : ZMem} {r : Int32} {μ0 : ZMem} (h : f_X12_share a1 a2 μ = some (r, μ0)) : MI l yX12_share wb_X12_share rm_X12_share D y [.ref (zad y (0, 32, 0)), .int a1, .int a2] μ r μ0 := by
  unfold f_X12_share at h
  refine MI_of RX12 [(0, .ref (zad y (0, 32, 0))), (1, .int a1), (2, .int a2)] (by decide) rfl rfl (Nat.le_of_ble_eq_true rfl) rfl ?_
  intro p e s m args below meth c A X
  refine V_aload_n X 0 dX12_share_0 rfl rfl ?_
  refine V_aload_n X 0 dX12_share_1 rfl rfl ?_
  refine V_iload_n X 1 dX12_share_2 rfl rfl ?_
  obtain ⟨x2, c1, h⟩ := bd_some h
  refine V_callVi X (As := [.int a1]) (M_X12_isNode c1) (cwV 1 X.2.2.2.2.2.2.1 (gV wm_RX12_347 wi_X12_isNode wse_X12_isNode win_RX12 wc_X12_isNode) rfl rfl rfl hd_X12_isNode ⟨Nat.le_of_ble_eq_true rfl, Nat.le_of_ble_eq_true rfl⟩) (b := (0, 32, 0)) ⟨by decide, rfl⟩ rfl rfl rfl rfl (Nat.le_of_ble_eq_true rfl) dX12_share_3 rfl ?_
  obtain ⟨x4, h1, h⟩ := bd_some h
  have hk : V X μ 28 [(0, .ref (zad y (0, 32, 0))), (1, .int a1), (2, .int a2)] [.int x4, .ref (zad y (0, 32, 0))] := by
    clear h1
    refine V_puti X tyX12 .int (o := (0, 32, 0)) (ci := 12) (k := 0) (N := 30) (T := TX12) (C := RX12) ⟨by decide, rfl⟩ rfl rfl rfl (by decide) (mBa inB_X12) tyX12_ok nmX12 (mB wl_RX12_59) rfl rfl rfl rfl dX12_share_28 ?_
    refine zlt_el (P := fun (μ8 : ZMem) => V X μ8 31 [(0, .ref (zad y (0, 32, 0))), (1, .int a1), (2, .int a2)] []) h (fun μ8 h => ?_)
    refine V_aload_n X 0 dX12_share_31 rfl rfl ?_
    refine V_geti X (o := (0, 32, 0)) (ci := 12) (k := 0) (N := 30) (T := TX12) (C := RX12) ⟨by decide, rfl⟩ rfl rfl rfl (by decide) (mBa inB_X12) (mB wl_RX12_59) dX12_share_32 ?_
    refine V_if_le X (tgt := 40) dX12_share_35 (by decide) (fun b9 => ?_) (fun b9 => ?_)
    · replace h := (if_pos b9).symm.trans h
      refine V_iconst X 0 dX12_share_40 (by decide) ?_
      refine V_istore_n X [(3, .int 0), (0, .ref (zad y (0, 32, 0))), (1, .int a1), (2, .int a2)] dX12_share_41 rfl (by decide) rfl ?_
      refine V_sub X [1, 2, 3, 0] (lv' := [(0, .ref (zad y (0, 32, 0))), (1, .int a1), (2, .int a2), (3, .int 0)]) rfl ?_
      obtain ⟨μ12, hl, h⟩ := bd_some h
      have hk : V X μ12 61 [(0, .ref (zad y (0, 32, 0))), (1, .int a1), (2, .int a2)] [] := by
        clear hl
        refine V_iconst X 0 dX12_share_61 (by decide) ?_
        refine V_istore_n X [(3, .int 0), (0, .ref (zad y (0, 32, 0))), (1, .int a1), (2, .int a2)] dX12_share_62 rfl (by decide) rfl ?_
        refine V_sub X [1, 2, 3, 0] (lv' := [(0, .ref (zad y (0, 32, 0))), (1, .int a1), (2, .int a2), (3, .int 0)]) rfl ?_
        obtain ⟨μ18, hl, h⟩ := bd_some h
        have hk : V X μ18 157 [(0, .ref (zad y (0, 32, 0))), (1, .int a1)] [] := by
          clear hl
          refine V_aload_n X 0 dX12_share_157 rfl rfl ?_
          refine V_getr X (o := (0, 32, 0)) (i := (0, 46, 0)) (ci := 12) (k := 28) (N := 30) (T := TX12) (C := RX12) ⟨by decide, rfl⟩ rfl rfl rfl (by decide) (mBa inB_X12) (mB wl_RX12_53) dX12_share_158 ?_
          refine V_iload_n X 1 dX12_share_161 rfl rfl ?_
          obtain ⟨g36, h⟩ := gd_some h
          refine V_iald X a1.toNatClampNeg rfl (o := (0, 46, 0)) (n := 8) ⟨by decide, rfl⟩ rfl rfl g36 dX12_share_162 ?_
          exact V_iretW X h dX12_share_163
        refine lp_ind (P := fun q => V X q.2 63 [(0, .ref (zad y (0, 32, 0))), (1, .int a1), (2, .int a2), (3, .int q.1)] []) (fun q z h hz => ?_) hl
        obtain ⟨x16, μ17⟩ := q
        replace h := un2_eq h
        show V X μ17 63 [(0, .ref (zad y (0, 32, 0))), (1, .int a1), (2, .int a2), (3, .int x16)] []
        refine V_iload_n X 3 dX12_share_63 rfl rfl ?_
        refine V_iload_n X 2 dX12_share_64 rfl rfl ?_
        refine V_icmp_ge X (tgt := 157) dX12_share_65 (by decide) (fun b19 => ?_) (fun b19 => ?_)
        · replace h := (if_pos b19).symm.trans h
          refine V_sub X [0, 1] (lv' := [(0, .ref (zad y (0, 32, 0))), (1, .int a1)]) rfl ?_
          cases h
          obtain rfl := pr1 hz
          exact hk
        · replace h := (if_neg b19).symm.trans h
          refine V_iconst X 0 dX12_share_68 (by decide) ?_
          refine V_istore X [(4, .int 0), (0, .ref (zad y (0, 32, 0))), (1, .int a1), (2, .int a2), (3, .int x16)] dX12_share_69 (by decide) rfl ?_
          refine V_iconst X 1 dX12_share_71 (by decide) ?_
          refine V_istore X [(5, .int 1), (4, .int 0), (0, .ref (zad y (0, 32, 0))), (1, .int a1), (2, .int a2), (3, .int x16)] dX12_share_72 (by decide) rfl ?_
          refine V_sub X [2, 3, 4, 5, 1, 0] (lv' := [(0, .ref (zad y (0, 32, 0))), (1, .int a1), (2, .int a2), (3, .int x16), (4, .int 0), (5, .int 1)]) rfl ?_
          obtain ⟨x22, hl, h⟩ := bd_some h
          have hk : V X μ17 140 [(0, .ref (zad y (0, 32, 0))), (1, .int a1), (2, .int a2), (3, .int x16), (4, .int x22)] [] := by
            clear hl
            refine V_aload_n X 0 dX12_share_140 rfl rfl ?_
            refine V_getr X (o := (0, 32, 0)) (i := (0, 46, 0)) (ci := 12) (k := 28) (N := 30) (T := TX12) (C := RX12) ⟨by decide, rfl⟩ rfl rfl rfl (by decide) (mBa inB_X12) (mB wl_RX12_53) dX12_share_141 ?_
            refine V_iload X 4 dX12_share_144 rfl ?_
            refine V_dup2 X dX12_share_146 rfl rfl ?_
            obtain ⟨g34, h⟩ := gd_some h
            refine V_iald X x22.toNatClampNeg rfl (o := (0, 46, 0)) (n := 8) ⟨by decide, rfl⟩ rfl rfl g34 dX12_share_147 ?_
            refine V_iconst X 1 dX12_share_148 (by decide) ?_
            refine V_iadd X dX12_share_149 ?_
            refine V_iast X x22.toNatClampNeg rfl (o := (0, 46, 0)) (n := 8) ⟨by decide, rfl⟩ rfl rfl g34 dX12_share_150 ?_
            refine zlt_el (P := fun (μ35 : ZMem) => V X μ35 151 [(0, .ref (zad y (0, 32, 0))), (1, .int a1), (2, .int a2), (3, .int x16), (4, .int x22)] []) h (fun μ35 h => ?_)
            refine V_inc X 3 1 [(3, .int (x16 + 1)), (0, .ref (zad y (0, 32, 0))), (1, .int a1), (2, .int a2), (4, .int x22)] dX12_share_151 rfl (by decide) (by decide) rfl ?_
            refine V_goto X (tgt := 63) dX12_share_154 (by decide) ?_
            refine V_sub X [1, 2, 3, 0] (lv' := [(0, .ref (zad y (0, 32, 0))), (1, .int a1), (2, .int a2), (3, .int (x16 + 1))]) rfl ?_
            cases h
            exact hz
          refine lp_ind (P := fun q => V X μ17 74 [(0, .ref (zad y (0, 32, 0))), (1, .int a1), (2, .int a2), (3, .int x16), (4, .int q.1), (5, .int q.2)] []) (fun q z h hz => ?_) hl
          obtain ⟨x20, x21⟩ := q
          replace h := un2_eq h
          show V X μ17 74 [(0, .ref (zad y (0, 32, 0))), (1, .int a1), (2, .int a2), (3, .int x16), (4, .int x20), (5, .int x21)] []
          refine V_iload X 5 dX12_share_74 rfl ?_
          refine V_aload_n X 0 dX12_share_76 rfl rfl ?_
          refine V_getr X (o := (0, 32, 0)) (i := (0, 33, 0)) (ci := 12) (k := 1) (N := 30) (T := TX12) (C := RX12) ⟨by decide, rfl⟩ rfl rfl rfl (by decide) (mBa inB_X12) (mB wl_RX12_7) dX12_share_77 ?_
          refine V_iconst X 3 dX12_share_80 (by decide) ?_
          refine V_iald X 3 (by decide) (o := (0, 33, 0)) (n := 737) ⟨by decide, rfl⟩ rfl rfl (by decide) dX12_share_81 ?_
          refine V_icmp_ge X (tgt := 140) dX12_share_82 (by decide) (fun b23 => ?_) (fun b23 => ?_)
          · replace h := (if_pos b23).symm.trans h
            refine V_sub X [0, 1, 2, 3, 4] (lv' := [(0, .ref (zad y (0, 32, 0))), (1, .int a1), (2, .int a2), (3, .int x16), (4, .int x20)]) rfl ?_
            cases h
            obtain rfl := pr1 hz
            exact hk
          · replace h := (if_neg b23).symm.trans h
            refine V_bipush X 100 dX12_share_85 (by decide) ?_
            refine V_aload_n X 0 dX12_share_87 rfl rfl ?_
            refine V_iload X 5 dX12_share_88 rfl ?_
            refine V_bipush X 8 dX12_share_90 (by decide) ?_
            obtain ⟨x25, c24, h⟩ := bd_some h
            refine V_callVi X (As := [.int x21, .int 8]) (M_X12_of c24) (cwV 2 X.2.2.2.2.2.2.1 (gV wm_RX12_66 wi_X12_of wse_X12_of win_RX12 wc_X12_of) rfl rfl rfl hd_X12_of ⟨Nat.le_of_ble_eq_true rfl, Nat.le_of_ble_eq_true rfl⟩) (b := (0, 32, 0)) ⟨by decide, rfl⟩ rfl rfl rfl rfl (Nat.le_of_ble_eq_true rfl) dX12_share_92 rfl ?_
            refine V_isub X dX12_share_95 ?_
            refine V_aload_n X 0 dX12_share_96 rfl rfl ?_
            refine V_getr X (o := (0, 32, 0)) (i := (0, 46, 0)) (ci := 12) (k := 28) (N := 30) (T := TX12) (C := RX12) ⟨by decide, rfl⟩ rfl rfl rfl (by decide) (mBa inB_X12) (mB wl_RX12_53) dX12_share_97 ?_
            refine V_iload X 5 dX12_share_100 rfl ?_
            obtain ⟨g26, h⟩ := gd_some h
            refine V_iald X x21.toNatClampNeg rfl (o := (0, 46, 0)) (n := 8) ⟨by decide, rfl⟩ rfl rfl g26 dX12_share_102 ?_
            refine V_iconst X 1 dX12_share_103 (by decide) ?_
            refine V_iadd X dX12_share_104 ?_
            obtain ⟨g27, h⟩ := gd_some h
            refine V_idiv X dX12_share_105 (gnz_ne g27) ?_
            refine V_bipush X 100 dX12_share_106 (by decide) ?_
            refine V_aload_n X 0 dX12_share_108 rfl rfl ?_
            refine V_iload X 4 dX12_share_109 rfl ?_
            refine V_bipush X 8 dX12_share_111 (by decide) ?_
            obtain ⟨x29, c28, h⟩ := bd_some h
            refine V_callVi X (As := [.int x20, .int 8]) (M_X12_of c28) (cwV 2 X.2.2.2.2.2.2.1 (gV wm_RX12_66 wi_X12_of wse_X12_of win_RX12 wc_X12_of) rfl rfl rfl hd_X12_of ⟨Nat.le_of_ble_eq_true rfl, Nat.le_of_ble_eq_true rfl⟩) (b := (0, 32, 0)) ⟨by decide, rfl⟩ rfl rfl rfl rfl (Nat.le_of_ble_eq_true rfl) dX12_share_113 rfl ?_
            refine V_isub X dX12_share_116 ?_
            refine V_aload_n X 0 dX12_share_117 rfl rfl ?_
            refine V_getr X (o := (0, 32, 0)) (i := (0, 46, 0)) (ci := 12) (k := 28) (N := 30) (T := TX12) (C := RX12) ⟨by decide, rfl⟩ rfl rfl rfl (by decide) (mBa inB_X12) (mB wl_RX12_53) dX12_share_118 ?_
            refine V_iload X 4 dX12_share_121 rfl ?_
            obtain ⟨g30, h⟩ := gd_some h
            refine V_iald X x20.toNatClampNeg rfl (o := (0, 46, 0)) (n := 8) ⟨by decide, rfl⟩ rfl rfl g30 dX12_share_123 ?_
            refine V_iconst X 1 dX12_share_124 (by decide) ?_
            refine V_iadd X dX12_share_125 ?_
            obtain ⟨g31, h⟩ := gd_some h
            refine V_idiv X dX12_share_126 (gnz_ne g31) ?_
            obtain ⟨x33, h1, h⟩ := zl1_some h
            have hk : V X μ17 134 [(0, .ref (zad y (0, 32, 0))), (1, .int a1), (2, .int a2), (3, .int x16), (4, .int x33), (5, .int x21)] [] := by
              clear h1
              refine V_inc X 5 1 [(5, .int (x21 + 1)), (0, .ref (zad y (0, 32, 0))), (1, .int a1), (2, .int a2), (3, .int x16), (4, .int x33)] dX12_share_134 rfl (by decide) (by decide) rfl ?_
              refine V_goto X (tgt := 74) dX12_share_137 (by decide) ?_
              refine V_sub X [1, 2, 3, 4, 5, 0] (lv' := [(0, .ref (zad y (0, 32, 0))), (1, .int a1), (2, .int a2), (3, .int x16), (4, .int x33), (5, .int (x21 + 1))]) rfl ?_
              cases h
              exact hz
            replace h := h1
            clear h1
            refine V_icmp_le X (tgt := 134) dX12_share_127 (by decide) (fun b32 => ?_) (fun b32 => ?_)
            · replace h := (if_pos b32).symm.trans h
              obtain rfl := pr1 h
              exact hk
            · replace h := (if_neg b32).symm.trans h
              refine V_iload X 5 dX12_share_130 rfl ?_
              refine V_istore X [(4, .int x21), (0, .ref (zad y (0, 32, 0))), (1, .int a1), (2, .int a2), (3, .int x16), (5, .int x21)] dX12_share_132 (by decide) rfl ?_
              refine V_sub X [1, 2, 3, 4, 0, 5] (lv' := [(0, .ref (zad y (0, 32, 0))), (1, .int a1), (2, .int a2), (3, .int x16), (4, .int x21), (5, .int x21)]) rfl ?_
              obtain rfl := pr1 h
              exact hk
      refine lp_ind (P := fun q => V X q.2 42 [(0, .ref (zad y (0, 32, 0))), (1, .int a1), (2, .int a2), (3, .int q.1)] []) (fun q z h hz => ?_) hl
      obtain ⟨x10, μ11⟩ := q
      replace h := un2_eq h
      show V X μ11 42 [(0, .ref (zad y (0, 32, 0))), (1, .int a1), (2, .int a2), (3, .int x10)] []
      refine V_iload_n X 3 dX12_share_42 rfl rfl ?_
      refine V_bipush X 8 dX12_share_43 (by decide) ?_
      refine V_icmp_ge X (tgt := 61) dX12_share_45 (by decide) (fun b13 => ?_) (fun b13 => ?_)
      · replace h := (if_pos b13).symm.trans h
        refine V_sub X [0, 1, 2] (lv' := [(0, .ref (zad y (0, 32, 0))), (1, .int a1), (2, .int a2)]) rfl ?_
        cases h
        obtain rfl := pr1 hz
        exact hk
      · replace h := (if_neg b13).symm.trans h
        refine V_aload_n X 0 dX12_share_48 rfl rfl ?_
        refine V_getr X (o := (0, 32, 0)) (i := (0, 46, 0)) (ci := 12) (k := 28) (N := 30) (T := TX12) (C := RX12) ⟨by decide, rfl⟩ rfl rfl rfl (by decide) (mBa inB_X12) (mB wl_RX12_53) dX12_share_49 ?_
        refine V_iload_n X 3 dX12_share_52 rfl rfl ?_
        refine V_iconst X 0 dX12_share_53 (by decide) ?_
        obtain ⟨g14, h⟩ := gd_some h
        refine V_iast X x10.toNatClampNeg rfl (o := (0, 46, 0)) (n := 8) ⟨by decide, rfl⟩ rfl rfl g14 dX12_share_54 ?_
        refine zlt_el (P := fun (μ15 : ZMem) => V X μ15 55 [(0, .ref (zad y (0, 32, 0))), (1, .int a1), (2, .int a2), (3, .int x10)] []) h (fun μ15 h => ?_)
        refine V_inc X 3 1 [(3, .int (x10 + 1)), (0, .ref (zad y (0, 32, 0))), (1, .int a1), (2, .int a2)] dX12_share_55 rfl (by decide) (by decide) rfl ?_
        refine V_goto X (tgt := 42) dX12_share_58 (by decide) ?_
        refine V_sub X [1, 2, 3, 0] (lv' := [(0, .ref (zad y (0, 32, 0))), (1, .int a1), (2, .int a2), (3, .int (x10 + 1))]) rfl ?_
        cases h
        exact hz
    · replace h := (if_neg b9).symm.trans h
      refine V_iconst X 0 dX12_share_38 (by decide) ?_
      exact V_iretW X h dX12_share_39
  replace h := h1
  clear h1
  refine V_if_ne X (tgt := 13) dX12_share_6 (by decide) (fun b3 => ?_) (fun b3 => ?_)
  · replace h := (if_neg b3).symm.trans h
    refine V_iload_n X 2 dX12_share_13 rfl rfl ?_
    refine V_iconst X 0 dX12_share_14 (by decide) ?_
    refine V_bipush X 99 dX12_share_15 (by decide) ?_
    obtain ⟨x6, c5, h⟩ := bd_some h
    refine V_callSi X (As := [.int a2, .int 0, .int 99]) (M_X12_isIn c5) (va_cwS 3 X.2.2.2.2.2.2.1 (gS wm_RX12_62 wst_X12_isIn win_RX12 wc_X12_isIn) rfl rfl rfl hd_X12_isIn.2 ⟨Nat.le_of_ble_eq_true rfl, Nat.le_of_ble_eq_true rfl⟩) rfl (Nat.le_of_ble_eq_true rfl) dX12_share_17 rfl ?_
    refine V_if_ne X (tgt := 27) dX12_share_20 (by decide) (fun b7 => ?_) (fun b7 => ?_)
    · replace h := (if_neg b7).symm.trans h
      refine V_iconst X 0 dX12_share_27 (by decide) ?_
      obtain rfl := so1 h
      exact hk
    · replace h := (if_pos b7).symm.trans h
      refine V_iconst X 2 dX12_share_23 (by decide) ?_
      refine V_goto X (tgt := 28) dX12_share_24 (by decide) ?_
      obtain rfl := so1 h
      exact hk
  · replace h := (if_pos b3).symm.trans h
    refine V_iconst X 1 dX12_share_9 (by decide) ?_
    refine V_goto X (tgt := 28) dX12_share_10 (by decide) ?_
    obtain rfl := so1 h
    exact hk

def f_X12_guardHas (a1 : Int32) (a2 : Int32) (a3 : Int32) (μ : ZMem) : Option (Int32) := if a2 = 0 then bd (α := Int32) (if a3 = 0 then bd (f_X12_of a1 6 μ) (fun (x11 : Int32) => some x11) else bd (f_X12_of a1 6 μ) (fun (x9 : Int32) => some (-x9))) (fun (x7 : Int32) => some x7) else bd (α := Int32) (if a3 = 0 then bd (f_X12_of a1 7 μ) (fun (x5 : Int32) => some ((-x5) - 1)) else some 2) (fun (x3 : Int32) => some x3)
set_option maxRecDepth 100000 in
set_option maxHeartbeats 4000000 in
theorem M_X12_guardHas {l : Launch} {D : va_G} {y : ZLay} {a1 : Int32} {a2 : Int32} {a3 : Int32}  {μ : ZMem} {r : Int32} (h : f_X12_guardHas a1 a2 a3 μ = some r) : MI l yX12_guardHas wb_X12_guardHas rm_X12_guardHas D y [.ref (zad y (0, 32, 0)), .int a1, .int a2, .int a3] μ r μ := by
  unfold f_X12_guardHas at h
  refine MI_of RX12 [(0, .ref (zad y (0, 32, 0))), (1, .int a1), (2, .int a2), (3, .int a3)] (by decide) rfl rfl (Nat.le_of_ble_eq_true rfl) rfl ?_
  intro p e s m args below meth c A X
  refine V_iload_n X 2 dX12_guardHas_0 rfl rfl ?_
  refine V_if_ne X (tgt := 27) dX12_guardHas_1 (by decide) (fun b1 => ?_) (fun b1 => ?_)
  · replace h := (if_neg b1).symm.trans h
    refine V_iload_n X 3 dX12_guardHas_27 rfl rfl ?_
    obtain ⟨x3, h1, h⟩ := bd_some h
    have hk : V X μ 45 [] [.int x3] := by
      clear h1
      exact V_iretR X h dX12_guardHas_45
    replace h := h1
    clear h1
    refine V_if_ne X (tgt := 44) dX12_guardHas_28 (by decide) (fun b2 => ?_) (fun b2 => ?_)
    · replace h := (if_neg b2).symm.trans h
      refine V_iconst X 2 dX12_guardHas_44 (by decide) ?_
      refine V_sub X [] (lv' := []) rfl ?_
      obtain rfl := so1 h
      exact hk
    · replace h := (if_pos b2).symm.trans h
      refine V_aload_n X 0 dX12_guardHas_31 rfl rfl ?_
      refine V_iload_n X 1 dX12_guardHas_32 rfl rfl ?_
      refine V_bipush X 7 dX12_guardHas_33 (by decide) ?_
      obtain ⟨x5, c4, h⟩ := bd_some h
      refine V_callVi X (As := [.int a1, .int 7]) (M_X12_of c4) (cwV 2 X.2.2.2.2.2.2.1 (gV wm_RX12_66 wi_X12_of wse_X12_of win_RX12 wc_X12_of) rfl rfl rfl hd_X12_of ⟨Nat.le_of_ble_eq_true rfl, Nat.le_of_ble_eq_true rfl⟩) (b := (0, 32, 0)) ⟨by decide, rfl⟩ rfl rfl rfl rfl (Nat.le_of_ble_eq_true rfl) dX12_guardHas_35 rfl ?_
      refine V_ineg X dX12_guardHas_38 ?_
      refine V_iconst X 1 dX12_guardHas_39 (by decide) ?_
      refine V_isub X dX12_guardHas_40 ?_
      refine V_goto X (tgt := 45) dX12_guardHas_41 (by decide) ?_
      refine V_sub X [] (lv' := []) rfl ?_
      obtain rfl := so1 h
      exact hk
  · replace h := (if_pos b1).symm.trans h
    refine V_iload_n X 3 dX12_guardHas_4 rfl rfl ?_
    obtain ⟨x7, h1, h⟩ := bd_some h
    have hk : V X μ 26 [] [.int x7] := by
      clear h1
      exact V_iretR X h dX12_guardHas_26
    replace h := h1
    clear h1
    refine V_if_ne X (tgt := 18) dX12_guardHas_5 (by decide) (fun b6 => ?_) (fun b6 => ?_)
    · replace h := (if_neg b6).symm.trans h
      refine V_aload_n X 0 dX12_guardHas_18 rfl rfl ?_
      refine V_iload_n X 1 dX12_guardHas_19 rfl rfl ?_
      refine V_bipush X 6 dX12_guardHas_20 (by decide) ?_
      obtain ⟨x9, c8, h⟩ := bd_some h
      refine V_callVi X (As := [.int a1, .int 6]) (M_X12_of c8) (cwV 2 X.2.2.2.2.2.2.1 (gV wm_RX12_66 wi_X12_of wse_X12_of win_RX12 wc_X12_of) rfl rfl rfl hd_X12_of ⟨Nat.le_of_ble_eq_true rfl, Nat.le_of_ble_eq_true rfl⟩) (b := (0, 32, 0)) ⟨by decide, rfl⟩ rfl rfl rfl rfl (Nat.le_of_ble_eq_true rfl) dX12_guardHas_22 rfl ?_
      refine V_ineg X dX12_guardHas_25 ?_
      refine V_sub X [] (lv' := []) rfl ?_
      obtain rfl := so1 h
      exact hk
    · replace h := (if_pos b6).symm.trans h
      refine V_aload_n X 0 dX12_guardHas_8 rfl rfl ?_
      refine V_iload_n X 1 dX12_guardHas_9 rfl rfl ?_
      refine V_bipush X 6 dX12_guardHas_10 (by decide) ?_
      obtain ⟨x11, c10, h⟩ := bd_some h
      refine V_callVi X (As := [.int a1, .int 6]) (M_X12_of c10) (cwV 2 X.2.2.2.2.2.2.1 (gV wm_RX12_66 wi_X12_of wse_X12_of win_RX12 wc_X12_of) rfl rfl rfl hd_X12_of ⟨Nat.le_of_ble_eq_true rfl, Nat.le_of_ble_eq_true rfl⟩) (b := (0, 32, 0)) ⟨by decide, rfl⟩ rfl rfl rfl rfl (Nat.le_of_ble_eq_true rfl) dX12_guardHas_12 rfl ?_
      refine V_goto X (tgt := 26) dX12_guardHas_15 (by decide) ?_
      refine V_sub X [] (lv' := []) rfl ?_
      obtain rfl := so1 h
      exact hk

def f_X12_talkHas (a0 : Int32) (a1 : Int32) : Int32 := if a0 = 0 then zlt (α := Int32) (if a1 = 0 then (-1) else 0) (fun (x5 : Int32) => x5) else zlt (α := Int32) (if a1 = 0 then 2 else 1) (fun (x3 : Int32) => x3)
set_option maxRecDepth 100000 in
set_option maxHeartbeats 4000000 in
theorem M_X12_talkHas {l : Launch} {D : va_G} {y : ZLay} {a0 : Int32} {a1 : Int32}  {μ : ZMem} : MI l yX12_talkHas wb_X12_talkHas rm_X12_talkHas D y [.int a0, .int a1] μ (f_X12_talkHas a0 a1) μ := by
  obtain ⟨r, h⟩ : ∃ r, f_X12_talkHas a0 a1 = r := ⟨_, rfl⟩
  rw [h]
  unfold f_X12_talkHas at h
  refine MI_of RX12 [(0, .int a0), (1, .int a1)] (by decide) rfl rfl (Nat.le_of_ble_eq_true rfl) rfl ?_
  intro p e s m args below meth c A X
  refine V_iload_n X 0 dX12_talkHas_0 rfl rfl ?_
  refine V_if_ne X (tgt := 14) dX12_talkHas_1 (by decide) (fun b1 => ?_) (fun b1 => ?_)
  · replace h := (if_neg b1).symm.trans h
    refine V_iload_n X 1 dX12_talkHas_14 rfl rfl ?_
    obtain ⟨x3, h1, h⟩ := zl1_some h
    have hk : V X μ 23 [] [.int x3] := by
      clear h1
      exact V_iretT X h dX12_talkHas_23
    replace h := h1
    clear h1
    refine V_if_ne X (tgt := 22) dX12_talkHas_15 (by decide) (fun b2 => ?_) (fun b2 => ?_)
    · replace h := (if_neg b2).symm.trans h
      refine V_iconst X 1 dX12_talkHas_22 (by decide) ?_
      refine V_sub X [] (lv' := []) rfl ?_
      obtain rfl := pr1 h
      exact hk
    · replace h := (if_pos b2).symm.trans h
      refine V_iconst X 2 dX12_talkHas_18 (by decide) ?_
      refine V_goto X (tgt := 23) dX12_talkHas_19 (by decide) ?_
      refine V_sub X [] (lv' := []) rfl ?_
      obtain rfl := pr1 h
      exact hk
  · replace h := (if_pos b1).symm.trans h
    refine V_iload_n X 1 dX12_talkHas_4 rfl rfl ?_
    obtain ⟨x5, h1, h⟩ := zl1_some h
    have hk : V X μ 13 [] [.int x5] := by
      clear h1
      exact V_iretT X h dX12_talkHas_13
    replace h := h1
    clear h1
    refine V_if_ne X (tgt := 12) dX12_talkHas_5 (by decide) (fun b4 => ?_) (fun b4 => ?_)
    · replace h := (if_neg b4).symm.trans h
      refine V_iconst X 0 dX12_talkHas_12 (by decide) ?_
      refine V_sub X [] (lv' := []) rfl ?_
      obtain rfl := pr1 h
      exact hk
    · replace h := (if_pos b4).symm.trans h
      refine V_iconst X (-1) dX12_talkHas_8 (by decide) ?_
      refine V_goto X (tgt := 13) dX12_talkHas_9 (by decide) ?_
      refine V_sub X [] (lv' := []) rfl ?_
      obtain rfl := pr1 h
      exact hk

def f_X12_rests (a1 : Int32) (μ : ZMem) : Option (Int32 × ZMem) := bd (f_X12_isNode a1 μ) (fun (x2 : Int32) => zlt (α := Int32) (if x2 = 0 then 1 else 0) (fun (x4 : Int32) => zlt (mset μ (0, 32, 0) 0 x4) (fun (μ5 : ZMem) => if (μ5 (0, 32, 0) 0) ≤ 0 then bd (lp (σ := Int32 × Int32) (fun q => un2 q (fun (x7 : Int32) (x8 : Int32) => if 4 ≤ x8 then some (.inr x7) else zlt (x8 / 2) (fun (x11 : Int32) => zlt (zrem x8 2) (fun (x12 : Int32) => bd (f_X12_guardHas a1 (1 - x11) x12 μ5) (fun (x14 : Int32) => bd (f_X12_guardHas a1 x11 x12 μ5) (fun (x16 : Int32) => zlt (α := Int32) (if x16 < x14 then x7 else if (f_X12_talkHas x11 x12) < (f_X12_talkHas x11 (1 - x12)) then x7 else zlt (x7 ||| (1 <<< (x8 &&& 31))) (fun (x20 : Int32) => x20)) (fun (x18 : Int32) => some (.inl (x18, (x8 + 1)))))))))) FU (0, 0)) (fun (x9 : Int32) => some (x9, μ5)) else some (0, μ5))))
set_option maxRecDepth 100000 in
set_option maxHeartbeats 4000000 in
theorem M_X12_rests {l : Launch} {D : va_G} {y : ZLay} {a1 : Int32}  {μ : ZMem} {r : Int32} {μ0 : ZMem} (h : f_X12_rests a1 μ = some (r, μ0)) : MI l yX12_rests wb_X12_rests rm_X12_rests D y [.ref (zad y (0, 32, 0)), .int a1] μ r μ0 := by
  unfold f_X12_rests at h
  refine MI_of RX12 [(0, .ref (zad y (0, 32, 0))), (1, .int a1)] (by decide) rfl rfl (Nat.le_of_ble_eq_true rfl) rfl ?_
  intro p e s m args below meth c A X
  refine V_aload_n X 0 dX12_rests_0 rfl rfl ?_
  refine V_aload_n X 0 dX12_rests_1 rfl rfl ?_
  refine V_iload_n X 1 dX12_rests_2 rfl rfl ?_
  obtain ⟨x2, c1, h⟩ := bd_some h
  refine V_callVi X (As := [.int a1]) (M_X12_isNode c1) (cwV 1 X.2.2.2.2.2.2.1 (gV wm_RX12_347 wi_X12_isNode wse_X12_isNode win_RX12 wc_X12_isNode) rfl rfl rfl hd_X12_isNode ⟨Nat.le_of_ble_eq_true rfl, Nat.le_of_ble_eq_true rfl⟩) (b := (0, 32, 0)) ⟨by decide, rfl⟩ rfl rfl rfl rfl (Nat.le_of_ble_eq_true rfl) dX12_rests_3 rfl ?_
  obtain ⟨x4, h1, h⟩ := zl1_some h
  have hk : V X μ 14 [(0, .ref (zad y (0, 32, 0))), (1, .int a1)] [.int x4, .ref (zad y (0, 32, 0))] := by
    clear h1
    refine V_puti X tyX12 .int (o := (0, 32, 0)) (ci := 12) (k := 0) (N := 30) (T := TX12) (C := RX12) ⟨by decide, rfl⟩ rfl rfl rfl (by decide) (mBa inB_X12) tyX12_ok nmX12 (mB wl_RX12_59) rfl rfl rfl rfl dX12_rests_14 ?_
    refine zlt_el (P := fun (μ5 : ZMem) => V X μ5 17 [(0, .ref (zad y (0, 32, 0))), (1, .int a1)] []) h (fun μ5 h => ?_)
    refine V_aload_n X 0 dX12_rests_17 rfl rfl ?_
    refine V_geti X (o := (0, 32, 0)) (ci := 12) (k := 0) (N := 30) (T := TX12) (C := RX12) ⟨by decide, rfl⟩ rfl rfl rfl (by decide) (mBa inB_X12) (mB wl_RX12_59) dX12_rests_18 ?_
    refine V_if_le X (tgt := 26) dX12_rests_21 (by decide) (fun b6 => ?_) (fun b6 => ?_)
    · replace h := (if_pos b6).symm.trans h
      refine V_iconst X 0 dX12_rests_26 (by decide) ?_
      refine V_istore_n X [(2, .int 0), (0, .ref (zad y (0, 32, 0))), (1, .int a1)] dX12_rests_27 rfl (by decide) rfl ?_
      refine V_iconst X 0 dX12_rests_28 (by decide) ?_
      refine V_istore_n X [(3, .int 0), (2, .int 0), (0, .ref (zad y (0, 32, 0))), (1, .int a1)] dX12_rests_29 rfl (by decide) rfl ?_
      refine V_sub X [2, 3, 1, 0] (lv' := [(0, .ref (zad y (0, 32, 0))), (1, .int a1), (2, .int 0), (3, .int 0)]) rfl ?_
      obtain ⟨x9, hl, h⟩ := bd_some h
      have hk : V X μ5 99 [(2, .int x9)] [] := by
        clear hl
        refine V_iload_n X 0 dX12_rests_99 rfl rfl ?_
        exact V_iretW X h dX12_rests_100
      refine lp_ind (P := fun q => V X μ5 30 [(0, .ref (zad y (0, 32, 0))), (1, .int a1), (2, .int q.1), (3, .int q.2)] []) (fun q z h hz => ?_) hl
      obtain ⟨x7, x8⟩ := q
      replace h := un2_eq h
      show V X μ5 30 [(0, .ref (zad y (0, 32, 0))), (1, .int a1), (2, .int x7), (3, .int x8)] []
      refine V_iload_n X 3 dX12_rests_30 rfl rfl ?_
      refine V_iconst X 4 dX12_rests_31 (by decide) ?_
      refine V_icmp_ge X (tgt := 99) dX12_rests_32 (by decide) (fun b10 => ?_) (fun b10 => ?_)
      · replace h := (if_pos b10).symm.trans h
        refine V_sub X [2] (lv' := [(2, .int x7)]) rfl ?_
        cases h
        obtain rfl := pr1 hz
        exact hk
      · replace h := (if_neg b10).symm.trans h
        refine V_iload_n X 3 dX12_rests_35 rfl rfl ?_
        refine V_iconst X 2 dX12_rests_36 (by decide) ?_
        refine V_idiv X dX12_rests_37 (by decide) ?_
        refine V_istore X [(4, .int (x8 / 2)), (0, .ref (zad y (0, 32, 0))), (1, .int a1), (2, .int x7), (3, .int x8)] dX12_rests_38 (by decide) rfl ?_
        refine zlt_el (P := fun (x11 : Int32) => V X μ5 40 [(4, .int x11), (0, .ref (zad y (0, 32, 0))), (1, .int a1), (2, .int x7), (3, .int x8)] []) h (fun x11 h => ?_)
        refine V_iload_n X 4 dX12_rests_40 rfl rfl ?_
        refine V_iconst X 2 dX12_rests_41 (by decide) ?_
        refine V_rem X dX12_rests_42 (by decide) ?_
        refine V_istore X [(5, .int (zrem x8 2)), (4, .int x11), (0, .ref (zad y (0, 32, 0))), (1, .int a1), (2, .int x7), (3, .int x8)] dX12_rests_43 (by decide) rfl ?_
        refine zlt_el (P := fun (x12 : Int32) => V X μ5 45 [(5, .int x12), (4, .int x11), (0, .ref (zad y (0, 32, 0))), (1, .int a1), (2, .int x7), (3, .int x8)] []) h (fun x12 h => ?_)
        refine V_aload_n X 2 dX12_rests_45 rfl rfl ?_
        refine V_iload_n X 3 dX12_rests_46 rfl rfl ?_
        refine V_iconst X 1 dX12_rests_47 (by decide) ?_
        refine V_iload X 1 dX12_rests_48 rfl ?_
        refine V_isub X dX12_rests_50 ?_
        refine V_iload X 0 dX12_rests_51 rfl ?_
        obtain ⟨x14, c13, h⟩ := bd_some h
        refine V_callVi X (As := [.int a1, .int (1 - x11), .int x12]) (M_X12_guardHas c13) (cwV 3 X.2.2.2.2.2.2.1 (gV wm_RX12_413 wi_X12_guardHas wse_X12_guardHas win_RX12 wc_X12_guardHas) rfl rfl rfl hd_X12_guardHas ⟨Nat.le_of_ble_eq_true rfl, Nat.le_of_ble_eq_true rfl⟩) (b := (0, 32, 0)) ⟨by decide, rfl⟩ rfl rfl rfl rfl (Nat.le_of_ble_eq_true rfl) dX12_rests_53 rfl ?_
        refine V_aload_n X 2 dX12_rests_56 rfl rfl ?_
        refine V_iload_n X 3 dX12_rests_57 rfl rfl ?_
        refine V_iload X 1 dX12_rests_58 rfl ?_
        refine V_iload X 0 dX12_rests_60 rfl ?_
        obtain ⟨x16, c15, h⟩ := bd_some h
        refine V_callVi X (As := [.int a1, .int x11, .int x12]) (M_X12_guardHas c15) (cwV 3 X.2.2.2.2.2.2.1 (gV wm_RX12_413 wi_X12_guardHas wse_X12_guardHas win_RX12 wc_X12_guardHas) rfl rfl rfl hd_X12_guardHas ⟨Nat.le_of_ble_eq_true rfl, Nat.le_of_ble_eq_true rfl⟩) (b := (0, 32, 0)) ⟨by decide, rfl⟩ rfl rfl rfl rfl (Nat.le_of_ble_eq_true rfl) dX12_rests_62 rfl ?_
        obtain ⟨x18, h1, h⟩ := zl1_some h
        have hk : V X μ5 93 [(0, .ref (zad y (0, 32, 0))), (1, .int a1), (2, .int x18), (3, .int x8)] [] := by
          clear h1
          refine V_inc X 3 1 [(3, .int (x8 + 1)), (0, .ref (zad y (0, 32, 0))), (1, .int a1), (2, .int x18)] dX12_rests_93 rfl (by decide) (by decide) rfl ?_
          refine V_goto X (tgt := 30) dX12_rests_96 (by decide) ?_
          refine V_sub X [1, 2, 3, 0] (lv' := [(0, .ref (zad y (0, 32, 0))), (1, .int a1), (2, .int x18), (3, .int (x8 + 1))]) rfl ?_
          cases h
          exact hz
        replace h := h1
        clear h1
        refine V_icmp_gt X (tgt := 93) dX12_rests_65 (by decide) (fun b17 => ?_) (fun b17 => ?_)
        · replace h := (if_pos b17).symm.trans h
          refine V_sub X [2, 3, 4, 5] (lv' := [(0, .ref (zad y (0, 32, 0))), (1, .int a1), (2, .int x7), (3, .int x8)]) rfl ?_
          obtain rfl := pr1 h
          exact hk
        · replace h := (if_neg b17).symm.trans h
          refine V_iload X 1 dX12_rests_68 rfl ?_
          refine V_iconst X 1 dX12_rests_70 (by decide) ?_
          refine V_iload X 0 dX12_rests_71 rfl ?_
          refine V_isub X dX12_rests_73 ?_
          refine V_callSi X (As := [.int x11, .int (1 - x12)]) (M_X12_talkHas) (va_cwS 2 X.2.2.2.2.2.2.1 (gS wm_RX12_417 wst_X12_talkHas win_RX12 wc_X12_talkHas) rfl rfl rfl hd_X12_talkHas.2 ⟨Nat.le_of_ble_eq_true rfl, Nat.le_of_ble_eq_true rfl⟩) rfl (Nat.le_of_ble_eq_true rfl) dX12_rests_74 rfl ?_
          refine V_iload X 1 dX12_rests_77 rfl ?_
          refine V_iload X 0 dX12_rests_79 rfl ?_
          refine V_callSi X (As := [.int x11, .int x12]) (M_X12_talkHas) (va_cwS 2 X.2.2.2.2.2.2.1 (gS wm_RX12_417 wst_X12_talkHas win_RX12 wc_X12_talkHas) rfl rfl rfl hd_X12_talkHas.2 ⟨Nat.le_of_ble_eq_true rfl, Nat.le_of_ble_eq_true rfl⟩) rfl (Nat.le_of_ble_eq_true rfl) dX12_rests_81 rfl ?_
          refine V_icmp_gt X (tgt := 93) dX12_rests_84 (by decide) (fun b19 => ?_) (fun b19 => ?_)
          · replace h := (if_pos b19).symm.trans h
            refine V_sub X [2, 3, 4, 5] (lv' := [(0, .ref (zad y (0, 32, 0))), (1, .int a1), (2, .int x7), (3, .int x8)]) rfl ?_
            obtain rfl := pr1 h
            exact hk
          · replace h := (if_neg b19).symm.trans h
            refine V_iload_n X 4 dX12_rests_87 rfl rfl ?_
            refine V_iconst X 1 dX12_rests_88 (by decide) ?_
            refine V_iload_n X 5 dX12_rests_89 rfl rfl ?_
            refine V_ishl X dX12_rests_90 ?_
            refine V_ior X dX12_rests_91 ?_
            refine V_istore_n X [(2, .int (x7 ||| (1 <<< (x8 &&& 31)))), (5, .int x12), (4, .int x11), (0, .ref (zad y (0, 32, 0))), (1, .int a1), (3, .int x8)] dX12_rests_92 rfl (by decide) rfl ?_
            refine zlt_el (P := fun (x20 : Int32) => V X μ5 93 [(2, .int x20), (5, .int x12), (4, .int x11), (0, .ref (zad y (0, 32, 0))), (1, .int a1), (3, .int x8)] []) h (fun x20 h => ?_)
            refine V_sub X [3, 4, 0, 5] (lv' := [(0, .ref (zad y (0, 32, 0))), (1, .int a1), (2, .int x20), (3, .int x8)]) rfl ?_
            obtain rfl := pr1 h
            exact hk
    · replace h := (if_neg b6).symm.trans h
      refine V_iconst X 0 dX12_rests_24 (by decide) ?_
      exact V_iretW X h dX12_rests_25
  replace h := h1
  clear h1
  refine V_if_ne X (tgt := 13) dX12_rests_6 (by decide) (fun b3 => ?_) (fun b3 => ?_)
  · replace h := (if_neg b3).symm.trans h
    refine V_iconst X 0 dX12_rests_13 (by decide) ?_
    obtain rfl := pr1 h
    exact hk
  · replace h := (if_pos b3).symm.trans h
    refine V_iconst X 1 dX12_rests_9 (by decide) ?_
    refine V_goto X (tgt := 14) dX12_rests_10 (by decide) ?_
    obtain rfl := pr1 h
    exact hk

