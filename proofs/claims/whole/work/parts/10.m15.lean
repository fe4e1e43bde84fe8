def f_X12_odds (a1 : Int32) (a2 : Int32) (a3 : Int32) (μ : ZMem) : Option (Int32 × ZMem) := bd (f_X12_isNode a1 μ) (fun (x2 : Int32) => bd (α := Int32) (if x2 = 0 then some 1 else bd (f_X12_isIn a2 0 5) (fun (x6 : Int32) => jk (some 2) (fun k8 => if x6 = 0 then k8 else bd (f_X12_isIn a3 0 5) (fun (x10 : Int32) => if x10 = 0 then k8 else some 0)))) (fun (x4 : Int32) => zlt (mset μ (0, 32, 0) 0 x4) (fun (μ12 : ZMem) => if (μ12 (0, 32, 0) 0) ≤ 0 then bd (f_X12_asks a1 μ12) (fun (μ15 : ZMem) => zlt (μ15 (0, 32, 0) 17) (fun (x16 : Int32) => bd (lp (σ := Int64 × Int32) (fun q => un2 q (fun (x17 : Int64) (x18 : Int32) => if a2 ≤ x18 then some (.inr x17) else zlt (x17 * 100) (fun (x21 : Int64) => some (.inl (x21, (x18 + 1)))))) FU (1, 0)) (fun (x19 : Int64) => bd (lp (σ := Int64 × Int32) (fun q => un2 q (fun (x22 : Int64) (x23 : Int32) => if (1 <<< (a2 &&& 31)) ≤ x23 then some (.inr x22) else bd (f_X12_bits x23) (fun (x27 : Int32) => zlt (α := Int64) (if a3 ≤ x27 then 1 else 0) (fun (x29 : Int64) => bd (lp (σ := Int64 × Int32) (fun q => un2 q (fun (x30 : Int64) (x31 : Int32) => if a2 ≤ x31 then some (.inr x30) else bd (f_X12_isOf x23 x31) (fun (x35 : Int32) => zlt (α := Int64) (if x35 = 0 then ((100 - x16)).toInt64 else (x16).toInt64) (fun (x37 : Int64) => zlt (x30 * x37) (fun (x38 : Int64) => some (.inl (x38, (x31 + 1)))))))) FU (x29, 0)) (fun (x32 : Int64) => zlt (x22 + x32) (fun (x39 : Int64) => some (.inl (x39, (x23 + 1))))))))) FU (0, 0)) (fun (x24 : Int64) => gd (gnzl x19) (some ((((10000 * x24) / x19)).toInt32, μ15)))))) else some (0, μ12))))
set_option maxRecDepth 100000 in
set_option maxHeartbeats 4000000 in
theorem M_X12_odds {l : Launch} {D : va_G} {y : ZLay} {a1 : Int32} {a2 : Int32} {a3 : Int32}  {μ : ZMem} {r : Int32} {μ0 : ZMem} (h : f_X12_odds a1 a2 a3 μ = some (r, μ0)) : MI l yX12_odds wb_X12_odds rm_X12_odds D y [.ref (zad y (0, 32, 0)), .int a1, .int a2, .int a3] μ r μ0 := by
  unfold f_X12_odds at h
  refine MI_of RX12 [(0, .ref (zad y (0, 32, 0))), (1, .int a1), (2, .int a2), (3, .int a3)] (by decide) rfl rfl (Nat.le_of_ble_eq_true rfl) rfl ?_
  intro p e s m args below meth c A X
  refine V_aload_n X 0 dX12_odds_0 rfl rfl ?_
  refine V_aload_n X 0 dX12_odds_1 rfl rfl ?_
  refine V_iload_n X 1 dX12_odds_2 rfl rfl ?_
  obtain ⟨x2, c1, h⟩ := bd_some h
  refine V_callVi X (As := [.int a1]) (M_X12_isNode c1) (cwV 1 X.2.2.2.2.2.2.1 (gV wm_RX12_347 wi_X12_isNode wse_X12_isNode win_RX12 wc_X12_isNode) rfl rfl rfl hd_X12_isNode ⟨Nat.le_of_ble_eq_true rfl, Nat.le_of_ble_eq_true rfl⟩) (b := (0, 32, 0)) ⟨by decide, rfl⟩ rfl rfl rfl rfl (Nat.le_of_ble_eq_true rfl) dX12_odds_3 rfl ?_
  obtain ⟨x4, h1, h⟩ := bd_some h
  have hk : V X μ 36 [(0, .ref (zad y (0, 32, 0))), (1, .int a1), (2, .int a2), (3, .int a3)] [.int x4, .ref (zad y (0, 32, 0))] := by
    clear h1
    refine V_puti X tyX12 .int (o := (0, 32, 0)) (ci := 12) (k := 0) (N := 30) (T := TX12) (C := RX12) ⟨by decide, rfl⟩ rfl rfl rfl (by decide) (mBa inB_X12) tyX12_ok nmX12 (mB wl_RX12_59) rfl rfl rfl rfl dX12_odds_36 ?_
    refine zlt_el (P := fun (μ12 : ZMem) => V X μ12 39 [(0, .ref (zad y (0, 32, 0))), (1, .int a1), (2, .int a2), (3, .int a3)] []) h (fun μ12 h => ?_)
    refine V_aload_n X 0 dX12_odds_39 rfl rfl ?_
    refine V_geti X (o := (0, 32, 0)) (ci := 12) (k := 0) (N := 30) (T := TX12) (C := RX12) ⟨by decide, rfl⟩ rfl rfl rfl (by decide) (mBa inB_X12) (mB wl_RX12_59) dX12_odds_40 ?_
    refine V_if_le X (tgt := 48) dX12_odds_43 (by decide) (fun b13 => ?_) (fun b13 => ?_)
    · replace h := (if_pos b13).symm.trans h
      refine V_aload_n X 0 dX12_odds_48 rfl rfl ?_
      refine V_iload_n X 1 dX12_odds_49 rfl rfl ?_
      obtain ⟨μ15, c14, h⟩ := bd_some h
      refine V_callVv X (As := [.int a1]) (M_X12_asks c14) (cwV 1 X.2.2.2.2.2.2.1 (gV wm_RX12_253 wi_X12_asks wse_X12_asks win_RX12 wc_X12_asks) rfl rfl rfl hd_X12_asks ⟨Nat.le_of_ble_eq_true rfl, Nat.le_of_ble_eq_true rfl⟩) (b := (0, 32, 0)) ⟨by decide, rfl⟩ rfl rfl rfl rfl (Nat.le_of_ble_eq_true rfl) dX12_odds_50 rfl ?_
      refine V_aload_n X 0 dX12_odds_53 rfl rfl ?_
      refine V_geti X (o := (0, 32, 0)) (ci := 12) (k := 17) (N := 30) (T := TX12) (C := RX12) ⟨by decide, rfl⟩ rfl rfl rfl (by decide) (mBa inB_X12) (mB wl_RX12_242) dX12_odds_54 ?_
      refine V_istore X [(4, .int (μ15 (0, 32, 0) 17)), (0, .ref (zad y (0, 32, 0))), (1, .int a1), (2, .int a2), (3, .int a3)] dX12_odds_57 (by decide) rfl ?_
      refine zlt_el (P := fun (x16 : Int32) => V X μ15 59 [(4, .int x16), (0, .ref (zad y (0, 32, 0))), (1, .int a1), (2, .int a2), (3, .int a3)] []) h (fun x16 h => ?_)
      refine V_lconst X 0 dX12_odds_59 (by decide) ?_
      refine V_lstore X [(5, .long 0), (4, .int x16), (0, .ref (zad y (0, 32, 0))), (1, .int a1), (2, .int a2), (3, .int a3)] dX12_odds_60 (by decide) rfl ?_
      refine V_lconst X 1 dX12_odds_62 (by decide) ?_
      refine V_lstore X [(7, .long 1), (5, .long 0), (4, .int x16), (0, .ref (zad y (0, 32, 0))), (1, .int a1), (2, .int a2), (3, .int a3)] dX12_odds_63 (by decide) rfl ?_
      refine V_iconst X 0 dX12_odds_65 (by decide) ?_
      refine V_istore X [(9, .int 0), (7, .long 1), (5, .long 0), (4, .int x16), (0, .ref (zad y (0, 32, 0))), (1, .int a1), (2, .int a2), (3, .int a3)] dX12_odds_66 (by decide) rfl ?_
      refine V_sub X [6, 7, 3, 2, 1, 0] (lv' := [(2, .int a2), (3, .int a3), (4, .int x16), (5, .long 0), (7, .long 1), (9, .int 0)]) rfl ?_
      obtain ⟨x19, hl, h⟩ := bd_some h
      have hk : V X μ15 88 [(2, .int a2), (3, .int a3), (4, .int x16), (5, .long 0), (7, .long x19)] [] := by
        clear hl
        refine V_iconst X 0 dX12_odds_88 (by decide) ?_
        refine V_istore X [(9, .int 0), (2, .int a2), (3, .int a3), (4, .int x16), (5, .long 0), (7, .long x19)] dX12_odds_89 (by decide) rfl ?_
        refine V_sub X [1, 2, 3, 4, 5, 0] (lv' := [(2, .int a2), (3, .int a3), (4, .int x16), (5, .long 0), (7, .long x19), (9, .int 0)]) rfl ?_
        obtain ⟨x24, hl, h⟩ := bd_some h
        have hk : V X μ15 170 [(5, .long x24), (7, .long x19)] [] := by
          clear hl
          refine V_ldc2 X (ix := 422) (v := 10000) (mB wk_RX12_422) dX12_odds_170 ?_
          refine V_lload X 0 dX12_odds_173 rfl ?_
          refine V_lmul X dX12_odds_175 ?_
          refine V_lload X 1 dX12_odds_176 rfl ?_
          obtain ⟨g40, h⟩ := gd_some h
          refine V_ldiv X dX12_odds_178 (gnzl_ne g40) ?_
          refine V_l2i X dX12_odds_179 ?_
          exact V_iretW X h dX12_odds_180
        refine lp_ind (P := fun q => V X μ15 91 [(2, .int a2), (3, .int a3), (4, .int x16), (5, .long q.1), (7, .long x19), (9, .int q.2)] []) (fun q z h hz => ?_) hl
        obtain ⟨x22, x23⟩ := q
        replace h := un2_eq h
        show V X μ15 91 [(2, .int a2), (3, .int a3), (4, .int x16), (5, .long x22), (7, .long x19), (9, .int x23)] []
        refine V_iload X 5 dX12_odds_91 rfl ?_
        refine V_iconst X 1 dX12_odds_93 (by decide) ?_
        refine V_iload_n X 0 dX12_odds_94 rfl rfl ?_
        refine V_ishl X dX12_odds_95 ?_
        refine V_icmp_ge X (tgt := 170) dX12_odds_96 (by decide) (fun b25 => ?_) (fun b25 => ?_)
        · replace h := (if_pos b25).symm.trans h
          refine V_sub X [3, 4] (lv' := [(5, .long x22), (7, .long x19)]) rfl ?_
          cases h
          obtain rfl := pr1 hz
          exact hk
        · replace h := (if_neg b25).symm.trans h
          refine V_iload X 5 dX12_odds_99 rfl ?_
          obtain ⟨x27, c26, h⟩ := bd_some h
          refine V_callSi X (As := [.int x23]) (M_X12_bits c26) (va_cwS 1 X.2.2.2.2.2.2.1 (gS wm_RX12_247 wst_X12_bits win_RX12 wc_X12_bits) rfl rfl rfl hd_X12_bits.2 ⟨Nat.le_of_ble_eq_true rfl, Nat.le_of_ble_eq_true rfl⟩) rfl (Nat.le_of_ble_eq_true rfl) dX12_odds_101 rfl ?_
          refine V_iload_n X 1 dX12_odds_104 rfl rfl ?_
          obtain ⟨x29, h1, h⟩ := zl1_some h
          have hk : V X μ15 113 [(2, .int a2), (3, .int a3), (4, .int x16), (5, .long x22), (7, .long x19), (9, .int x23)] [.long x29] := by
            clear h1
            refine V_lstore X [(10, .long x29), (2, .int a2), (3, .int a3), (4, .int x16), (5, .long x22), (7, .long x19), (9, .int x23)] dX12_odds_113 (by decide) rfl ?_
            refine V_iconst X 0 dX12_odds_115 (by decide) ?_
            refine V_istore X [(12, .int 0), (10, .long x29), (2, .int a2), (3, .int a3), (4, .int x16), (5, .long x22), (7, .long x19), (9, .int x23)] dX12_odds_116 (by decide) rfl ?_
            refine V_sub X [2, 3, 4, 5, 6, 7, 1, 0] (lv' := [(2, .int a2), (3, .int a3), (4, .int x16), (5, .long x22), (7, .long x19), (9, .int x23), (10, .long x29), (12, .int 0)]) rfl ?_
            obtain ⟨x32, hl, h⟩ := bd_some h
            have hk : V X μ15 157 [(2, .int a2), (3, .int a3), (4, .int x16), (5, .long x22), (7, .long x19), (9, .int x23), (10, .long x32)] [] := by
              clear hl
              refine V_lload X 3 dX12_odds_157 rfl ?_
              refine V_lload X 6 dX12_odds_159 rfl ?_
              refine V_ladd X dX12_odds_161 ?_
              refine V_lstore X [(5, .long (x22 + x32)), (2, .int a2), (3, .int a3), (4, .int x16), (7, .long x19), (9, .int x23), (10, .long x32)] dX12_odds_162 (by decide) rfl ?_
              refine zlt_el (P := fun (x39 : Int64) => V X μ15 164 [(5, .long x39), (2, .int a2), (3, .int a3), (4, .int x16), (7, .long x19), (9, .int x23), (10, .long x32)] []) h (fun x39 h => ?_)
              refine V_inc X 5 1 [(9, .int (x23 + 1)), (5, .long x39), (2, .int a2), (3, .int a3), (4, .int x16), (7, .long x19), (10, .long x32)] dX12_odds_164 rfl (by decide) (by decide) rfl ?_
              refine V_goto X (tgt := 91) dX12_odds_167 (by decide) ?_
              refine V_sub X [2, 3, 4, 1, 5, 0] (lv' := [(2, .int a2), (3, .int a3), (4, .int x16), (5, .long x39), (7, .long x19), (9, .int (x23 + 1))]) rfl ?_
              cases h
              exact hz
            refine lp_ind (P := fun q => V X μ15 118 [(2, .int a2), (3, .int a3), (4, .int x16), (5, .long x22), (7, .long x19), (9, .int x23), (10, .long q.1), (12, .int q.2)] []) (fun q z h hz => ?_) hl
            obtain ⟨x30, x31⟩ := q
            replace h := un2_eq h
            show V X μ15 118 [(2, .int a2), (3, .int a3), (4, .int x16), (5, .long x22), (7, .long x19), (9, .int x23), (10, .long x30), (12, .int x31)] []
            refine V_iload X 7 dX12_odds_118 rfl ?_
            refine V_iload_n X 0 dX12_odds_120 rfl rfl ?_
            refine V_icmp_ge X (tgt := 157) dX12_odds_121 (by decide) (fun b33 => ?_) (fun b33 => ?_)
            · replace h := (if_pos b33).symm.trans h
              refine V_sub X [0, 1, 2, 3, 4, 5, 6] (lv' := [(2, .int a2), (3, .int a3), (4, .int x16), (5, .long x22), (7, .long x19), (9, .int x23), (10, .long x30)]) rfl ?_
              cases h
              obtain rfl := pr1 hz
              exact hk
            · replace h := (if_neg b33).symm.trans h
              refine V_lload X 6 dX12_odds_124 rfl ?_
              refine V_iload X 5 dX12_odds_126 rfl ?_
              refine V_iload X 7 dX12_odds_128 rfl ?_
              obtain ⟨x35, c34, h⟩ := bd_some h
              refine V_callSi X (As := [.int x23, .int x31]) (M_X12_isOf c34) (va_cwS 2 X.2.2.2.2.2.2.1 (gS wm_RX12_274 wst_X12_isOf win_RX12 wc_X12_isOf) rfl rfl rfl hd_X12_isOf.2 ⟨Nat.le_of_ble_eq_true rfl, Nat.le_of_ble_eq_true rfl⟩) rfl (Nat.le_of_ble_eq_true rfl) dX12_odds_130 rfl ?_
              obtain ⟨x37, h1, h⟩ := zl1_some h
              have hk : V X μ15 148 [(2, .int a2), (3, .int a3), (4, .int x16), (5, .long x22), (7, .long x19), (9, .int x23), (12, .int x31)] [.long x37, .long x30] := by
                clear h1
                refine V_lmul X dX12_odds_148 ?_
                refine V_lstore X [(10, .long (x30 * x37)), (2, .int a2), (3, .int a3), (4, .int x16), (5, .long x22), (7, .long x19), (9, .int x23), (12, .int x31)] dX12_odds_149 (by decide) rfl ?_
                refine zlt_el (P := fun (x38 : Int64) => V X μ15 151 [(10, .long x38), (2, .int a2), (3, .int a3), (4, .int x16), (5, .long x22), (7, .long x19), (9, .int x23), (12, .int x31)] []) h (fun x38 h => ?_)
                refine V_inc X 7 1 [(12, .int (x31 + 1)), (10, .long x38), (2, .int a2), (3, .int a3), (4, .int x16), (5, .long x22), (7, .long x19), (9, .int x23)] dX12_odds_151 rfl (by decide) (by decide) rfl ?_
                refine V_goto X (tgt := 118) dX12_odds_154 (by decide) ?_
                refine V_sub X [2, 3, 4, 5, 6, 7, 1, 0] (lv' := [(2, .int a2), (3, .int a3), (4, .int x16), (5, .long x22), (7, .long x19), (9, .int x23), (10, .long x38), (12, .int (x31 + 1))]) rfl ?_
                cases h
                exact hz
              replace h := h1
              clear h1
              refine V_if_eq X (tgt := 142) dX12_odds_133 (by decide) (fun b36 => ?_) (fun b36 => ?_)
              · replace h := (if_pos b36).symm.trans h
                refine V_bipush X 100 dX12_odds_142 (by decide) ?_
                refine V_iload X 2 dX12_odds_144 rfl ?_
                refine V_isub X dX12_odds_146 ?_
                refine V_i2l X dX12_odds_147 ?_
                refine V_sub X [0, 1, 2, 3, 4, 5, 7] (lv' := [(2, .int a2), (3, .int a3), (4, .int x16), (5, .long x22), (7, .long x19), (9, .int x23), (12, .int x31)]) rfl ?_
                obtain rfl := pr1 h
                exact hk
              · replace h := (if_neg b36).symm.trans h
                refine V_iload X 2 dX12_odds_136 rfl ?_
                refine V_i2l X dX12_odds_138 ?_
                refine V_goto X (tgt := 148) dX12_odds_139 (by decide) ?_
                refine V_sub X [0, 1, 2, 3, 4, 5, 7] (lv' := [(2, .int a2), (3, .int a3), (4, .int x16), (5, .long x22), (7, .long x19), (9, .int x23), (12, .int x31)]) rfl ?_
                obtain rfl := pr1 h
                exact hk
          replace h := h1
          clear h1
          refine V_icmp_ge X (tgt := 112) dX12_odds_105 (by decide) (fun b28 => ?_) (fun b28 => ?_)
          · replace h := (if_pos b28).symm.trans h
            refine V_lconst X 1 dX12_odds_112 (by decide) ?_
            obtain rfl := pr1 h
            exact hk
          · replace h := (if_neg b28).symm.trans h
            refine V_lconst X 0 dX12_odds_108 (by decide) ?_
            refine V_goto X (tgt := 113) dX12_odds_109 (by decide) ?_
            obtain rfl := pr1 h
            exact hk
      refine lp_ind (P := fun q => V X μ15 68 [(2, .int a2), (3, .int a3), (4, .int x16), (5, .long 0), (7, .long q.1), (9, .int q.2)] []) (fun q z h hz => ?_) hl
      obtain ⟨x17, x18⟩ := q
      replace h := un2_eq h
      show V X μ15 68 [(2, .int a2), (3, .int a3), (4, .int x16), (5, .long 0), (7, .long x17), (9, .int x18)] []
      refine V_iload X 5 dX12_odds_68 rfl ?_
      refine V_iload_n X 0 dX12_odds_70 rfl rfl ?_
      refine V_icmp_ge X (tgt := 88) dX12_odds_71 (by decide) (fun b20 => ?_) (fun b20 => ?_)
      · replace h := (if_pos b20).symm.trans h
        refine V_sub X [0, 1, 2, 3, 4] (lv' := [(2, .int a2), (3, .int a3), (4, .int x16), (5, .long 0), (7, .long x17)]) rfl ?_
        cases h
        obtain rfl := pr1 hz
        exact hk
      · replace h := (if_neg b20).symm.trans h
        refine V_lload X 4 dX12_odds_74 rfl ?_
        refine V_ldc2 X (ix := 420) (v := 100) (mB wk_RX12_420) dX12_odds_76 ?_
        refine V_lmul X dX12_odds_79 ?_
        refine V_lstore X [(7, .long (x17 * 100)), (2, .int a2), (3, .int a3), (4, .int x16), (5, .long 0), (9, .int x18)] dX12_odds_80 (by decide) rfl ?_
        refine zlt_el (P := fun (x21 : Int64) => V X μ15 82 [(7, .long x21), (2, .int a2), (3, .int a3), (4, .int x16), (5, .long 0), (9, .int x18)] []) h (fun x21 h => ?_)
        refine V_inc X 5 1 [(9, .int (x18 + 1)), (7, .long x21), (2, .int a2), (3, .int a3), (4, .int x16), (5, .long 0)] dX12_odds_82 rfl (by decide) (by decide) rfl ?_
        refine V_goto X (tgt := 68) dX12_odds_85 (by decide) ?_
        refine V_sub X [2, 3, 4, 5, 1, 0] (lv' := [(2, .int a2), (3, .int a3), (4, .int x16), (5, .long 0), (7, .long x21), (9, .int (x18 + 1))]) rfl ?_
        cases h
        exact hz
    · replace h := (if_neg b13).symm.trans h
      refine V_iconst X 0 dX12_odds_46 (by decide) ?_
      exact V_iretW X h dX12_odds_47
  replace h := h1
  clear h1
  refine V_if_ne X (tgt := 13) dX12_odds_6 (by decide) (fun b3 => ?_) (fun b3 => ?_)
  · replace h := (if_neg b3).symm.trans h
    refine V_iload_n X 2 dX12_odds_13 rfl rfl ?_
    refine V_iconst X 0 dX12_odds_14 (by decide) ?_
    refine V_iconst X 5 dX12_odds_15 (by decide) ?_
    obtain ⟨x6, c5, h⟩ := bd_some h
    refine V_callSi X (As := [.int a2, .int 0, .int 5]) (M_X12_isIn c5) (va_cwS 3 X.2.2.2.2.2.2.1 (gS wm_RX12_62 wst_X12_isIn win_RX12 wc_X12_isIn) rfl rfl rfl hd_X12_isIn.2 ⟨Nat.le_of_ble_eq_true rfl, Nat.le_of_ble_eq_true rfl⟩) rfl (Nat.le_of_ble_eq_true rfl) dX12_odds_16 rfl ?_
    refine jk0_el (P := V X μ 31 [(0, .ref (zad y (0, 32, 0))), (1, .int a1), (2, .int a2), (3, .int a3)] [.ref (zad y (0, 32, 0))]) h (fun h => ?_) (fun k8 hk8 h => ?_)
    · refine V_iconst X 2 dX12_odds_31 (by decide) ?_
      refine V_goto X (tgt := 36) dX12_odds_32 (by decide) ?_
      obtain rfl := so1 h
      exact hk
    · refine V_if_eq X (tgt := 31) dX12_odds_19 (by decide) (fun b7 => ?_) (fun b7 => ?_)
      · replace h := (if_pos b7).symm.trans h
        exact hk8 h
      · replace h := (if_neg b7).symm.trans h
        refine V_iload_n X 3 dX12_odds_22 rfl rfl ?_
        refine V_iconst X 0 dX12_odds_23 (by decide) ?_
        refine V_iconst X 5 dX12_odds_24 (by decide) ?_
        obtain ⟨x10, c9, h⟩ := bd_some h
        refine V_callSi X (As := [.int a3, .int 0, .int 5]) (M_X12_isIn c9) (va_cwS 3 X.2.2.2.2.2.2.1 (gS wm_RX12_62 wst_X12_isIn win_RX12 wc_X12_isIn) rfl rfl rfl hd_X12_isIn.2 ⟨Nat.le_of_ble_eq_true rfl, Nat.le_of_ble_eq_true rfl⟩) rfl (Nat.le_of_ble_eq_true rfl) dX12_odds_25 rfl ?_
        refine V_if_ne X (tgt := 35) dX12_odds_28 (by decide) (fun b11 => ?_) (fun b11 => ?_)
        · replace h := (if_neg b11).symm.trans h
          refine V_iconst X 0 dX12_odds_35 (by decide) ?_
          obtain rfl := so1 h
          exact hk
        · replace h := (if_pos b11).symm.trans h
          exact hk8 h
  · replace h := (if_pos b3).symm.trans h
    refine V_iconst X 1 dX12_odds_9 (by decide) ?_
    refine V_goto X (tgt := 36) dX12_odds_10 (by decide) ?_
    obtain rfl := so1 h
    exact hk

def f_X12_valueOf (a1 : Int32) (a2 : Int32) (μ : ZMem) : Option (Int32) := bd (f_X12_of a2 1 μ) (fun (x2 : Int32) => bd (f_X12_of a2 2 μ) (fun (x4 : Int32) => zlt (x2 + x4) (fun (x5 : Int32) => bd (α := Int32) (if a1 = 0 then some x5 else if a1 = 1 then some (-x5) else bd (f_X12_of a2 0 μ) (fun (x10 : Int32) => some (f_X12_sign x10))) (fun (x7 : Int32) => some x7))))
set_option maxRecDepth 100000 in
set_option maxHeartbeats 4000000 in
theorem M_X12_valueOf {l : Launch} {D : va_G} {y : ZLay} {a1 : Int32} {a2 : Int32}  {μ : ZMem} {r : Int32} (h : f_X12_valueOf a1 a2 μ = some r) : MI l yX12_valueOf wb_X12_valueOf rm_X12_valueOf D y [.ref (zad y (0, 32, 0)), .int a1, .int a2] μ r μ := by
  unfold f_X12_valueOf at h
  refine MI_of RX12 [(0, .ref (zad y (0, 32, 0))), (1, .int a1), (2, .int a2)] (by decide) rfl rfl (Nat.le_of_ble_eq_true rfl) rfl ?_
  intro p e s m args below meth c A X
  refine V_aload_n X 0 dX12_valueOf_0 rfl rfl ?_
  refine V_iload_n X 2 dX12_valueOf_1 rfl rfl ?_
  refine V_iconst X 1 dX12_valueOf_2 (by decide) ?_
  obtain ⟨x2, c1, h⟩ := bd_some h
  refine V_callVi X (As := [.int a2, .int 1]) (M_X12_of c1) (cwV 2 X.2.2.2.2.2.2.1 (gV wm_RX12_66 wi_X12_of wse_X12_of win_RX12 wc_X12_of) rfl rfl rfl hd_X12_of ⟨Nat.le_of_ble_eq_true rfl, Nat.le_of_ble_eq_true rfl⟩) (b := (0, 32, 0)) ⟨by decide, rfl⟩ rfl rfl rfl rfl (Nat.le_of_ble_eq_true rfl) dX12_valueOf_3 rfl ?_
  refine V_aload_n X 0 dX12_valueOf_6 rfl rfl ?_
  refine V_iload_n X 2 dX12_valueOf_7 rfl rfl ?_
  refine V_iconst X 2 dX12_valueOf_8 (by decide) ?_
  obtain ⟨x4, c3, h⟩ := bd_some h
  refine V_callVi X (As := [.int a2, .int 2]) (M_X12_of c3) (cwV 2 X.2.2.2.2.2.2.1 (gV wm_RX12_66 wi_X12_of wse_X12_of win_RX12 wc_X12_of) rfl rfl rfl hd_X12_of ⟨Nat.le_of_ble_eq_true rfl, Nat.le_of_ble_eq_true rfl⟩) (b := (0, 32, 0)) ⟨by decide, rfl⟩ rfl rfl rfl rfl (Nat.le_of_ble_eq_true rfl) dX12_valueOf_9 rfl ?_
  refine V_iadd X dX12_valueOf_12 ?_
  refine V_istore_n X [(3, .int (x2 + x4)), (0, .ref (zad y (0, 32, 0))), (1, .int a1), (2, .int a2)] dX12_valueOf_13 rfl (by decide) rfl ?_
  refine zlt_el (P := fun (x5 : Int32) => V X μ 14 [(3, .int x5), (0, .ref (zad y (0, 32, 0))), (1, .int a1), (2, .int a2)] []) h (fun x5 h => ?_)
  refine V_iload_n X 2 dX12_valueOf_14 rfl rfl ?_
  obtain ⟨x7, h1, h⟩ := bd_some h
  have hk : V X μ 41 [] [.int x7] := by
    clear h1
    exact V_iretR X h dX12_valueOf_41
  replace h := h1
  clear h1
  refine V_if_ne X (tgt := 22) dX12_valueOf_15 (by decide) (fun b6 => ?_) (fun b6 => ?_)
  · replace h := (if_neg b6).symm.trans h
    refine V_iload_n X 2 dX12_valueOf_22 rfl rfl ?_
    refine V_iconst X 1 dX12_valueOf_23 (by decide) ?_
    refine V_icmp_ne X (tgt := 32) dX12_valueOf_24 (by decide) (fun b8 => ?_) (fun b8 => ?_)
    · replace h := (if_neg b8).symm.trans h
      refine V_aload_n X 1 dX12_valueOf_32 rfl rfl ?_
      refine V_iload_n X 3 dX12_valueOf_33 rfl rfl ?_
      refine V_iconst X 0 dX12_valueOf_34 (by decide) ?_
      obtain ⟨x10, c9, h⟩ := bd_some h
      refine V_callVi X (As := [.int a2, .int 0]) (M_X12_of c9) (cwV 2 X.2.2.2.2.2.2.1 (gV wm_RX12_66 wi_X12_of wse_X12_of win_RX12 wc_X12_of) rfl rfl rfl hd_X12_of ⟨Nat.le_of_ble_eq_true rfl, Nat.le_of_ble_eq_true rfl⟩) (b := (0, 32, 0)) ⟨by decide, rfl⟩ rfl rfl rfl rfl (Nat.le_of_ble_eq_true rfl) dX12_valueOf_35 rfl ?_
      refine V_callSi X (As := [.int x10]) (M_X12_sign) (va_cwS 1 X.2.2.2.2.2.2.1 (gS wm_RX12_377 wst_X12_sign win_RX12 wc_X12_sign) rfl rfl rfl hd_X12_sign.2 ⟨Nat.le_of_ble_eq_true rfl, Nat.le_of_ble_eq_true rfl⟩) rfl (Nat.le_of_ble_eq_true rfl) dX12_valueOf_38 rfl ?_
      refine V_sub X [] (lv' := []) rfl ?_
      obtain rfl := so1 h
      exact hk
    · replace h := (if_pos b8).symm.trans h
      refine V_iload_n X 0 dX12_valueOf_27 rfl rfl ?_
      refine V_ineg X dX12_valueOf_28 ?_
      refine V_goto X (tgt := 41) dX12_valueOf_29 (by decide) ?_
      refine V_sub X [] (lv' := []) rfl ?_
      obtain rfl := so1 h
      exact hk
  · replace h := (if_pos b6).symm.trans h
    refine V_iload_n X 0 dX12_valueOf_18 rfl rfl ?_
    refine V_goto X (tgt := 41) dX12_valueOf_19 (by decide) ?_
    refine V_sub X [] (lv' := []) rfl ?_
    obtain rfl := so1 h
    exact hk

def f_X12_most (a1 : Int32) (μ : ZMem) : Option (Int32 × ZMem) := bd (f_X12_isIn a1 0 2) (fun (x2 : Int32) => zlt (α := Int32) (if x2 = 0 then 1 else 0) (fun (x4 : Int32) => zlt (mset μ (0, 32, 0) 0 x4) (fun (μ5 : ZMem) => if (μ5 (0, 32, 0) 0) ≤ 0 then bd (lp (σ := Int32 × Int32) (fun q => un2 q (fun (x7 : Int32) (x8 : Int32) => if (μ5 (0, 33, 0) 3) ≤ x8 then some (.inr x7) else bd (α := Int32) (jk (some x8) (fun k13 => if x7 = (-1) then k13 else bd (f_X12_valueOf a1 x8 μ5) (fun (x15 : Int32) => bd (f_X12_valueOf a1 x7 μ5) (fun (x17 : Int32) => if x15 ≤ x17 then some x7 else k13)))) (fun (x12 : Int32) => some (.inl (x12, (x8 + 1)))))) FU ((-1), 0)) (fun (x9 : Int32) => some (x9, μ5)) else some (0, μ5))))
set_option maxRecDepth 100000 in
set_option maxHeartbeats 4000000 in
theorem M_X12_most {l : Launch} {D : va_G} {y : ZLay} {a1 : Int32}  {μ : ZMem} {r : Int32} {μ0 : ZMem} (h : f_X12_most a1 μ = some (r, μ0)) : MI l yX12_most wb_X12_most rm_X12_most D y [.ref (zad y (0, 32, 0)), .int a1] μ r μ0 := by
  unfold f_X12_most at h
  refine MI_of RX12 [(0, .ref (zad y (0, 32, 0))), (1, .int a1)] (by decide) rfl rfl (Nat.le_of_ble_eq_true rfl) rfl ?_
  intro p e s m args below meth c A X
  refine V_aload_n X 0 dX12_most_0 rfl rfl ?_
  refine V_iload_n X 1 dX12_most_1 rfl rfl ?_
  refine V_iconst X 0 dX12_most_2 (by decide) ?_
  refine V_iconst X 2 dX12_most_3 (by decide) ?_
  obtain ⟨x2, c1, h⟩ := bd_some h
  refine V_callSi X (As := [.int a1, .int 0, .int 2]) (M_X12_isIn c1) (va_cwS 3 X.2.2.2.2.2.2.1 (gS wm_RX12_62 wst_X12_isIn win_RX12 wc_X12_isIn) rfl rfl rfl hd_X12_isIn.2 ⟨Nat.le_of_ble_eq_true rfl, Nat.le_of_ble_eq_true rfl⟩) rfl (Nat.le_of_ble_eq_true rfl) dX12_most_4 rfl ?_
  obtain ⟨x4, h1, h⟩ := zl1_some h
  have hk : V X μ 15 [(0, .ref (zad y (0, 32, 0))), (1, .int a1)] [.int x4, .ref (zad y (0, 32, 0))] := by
    clear h1
    refine V_puti X tyX12 .int (o := (0, 32, 0)) (ci := 12) (k := 0) (N := 30) (T := TX12) (C := RX12) ⟨by decide, rfl⟩ rfl rfl rfl (by decide) (mBa inB_X12) tyX12_ok nmX12 (mB wl_RX12_59) rfl rfl rfl rfl dX12_most_15 ?_
    refine zlt_el (P := fun (μ5 : ZMem) => V X μ5 18 [(0, .ref (zad y (0, 32, 0))), (1, .int a1)] []) h (fun μ5 h => ?_)
    refine V_aload_n X 0 dX12_most_18 rfl rfl ?_
    refine V_geti X (o := (0, 32, 0)) (ci := 12) (k := 0) (N := 30) (T := TX12) (C := RX12) ⟨by decide, rfl⟩ rfl rfl rfl (by decide) (mBa inB_X12) (mB wl_RX12_59) dX12_most_19 ?_
    refine V_if_le X (tgt := 27) dX12_most_22 (by decide) (fun b6 => ?_) (fun b6 => ?_)
    · replace h := (if_pos b6).symm.trans h
      refine V_iconst X (-1) dX12_most_27 (by decide) ?_
      refine V_istore_n X [(2, .int (-1)), (0, .ref (zad y (0, 32, 0))), (1, .int a1)] dX12_most_28 rfl (by decide) rfl ?_
      refine V_iconst X 0 dX12_most_29 (by decide) ?_
      refine V_istore_n X [(3, .int 0), (2, .int (-1)), (0, .ref (zad y (0, 32, 0))), (1, .int a1)] dX12_most_30 rfl (by decide) rfl ?_
      refine V_sub X [2, 3, 1, 0] (lv' := [(0, .ref (zad y (0, 32, 0))), (1, .int a1), (2, .int (-1)), (3, .int 0)]) rfl ?_
      obtain ⟨x9, hl, h⟩ := bd_some h
      have hk : V X μ5 69 [(2, .int x9)] [] := by
        clear hl
        refine V_iload_n X 0 dX12_most_69 rfl rfl ?_
        exact V_iretW X h dX12_most_70
      refine lp_ind (P := fun q => V X μ5 31 [(0, .ref (zad y (0, 32, 0))), (1, .int a1), (2, .int q.1), (3, .int q.2)] []) (fun q z h hz => ?_) hl
      obtain ⟨x7, x8⟩ := q
      replace h := un2_eq h
      show V X μ5 31 [(0, .ref (zad y (0, 32, 0))), (1, .int a1), (2, .int x7), (3, .int x8)] []
      refine V_iload_n X 3 dX12_most_31 rfl rfl ?_
      refine V_aload_n X 0 dX12_most_32 rfl rfl ?_
      refine V_getr X (o := (0, 32, 0)) (i := (0, 33, 0)) (ci := 12) (k := 1) (N := 30) (T := TX12) (C := RX12) ⟨by decide, rfl⟩ rfl rfl rfl (by decide) (mBa inB_X12) (mB wl_RX12_7) dX12_most_33 ?_
      refine V_iconst X 3 dX12_most_36 (by decide) ?_
      refine V_iald X 3 (by decide) (o := (0, 33, 0)) (n := 737) ⟨by decide, rfl⟩ rfl rfl (by decide) dX12_most_37 ?_
      refine V_icmp_ge X (tgt := 69) dX12_most_38 (by decide) (fun b10 => ?_) (fun b10 => ?_)
      · replace h := (if_pos b10).symm.trans h
        refine V_sub X [2] (lv' := [(2, .int x7)]) rfl ?_
        cases h
        obtain rfl := pr1 hz
        exact hk
      · replace h := (if_neg b10).symm.trans h
        refine V_iload_n X 2 dX12_most_41 rfl rfl ?_
        refine V_iconst X (-1) dX12_most_42 (by decide) ?_
        obtain ⟨x12, h1, h⟩ := bd_some h
        have hk : V X μ5 63 [(0, .ref (zad y (0, 32, 0))), (1, .int a1), (2, .int x12), (3, .int x8)] [] := by
          clear h1
          refine V_inc X 3 1 [(3, .int (x8 + 1)), (0, .ref (zad y (0, 32, 0))), (1, .int a1), (2, .int x12)] dX12_most_63 rfl (by decide) (by decide) rfl ?_
          refine V_goto X (tgt := 31) dX12_most_66 (by decide) ?_
          refine V_sub X [1, 2, 3, 0] (lv' := [(0, .ref (zad y (0, 32, 0))), (1, .int a1), (2, .int x12), (3, .int (x8 + 1))]) rfl ?_
          cases h
          exact hz
        replace h := h1
        clear h1
        refine jk0_el (P := V X μ5 61 [(0, .ref (zad y (0, 32, 0))), (1, .int a1), (3, .int x8)] []) h (fun h => ?_) (fun k13 hk13 h => ?_)
        · refine V_iload_n X 2 dX12_most_61 rfl rfl ?_
          refine V_istore_n X [(2, .int x8), (0, .ref (zad y (0, 32, 0))), (1, .int a1), (3, .int x8)] dX12_most_62 rfl (by decide) rfl ?_
          refine V_sub X [1, 2, 0, 3] (lv' := [(0, .ref (zad y (0, 32, 0))), (1, .int a1), (2, .int x8), (3, .int x8)]) rfl ?_
          obtain rfl := so1 h
          exact hk
        · refine V_icmp_eq X (tgt := 61) dX12_most_43 (by decide) (fun b11 => ?_) (fun b11 => ?_)
          · replace h := (if_pos b11).symm.trans h
            refine V_sub X [0, 1, 3] (lv' := [(0, .ref (zad y (0, 32, 0))), (1, .int a1), (3, .int x8)]) rfl ?_
            exact hk13 h
          · replace h := (if_neg b11).symm.trans h
            refine V_aload_n X 0 dX12_most_46 rfl rfl ?_
            refine V_iload_n X 1 dX12_most_47 rfl rfl ?_
            refine V_iload_n X 3 dX12_most_48 rfl rfl ?_
            obtain ⟨x15, c14, h⟩ := bd_some h
            refine V_callVi X (As := [.int a1, .int x8]) (M_X12_valueOf c14) (cwV 2 X.2.2.2.2.2.2.1 (gV wm_RX12_424 wi_X12_valueOf wse_X12_valueOf win_RX12 wc_X12_valueOf) rfl rfl rfl hd_X12_valueOf ⟨Nat.le_of_ble_eq_true rfl, Nat.le_of_ble_eq_true rfl⟩) (b := (0, 32, 0)) ⟨by decide, rfl⟩ rfl rfl rfl rfl (Nat.le_of_ble_eq_true rfl) dX12_most_49 rfl ?_
            refine V_aload_n X 0 dX12_most_52 rfl rfl ?_
            refine V_iload_n X 1 dX12_most_53 rfl rfl ?_
            refine V_iload_n X 2 dX12_most_54 rfl rfl ?_
            obtain ⟨x17, c16, h⟩ := bd_some h
            refine V_callVi X (As := [.int a1, .int x7]) (M_X12_valueOf c16) (cwV 2 X.2.2.2.2.2.2.1 (gV wm_RX12_424 wi_X12_valueOf wse_X12_valueOf win_RX12 wc_X12_valueOf) rfl rfl rfl hd_X12_valueOf ⟨Nat.le_of_ble_eq_true rfl, Nat.le_of_ble_eq_true rfl⟩) (b := (0, 32, 0)) ⟨by decide, rfl⟩ rfl rfl rfl rfl (Nat.le_of_ble_eq_true rfl) dX12_most_55 rfl ?_
            refine V_icmp_le X (tgt := 63) dX12_most_58 (by decide) (fun b18 => ?_) (fun b18 => ?_)
            · replace h := (if_pos b18).symm.trans h
              obtain rfl := so1 h
              exact hk
            · replace h := (if_neg b18).symm.trans h
              refine V_sub X [0, 1, 3] (lv' := [(0, .ref (zad y (0, 32, 0))), (1, .int a1), (3, .int x8)]) rfl ?_
              exact hk13 h
    · replace h := (if_neg b6).symm.trans h
      refine V_iconst X 0 dX12_most_25 (by decide) ?_
      exact V_iretW X h dX12_most_26
  replace h := h1
  clear h1
  refine V_if_ne X (tgt := 14) dX12_most_7 (by decide) (fun b3 => ?_) (fun b3 => ?_)
  · replace h := (if_neg b3).symm.trans h
    refine V_iconst X 0 dX12_most_14 (by decide) ?_
    obtain rfl := pr1 h
    exact hk
  · replace h := (if_pos b3).symm.trans h
    refine V_iconst X 1 dX12_most_10 (by decide) ?_
    refine V_goto X (tgt := 15) dX12_most_11 (by decide) ?_
    obtain rfl := pr1 h
    exact hk

def f_X12_byState (a1 : Int32) (μ : ZMem) : Option (Int32 × ZMem) := bd (f_X12_isIn a1 0 3) (fun (x2 : Int32) => zlt (α := Int32) (if x2 = 0 then 1 else 0) (fun (x4 : Int32) => zlt (mset μ (0, 32, 0) 0 x4) (fun (μ5 : ZMem) => bd (α := Int32) (if (μ5 (0, 32, 0) 0) ≤ 0 then bd (f_X12_inState a1 μ5) (fun (x9 : Int32) => some x9) else some 0) (fun (x7 : Int32) => some (x7, μ5)))))
set_option maxRecDepth 100000 in
set_option maxHeartbeats 4000000 in
theorem M_X12_byState {l : Launch} {D : va_G} {y : ZLay} {a1 : Int32}  {μ : ZMem} {r : Int32} {μ0 : ZMem} (h : f_X12_byState a1 μ = some (r, μ0)) : MI l yX12_byState wb_X12_byState rm_X12_byState D y [.ref (zad y (0, 32, 0)), .int a1] μ r μ0 := by
  unfold f_X12_byState at h
  refine MI_of RX12 [(0, .ref (zad y (0, 32, 0))), (1, .int a1)] (by decide) rfl rfl (Nat.le_of_ble_eq_true rfl) rfl ?_
  intro p e s m args below meth c A X
  refine V_aload_n X 0 dX12_byState_0 rfl rfl ?_
  refine V_iload_n X 1 dX12_byState_1 rfl rfl ?_
  refine V_iconst X 0 dX12_byState_2 (by decide) ?_
  refine V_iconst X 3 dX12_byState_3 (by decide) ?_
  obtain ⟨x2, c1, h⟩ := bd_some h
  refine V_callSi X (As := [.int a1, .int 0, .int 3]) (M_X12_isIn c1) (va_cwS 3 X.2.2.2.2.2.2.1 (gS wm_RX12_62 wst_X12_isIn win_RX12 wc_X12_isIn) rfl rfl rfl hd_X12_isIn.2 ⟨Nat.le_of_ble_eq_true rfl, Nat.le_of_ble_eq_true rfl⟩) rfl (Nat.le_of_ble_eq_true rfl) dX12_byState_4 rfl ?_
  obtain ⟨x4, h1, h⟩ := zl1_some h
  have hk : V X μ 15 [(0, .ref (zad y (0, 32, 0))), (1, .int a1)] [.int x4, .ref (zad y (0, 32, 0))] := by
    clear h1
    refine V_puti X tyX12 .int (o := (0, 32, 0)) (ci := 12) (k := 0) (N := 30) (T := TX12) (C := RX12) ⟨by decide, rfl⟩ rfl rfl rfl (by decide) (mBa inB_X12) tyX12_ok nmX12 (mB wl_RX12_59) rfl rfl rfl rfl dX12_byState_15 ?_
    refine zlt_el (P := fun (μ5 : ZMem) => V X μ5 18 [(0, .ref (zad y (0, 32, 0))), (1, .int a1)] []) h (fun μ5 h => ?_)
    refine V_aload_n X 0 dX12_byState_18 rfl rfl ?_
    refine V_geti X (o := (0, 32, 0)) (ci := 12) (k := 0) (N := 30) (T := TX12) (C := RX12) ⟨by decide, rfl⟩ rfl rfl rfl (by decide) (mBa inB_X12) (mB wl_RX12_59) dX12_byState_19 ?_
    obtain ⟨x7, h1, h⟩ := bd_some h
    have hk : V X μ5 34 [] [.int x7] := by
      clear h1
      exact V_iretW X h dX12_byState_34
    replace h := h1
    clear h1
    refine V_if_le X (tgt := 29) dX12_byState_22 (by decide) (fun b6 => ?_) (fun b6 => ?_)
    · replace h := (if_pos b6).symm.trans h
      refine V_aload_n X 0 dX12_byState_29 rfl rfl ?_
      refine V_iload_n X 1 dX12_byState_30 rfl rfl ?_
      obtain ⟨x9, c8, h⟩ := bd_some h
      refine V_callVi X (As := [.int a1]) (M_X12_inState c8) (cwV 1 X.2.2.2.2.2.2.1 (gV wm_RX12_250 wi_X12_inState wse_X12_inState win_RX12 wc_X12_inState) rfl rfl rfl hd_X12_inState ⟨Nat.le_of_ble_eq_true rfl, Nat.le_of_ble_eq_true rfl⟩) (b := (0, 32, 0)) ⟨by decide, rfl⟩ rfl rfl rfl rfl (Nat.le_of_ble_eq_true rfl) dX12_byState_31 rfl ?_
      refine V_sub X [] (lv' := []) rfl ?_
      obtain rfl := so1 h
      exact hk
    · replace h := (if_neg b6).symm.trans h
      refine V_iconst X 0 dX12_byState_25 (by decide) ?_
      refine V_goto X (tgt := 34) dX12_byState_26 (by decide) ?_
      refine V_sub X [] (lv' := []) rfl ?_
      obtain rfl := so1 h
      exact hk
  replace h := h1
  clear h1
  refine V_if_ne X (tgt := 14) dX12_byState_7 (by decide) (fun b3 => ?_) (fun b3 => ?_)
  · replace h := (if_neg b3).symm.trans h
    refine V_iconst X 0 dX12_byState_14 (by decide) ?_
    obtain rfl := pr1 h
    exact hk
  · replace h := (if_pos b3).symm.trans h
    refine V_iconst X 1 dX12_byState_10 (by decide) ?_
    refine V_goto X (tgt := 15) dX12_byState_11 (by decide) ?_
    obtain rfl := pr1 h
    exact hk

def f_X12_twins (μ : ZMem) : Option (Int32 × ZMem) := zlt (mset μ (0, 32, 0) 0 0) (fun (μ1 : ZMem) => bd (lp (σ := Int32 × Int32) (fun q => un2 q (fun (x2 : Int32) (x3 : Int32) => if (μ1 (0, 33, 0) 3) ≤ x3 then some (.inr x2) else zlt (x3 + 1) (fun (x6 : Int32) => bd (lp (σ := Int32 × Int32) (fun q => un2 q (fun (x7 : Int32) (x8 : Int32) => if (μ1 (0, 33, 0) 3) ≤ x8 then some (.inr x7) else bd (f_X12_of x3 1 μ1) (fun (x12 : Int32) => bd (f_X12_of x8 1 μ1) (fun (x14 : Int32) => bd (α := Int32) (jk (some 0) (fun k17 => if x12 = x14 then bd (f_X12_of x3 3 μ1) (fun (x19 : Int32) => bd (f_X12_of x8 3 μ1) (fun (x21 : Int32) => if x19 = x21 then some 1 else k17)) else k17)) (fun (x16 : Int32) => zlt (x7 + x16) (fun (x23 : Int32) => some (.inl (x23, (x8 + 1))))))))) FU (x2, x6)) (fun (x9 : Int32) => some (.inl (x9, (x3 + 1))))))) FU (0, 0)) (fun (x4 : Int32) => some (x4, μ1)))
set_option maxRecDepth 100000 in
set_option maxHeartbeats 4000000 in
theorem M_X12_twins {l : Launch} {D : va_G} {y : ZLay}   {μ : ZMem} {r : Int32} {μ0 : ZMem} (h : f_X12_twins μ = some (r, μ0)) : MI l yX12_twins wb_X12_twins rm_X12_twins D y [.ref (zad y (0, 32, 0))] μ r μ0 := by
  unfold f_X12_twins at h
  refine MI_of RX12 [(0, .ref (zad y (0, 32, 0)))] (by decide) rfl rfl (Nat.le_of_ble_eq_true rfl) rfl ?_
  intro p e s m args below meth c A X
  refine V_aload_n X 0 dX12_twins_0 rfl rfl ?_
  refine V_iconst X 0 dX12_twins_1 (by decide) ?_
  refine V_puti X tyX12 .int (o := (0, 32, 0)) (ci := 12) (k := 0) (N := 30) (T := TX12) (C := RX12) ⟨by decide, rfl⟩ rfl rfl rfl (by decide) (mBa inB_X12) tyX12_ok nmX12 (mB wl_RX12_59) rfl rfl rfl rfl dX12_twins_2 ?_
  refine zlt_el (P := fun (μ1 : ZMem) => V X μ1 5 [(0, .ref (zad y (0, 32, 0)))] []) h (fun μ1 h => ?_)
  refine V_iconst X 0 dX12_twins_5 (by decide) ?_
  refine V_istore_n X [(1, .int 0), (0, .ref (zad y (0, 32, 0)))] dX12_twins_6 rfl (by decide) rfl ?_
  refine V_iconst X 0 dX12_twins_7 (by decide) ?_
  refine V_istore_n X [(2, .int 0), (1, .int 0), (0, .ref (zad y (0, 32, 0)))] dX12_twins_8 rfl (by decide) rfl ?_
  refine V_sub X [2, 1, 0] (lv' := [(0, .ref (zad y (0, 32, 0))), (1, .int 0), (2, .int 0)]) rfl ?_
  obtain ⟨x4, hl, h⟩ := bd_some h
  have hk : V X μ1 83 [(1, .int x4)] [] := by
    clear hl
    refine V_iload_n X 0 dX12_twins_83 rfl rfl ?_
    exact V_iretW X h dX12_twins_84
  refine lp_ind (P := fun q => V X μ1 9 [(0, .ref (zad y (0, 32, 0))), (1, .int q.1), (2, .int q.2)] []) (fun q z h hz => ?_) hl
  obtain ⟨x2, x3⟩ := q
  replace h := un2_eq h
  show V X μ1 9 [(0, .ref (zad y (0, 32, 0))), (1, .int x2), (2, .int x3)] []
  refine V_iload_n X 2 dX12_twins_9 rfl rfl ?_
  refine V_aload_n X 0 dX12_twins_10 rfl rfl ?_
  refine V_getr X (o := (0, 32, 0)) (i := (0, 33, 0)) (ci := 12) (k := 1) (N := 30) (T := TX12) (C := RX12) ⟨by decide, rfl⟩ rfl rfl rfl (by decide) (mBa inB_X12) (mB wl_RX12_7) dX12_twins_11 ?_
  refine V_iconst X 3 dX12_twins_14 (by decide) ?_
  refine V_iald X 3 (by decide) (o := (0, 33, 0)) (n := 737) ⟨by decide, rfl⟩ rfl rfl (by decide) dX12_twins_15 ?_
  refine V_icmp_ge X (tgt := 83) dX12_twins_16 (by decide) (fun b5 => ?_) (fun b5 => ?_)
  · replace h := (if_pos b5).symm.trans h
    refine V_sub X [1] (lv' := [(1, .int x2)]) rfl ?_
    cases h
    obtain rfl := pr1 hz
    exact hk
  · replace h := (if_neg b5).symm.trans h
    refine V_iload_n X 2 dX12_twins_19 rfl rfl ?_
    refine V_iconst X 1 dX12_twins_20 (by decide) ?_
    refine V_iadd X dX12_twins_21 ?_
    refine V_istore_n X [(3, .int (x3 + 1)), (0, .ref (zad y (0, 32, 0))), (1, .int x2), (2, .int x3)] dX12_twins_22 rfl (by decide) rfl ?_
    refine zlt_el (P := fun (x6 : Int32) => V X μ1 23 [(3, .int x6), (0, .ref (zad y (0, 32, 0))), (1, .int x2), (2, .int x3)] []) h (fun x6 h => ?_)
    refine V_sub X [1, 2, 3, 0] (lv' := [(0, .ref (zad y (0, 32, 0))), (1, .int x2), (2, .int x3), (3, .int x6)]) rfl ?_
    obtain ⟨x9, hl, h⟩ := bd_some h
    have hk : V X μ1 77 [(0, .ref (zad y (0, 32, 0))), (1, .int x9), (2, .int x3)] [] := by
      clear hl
      refine V_inc X 2 1 [(2, .int (x3 + 1)), (0, .ref (zad y (0, 32, 0))), (1, .int x9)] dX12_twins_77 rfl (by decide) (by decide) rfl ?_
      refine V_goto X (tgt := 9) dX12_twins_80 (by decide) ?_
      refine V_sub X [1, 2, 0] (lv' := [(0, .ref (zad y (0, 32, 0))), (1, .int x9), (2, .int (x3 + 1))]) rfl ?_
      cases h
      exact hz
    refine lp_ind (P := fun q => V X μ1 23 [(0, .ref (zad y (0, 32, 0))), (1, .int q.1), (2, .int x3), (3, .int q.2)] []) (fun q z h hz => ?_) hl
    obtain ⟨x7, x8⟩ := q
    replace h := un2_eq h
    show V X μ1 23 [(0, .ref (zad y (0, 32, 0))), (1, .int x7), (2, .int x3), (3, .int x8)] []
    refine V_iload_n X 3 dX12_twins_23 rfl rfl ?_
    refine V_aload_n X 0 dX12_twins_24 rfl rfl ?_
    refine V_getr X (o := (0, 32, 0)) (i := (0, 33, 0)) (ci := 12) (k := 1) (N := 30) (T := TX12) (C := RX12) ⟨by decide, rfl⟩ rfl rfl rfl (by decide) (mBa inB_X12) (mB wl_RX12_7) dX12_twins_25 ?_
    refine V_iconst X 3 dX12_twins_28 (by decide) ?_
    refine V_iald X 3 (by decide) (o := (0, 33, 0)) (n := 737) ⟨by decide, rfl⟩ rfl rfl (by decide) dX12_twins_29 ?_
    refine V_icmp_ge X (tgt := 77) dX12_twins_30 (by decide) (fun b10 => ?_) (fun b10 => ?_)
    · replace h := (if_pos b10).symm.trans h
      refine V_sub X [0, 1, 2] (lv' := [(0, .ref (zad y (0, 32, 0))), (1, .int x7), (2, .int x3)]) rfl ?_
      cases h
      obtain rfl := pr1 hz
      exact hk
    · replace h := (if_neg b10).symm.trans h
      refine V_iload_n X 1 dX12_twins_33 rfl rfl ?_
      refine V_aload_n X 0 dX12_twins_34 rfl rfl ?_
      refine V_iload_n X 2 dX12_twins_35 rfl rfl ?_
      refine V_iconst X 1 dX12_twins_36 (by decide) ?_
      obtain ⟨x12, c11, h⟩ := bd_some h
      refine V_callVi X (As := [.int x3, .int 1]) (M_X12_of c11) (cwV 2 X.2.2.2.2.2.2.1 (gV wm_RX12_66 wi_X12_of wse_X12_of win_RX12 wc_X12_of) rfl rfl rfl hd_X12_of ⟨Nat.le_of_ble_eq_true rfl, Nat.le_of_ble_eq_true rfl⟩) (b := (0, 32, 0)) ⟨by decide, rfl⟩ rfl rfl rfl rfl (Nat.le_of_ble_eq_true rfl) dX12_twins_37 rfl ?_
      refine V_aload_n X 0 dX12_twins_40 rfl rfl ?_
      refine V_iload_n X 3 dX12_twins_41 rfl rfl ?_
      refine V_iconst X 1 dX12_twins_42 (by decide) ?_
      obtain ⟨x14, c13, h⟩ := bd_some h
      refine V_callVi X (As := [.int x8, .int 1]) (M_X12_of c13) (cwV 2 X.2.2.2.2.2.2.1 (gV wm_RX12_66 wi_X12_of wse_X12_of win_RX12 wc_X12_of) rfl rfl rfl hd_X12_of ⟨Nat.le_of_ble_eq_true rfl, Nat.le_of_ble_eq_true rfl⟩) (b := (0, 32, 0)) ⟨by decide, rfl⟩ rfl rfl rfl rfl (Nat.le_of_ble_eq_true rfl) dX12_twins_43 rfl ?_
      obtain ⟨x16, h1, h⟩ := bd_some h
      have hk : V X μ1 69 [(0, .ref (zad y (0, 32, 0))), (2, .int x3), (3, .int x8)] [.int x16, .int x7] := by
        clear h1
        refine V_iadd X dX12_twins_69 ?_
        refine V_istore_n X [(1, .int (x7 + x16)), (0, .ref (zad y (0, 32, 0))), (2, .int x3), (3, .int x8)] dX12_twins_70 rfl (by decide) rfl ?_
        refine zlt_el (P := fun (x23 : Int32) => V X μ1 71 [(1, .int x23), (0, .ref (zad y (0, 32, 0))), (2, .int x3), (3, .int x8)] []) h (fun x23 h => ?_)
        refine V_inc X 3 1 [(3, .int (x8 + 1)), (1, .int x23), (0, .ref (zad y (0, 32, 0))), (2, .int x3)] dX12_twins_71 rfl (by decide) (by decide) rfl ?_
        refine V_goto X (tgt := 23) dX12_twins_74 (by decide) ?_
        refine V_sub X [2, 1, 3, 0] (lv' := [(0, .ref (zad y (0, 32, 0))), (1, .int x23), (2, .int x3), (3, .int (x8 + 1))]) rfl ?_
        cases h
        exact hz
      replace h := h1
      clear h1
      refine jk0_el (P := V X μ1 68 [(0, .ref (zad y (0, 32, 0))), (2, .int x3), (3, .int x8)] [.int x7]) h (fun h => ?_) (fun k17 hk17 h => ?_)
      · refine V_iconst X 0 dX12_twins_68 (by decide) ?_
        obtain rfl := so1 h
        exact hk
      · refine V_icmp_ne X (tgt := 68) dX12_twins_46 (by decide) (fun b15 => ?_) (fun b15 => ?_)
        · replace h := (if_neg b15).symm.trans h
          refine V_sub X [0, 2, 3] (lv' := [(0, .ref (zad y (0, 32, 0))), (2, .int x3), (3, .int x8)]) rfl ?_
          exact hk17 h
        · replace h := (if_pos b15).symm.trans h
          refine V_aload_n X 0 dX12_twins_49 rfl rfl ?_
          refine V_iload_n X 2 dX12_twins_50 rfl rfl ?_
          refine V_iconst X 3 dX12_twins_51 (by decide) ?_
          obtain ⟨x19, c18, h⟩ := bd_some h
          refine V_callVi X (As := [.int x3, .int 3]) (M_X12_of c18) (cwV 2 X.2.2.2.2.2.2.1 (gV wm_RX12_66 wi_X12_of wse_X12_of win_RX12 wc_X12_of) rfl rfl rfl hd_X12_of ⟨Nat.le_of_ble_eq_true rfl, Nat.le_of_ble_eq_true rfl⟩) (b := (0, 32, 0)) ⟨by decide, rfl⟩ rfl rfl rfl rfl (Nat.le_of_ble_eq_true rfl) dX12_twins_52 rfl ?_
          refine V_aload_n X 0 dX12_twins_55 rfl rfl ?_
          refine V_iload_n X 3 dX12_twins_56 rfl rfl ?_
          refine V_iconst X 3 dX12_twins_57 (by decide) ?_
          obtain ⟨x21, c20, h⟩ := bd_some h
          refine V_callVi X (As := [.int x8, .int 3]) (M_X12_of c20) (cwV 2 X.2.2.2.2.2.2.1 (gV wm_RX12_66 wi_X12_of wse_X12_of win_RX12 wc_X12_of) rfl rfl rfl hd_X12_of ⟨Nat.le_of_ble_eq_true rfl, Nat.le_of_ble_eq_true rfl⟩) (b := (0, 32, 0)) ⟨by decide, rfl⟩ rfl rfl rfl rfl (Nat.le_of_ble_eq_true rfl) dX12_twins_58 rfl ?_
          refine V_icmp_ne X (tgt := 68) dX12_twins_61 (by decide) (fun b22 => ?_) (fun b22 => ?_)
          · replace h := (if_neg b22).symm.trans h
            refine V_sub X [0, 2, 3] (lv' := [(0, .ref (zad y (0, 32, 0))), (2, .int x3), (3, .int x8)]) rfl ?_
            exact hk17 h
          · replace h := (if_pos b22).symm.trans h
            refine V_iconst X 1 dX12_twins_64 (by decide) ?_
            refine V_goto X (tgt := 69) dX12_twins_65 (by decide) ?_
            refine V_sub X [0, 2, 3] (lv' := [(0, .ref (zad y (0, 32, 0))), (2, .int x3), (3, .int x8)]) rfl ?_
            obtain rfl := so1 h
            exact hk

def f_X12_ahead (a1 : Int32) (a2 : Int32) (a3 : Int32) (μ : ZMem) : Option (Int32 × ZMem) := bd (f_X12_isNode a1 μ) (fun (x2 : Int32) => bd (α := Int32) (if x2 = 0 then some 1 else bd (f_X12_isIn a2 0 60) (fun (x6 : Int32) => if x6 = 0 then some 2 else some 0)) (fun (x4 : Int32) => zlt (mset μ (0, 32, 0) 0 x4) (fun (μ8 : ZMem) => if (μ8 (0, 32, 0) 0) ≤ 0 then bd (f_X12_putsAside μ8) (fun (μ11 : ZMem) => bd2 (f_X12_goes a2 0 μ11) (fun (x13 : Int32) (μ14 : ZMem) => zlt (α := Int32) (if a3 = 0 then 0 else 3) (fun (x16 : Int32) => bd (f_X12_of a1 x16 μ14) (fun (x18 : Int32) => bd (f_X12_comesBack μ14) (fun (μ20 : ZMem) => some (x18, μ20)))))) else some (0, μ8))))
set_option maxRecDepth 100000 in
set_option maxHeartbeats 4000000 in
theorem M_X12_ahead {l : Launch} {D : va_G} {y : ZLay} {a1 : Int32} {a2 : Int32} {a3 : Int32}  {μ : ZMem} {r : Int32} {μ0 : ZMem} (h : f_X12_ahead a1 a2 a3 μ = some (r, μ0)) : MI l yX12_ahead wb_X12_ahead rm_X12_ahead D y [.ref (zad y (0, 32, 0)), .int a1, .int a2, .int a3] μ r μ0 := by
  unfold f_X12_ahead at h
  refine MI_of RX12 [(0, .ref (zad y (0, 32, 0))), (1, .int a1), (2, .int a2), (3, .int a3)] (by decide) rfl rfl (Nat.le_of_ble_eq_true rfl) rfl ?_
  intro p e s m args below meth c A X
  refine V_aload_n X 0 dX12_ahead_0 rfl rfl ?_
  refine V_aload_n X 0 dX12_ahead_1 rfl rfl ?_
  refine V_iload_n X 1 dX12_ahead_2 rfl rfl ?_
  obtain ⟨x2, c1, h⟩ := bd_some h
  refine V_callVi X (As := [.int a1]) (M_X12_isNode c1) (cwV 1 X.2.2.2.2.2.2.1 (gV wm_RX12_347 wi_X12_isNode wse_X12_isNode win_RX12 wc_X12_isNode) rfl rfl rfl hd_X12_isNode ⟨Nat.le_of_ble_eq_true rfl, Nat.le_of_ble_eq_true rfl⟩) (b := (0, 32, 0)) ⟨by decide, rfl⟩ rfl rfl rfl rfl (Nat.le_of_ble_eq_true rfl) dX12_ahead_3 rfl ?_
  obtain ⟨x4, h1, h⟩ := bd_some h
  have hk : V X μ 28 [(0, .ref (zad y (0, 32, 0))), (1, .int a1), (2, .int a2), (3, .int a3)] [.int x4, .ref (zad y (0, 32, 0))] := by
    clear h1
    refine V_puti X tyX12 .int (o := (0, 32, 0)) (ci := 12) (k := 0) (N := 30) (T := TX12) (C := RX12) ⟨by decide, rfl⟩ rfl rfl rfl (by decide) (mBa inB_X12) tyX12_ok nmX12 (mB wl_RX12_59) rfl rfl rfl rfl dX12_ahead_28 ?_
    refine zlt_el (P := fun (μ8 : ZMem) => V X μ8 31 [(0, .ref (zad y (0, 32, 0))), (1, .int a1), (2, .int a2), (3, .int a3)] []) h (fun μ8 h => ?_)
    refine V_aload_n X 0 dX12_ahead_31 rfl rfl ?_
    refine V_geti X (o := (0, 32, 0)) (ci := 12) (k := 0) (N := 30) (T := TX12) (C := RX12) ⟨by decide, rfl⟩ rfl rfl rfl (by decide) (mBa inB_X12) (mB wl_RX12_59) dX12_ahead_32 ?_
    refine V_if_le X (tgt := 40) dX12_ahead_35 (by decide) (fun b9 => ?_) (fun b9 => ?_)
    · replace h := (if_pos b9).symm.trans h
      refine V_aload_n X 0 dX12_ahead_40 rfl rfl ?_
      obtain ⟨μ11, c10, h⟩ := bd_some h
      refine V_callVv X (As := []) (M_X12_putsAside c10) (cwV 0 X.2.2.2.2.2.2.1 (gV wm_RX12_177 wi_X12_putsAside wse_X12_putsAside win_RX12 wc_X12_putsAside) rfl rfl rfl hd_X12_putsAside ⟨Nat.le_of_ble_eq_true rfl, Nat.le_of_ble_eq_true rfl⟩) (b := (0, 32, 0)) ⟨by decide, rfl⟩ rfl rfl rfl rfl (Nat.le_of_ble_eq_true rfl) dX12_ahead_41 rfl ?_
      refine V_aload_n X 0 dX12_ahead_44 rfl rfl ?_
      refine V_iload_n X 2 dX12_ahead_45 rfl rfl ?_
      refine V_iconst X 0 dX12_ahead_46 (by decide) ?_
      obtain ⟨x13, μ14, c12, h⟩ := bd2_some h
      refine V_callVi X (As := [.int a2, .int 0]) (M_X12_goes c12) (cwV 2 X.2.2.2.2.2.2.1 (gV wm_RX12_365 wi_X12_goes wse_X12_goes win_RX12 wc_X12_goes) rfl rfl rfl hd_X12_goes ⟨Nat.le_of_ble_eq_true rfl, Nat.le_of_ble_eq_true rfl⟩) (b := (0, 32, 0)) ⟨by decide, rfl⟩ rfl rfl rfl rfl (Nat.le_of_ble_eq_true rfl) dX12_ahead_47 rfl ?_
      refine V_istore X [(4, .int x13), (0, .ref (zad y (0, 32, 0))), (1, .int a1), (2, .int a2), (3, .int a3)] dX12_ahead_50 (by decide) rfl ?_
      refine V_aload_n X 1 dX12_ahead_52 rfl rfl ?_
      refine V_iload_n X 2 dX12_ahead_53 rfl rfl ?_
      refine V_iload_n X 4 dX12_ahead_54 rfl rfl ?_
      obtain ⟨x16, h1, h⟩ := zl1_some h
      have hk : V X μ14 63 [(0, .ref (zad y (0, 32, 0)))] [.int x16, .int a1, .ref (zad y (0, 32, 0))] := by
        clear h1
        obtain ⟨x18, c17, h⟩ := bd_some h
        refine V_callVi X (As := [.int a1, .int x16]) (M_X12_of c17) (cwV 2 X.2.2.2.2.2.2.1 (gV wm_RX12_66 wi_X12_of wse_X12_of win_RX12 wc_X12_of) rfl rfl rfl hd_X12_of ⟨Nat.le_of_ble_eq_true rfl, Nat.le_of_ble_eq_true rfl⟩) (b := (0, 32, 0)) ⟨by decide, rfl⟩ rfl rfl rfl rfl (Nat.le_of_ble_eq_true rfl) dX12_ahead_63 rfl ?_
        refine V_istore X [(5, .int x18), (0, .ref (zad y (0, 32, 0)))] dX12_ahead_66 (by decide) rfl ?_
        refine V_aload_n X 1 dX12_ahead_68 rfl rfl ?_
        obtain ⟨μ20, c19, h⟩ := bd_some h
        refine V_callVv X (As := []) (M_X12_comesBack c19) (cwV 0 X.2.2.2.2.2.2.1 (gV wm_RX12_187 wi_X12_comesBack wse_X12_comesBack win_RX12 wc_X12_comesBack) rfl rfl rfl hd_X12_comesBack ⟨Nat.le_of_ble_eq_true rfl, Nat.le_of_ble_eq_true rfl⟩) (b := (0, 32, 0)) ⟨by decide, rfl⟩ rfl rfl rfl rfl (Nat.le_of_ble_eq_true rfl) dX12_ahead_69 rfl ?_
        refine V_iload X 0 dX12_ahead_72 rfl ?_
        exact V_iretW X h dX12_ahead_74
      replace h := h1
      clear h1
      refine V_if_eq X (tgt := 62) dX12_ahead_55 (by decide) (fun b15 => ?_) (fun b15 => ?_)
      · replace h := (if_pos b15).symm.trans h
        refine V_iconst X 0 dX12_ahead_62 (by decide) ?_
        refine V_sub X [1] (lv' := [(0, .ref (zad y (0, 32, 0)))]) rfl ?_
        obtain rfl := pr1 h
        exact hk
      · replace h := (if_neg b15).symm.trans h
        refine V_iconst X 3 dX12_ahead_58 (by decide) ?_
        refine V_goto X (tgt := 63) dX12_ahead_59 (by decide) ?_
        refine V_sub X [1] (lv' := [(0, .ref (zad y (0, 32, 0)))]) rfl ?_
        obtain rfl := pr1 h
        exact hk
    · replace h := (if_neg b9).symm.trans h
      refine V_iconst X 0 dX12_ahead_38 (by decide) ?_
      exact V_iretW X h dX12_ahead_39
  replace h := h1
  clear h1
  refine V_if_ne X (tgt := 13) dX12_ahead_6 (by decide) (fun b3 => ?_) (fun b3 => ?_)
  · replace h := (if_neg b3).symm.trans h
    refine V_iload_n X 2 dX12_ahead_13 rfl rfl ?_
    refine V_iconst X 0 dX12_ahead_14 (by decide) ?_
    refine V_bipush X 60 dX12_ahead_15 (by decide) ?_
    obtain ⟨x6, c5, h⟩ := bd_some h
    refine V_callSi X (As := [.int a2, .int 0, .int 60]) (M_X12_isIn c5) (va_cwS 3 X.2.2.2.2.2.2.1 (gS wm_RX12_62 wst_X12_isIn win_RX12 wc_X12_isIn) rfl rfl rfl hd_X12_isIn.2 ⟨Nat.le_of_ble_eq_true rfl, Nat.le_of_ble_eq_true rfl⟩) rfl (Nat.le_of_ble_eq_true rfl) dX12_ahead_17 rfl ?_
    refine V_if_ne X (tgt := 27) dX12_ahead_20 (by decide) (fun b7 => ?_) (fun b7 => ?_)
    · replace h := (if_neg b7).symm.trans h
      refine V_iconst X 0 dX12_ahead_27 (by decide) ?_
      obtain rfl := so1 h
      exact hk
    · replace h := (if_pos b7).symm.trans h
      refine V_iconst X 2 dX12_ahead_23 (by decide) ?_
      refine V_goto X (tgt := 28) dX12_ahead_24 (by decide) ?_
      obtain rfl := so1 h
      exact hk
  · replace h := (if_pos b3).symm.trans h
    refine V_iconst X 1 dX12_ahead_9 (by decide) ?_
    refine V_goto X (tgt := 28) dX12_ahead_10 (by decide) ?_
    obtain rfl := so1 h
    exact hk

def f_X12_trial (a1 : Int32) (a2 : Int32) (μ : ZMem) : Option (Int32 × ZMem) := bd (f_X12_isIn a1 0 60) (fun (x2 : Int32) => zlt (α := Int32) (if x2 = 0 then 1 else 0) (fun (x4 : Int32) => zlt (mset μ (0, 32, 0) 0 x4) (fun (μ5 : ZMem) => if (μ5 (0, 32, 0) 0) ≤ 0 then bd (f_X12_putsAside μ5) (fun (μ8 : ZMem) => bd2 (f_X12_goes a1 1 μ8) (fun (x10 : Int32) (μ11 : ZMem) => bd (α := Int32) (if a2 = 0 then bd (f_X12_inState 2 μ11) (fun (x15 : Int32) => some x15) else bd (f_X12_spreadNow μ11) (fun (x17 : Int32) => some x17)) (fun (x13 : Int32) => bd (f_X12_comesBack μ11) (fun (μ19 : ZMem) => some (x13, μ19))))) else some (0, μ5))))
set_option maxRecDepth 100000 in
set_option maxHeartbeats 4000000 in
theorem M_X12_trial {l : Launch} {D : va_G} {y : ZLay} {a1 : Int32} {a2 : Int32}  {μ : ZMem} {r : Int32} {μ0 : ZMem} (h : f_X12_trial a1 a2 μ = some (r, μ0)) : MI l yX12_trial wb_X12_trial rm_X12_trial D y [.ref (zad y (0, 32, 0)), .int a1, .int a2] μ r μ0 := by
  unfold f_X12_trial at h
  refine MI_of RX12 [(0, .ref (zad y (0, 32, 0))), (1, .int a1), (2, .int a2)] (by decide) rfl rfl (Nat.le_of_ble_eq_true rfl) rfl ?_
  intro p e s m args below meth c A X
  refine V_aload_n X 0 dX12_trial_0 rfl rfl ?_
  refine V_iload_n X 1 dX12_trial_1 rfl rfl ?_
  refine V_iconst X 0 dX12_trial_2 (by decide) ?_
  refine V_bipush X 60 dX12_trial_3 (by decide) ?_
  obtain ⟨x2, c1, h⟩ := bd_some h
  refine V_callSi X (As := [.int a1, .int 0, .int 60]) (M_X12_isIn c1) (va_cwS 3 X.2.2.2.2.2.2.1 (gS wm_RX12_62 wst_X12_isIn win_RX12 wc_X12_isIn) rfl rfl rfl hd_X12_isIn.2 ⟨Nat.le_of_ble_eq_true rfl, Nat.le_of_ble_eq_true rfl⟩) rfl (Nat.le_of_ble_eq_true rfl) dX12_trial_5 rfl ?_
  obtain ⟨x4, h1, h⟩ := zl1_some h
  have hk : V X μ 16 [(0, .ref (zad y (0, 32, 0))), (1, .int a1), (2, .int a2)] [.int x4, .ref (zad y (0, 32, 0))] := by
    clear h1
    refine V_puti X tyX12 .int (o := (0, 32, 0)) (ci := 12) (k := 0) (N := 30) (T := TX12) (C := RX12) ⟨by decide, rfl⟩ rfl rfl rfl (by decide) (mBa inB_X12) tyX12_ok nmX12 (mB wl_RX12_59) rfl rfl rfl rfl dX12_trial_16 ?_
    refine zlt_el (P := fun (μ5 : ZMem) => V X μ5 19 [(0, .ref (zad y (0, 32, 0))), (1, .int a1), (2, .int a2)] []) h (fun μ5 h => ?_)
    refine V_aload_n X 0 dX12_trial_19 rfl rfl ?_
    refine V_geti X (o := (0, 32, 0)) (ci := 12) (k := 0) (N := 30) (T := TX12) (C := RX12) ⟨by decide, rfl⟩ rfl rfl rfl (by decide) (mBa inB_X12) (mB wl_RX12_59) dX12_trial_20 ?_
    refine V_if_le X (tgt := 28) dX12_trial_23 (by decide) (fun b6 => ?_) (fun b6 => ?_)
    · replace h := (if_pos b6).symm.trans h
      refine V_aload_n X 0 dX12_trial_28 rfl rfl ?_
      obtain ⟨μ8, c7, h⟩ := bd_some h
      refine V_callVv X (As := []) (M_X12_putsAside c7) (cwV 0 X.2.2.2.2.2.2.1 (gV wm_RX12_177 wi_X12_putsAside wse_X12_putsAside win_RX12 wc_X12_putsAside) rfl rfl rfl hd_X12_putsAside ⟨Nat.le_of_ble_eq_true rfl, Nat.le_of_ble_eq_true rfl⟩) (b := (0, 32, 0)) ⟨by decide, rfl⟩ rfl rfl rfl rfl (Nat.le_of_ble_eq_true rfl) dX12_trial_29 rfl ?_
      refine V_aload_n X 0 dX12_trial_32 rfl rfl ?_
      refine V_iload_n X 1 dX12_trial_33 rfl rfl ?_
      refine V_iconst X 1 dX12_trial_34 (by decide) ?_
      obtain ⟨x10, μ11, c9, h⟩ := bd2_some h
      refine V_callVi X (As := [.int a1, .int 1]) (M_X12_goes c9) (cwV 2 X.2.2.2.2.2.2.1 (gV wm_RX12_365 wi_X12_goes wse_X12_goes win_RX12 wc_X12_goes) rfl rfl rfl hd_X12_goes ⟨Nat.le_of_ble_eq_true rfl, Nat.le_of_ble_eq_true rfl⟩) (b := (0, 32, 0)) ⟨by decide, rfl⟩ rfl rfl rfl rfl (Nat.le_of_ble_eq_true rfl) dX12_trial_35 rfl ?_
      refine V_istore_n X [(3, .int x10), (0, .ref (zad y (0, 32, 0))), (1, .int a1), (2, .int a2)] dX12_trial_38 rfl (by decide) rfl ?_
      refine V_iload_n X 3 dX12_trial_39 rfl rfl ?_
      obtain ⟨x13, h1, h⟩ := bd_some h
      have hk : V X μ11 55 [(0, .ref (zad y (0, 32, 0)))] [.int x13] := by
        clear h1
        refine V_istore X [(4, .int x13), (0, .ref (zad y (0, 32, 0)))] dX12_trial_55 (by decide) rfl ?_
        refine V_aload_n X 1 dX12_trial_57 rfl rfl ?_
        obtain ⟨μ19, c18, h⟩ := bd_some h
        refine V_callVv X (As := []) (M_X12_comesBack c18) (cwV 0 X.2.2.2.2.2.2.1 (gV wm_RX12_187 wi_X12_comesBack wse_X12_comesBack win_RX12 wc_X12_comesBack) rfl rfl rfl hd_X12_comesBack ⟨Nat.le_of_ble_eq_true rfl, Nat.le_of_ble_eq_true rfl⟩) (b := (0, 32, 0)) ⟨by decide, rfl⟩ rfl rfl rfl rfl (Nat.le_of_ble_eq_true rfl) dX12_trial_58 rfl ?_
        refine V_iload X 0 dX12_trial_61 rfl ?_
        exact V_iretW X h dX12_trial_63
      replace h := h1
      clear h1
      refine V_if_eq X (tgt := 50) dX12_trial_40 (by decide) (fun b12 => ?_) (fun b12 => ?_)
      · replace h := (if_pos b12).symm.trans h
        refine V_aload_n X 1 dX12_trial_50 rfl rfl ?_
        refine V_iconst X 2 dX12_trial_51 (by decide) ?_
        obtain ⟨x15, c14, h⟩ := bd_some h
        refine V_callVi X (As := [.int 2]) (M_X12_inState c14) (cwV 1 X.2.2.2.2.2.2.1 (gV wm_RX12_250 wi_X12_inState wse_X12_inState win_RX12 wc_X12_inState) rfl rfl rfl hd_X12_inState ⟨Nat.le_of_ble_eq_true rfl, Nat.le_of_ble_eq_true rfl⟩) (b := (0, 32, 0)) ⟨by decide, rfl⟩ rfl rfl rfl rfl (Nat.le_of_ble_eq_true rfl) dX12_trial_52 rfl ?_
        refine V_sub X [1] (lv' := [(0, .ref (zad y (0, 32, 0)))]) rfl ?_
        obtain rfl := so1 h
        exact hk
      · replace h := (if_neg b12).symm.trans h
        refine V_aload_n X 1 dX12_trial_43 rfl rfl ?_
        obtain ⟨x17, c16, h⟩ := bd_some h
        refine V_callVi X (As := []) (M_X12_spreadNow c16) (cwV 0 X.2.2.2.2.2.2.1 (gV wm_RX12_371 wi_X12_spreadNow wse_X12_spreadNow win_RX12 wc_X12_spreadNow) rfl rfl rfl hd_X12_spreadNow ⟨Nat.le_of_ble_eq_true rfl, Nat.le_of_ble_eq_true rfl⟩) (b := (0, 32, 0)) ⟨by decide, rfl⟩ rfl rfl rfl rfl (Nat.le_of_ble_eq_true rfl) dX12_trial_44 rfl ?_
        refine V_goto X (tgt := 55) dX12_trial_47 (by decide) ?_
        refine V_sub X [1] (lv' := [(0, .ref (zad y (0, 32, 0)))]) rfl ?_
        obtain rfl := so1 h
        exact hk
    · replace h := (if_neg b6).symm.trans h
      refine V_iconst X 0 dX12_trial_26 (by decide) ?_
      exact V_iretW X h dX12_trial_27
  replace h := h1
  clear h1
  refine V_if_ne X (tgt := 15) dX12_trial_8 (by decide) (fun b3 => ?_) (fun b3 => ?_)
  · replace h := (if_neg b3).symm.trans h
    refine V_iconst X 0 dX12_trial_15 (by decide) ?_
    obtain rfl := pr1 h
    exact hk
  · replace h := (if_pos b3).symm.trans h
    refine V_iconst X 1 dX12_trial_11 (by decide) ?_
    refine V_goto X (tgt := 16) dX12_trial_12 (by decide) ?_
    obtain rfl := pr1 h
    exact hk

def f_X12_span (a1 : Int32) (a2 : Int32) (μ : ZMem) : Option (Int32 × ZMem) := bd (f_X12_isIn a1 0 60) (fun (x2 : Int32) => zlt (α := Int32) (if x2 = 0 then 1 else 0) (fun (x4 : Int32) => zlt (mset μ (0, 32, 0) 0 x4) (fun (μ5 : ZMem) => if (μ5 (0, 32, 0) 0) ≤ 0 then bd (f_X12_putsAside μ5) (fun (μ8 : ZMem) => bd2 (lp (σ := Int32 × Int32 × ZMem) (fun q => un3 q (fun (x9 : Int32) (x10 : Int32) (μ11 : ZMem) => if 6 < x10 then some (.inr (x9, μ11)) else zlt (mset μ11 (0, 33, 0) 8 x10) (fun (μ15 : ZMem) => bd2 (f_X12_goes a1 1 μ15) (fun (x17 : Int32) (μ18 : ZMem) => bd (f_X12_inState 2 μ18) (fun (x20 : Int32) => bd (f_X12_bits x20) (fun (x22 : Int32) => bd (f_X12_comesBack μ18) (fun (μ24 : ZMem) => zlt (α := Int32) (if x9 = (-1) then x22 else if a2 = 0 then (f_X12_lesser x9 x22) else (f_X12_greater x9 x22)) (fun (x26 : Int32) => some (.inl (x26, (x10 + 1), μ24)))))))))) FU ((-1), 1, μ8)) (fun (x12 : Int32) (μ13 : ZMem) => some (x12, μ13))) else some (0, μ5))))
set_option maxRecDepth 100000 in
set_option maxHeartbeats 4000000 in
theorem M_X12_span {l : Launch} {D : va_G} {y : ZLay} {a1 : Int32} {a2 : Int32}  {μ : ZMem} {r : Int32} {μ0 : ZMem} (h : f_X12_span a1 a2 μ = some (r, μ0)) : MI l yX12_span wb_X12_span rm_X12_span D y [.ref (zad y (0, 32, 0)), .int a1, .int a2] μ r μ0 := by
  unfold f_X12_span at h
  refine MI_of RX12 [(0, .ref (zad y (0, 32, 0))), (1, .int a1), (2, .int a2)] (by decide) rfl rfl (Nat.le_of_ble_eq_true rfl) rfl ?_
  intro p e s m args below meth c A X
  refine V_aload_n X 0 dX12_span_0 rfl rfl ?_
  refine V_iload_n X 1 dX12_span_1 rfl rfl ?_
  refine V_iconst X 0 dX12_span_2 (by decide) ?_
  refine V_bipush X 60 dX12_span_3 (by decide) ?_
  obtain ⟨x2, c1, h⟩ := bd_some h
  refine V_callSi X (As := [.int a1, .int 0, .int 60]) (M_X12_isIn c1) (va_cwS 3 X.2.2.2.2.2.2.1 (gS wm_RX12_62 wst_X12_isIn win_RX12 wc_X12_isIn) rfl rfl rfl hd_X12_isIn.2 ⟨Nat.le_of_ble_eq_true rfl, Nat.le_of_ble_eq_true rfl⟩) rfl (Nat.le_of_ble_eq_true rfl) dX12_span_5 rfl ?_
  obtain ⟨x4, h1, h⟩ := zl1_some h
  have hk : V X μ 16 [(0, .ref (zad y (0, 32, 0))), (1, .int a1), (2, .int a2)] [.int x4, .ref (zad y (0, 32, 0))] := by
    clear h1
    refine V_puti X tyX12 .int (o := (0, 32, 0)) (ci := 12) (k := 0) (N := 30) (T := TX12) (C := RX12) ⟨by decide, rfl⟩ rfl rfl rfl (by decide) (mBa inB_X12) tyX12_ok nmX12 (mB wl_RX12_59) rfl rfl rfl rfl dX12_span_16 ?_
    refine zlt_el (P := fun (μ5 : ZMem) => V X μ5 19 [(0, .ref (zad y (0, 32, 0))), (1, .int a1), (2, .int a2)] []) h (fun μ5 h => ?_)
    refine V_aload_n X 0 dX12_span_19 rfl rfl ?_
    refine V_geti X (o := (0, 32, 0)) (ci := 12) (k := 0) (N := 30) (T := TX12) (C := RX12) ⟨by decide, rfl⟩ rfl rfl rfl (by decide) (mBa inB_X12) (mB wl_RX12_59) dX12_span_20 ?_
    refine V_if_le X (tgt := 28) dX12_span_23 (by decide) (fun b6 => ?_) (fun b6 => ?_)
    · replace h := (if_pos b6).symm.trans h
      refine V_aload_n X 0 dX12_span_28 rfl rfl ?_
      obtain ⟨μ8, c7, h⟩ := bd_some h
      refine V_callVv X (As := []) (M_X12_putsAside c7) (cwV 0 X.2.2.2.2.2.2.1 (gV wm_RX12_177 wi_X12_putsAside wse_X12_putsAside win_RX12 wc_X12_putsAside) rfl rfl rfl hd_X12_putsAside ⟨Nat.le_of_ble_eq_true rfl, Nat.le_of_ble_eq_true rfl⟩) (b := (0, 32, 0)) ⟨by decide, rfl⟩ rfl rfl rfl rfl (Nat.le_of_ble_eq_true rfl) dX12_span_29 rfl ?_
      refine V_iconst X (-1) dX12_span_32 (by decide) ?_
      refine V_istore_n X [(3, .int (-1)), (0, .ref (zad y (0, 32, 0))), (1, .int a1), (2, .int a2)] dX12_span_33 rfl (by decide) rfl ?_
      refine V_iconst X 1 dX12_span_34 (by decide) ?_
      refine V_istore X [(4, .int 1), (3, .int (-1)), (0, .ref (zad y (0, 32, 0))), (1, .int a1), (2, .int a2)] dX12_span_35 (by decide) rfl ?_
      refine V_sub X [2, 3, 4, 1, 0] (lv' := [(0, .ref (zad y (0, 32, 0))), (1, .int a1), (2, .int a2), (3, .int (-1)), (4, .int 1)]) rfl ?_
      obtain ⟨x12, μ13, hl, h⟩ := bd2_some h
      have hk : V X μ13 111 [(3, .int x12)] [] := by
        clear hl
        refine V_iload_n X 0 dX12_span_111 rfl rfl ?_
        exact V_iretW X h dX12_span_112
      refine lp_ind (P := fun q => V X q.2.2 37 [(0, .ref (zad y (0, 32, 0))), (1, .int a1), (2, .int a2), (3, .int q.1), (4, .int q.2.1)] []) (fun q z h hz => ?_) hl
      obtain ⟨x9, x10, μ11⟩ := q
      replace h := un3_eq h
      show V X μ11 37 [(0, .ref (zad y (0, 32, 0))), (1, .int a1), (2, .int a2), (3, .int x9), (4, .int x10)] []
      refine V_iload X 4 dX12_span_37 rfl ?_
      refine V_bipush X 6 dX12_span_39 (by decide) ?_
      refine V_icmp_gt X (tgt := 111) dX12_span_41 (by decide) (fun b14 => ?_) (fun b14 => ?_)
      · replace h := (if_pos b14).symm.trans h
        refine V_sub X [3] (lv' := [(3, .int x9)]) rfl ?_
        cases h
        obtain ⟨rfl, rfl⟩ := pr2 hz
        exact hk
      · replace h := (if_neg b14).symm.trans h
        refine V_aload_n X 0 dX12_span_44 rfl rfl ?_
        refine V_getr X (o := (0, 32, 0)) (i := (0, 33, 0)) (ci := 12) (k := 1) (N := 30) (T := TX12) (C := RX12) ⟨by decide, rfl⟩ rfl rfl rfl (by decide) (mBa inB_X12) (mB wl_RX12_7) dX12_span_45 ?_
        refine V_bipush X 8 dX12_span_48 (by decide) ?_
        refine V_iload X 4 dX12_span_50 rfl ?_
        refine V_iast X 8 (by decide) (o := (0, 33, 0)) (n := 737) ⟨by decide, rfl⟩ rfl rfl (by decide) dX12_span_52 ?_
        refine zlt_el (P := fun (μ15 : ZMem) => V X μ15 53 [(0, .ref (zad y (0, 32, 0))), (1, .int a1), (2, .int a2), (3, .int x9), (4, .int x10)] []) h (fun μ15 h => ?_)
        refine V_aload_n X 0 dX12_span_53 rfl rfl ?_
        refine V_iload_n X 1 dX12_span_54 rfl rfl ?_
        refine V_iconst X 1 dX12_span_55 (by decide) ?_
        obtain ⟨x17, μ18, c16, h⟩ := bd2_some h
        refine V_callVi X (As := [.int a1, .int 1]) (M_X12_goes c16) (cwV 2 X.2.2.2.2.2.2.1 (gV wm_RX12_365 wi_X12_goes wse_X12_goes win_RX12 wc_X12_goes) rfl rfl rfl hd_X12_goes ⟨Nat.le_of_ble_eq_true rfl, Nat.le_of_ble_eq_true rfl⟩) (b := (0, 32, 0)) ⟨by decide, rfl⟩ rfl rfl rfl rfl (Nat.le_of_ble_eq_true rfl) dX12_span_56 rfl ?_
        refine V_istore X [(5, .int x17), (0, .ref (zad y (0, 32, 0))), (1, .int a1), (2, .int a2), (3, .int x9), (4, .int x10)] dX12_span_59 (by decide) rfl ?_
        refine V_aload_n X 1 dX12_span_61 rfl rfl ?_
        refine V_iconst X 2 dX12_span_62 (by decide) ?_
        obtain ⟨x20, c19, h⟩ := bd_some h
        refine V_callVi X (As := [.int 2]) (M_X12_inState c19) (cwV 1 X.2.2.2.2.2.2.1 (gV wm_RX12_250 wi_X12_inState wse_X12_inState win_RX12 wc_X12_inState) rfl rfl rfl hd_X12_inState ⟨Nat.le_of_ble_eq_true rfl, Nat.le_of_ble_eq_true rfl⟩) (b := (0, 32, 0)) ⟨by decide, rfl⟩ rfl rfl rfl rfl (Nat.le_of_ble_eq_true rfl) dX12_span_63 rfl ?_
        obtain ⟨x22, c21, h⟩ := bd_some h
        refine V_callSi X (As := [.int x20]) (M_X12_bits c21) (va_cwS 1 X.2.2.2.2.2.2.1 (gS wm_RX12_247 wst_X12_bits win_RX12 wc_X12_bits) rfl rfl rfl hd_X12_bits.2 ⟨Nat.le_of_ble_eq_true rfl, Nat.le_of_ble_eq_true rfl⟩) rfl (Nat.le_of_ble_eq_true rfl) dX12_span_66 rfl ?_
        refine V_istore X [(6, .int x22), (5, .int x17), (0, .ref (zad y (0, 32, 0))), (1, .int a1), (2, .int a2), (3, .int x9), (4, .int x10)] dX12_span_69 (by decide) rfl ?_
        refine V_aload_n X 2 dX12_span_71 rfl rfl ?_
        obtain ⟨μ24, c23, h⟩ := bd_some h
        refine V_callVv X (As := []) (M_X12_comesBack c23) (cwV 0 X.2.2.2.2.2.2.1 (gV wm_RX12_187 wi_X12_comesBack wse_X12_comesBack win_RX12 wc_X12_comesBack) rfl rfl rfl hd_X12_comesBack ⟨Nat.le_of_ble_eq_true rfl, Nat.le_of_ble_eq_true rfl⟩) (b := (0, 32, 0)) ⟨by decide, rfl⟩ rfl rfl rfl rfl (Nat.le_of_ble_eq_true rfl) dX12_span_72 rfl ?_
        refine V_iload_n X 5 dX12_span_75 rfl rfl ?_
        refine V_iconst X (-1) dX12_span_76 (by decide) ?_
        obtain ⟨x26, h1, h⟩ := zl1_some h
        have hk : V X μ24 104 [(0, .ref (zad y (0, 32, 0))), (1, .int a1), (2, .int a2), (4, .int x10)] [.int x26] := by
          clear h1
          refine V_istore_n X [(3, .int x26), (0, .ref (zad y (0, 32, 0))), (1, .int a1), (2, .int a2), (4, .int x10)] dX12_span_104 rfl (by decide) rfl ?_
          refine V_inc X 4 1 [(4, .int (x10 + 1)), (3, .int x26), (0, .ref (zad y (0, 32, 0))), (1, .int a1), (2, .int a2)] dX12_span_105 rfl (by decide) (by decide) rfl ?_
          refine V_goto X (tgt := 37) dX12_span_108 (by decide) ?_
          refine V_sub X [2, 3, 4, 1, 0] (lv' := [(0, .ref (zad y (0, 32, 0))), (1, .int a1), (2, .int a2), (3, .int x26), (4, .int (x10 + 1))]) rfl ?_
          cases h
          exact hz
        replace h := h1
        clear h1
        refine V_icmp_ne X (tgt := 85) dX12_span_77 (by decide) (fun b25 => ?_) (fun b25 => ?_)
        · replace h := (if_neg b25).symm.trans h
          refine V_iload_n X 4 dX12_span_85 rfl rfl ?_
          refine V_if_eq X (tgt := 98) dX12_span_86 (by decide) (fun b27 => ?_) (fun b27 => ?_)
          · replace h := (if_pos b27).symm.trans h
            refine V_iload_n X 5 dX12_span_98 rfl rfl ?_
            refine V_iload X 0 dX12_span_99 rfl ?_
            refine V_callSi X (As := [.int x9, .int x22]) (M_X12_lesser) (va_cwS 2 X.2.2.2.2.2.2.1 (gS wm_RX12_70 wst_X12_lesser win_RX12 wc_X12_lesser) rfl rfl rfl hd_X12_lesser.2 ⟨Nat.le_of_ble_eq_true rfl, Nat.le_of_ble_eq_true rfl⟩) rfl (Nat.le_of_ble_eq_true rfl) dX12_span_101 rfl ?_
            refine V_sub X [2, 3, 4, 6] (lv' := [(0, .ref (zad y (0, 32, 0))), (1, .int a1), (2, .int a2), (4, .int x10)]) rfl ?_
            obtain rfl := pr1 h
            exact hk
          · replace h := (if_neg b27).symm.trans h
            refine V_iload_n X 5 dX12_span_89 rfl rfl ?_
            refine V_iload X 0 dX12_span_90 rfl ?_
            refine V_callSi X (As := [.int x9, .int x22]) (M_X12_greater) (va_cwS 2 X.2.2.2.2.2.2.1 (gS wm_RX12_73 wst_X12_greater win_RX12 wc_X12_greater) rfl rfl rfl hd_X12_greater.2 ⟨Nat.le_of_ble_eq_true rfl, Nat.le_of_ble_eq_true rfl⟩) rfl (Nat.le_of_ble_eq_true rfl) dX12_span_92 rfl ?_
            refine V_goto X (tgt := 104) dX12_span_95 (by decide) ?_
            refine V_sub X [2, 3, 4, 6] (lv' := [(0, .ref (zad y (0, 32, 0))), (1, .int a1), (2, .int a2), (4, .int x10)]) rfl ?_
            obtain rfl := pr1 h
            exact hk
        · replace h := (if_pos b25).symm.trans h
          refine V_iload X 0 dX12_span_80 rfl ?_
          refine V_goto X (tgt := 104) dX12_span_82 (by decide) ?_
          refine V_sub X [2, 3, 4, 6] (lv' := [(0, .ref (zad y (0, 32, 0))), (1, .int a1), (2, .int a2), (4, .int x10)]) rfl ?_
          obtain rfl := pr1 h
          exact hk
    · replace h := (if_neg b6).symm.trans h
      refine V_iconst X 0 dX12_span_26 (by decide) ?_
      exact V_iretW X h dX12_span_27
  replace h := h1
  clear h1
  refine V_if_ne X (tgt := 15) dX12_span_8 (by decide) (fun b3 => ?_) (fun b3 => ?_)
  · replace h := (if_neg b3).symm.trans h
    refine V_iconst X 0 dX12_span_15 (by decide) ?_
    obtain rfl := pr1 h
    exact hk
  · replace h := (if_pos b3).symm.trans h
    refine V_iconst X 1 dX12_span_11 (by decide) ?_
    refine V_goto X (tgt := 16) dX12_span_12 (by decide) ?_
    obtain rfl := pr1 h
    exact hk

def f_X12_logged (a1 : Int32) (a2 : Int32) (μ : ZMem) : Option (Int32) := gd (zin ((97 + (4 * a1)) + a2) 737) (some (μ (0, 33, 0) ((97 + (4 * a1)) + a2).toNatClampNeg))
set_option maxRecDepth 100000 in
set_option maxHeartbeats 4000000 in
theorem M_X12_logged {l : Launch} {D : va_G} {y : ZLay} {a1 : Int32} {a2 : Int32}  {μ : ZMem} {r : Int32} (h : f_X12_logged a1 a2 μ = some r) : MI l yX12_logged wb_X12_logged rm_X12_logged D y [.ref (zad y (0, 32, 0)), .int a1, .int a2] μ r μ := by
  unfold f_X12_logged at h
  refine MI_of RX12 [(0, .ref (zad y (0, 32, 0))), (1, .int a1), (2, .int a2)] (by decide) rfl rfl (Nat.le_of_ble_eq_true rfl) rfl ?_
  intro p e s m args below meth c A X
  refine V_aload_n X 0 dX12_logged_0 rfl rfl ?_
  refine V_getr X (o := (0, 32, 0)) (i := (0, 33, 0)) (ci := 12) (k := 1) (N := 30) (T := TX12) (C := RX12) ⟨by decide, rfl⟩ rfl rfl rfl (by decide) (mBa inB_X12) (mB wl_RX12_7) dX12_logged_1 ?_
  refine V_bipush X 97 dX12_logged_4 (by decide) ?_
  refine V_iconst X 4 dX12_logged_6 (by decide) ?_
  refine V_iload_n X 1 dX12_logged_7 rfl rfl ?_
  refine V_imul X dX12_logged_8 ?_
  refine V_iadd X dX12_logged_9 ?_
  refine V_iload_n X 2 dX12_logged_10 rfl rfl ?_
  refine V_iadd X dX12_logged_11 ?_
  obtain ⟨g1, h⟩ := gd_some h
  refine V_iald X ((97 + (4 * a1)) + a2).toNatClampNeg rfl (o := (0, 33, 0)) (n := 737) ⟨by decide, rfl⟩ rfl rfl g1 dX12_logged_12 ?_
  exact V_iretR X h dX12_logged_13

def f_X12_led (a1 : Int32) (a2 : Int32) (μ : ZMem) : Option (Int32 × ZMem) := bd (f_X12_isNode a1 μ) (fun (x2 : Int32) => zlt (α := Int32) (if x2 = 0 then 1 else 0) (fun (x4 : Int32) => zlt (mset μ (0, 32, 0) 0 x4) (fun (μ5 : ZMem) => if (μ5 (0, 32, 0) 0) ≤ 0 then zlt ((μ5 (0, 33, 0) 7) - 1) (fun (x7 : Int32) => bd2 (lp (σ := Int32 × Int32 × Int32) (fun q => un3 q (fun (x8 : Int32) (x9 : Int32) (x10 : Int32) => if x10 < 0 then some (.inr (x8, x9)) else bd (f_X12_logged x10 1 μ5) (fun (x15 : Int32) => bd2 (α := Int32) (β := Int32) (if x15 = a1 then bd (f_X12_logged x10 0 μ5) (fun (x20 : Int32) => some ((x8 + 1), x20)) else some (x8, x9)) (fun (x17 : Int32) (x18 : Int32) => some (.inl (x17, x18, (x10 + (-1)))))))) FU (0, (-1), x7)) (fun (x11 : Int32) (x12 : Int32) => zlt (α := Int32) (if a2 = 0 then x11 else x12) (fun (x22 : Int32) => some (x22, μ5)))) else some (0, μ5))))
set_option maxRecDepth 100000 in
set_option maxHeartbeats 4000000 in
theorem M_X12_led {l : Launch} {D : va_G} {y : ZLay} {a1 : Int32} {a2 : Int32}  {μ : ZMem} {r : Int32} {μ0 : ZMem} (h : f_X12_led a1 a2 μ = some (r, μ0)) : MI l yX12_led wb_X12_led rm_X12_led D y [.ref (zad y (0, 32, 0)), .int a1, .int a2] μ r μ0 := by
  unfold f_X12_led at h
  refine MI_of RX12 [(0, .ref (zad y (0, 32, 0))), (1, .int a1), (2, .int a2)] (by decide) rfl rfl (Nat.le_of_ble_eq_true rfl) rfl ?_
  intro p e s m args below meth c A X
  refine V_aload_n X 0 dX12_led_0 rfl rfl ?_
  refine V_aload_n X 0 dX12_led_1 rfl rfl ?_
  refine V_iload_n X 1 dX12_led_2 rfl rfl ?_
  obtain ⟨x2, c1, h⟩ := bd_some h
  refine V_callVi X (As := [.int a1]) (M_X12_isNode c1) (cwV 1 X.2.2.2.2.2.2.1 (gV wm_RX12_347 wi_X12_isNode wse_X12_isNode win_RX12 wc_X12_isNode) rfl rfl rfl hd_X12_isNode ⟨Nat.le_of_ble_eq_true rfl, Nat.le_of_ble_eq_true rfl⟩) (b := (0, 32, 0)) ⟨by decide, rfl⟩ rfl rfl rfl rfl (Nat.le_of_ble_eq_true rfl) dX12_led_3 rfl ?_
  obtain ⟨x4, h1, h⟩ := zl1_some h
  have hk : V X μ 14 [(0, .ref (zad y (0, 32, 0))), (1, .int a1), (2, .int a2)] [.int x4, .ref (zad y (0, 32, 0))] := by
    clear h1
    refine V_puti X tyX12 .int (o := (0, 32, 0)) (ci := 12) (k := 0) (N := 30) (T := TX12) (C := RX12) ⟨by decide, rfl⟩ rfl rfl rfl (by decide) (mBa inB_X12) tyX12_ok nmX12 (mB wl_RX12_59) rfl rfl rfl rfl dX12_led_14 ?_
    refine zlt_el (P := fun (μ5 : ZMem) => V X μ5 17 [(0, .ref (zad y (0, 32, 0))), (1, .int a1), (2, .int a2)] []) h (fun μ5 h => ?_)
    refine V_aload_n X 0 dX12_led_17 rfl rfl ?_
    refine V_geti X (o := (0, 32, 0)) (ci := 12) (k := 0) (N := 30) (T := TX12) (C := RX12) ⟨by decide, rfl⟩ rfl rfl rfl (by decide) (mBa inB_X12) (mB wl_RX12_59) dX12_led_18 ?_
    refine V_if_le X (tgt := 26) dX12_led_21 (by decide) (fun b6 => ?_) (fun b6 => ?_)
    · replace h := (if_pos b6).symm.trans h
      refine V_iconst X 0 dX12_led_26 (by decide) ?_
      refine V_istore_n X [(3, .int 0), (0, .ref (zad y (0, 32, 0))), (1, .int a1), (2, .int a2)] dX12_led_27 rfl (by decide) rfl ?_
      refine V_iconst X (-1) dX12_led_28 (by decide) ?_
      refine V_istore X [(4, .int (-1)), (3, .int 0), (0, .ref (zad y (0, 32, 0))), (1, .int a1), (2, .int a2)] dX12_led_29 (by decide) rfl ?_
      refine V_aload_n X 2 dX12_led_31 rfl rfl ?_
      refine V_getr X (o := (0, 32, 0)) (i := (0, 33, 0)) (ci := 12) (k := 1) (N := 30) (T := TX12) (C := RX12) ⟨by decide, rfl⟩ rfl rfl rfl (by decide) (mBa inB_X12) (mB wl_RX12_7) dX12_led_32 ?_
      refine V_bipush X 7 dX12_led_35 (by decide) ?_
      refine V_iald X 7 (by decide) (o := (0, 33, 0)) (n := 737) ⟨by decide, rfl⟩ rfl rfl (by decide) dX12_led_37 ?_
      refine V_iconst X 1 dX12_led_38 (by decide) ?_
      refine V_isub X dX12_led_39 ?_
      refine V_istore X [(5, .int ((μ5 (0, 33, 0) 7) - 1)), (4, .int (-1)), (3, .int 0), (0, .ref (zad y (0, 32, 0))), (1, .int a1), (2, .int a2)] dX12_led_40 (by decide) rfl ?_
      refine zlt_el (P := fun (x7 : Int32) => V X μ5 42 [(5, .int x7), (4, .int (-1)), (3, .int 0), (0, .ref (zad y (0, 32, 0))), (1, .int a1), (2, .int a2)] []) h (fun x7 h => ?_)
      refine V_sub X [3, 4, 5, 2, 1, 0] (lv' := [(0, .ref (zad y (0, 32, 0))), (1, .int a1), (2, .int a2), (3, .int 0), (4, .int (-1)), (5, .int x7)]) rfl ?_
      obtain ⟨x11, x12, hl, h⟩ := bd2_some h
      have hk : V X μ5 79 [(2, .int a2), (3, .int x11), (4, .int x12)] [] := by
        clear hl
        refine V_iload_n X 0 dX12_led_79 rfl rfl ?_
        obtain ⟨x22, h1, h⟩ := zl1_some h
        have hk : V X μ5 89 [] [.int x22] := by
          clear h1
          exact V_iretW X h dX12_led_89
        replace h := h1
        clear h1
        refine V_if_eq X (tgt := 88) dX12_led_80 (by decide) (fun b21 => ?_) (fun b21 => ?_)
        · replace h := (if_pos b21).symm.trans h
          refine V_iload_n X 1 dX12_led_88 rfl rfl ?_
          refine V_sub X [] (lv' := []) rfl ?_
          obtain rfl := pr1 h
          exact hk
        · replace h := (if_neg b21).symm.trans h
          refine V_iload X 2 dX12_led_83 rfl ?_
          refine V_goto X (tgt := 89) dX12_led_85 (by decide) ?_
          refine V_sub X [] (lv' := []) rfl ?_
          obtain rfl := pr1 h
          exact hk
      refine lp_ind (P := fun q => V X μ5 42 [(0, .ref (zad y (0, 32, 0))), (1, .int a1), (2, .int a2), (3, .int q.1), (4, .int q.2.1), (5, .int q.2.2)] []) (fun q z h hz => ?_) hl
      obtain ⟨x8, x9, x10⟩ := q
      replace h := un3_eq h
      show V X μ5 42 [(0, .ref (zad y (0, 32, 0))), (1, .int a1), (2, .int a2), (3, .int x8), (4, .int x9), (5, .int x10)] []
      refine V_iload X 5 dX12_led_42 rfl ?_
      refine V_if_lt X (tgt := 79) dX12_led_44 (by decide) (fun b13 => ?_) (fun b13 => ?_)
      · replace h := (if_pos b13).symm.trans h
        refine V_sub X [2, 3, 4] (lv' := [(2, .int a2), (3, .int x8), (4, .int x9)]) rfl ?_
        cases h
        obtain ⟨rfl, rfl⟩ := pr2 hz
        exact hk
      · replace h := (if_neg b13).symm.trans h
        refine V_aload_n X 0 dX12_led_47 rfl rfl ?_
        refine V_iload X 5 dX12_led_48 rfl ?_
        refine V_iconst X 1 dX12_led_50 (by decide) ?_
        obtain ⟨x15, c14, h⟩ := bd_some h
        refine V_callVi X (As := [.int x10, .int 1]) (M_X12_logged c14) (cwV 2 X.2.2.2.2.2.2.1 (gV wm_RX12_427 wi_X12_logged wse_X12_logged win_RX12 wc_X12_logged) rfl rfl rfl hd_X12_logged ⟨Nat.le_of_ble_eq_true rfl, Nat.le_of_ble_eq_true rfl⟩) (b := (0, 32, 0)) ⟨by decide, rfl⟩ rfl rfl rfl rfl (Nat.le_of_ble_eq_true rfl) dX12_led_51 rfl ?_
        refine V_iload_n X 1 dX12_led_54 rfl rfl ?_
        obtain ⟨x17, x18, h1, h⟩ := bd2_some h
        have hk : V X μ5 73 [(0, .ref (zad y (0, 32, 0))), (1, .int a1), (2, .int a2), (3, .int x17), (4, .int x18), (5, .int x10)] [] := by
          clear h1
          refine V_inc X 5 (-1) [(5, .int (x10 + (-1))), (0, .ref (zad y (0, 32, 0))), (1, .int a1), (2, .int a2), (3, .int x17), (4, .int x18)] dX12_led_73 rfl (by decide) (by decide) rfl ?_
          refine V_goto X (tgt := 42) dX12_led_76 (by decide) ?_
          refine V_sub X [1, 2, 3, 4, 5, 0] (lv' := [(0, .ref (zad y (0, 32, 0))), (1, .int a1), (2, .int a2), (3, .int x17), (4, .int x18), (5, .int (x10 + (-1)))]) rfl ?_
          cases h
          exact hz
        replace h := h1
        clear h1
        refine V_icmp_eq X (tgt := 61) dX12_led_55 (by decide) (fun b16 => ?_) (fun b16 => ?_)
        · replace h := (if_pos b16).symm.trans h
          refine V_inc X 3 1 [(3, .int (x8 + 1)), (0, .ref (zad y (0, 32, 0))), (1, .int a1), (2, .int a2), (4, .int x9), (5, .int x10)] dX12_led_61 rfl (by decide) (by decide) rfl ?_
          refine V_aload_n X 1 dX12_led_64 rfl rfl ?_
          refine V_iload X 5 dX12_led_65 rfl ?_
          refine V_iconst X 0 dX12_led_67 (by decide) ?_
          obtain ⟨x20, c19, h⟩ := bd_some h
          refine V_callVi X (As := [.int x10, .int 0]) (M_X12_logged c19) (cwV 2 X.2.2.2.2.2.2.1 (gV wm_RX12_427 wi_X12_logged wse_X12_logged win_RX12 wc_X12_logged) rfl rfl rfl hd_X12_logged ⟨Nat.le_of_ble_eq_true rfl, Nat.le_of_ble_eq_true rfl⟩) (b := (0, 32, 0)) ⟨by decide, rfl⟩ rfl rfl rfl rfl (Nat.le_of_ble_eq_true rfl) dX12_led_68 rfl ?_
          refine V_istore X [(4, .int x20), (3, .int (x8 + 1)), (0, .ref (zad y (0, 32, 0))), (1, .int a1), (2, .int a2), (5, .int x10)] dX12_led_71 (by decide) rfl ?_
          refine V_sub X [2, 3, 4, 1, 0, 5] (lv' := [(0, .ref (zad y (0, 32, 0))), (1, .int a1), (2, .int a2), (3, .int (x8 + 1)), (4, .int x20), (5, .int x10)]) rfl ?_
          obtain ⟨rfl, rfl⟩ := so2 h
          exact hk
        · replace h := (if_neg b16).symm.trans h
          refine V_goto X (tgt := 73) dX12_led_58 (by decide) ?_
          obtain ⟨rfl, rfl⟩ := so2 h
          exact hk
    · replace h := (if_neg b6).symm.trans h
      refine V_iconst X 0 dX12_led_24 (by decide) ?_
      exact V_iretW X h dX12_led_25
  replace h := h1
  clear h1
  refine V_if_ne X (tgt := 13) dX12_led_6 (by decide) (fun b3 => ?_) (fun b3 => ?_)
  · replace h := (if_neg b3).symm.trans h
    refine V_iconst X 0 dX12_led_13 (by decide) ?_
    obtain rfl := pr1 h
    exact hk
  · replace h := (if_pos b3).symm.trans h
    refine V_iconst X 1 dX12_led_9 (by decide) ?_
    refine V_goto X (tgt := 14) dX12_led_10 (by decide) ?_
    obtain rfl := pr1 h
    exact hk

def f_X12_log (a1 : Int32) (a2 : Int32) (μ : ZMem) : Option (Int32 × ZMem) := bd (f_X12_isIn a2 0 3) (fun (x2 : Int32) => zlt (α := Int32) (if x2 = 0 then 1 else 0) (fun (x4 : Int32) => zlt (mset μ (0, 32, 0) 0 x4) (fun (μ5 : ZMem) => if (μ5 (0, 32, 0) 0) ≤ 0 then bd (f_X12_isIn a1 0 ((μ5 (0, 33, 0) 7) - 1)) (fun (x8 : Int32) => bd (α := Int32) (if x8 = 0 then some (-1) else bd (f_X12_logged a1 a2 μ5) (fun (x12 : Int32) => some x12)) (fun (x10 : Int32) => some (x10, μ5))) else some (0, μ5))))
set_option maxRecDepth 100000 in
set_option maxHeartbeats 4000000 in
theorem M_X12_log {l : Launch} {D : va_G} {y : ZLay} {a1 : Int32} {a2 : Int32}  {μ : ZMem} {r : Int32} {μ0 : ZMem} (h : f_X12_log a1 a2 μ = some (r, μ0)) : MI l yX12_log wb_X12_log rm_X12_log D y [.ref (zad y (0, 32, 0)), .int a1, .int a2] μ r μ0 := by
  unfold f_X12_log at h
  refine MI_of RX12 [(0, .ref (zad y (0, 32, 0))), (1, .int a1), (2, .int a2)] (by decide) rfl rfl (Nat.le_of_ble_eq_true rfl) rfl ?_
  intro p e s m args below meth c A X
  refine V_aload_n X 0 dX12_log_0 rfl rfl ?_
  refine V_iload_n X 2 dX12_log_1 rfl rfl ?_
  refine V_iconst X 0 dX12_log_2 (by decide) ?_
  refine V_iconst X 3 dX12_log_3 (by decide) ?_
  obtain ⟨x2, c1, h⟩ := bd_some h
  refine V_callSi X (As := [.int a2, .int 0, .int 3]) (M_X12_isIn c1) (va_cwS 3 X.2.2.2.2.2.2.1 (gS wm_RX12_62 wst_X12_isIn win_RX12 wc_X12_isIn) rfl rfl rfl hd_X12_isIn.2 ⟨Nat.le_of_ble_eq_true rfl, Nat.le_of_ble_eq_true rfl⟩) rfl (Nat.le_of_ble_eq_true rfl) dX12_log_4 rfl ?_
  obtain ⟨x4, h1, h⟩ := zl1_some h
  have hk : V X μ 15 [(0, .ref (zad y (0, 32, 0))), (1, .int a1), (2, .int a2)] [.int x4, .ref (zad y (0, 32, 0))] := by
    clear h1
    refine V_puti X tyX12 .int (o := (0, 32, 0)) (ci := 12) (k := 0) (N := 30) (T := TX12) (C := RX12) ⟨by decide, rfl⟩ rfl rfl rfl (by decide) (mBa inB_X12) tyX12_ok nmX12 (mB wl_RX12_59) rfl rfl rfl rfl dX12_log_15 ?_
    refine zlt_el (P := fun (μ5 : ZMem) => V X μ5 18 [(0, .ref (zad y (0, 32, 0))), (1, .int a1), (2, .int a2)] []) h (fun μ5 h => ?_)
    refine V_aload_n X 0 dX12_log_18 rfl rfl ?_
    refine V_geti X (o := (0, 32, 0)) (ci := 12) (k := 0) (N := 30) (T := TX12) (C := RX12) ⟨by decide, rfl⟩ rfl rfl rfl (by decide) (mBa inB_X12) (mB wl_RX12_59) dX12_log_19 ?_
    refine V_if_le X (tgt := 27) dX12_log_22 (by decide) (fun b6 => ?_) (fun b6 => ?_)
    · replace h := (if_pos b6).symm.trans h
      refine V_iload_n X 1 dX12_log_27 rfl rfl ?_
      refine V_iconst X 0 dX12_log_28 (by decide) ?_
      refine V_aload_n X 0 dX12_log_29 rfl rfl ?_
      refine V_getr X (o := (0, 32, 0)) (i := (0, 33, 0)) (ci := 12) (k := 1) (N := 30) (T := TX12) (C := RX12) ⟨by decide, rfl⟩ rfl rfl rfl (by decide) (mBa inB_X12) (mB wl_RX12_7) dX12_log_30 ?_
      refine V_bipush X 7 dX12_log_33 (by decide) ?_
      refine V_iald X 7 (by decide) (o := (0, 33, 0)) (n := 737) ⟨by decide, rfl⟩ rfl rfl (by decide) dX12_log_35 ?_
      refine V_iconst X 1 dX12_log_36 (by decide) ?_
      refine V_isub X dX12_log_37 ?_
      obtain ⟨x8, c7, h⟩ := bd_some h
      refine V_callSi X (As := [.int a1, .int 0, .int ((μ5 (0, 33, 0) 7) - 1)]) (M_X12_isIn c7) (va_cwS 3 X.2.2.2.2.2.2.1 (gS wm_RX12_62 wst_X12_isIn win_RX12 wc_X12_isIn) rfl rfl rfl hd_X12_isIn.2 ⟨Nat.le_of_ble_eq_true rfl, Nat.le_of_ble_eq_true rfl⟩) rfl (Nat.le_of_ble_eq_true rfl) dX12_log_38 rfl ?_
      obtain ⟨x10, h1, h⟩ := bd_some h
      have hk : V X μ5 54 [] [.int x10] := by
        clear h1
        exact V_iretW X h dX12_log_54
      replace h := h1
      clear h1
      refine V_if_eq X (tgt := 53) dX12_log_41 (by decide) (fun b9 => ?_) (fun b9 => ?_)
      · replace h := (if_pos b9).symm.trans h
        refine V_iconst X (-1) dX12_log_53 (by decide) ?_
        refine V_sub X [] (lv' := []) rfl ?_
        obtain rfl := so1 h
        exact hk
      · replace h := (if_neg b9).symm.trans h
        refine V_aload_n X 0 dX12_log_44 rfl rfl ?_
        refine V_iload_n X 1 dX12_log_45 rfl rfl ?_
        refine V_iload_n X 2 dX12_log_46 rfl rfl ?_
        obtain ⟨x12, c11, h⟩ := bd_some h
        refine V_callVi X (As := [.int a1, .int a2]) (M_X12_logged c11) (cwV 2 X.2.2.2.2.2.2.1 (gV wm_RX12_427 wi_X12_logged wse_X12_logged win_RX12 wc_X12_logged) rfl rfl rfl hd_X12_logged ⟨Nat.le_of_ble_eq_true rfl, Nat.le_of_ble_eq_true rfl⟩) (b := (0, 32, 0)) ⟨by decide, rfl⟩ rfl rfl rfl rfl (Nat.le_of_ble_eq_true rfl) dX12_log_47 rfl ?_
        refine V_goto X (tgt := 54) dX12_log_50 (by decide) ?_
        refine V_sub X [] (lv' := []) rfl ?_
        obtain rfl := so1 h
        exact hk
    · replace h := (if_neg b6).symm.trans h
      refine V_iconst X 0 dX12_log_25 (by decide) ?_
      exact V_iretW X h dX12_log_26
  replace h := h1
  clear h1
  refine V_if_ne X (tgt := 14) dX12_log_7 (by decide) (fun b3 => ?_) (fun b3 => ?_)
  · replace h := (if_neg b3).symm.trans h
    refine V_iconst X 0 dX12_log_14 (by decide) ?_
    obtain rfl := pr1 h
    exact hk
  · replace h := (if_pos b3).symm.trans h
    refine V_iconst X 1 dX12_log_10 (by decide) ?_
    refine V_goto X (tgt := 15) dX12_log_11 (by decide) ?_
    obtain rfl := pr1 h
    exact hk

def f_X12_seed (a1 : Int32) (μ : ZMem) : Option (Int32 × ZMem) := zlt (mset μ (0, 32, 0) 0 0) (fun (μ1 : ZMem) => zlt (μ1 (0, 33, 0) 8) (fun (x2 : Int32) => zlt (mset μ1 (0, 33, 0) 8 a1) (fun (μ3 : ZMem) => some (x2, μ3))))
set_option maxRecDepth 100000 in
set_option maxHeartbeats 4000000 in
theorem M_X12_seed {l : Launch} {D : va_G} {y : ZLay} {a1 : Int32}  {μ : ZMem} {r : Int32} {μ0 : ZMem} (h : f_X12_seed a1 μ = some (r, μ0)) : MI l yX12_seed wb_X12_seed rm_X12_seed D y [.ref (zad y (0, 32, 0)), .int a1] μ r μ0 := by
  unfold f_X12_seed at h
  refine MI_of RX12 [(0, .ref (zad y (0, 32, 0))), (1, .int a1)] (by decide) rfl rfl (Nat.le_of_ble_eq_true rfl) rfl ?_
  intro p e s m args below meth c A X
  refine V_aload_n X 0 dX12_seed_0 rfl rfl ?_
  refine V_iconst X 0 dX12_seed_1 (by decide) ?_
  refine V_puti X tyX12 .int (o := (0, 32, 0)) (ci := 12) (k := 0) (N := 30) (T := TX12) (C := RX12) ⟨by decide, rfl⟩ rfl rfl rfl (by decide) (mBa inB_X12) tyX12_ok nmX12 (mB wl_RX12_59) rfl rfl rfl rfl dX12_seed_2 ?_
  refine zlt_el (P := fun (μ1 : ZMem) => V X μ1 5 [(0, .ref (zad y (0, 32, 0))), (1, .int a1)] []) h (fun μ1 h => ?_)
  refine V_aload_n X 0 dX12_seed_5 rfl rfl ?_
  refine V_getr X (o := (0, 32, 0)) (i := (0, 33, 0)) (ci := 12) (k := 1) (N := 30) (T := TX12) (C := RX12) ⟨by decide, rfl⟩ rfl rfl rfl (by decide) (mBa inB_X12) (mB wl_RX12_7) dX12_seed_6 ?_
  refine V_bipush X 8 dX12_seed_9 (by decide) ?_
  refine V_iald X 8 (by decide) (o := (0, 33, 0)) (n := 737) ⟨by decide, rfl⟩ rfl rfl (by decide) dX12_seed_11 ?_
  refine V_istore_n X [(2, .int (μ1 (0, 33, 0) 8)), (0, .ref (zad y (0, 32, 0))), (1, .int a1)] dX12_seed_12 rfl (by decide) rfl ?_
  refine zlt_el (P := fun (x2 : Int32) => V X μ1 13 [(2, .int x2), (0, .ref (zad y (0, 32, 0))), (1, .int a1)] []) h (fun x2 h => ?_)
  refine V_aload_n X 1 dX12_seed_13 rfl rfl ?_
  refine V_getr X (o := (0, 32, 0)) (i := (0, 33, 0)) (ci := 12) (k := 1) (N := 30) (T := TX12) (C := RX12) ⟨by decide, rfl⟩ rfl rfl rfl (by decide) (mBa inB_X12) (mB wl_RX12_7) dX12_seed_14 ?_
  refine V_bipush X 8 dX12_seed_17 (by decide) ?_
  refine V_iload_n X 2 dX12_seed_19 rfl rfl ?_
  refine V_iast X 8 (by decide) (o := (0, 33, 0)) (n := 737) ⟨by decide, rfl⟩ rfl rfl (by decide) dX12_seed_20 ?_
  refine zlt_el (P := fun (μ3 : ZMem) => V X μ3 21 [(2, .int x2), (0, .ref (zad y (0, 32, 0))), (1, .int a1)] []) h (fun μ3 h => ?_)
  refine V_iload_n X 0 dX12_seed_21 rfl rfl ?_
  exact V_iretW X h dX12_seed_22

def f_X12_undo (μ : ZMem) : Option (Int32 × ZMem) := zlt (mset μ (0, 32, 0) 0 0) (fun (μ1 : ZMem) => if (μ1 (0, 32, 0) 6) = 0 then some (0, μ1) else zlt (mset μ1 (0, 32, 0) 6 ((μ1 (0, 32, 0) 6) - 1)) (fun (μ3 : ZMem) => bd (lp (σ := Int32 × ZMem) (fun q => un2 q (fun (x4 : Int32) (μ5 : ZMem) => if 337 ≤ x4 then some (.inr μ5) else gd (zin ((337 * (μ5 (0, 32, 0) 6)) + x4) 4044) (gd (zin x4 737) (zlt (mset μ5 (0, 33, 0) x4.toNatClampNeg (μ5 (0, 36, 0) ((337 * (μ5 (0, 32, 0) 6)) + x4).toNatClampNeg)) (fun (μ10 : ZMem) => some (.inl ((x4 + 1), μ10))))))) FU (0, μ3)) (fun (μ6 : ZMem) => some (1, μ6))))
set_option maxRecDepth 100000 in
set_option maxHeartbeats 4000000 in
theorem M_X12_undo {l : Launch} {D : va_G} {y : ZLay}   {μ : ZMem} {r : Int32} {μ0 : ZMem} (h : f_X12_undo μ = some (r, μ0)) : MI l yX12_undo wb_X12_undo rm_X12_undo D y [.ref (zad y (0, 32, 0))] μ r μ0 := by
  unfold f_X12_undo at h
  refine MI_of RX12 [(0, .ref (zad y (0, 32, 0)))] (by decide) rfl rfl (Nat.le_of_ble_eq_true rfl) rfl ?_
  intro p e s m args below meth c A X
  refine V_aload_n X 0 dX12_undo_0 rfl rfl ?_
  refine V_iconst X 0 dX12_undo_1 (by decide) ?_
  refine V_puti X tyX12 .int (o := (0, 32, 0)) (ci := 12) (k := 0) (N := 30) (T := TX12) (C := RX12) ⟨by decide, rfl⟩ rfl rfl rfl (by decide) (mBa inB_X12) tyX12_ok nmX12 (mB wl_RX12_59) rfl rfl rfl rfl dX12_undo_2 ?_
  refine zlt_el (P := fun (μ1 : ZMem) => V X μ1 5 [(0, .ref (zad y (0, 32, 0)))] []) h (fun μ1 h => ?_)
  refine V_aload_n X 0 dX12_undo_5 rfl rfl ?_
  refine V_geti X (o := (0, 32, 0)) (ci := 12) (k := 6) (N := 30) (T := TX12) (C := RX12) ⟨by decide, rfl⟩ rfl rfl rfl (by decide) (mBa inB_X12) (mB wl_RX12_190) dX12_undo_6 ?_
  refine V_if_ne X (tgt := 14) dX12_undo_9 (by decide) (fun b2 => ?_) (fun b2 => ?_)
  · replace h := (if_neg b2).symm.trans h
    refine V_aload_n X 0 dX12_undo_14 rfl rfl ?_
    refine V_dup X dX12_undo_15 rfl ?_
    refine V_geti X (o := (0, 32, 0)) (ci := 12) (k := 6) (N := 30) (T := TX12) (C := RX12) ⟨by decide, rfl⟩ rfl rfl rfl (by decide) (mBa inB_X12) (mB wl_RX12_190) dX12_undo_16 ?_
    refine V_iconst X 1 dX12_undo_19 (by decide) ?_
    refine V_isub X dX12_undo_20 ?_
    refine V_puti X tyX12 .int (o := (0, 32, 0)) (ci := 12) (k := 6) (N := 30) (T := TX12) (C := RX12) ⟨by decide, rfl⟩ rfl rfl rfl (by decide) (mBa inB_X12) tyX12_ok nmX12 (mB wl_RX12_190) rfl rfl rfl rfl dX12_undo_21 ?_
    refine zlt_el (P := fun (μ3 : ZMem) => V X μ3 24 [(0, .ref (zad y (0, 32, 0)))] []) h (fun μ3 h => ?_)
    refine V_iconst X 0 dX12_undo_24 (by decide) ?_
    refine V_istore_n X [(1, .int 0), (0, .ref (zad y (0, 32, 0)))] dX12_undo_25 rfl (by decide) rfl ?_
    refine V_sub X [1, 0] (lv' := [(0, .ref (zad y (0, 32, 0))), (1, .int 0)]) rfl ?_
    obtain ⟨μ6, hl, h⟩ := bd_some h
    have hk : V X μ6 60 [] [] := by
      clear hl
      refine V_iconst X 1 dX12_undo_60 (by decide) ?_
      exact V_zretW X h (by decide) dX12_undo_61
    refine lp_ind (P := fun q => V X q.2 26 [(0, .ref (zad y (0, 32, 0))), (1, .int q.1)] []) (fun q z h hz => ?_) hl
    obtain ⟨x4, μ5⟩ := q
    replace h := un2_eq h
    show V X μ5 26 [(0, .ref (zad y (0, 32, 0))), (1, .int x4)] []
    refine V_iload_n X 1 dX12_undo_26 rfl rfl ?_
    refine V_sipush X 337 dX12_undo_27 (by decide) ?_
    refine V_icmp_ge X (tgt := 60) dX12_undo_30 (by decide) (fun b7 => ?_) (fun b7 => ?_)
    · replace h := (if_pos b7).symm.trans h
      refine V_sub X [] (lv' := []) rfl ?_
      cases h
      obtain rfl := pr1 hz
      exact hk
    · replace h := (if_neg b7).symm.trans h
      refine V_aload_n X 0 dX12_undo_33 rfl rfl ?_
      refine V_getr X (o := (0, 32, 0)) (i := (0, 33, 0)) (ci := 12) (k := 1) (N := 30) (T := TX12) (C := RX12) ⟨by decide, rfl⟩ rfl rfl rfl (by decide) (mBa inB_X12) (mB wl_RX12_7) dX12_undo_34 ?_
      refine V_iload_n X 1 dX12_undo_37 rfl rfl ?_
      refine V_aload_n X 0 dX12_undo_38 rfl rfl ?_
      refine V_getr X (o := (0, 32, 0)) (i := (0, 36, 0)) (ci := 12) (k := 5) (N := 30) (T := TX12) (C := RX12) ⟨by decide, rfl⟩ rfl rfl rfl (by decide) (mBa inB_X12) (mB wl_RX12_19) dX12_undo_39 ?_
      refine V_sipush X 337 dX12_undo_42 (by decide) ?_
      refine V_aload_n X 0 dX12_undo_45 rfl rfl ?_
      refine V_geti X (o := (0, 32, 0)) (ci := 12) (k := 6) (N := 30) (T := TX12) (C := RX12) ⟨by decide, rfl⟩ rfl rfl rfl (by decide) (mBa inB_X12) (mB wl_RX12_190) dX12_undo_46 ?_
      refine V_imul X dX12_undo_49 ?_
      refine V_iload_n X 1 dX12_undo_50 rfl rfl ?_
      refine V_iadd X dX12_undo_51 ?_
      obtain ⟨g8, h⟩ := gd_some h
      refine V_iald X ((337 * (μ5 (0, 32, 0) 6)) + x4).toNatClampNeg rfl (o := (0, 36, 0)) (n := 4044) ⟨by decide, rfl⟩ rfl rfl g8 dX12_undo_52 ?_
      obtain ⟨g9, h⟩ := gd_some h
      refine V_iast X x4.toNatClampNeg rfl (o := (0, 33, 0)) (n := 737) ⟨by decide, rfl⟩ rfl rfl g9 dX12_undo_53 ?_
      refine zlt_el (P := fun (μ10 : ZMem) => V X μ10 54 [(0, .ref (zad y (0, 32, 0))), (1, .int x4)] []) h (fun μ10 h => ?_)
      refine V_inc X 1 1 [(1, .int (x4 + 1)), (0, .ref (zad y (0, 32, 0)))] dX12_undo_54 rfl (by decide) (by decide) rfl ?_
      refine V_goto X (tgt := 26) dX12_undo_57 (by decide) ?_
      refine V_sub X [1, 0] (lv' := [(0, .ref (zad y (0, 32, 0))), (1, .int (x4 + 1))]) rfl ?_
      cases h
      exact hz
  · replace h := (if_pos b2).symm.trans h
    refine V_iconst X 0 dX12_undo_12 (by decide) ?_
    exact V_zretW X h (by decide) dX12_undo_13

def f_X12_image (μ : ZMem) : Option (ZMem) := zlt (mset μ (0, 32, 0) 0 0) (fun (μ1 : ZMem) => bd (lp (σ := Int32 × ZMem) (fun q => un2 q (fun (x2 : Int32) (μ3 : ZMem) => if 737 ≤ x2 then some (.inr μ3) else gd (zin x2 737) (zlt (mset μ3 (0, 34, 0) x2.toNatClampNeg (μ3 (0, 33, 0) x2.toNatClampNeg)) (fun (μ7 : ZMem) => some (.inl ((x2 + 1), μ7)))))) FU (0, μ1)) (fun (μ4 : ZMem) => zlt (mset μ4 (0, 32, 0) 3 1) (fun (μ8 : ZMem) => some μ8)))
set_option maxRecDepth 100000 in
set_option maxHeartbeats 4000000 in
theorem M_X12_image {l : Launch} {D : va_G} {y : ZLay}   {μ : ZMem} {μ0 : ZMem} (h : f_X12_image μ = some μ0) : MV l yX12_image wb_X12_image rm_X12_image D y [.ref (zad y (0, 32, 0))] μ μ0 := by
  unfold f_X12_image at h
  refine MV_of RX12 [(0, .ref (zad y (0, 32, 0)))] (by decide) rfl rfl (Nat.le_of_ble_eq_true rfl) rfl ?_
  intro p e s m args below meth c A X
  refine V_aload_n X 0 dX12_image_0 rfl rfl ?_
  refine V_iconst X 0 dX12_image_1 (by decide) ?_
  refine V_puti X tyX12 .int (o := (0, 32, 0)) (ci := 12) (k := 0) (N := 30) (T := TX12) (C := RX12) ⟨by decide, rfl⟩ rfl rfl rfl (by decide) (mBa inB_X12) tyX12_ok nmX12 (mB wl_RX12_59) rfl rfl rfl rfl dX12_image_2 ?_
  refine zlt_el (P := fun (μ1 : ZMem) => V X μ1 5 [(0, .ref (zad y (0, 32, 0)))] []) h (fun μ1 h => ?_)
  refine V_iconst X 0 dX12_image_5 (by decide) ?_
  refine V_istore_n X [(1, .int 0), (0, .ref (zad y (0, 32, 0)))] dX12_image_6 rfl (by decide) rfl ?_
  refine V_sub X [1, 0] (lv' := [(0, .ref (zad y (0, 32, 0))), (1, .int 0)]) rfl ?_
  obtain ⟨μ4, hl, h⟩ := bd_some h
  have hk : V X μ4 32 [(0, .ref (zad y (0, 32, 0)))] [] := by
    clear hl
    refine V_aload_n X 0 dX12_image_32 rfl rfl ?_
    refine V_iconst X 1 dX12_image_33 (by decide) ?_
    refine V_puti X tyX12 .boolean (o := (0, 32, 0)) (ci := 12) (k := 3) (N := 30) (T := TX12) (C := RX12) ⟨by decide, rfl⟩ rfl rfl rfl (by decide) (mBa inB_X12) tyX12_ok nmX12 (mB wl_RX12_430) rfl rfl (zbo_n (by decide)) (zbo_f (by decide)) dX12_image_34 ?_
    refine zlt_el (P := fun (μ8 : ZMem) => V X μ8 37 [(0, .ref (zad y (0, 32, 0)))] []) h (fun μ8 h => ?_)
    exact V_vretW X h dX12_image_37
  refine lp_ind (P := fun q => V X q.2 7 [(0, .ref (zad y (0, 32, 0))), (1, .int q.1)] []) (fun q z h hz => ?_) hl
  obtain ⟨x2, μ3⟩ := q
  replace h := un2_eq h
  show V X μ3 7 [(0, .ref (zad y (0, 32, 0))), (1, .int x2)] []
  refine V_iload_n X 1 dX12_image_7 rfl rfl ?_
  refine V_sipush X 737 dX12_image_8 (by decide) ?_
  refine V_icmp_ge X (tgt := 32) dX12_image_11 (by decide) (fun b5 => ?_) (fun b5 => ?_)
  · replace h := (if_pos b5).symm.trans h
    refine V_sub X [0] (lv' := [(0, .ref (zad y (0, 32, 0)))]) rfl ?_
    cases h
    obtain rfl := pr1 hz
    exact hk
  · replace h := (if_neg b5).symm.trans h
    refine V_aload_n X 0 dX12_image_14 rfl rfl ?_
    refine V_getr X (o := (0, 32, 0)) (i := (0, 34, 0)) (ci := 12) (k := 2) (N := 30) (T := TX12) (C := RX12) ⟨by decide, rfl⟩ rfl rfl rfl (by decide) (mBa inB_X12) (mB wl_RX12_13) dX12_image_15 ?_
    refine V_iload_n X 1 dX12_image_18 rfl rfl ?_
    refine V_aload_n X 0 dX12_image_19 rfl rfl ?_
    refine V_getr X (o := (0, 32, 0)) (i := (0, 33, 0)) (ci := 12) (k := 1) (N := 30) (T := TX12) (C := RX12) ⟨by decide, rfl⟩ rfl rfl rfl (by decide) (mBa inB_X12) (mB wl_RX12_7) dX12_image_20 ?_
    refine V_iload_n X 1 dX12_image_23 rfl rfl ?_
    obtain ⟨g6, h⟩ := gd_some h
    refine V_iald X x2.toNatClampNeg rfl (o := (0, 33, 0)) (n := 737) ⟨by decide, rfl⟩ rfl rfl g6 dX12_image_24 ?_
    refine V_iast X x2.toNatClampNeg rfl (o := (0, 34, 0)) (n := 737) ⟨by decide, rfl⟩ rfl rfl g6 dX12_image_25 ?_
    refine zlt_el (P := fun (μ7 : ZMem) => V X μ7 26 [(0, .ref (zad y (0, 32, 0))), (1, .int x2)] []) h (fun μ7 h => ?_)
    refine V_inc X 1 1 [(1, .int (x2 + 1)), (0, .ref (zad y (0, 32, 0)))] dX12_image_26 rfl (by decide) (by decide) rfl ?_
    refine V_goto X (tgt := 7) dX12_image_29 (by decide) ?_
    refine V_sub X [1, 0] (lv' := [(0, .ref (zad y (0, 32, 0))), (1, .int (x2 + 1))]) rfl ?_
    cases h
    exact hz

def f_X12_back (μ : ZMem) : Option (Int32 × ZMem) := zlt (mset μ (0, 32, 0) 0 0) (fun (μ1 : ZMem) => if (μ1 (0, 32, 0) 3) = 0 then some (0, μ1) else bd (lp (σ := Int32 × ZMem) (fun q => un2 q (fun (x3 : Int32) (μ4 : ZMem) => if 737 ≤ x3 then some (.inr μ4) else gd (zin x3 737) (zlt (mset μ4 (0, 33, 0) x3.toNatClampNeg (μ4 (0, 34, 0) x3.toNatClampNeg)) (fun (μ8 : ZMem) => some (.inl ((x3 + 1), μ8)))))) FU (0, μ1)) (fun (μ5 : ZMem) => zlt (mset μ5 (0, 32, 0) 6 0) (fun (μ9 : ZMem) => some (1, μ9))))
set_option maxRecDepth 100000 in
set_option maxHeartbeats 4000000 in
theorem M_X12_back {l : Launch} {D : va_G} {y : ZLay}   {μ : ZMem} {r : Int32} {μ0 : ZMem} (h : f_X12_back μ = some (r, μ0)) : MI l yX12_back wb_X12_back rm_X12_back D y [.ref (zad y (0, 32, 0))] μ r μ0 := by
  unfold f_X12_back at h
  refine MI_of RX12 [(0, .ref (zad y (0, 32, 0)))] (by decide) rfl rfl (Nat.le_of_ble_eq_true rfl) rfl ?_
  intro p e s m args below meth c A X
  refine V_aload_n X 0 dX12_back_0 rfl rfl ?_
  refine V_iconst X 0 dX12_back_1 (by decide) ?_
  refine V_puti X tyX12 .int (o := (0, 32, 0)) (ci := 12) (k := 0) (N := 30) (T := TX12) (C := RX12) ⟨by decide, rfl⟩ rfl rfl rfl (by decide) (mBa inB_X12) tyX12_ok nmX12 (mB wl_RX12_59) rfl rfl rfl rfl dX12_back_2 ?_
  refine zlt_el (P := fun (μ1 : ZMem) => V X μ1 5 [(0, .ref (zad y (0, 32, 0)))] []) h (fun μ1 h => ?_)
  refine V_aload_n X 0 dX12_back_5 rfl rfl ?_
  refine V_geti X (o := (0, 32, 0)) (ci := 12) (k := 3) (N := 30) (T := TX12) (C := RX12) ⟨by decide, rfl⟩ rfl rfl rfl (by decide) (mBa inB_X12) (mB wl_RX12_430) dX12_back_6 ?_
  refine V_if_ne X (tgt := 14) dX12_back_9 (by decide) (fun b2 => ?_) (fun b2 => ?_)
  · replace h := (if_neg b2).symm.trans h
    refine V_iconst X 0 dX12_back_14 (by decide) ?_
    refine V_istore_n X [(1, .int 0), (0, .ref (zad y (0, 32, 0)))] dX12_back_15 rfl (by decide) rfl ?_
    refine V_sub X [1, 0] (lv' := [(0, .ref (zad y (0, 32, 0))), (1, .int 0)]) rfl ?_
    obtain ⟨μ5, hl, h⟩ := bd_some h
    have hk : V X μ5 41 [(0, .ref (zad y (0, 32, 0)))] [] := by
      clear hl
      refine V_aload_n X 0 dX12_back_41 rfl rfl ?_
      refine V_iconst X 0 dX12_back_42 (by decide) ?_
      refine V_puti X tyX12 .int (o := (0, 32, 0)) (ci := 12) (k := 6) (N := 30) (T := TX12) (C := RX12) ⟨by decide, rfl⟩ rfl rfl rfl (by decide) (mBa inB_X12) tyX12_ok nmX12 (mB wl_RX12_190) rfl rfl rfl rfl dX12_back_43 ?_
      refine zlt_el (P := fun (μ9 : ZMem) => V X μ9 46 [(0, .ref (zad y (0, 32, 0)))] []) h (fun μ9 h => ?_)
      refine V_iconst X 1 dX12_back_46 (by decide) ?_
      exact V_zretW X h (by decide) dX12_back_47
    refine lp_ind (P := fun q => V X q.2 16 [(0, .ref (zad y (0, 32, 0))), (1, .int q.1)] []) (fun q z h hz => ?_) hl
    obtain ⟨x3, μ4⟩ := q
    replace h := un2_eq h
    show V X μ4 16 [(0, .ref (zad y (0, 32, 0))), (1, .int x3)] []
    refine V_iload_n X 1 dX12_back_16 rfl rfl ?_
    refine V_sipush X 737 dX12_back_17 (by decide) ?_
    refine V_icmp_ge X (tgt := 41) dX12_back_20 (by decide) (fun b6 => ?_) (fun b6 => ?_)
    · replace h := (if_pos b6).symm.trans h
      refine V_sub X [0] (lv' := [(0, .ref (zad y (0, 32, 0)))]) rfl ?_
      cases h
      obtain rfl := pr1 hz
      exact hk
    · replace h := (if_neg b6).symm.trans h
      refine V_aload_n X 0 dX12_back_23 rfl rfl ?_
      refine V_getr X (o := (0, 32, 0)) (i := (0, 33, 0)) (ci := 12) (k := 1) (N := 30) (T := TX12) (C := RX12) ⟨by decide, rfl⟩ rfl rfl rfl (by decide) (mBa inB_X12) (mB wl_RX12_7) dX12_back_24 ?_
      refine V_iload_n X 1 dX12_back_27 rfl rfl ?_
      refine V_aload_n X 0 dX12_back_28 rfl rfl ?_
      refine V_getr X (o := (0, 32, 0)) (i := (0, 34, 0)) (ci := 12) (k := 2) (N := 30) (T := TX12) (C := RX12) ⟨by decide, rfl⟩ rfl rfl rfl (by decide) (mBa inB_X12) (mB wl_RX12_13) dX12_back_29 ?_
      refine V_iload_n X 1 dX12_back_32 rfl rfl ?_
      obtain ⟨g7, h⟩ := gd_some h
      refine V_iald X x3.toNatClampNeg rfl (o := (0, 34, 0)) (n := 737) ⟨by decide, rfl⟩ rfl rfl g7 dX12_back_33 ?_
      refine V_iast X x3.toNatClampNeg rfl (o := (0, 33, 0)) (n := 737) ⟨by decide, rfl⟩ rfl rfl g7 dX12_back_34 ?_
      refine zlt_el (P := fun (μ8 : ZMem) => V X μ8 35 [(0, .ref (zad y (0, 32, 0))), (1, .int x3)] []) h (fun μ8 h => ?_)
      refine V_inc X 1 1 [(1, .int (x3 + 1)), (0, .ref (zad y (0, 32, 0)))] dX12_back_35 rfl (by decide) (by decide) rfl ?_
      refine V_goto X (tgt := 16) dX12_back_38 (by decide) ?_
      refine V_sub X [1, 0] (lv' := [(0, .ref (zad y (0, 32, 0))), (1, .int (x3 + 1))]) rfl ?_
      cases h
      exact hz
  · replace h := (if_pos b2).symm.trans h
    refine V_iconst X 0 dX12_back_12 (by decide) ?_
    exact V_zretW X h (by decide) dX12_back_13

def f_X12_count (a1 : Int32) (μ : ZMem) : Option (Int32 × ZMem) := zlt (mset μ (0, 32, 0) 0 0) (fun (μ1 : ZMem) => if a1 = 0 then some ((μ1 (0, 33, 0) 3), μ1) else if a1 = 1 then some ((μ1 (0, 33, 0) 0), μ1) else if a1 = 2 then some ((μ1 (0, 33, 0) 1), μ1) else bd (f_X12_isIn a1 3 5) (fun (x6 : Int32) => if x6 = 0 then if a1 = 6 then bd (f_X12_inState 2 μ1) (fun (x13 : Int32) => bd (f_X12_bits x13) (fun (x15 : Int32) => some (x15, μ1))) else if a1 = 7 then some ((μ1 (0, 33, 0) 7), μ1) else zlt (α := Int32) (if a1 = 8 then (μ1 (0, 32, 0) 6) else (-1)) (fun (x11 : Int32) => some (x11, μ1)) else gd (zin ((4 + a1) - 3) 737) (some ((μ1 (0, 33, 0) ((4 + a1) - 3).toNatClampNeg), μ1))))
set_option maxRecDepth 100000 in
set_option maxHeartbeats 4000000 in
theorem M_X12_count {l : Launch} {D : va_G} {y : ZLay} {a1 : Int32}  {μ : ZMem} {r : Int32} {μ0 : ZMem} (h : f_X12_count a1 μ = some (r, μ0)) : MI l yX12_count wb_X12_count rm_X12_count D y [.ref (zad y (0, 32, 0)), .int a1] μ r μ0 := by
  unfold f_X12_count at h
  refine MI_of RX12 [(0, .ref (zad y (0, 32, 0))), (1, .int a1)] (by decide) rfl rfl (Nat.le_of_ble_eq_true rfl) rfl ?_
  intro p e s m args below meth c A X
  refine V_aload_n X 0 dX12_count_0 rfl rfl ?_
  refine V_iconst X 0 dX12_count_1 (by decide) ?_
  refine V_puti X tyX12 .int (o := (0, 32, 0)) (ci := 12) (k := 0) (N := 30) (T := TX12) (C := RX12) ⟨by decide, rfl⟩ rfl rfl rfl (by decide) (mBa inB_X12) tyX12_ok nmX12 (mB wl_RX12_59) rfl rfl rfl rfl dX12_count_2 ?_
  refine zlt_el (P := fun (μ1 : ZMem) => V X μ1 5 [(0, .ref (zad y (0, 32, 0))), (1, .int a1)] []) h (fun μ1 h => ?_)
  refine V_iload_n X 1 dX12_count_5 rfl rfl ?_
  refine V_if_ne X (tgt := 16) dX12_count_6 (by decide) (fun b2 => ?_) (fun b2 => ?_)
  · replace h := (if_neg b2).symm.trans h
    refine V_iload_n X 1 dX12_count_16 rfl rfl ?_
    refine V_iconst X 1 dX12_count_17 (by decide) ?_
    refine V_icmp_ne X (tgt := 28) dX12_count_18 (by decide) (fun b3 => ?_) (fun b3 => ?_)
    · replace h := (if_neg b3).symm.trans h
      refine V_iload_n X 1 dX12_count_28 rfl rfl ?_
      refine V_iconst X 2 dX12_count_29 (by decide) ?_
      refine V_icmp_ne X (tgt := 40) dX12_count_30 (by decide) (fun b4 => ?_) (fun b4 => ?_)
      · replace h := (if_neg b4).symm.trans h
        refine V_iload_n X 1 dX12_count_40 rfl rfl ?_
        refine V_iconst X 3 dX12_count_41 (by decide) ?_
        refine V_iconst X 5 dX12_count_42 (by decide) ?_
        obtain ⟨x6, c5, h⟩ := bd_some h
        refine V_callSi X (As := [.int a1, .int 3, .int 5]) (M_X12_isIn c5) (va_cwS 3 X.2.2.2.2.2.2.1 (gS wm_RX12_62 wst_X12_isIn win_RX12 wc_X12_isIn) rfl rfl rfl hd_X12_isIn.2 ⟨Nat.le_of_ble_eq_true rfl, Nat.le_of_ble_eq_true rfl⟩) rfl (Nat.le_of_ble_eq_true rfl) dX12_count_43 rfl ?_
        refine V_if_eq X (tgt := 60) dX12_count_46 (by decide) (fun b7 => ?_) (fun b7 => ?_)
        · replace h := (if_pos b7).symm.trans h
          refine V_iload_n X 1 dX12_count_60 rfl rfl ?_
          refine V_bipush X 6 dX12_count_61 (by decide) ?_
          refine V_icmp_ne X (tgt := 75) dX12_count_63 (by decide) (fun b8 => ?_) (fun b8 => ?_)
          · replace h := (if_neg b8).symm.trans h
            refine V_iload_n X 1 dX12_count_75 rfl rfl ?_
            refine V_bipush X 7 dX12_count_76 (by decide) ?_
            refine V_icmp_ne X (tgt := 89) dX12_count_78 (by decide) (fun b9 => ?_) (fun b9 => ?_)
            · replace h := (if_neg b9).symm.trans h
              refine V_iload_n X 1 dX12_count_89 rfl rfl ?_
              refine V_bipush X 8 dX12_count_90 (by decide) ?_
              obtain ⟨x11, h1, h⟩ := zl1_some h
              have hk : V X μ1 103 [] [.int x11] := by
                clear h1
                exact V_iretW X h dX12_count_103
              replace h := h1
              clear h1
              refine V_icmp_ne X (tgt := 102) dX12_count_92 (by decide) (fun b10 => ?_) (fun b10 => ?_)
              · replace h := (if_neg b10).symm.trans h
                refine V_iconst X (-1) dX12_count_102 (by decide) ?_
                refine V_sub X [] (lv' := []) rfl ?_
                obtain rfl := pr1 h
                exact hk
              · replace h := (if_pos b10).symm.trans h
                refine V_aload_n X 0 dX12_count_95 rfl rfl ?_
                refine V_geti X (o := (0, 32, 0)) (ci := 12) (k := 6) (N := 30) (T := TX12) (C := RX12) ⟨by decide, rfl⟩ rfl rfl rfl (by decide) (mBa inB_X12) (mB wl_RX12_190) dX12_count_96 ?_
                refine V_goto X (tgt := 103) dX12_count_99 (by decide) ?_
                refine V_sub X [] (lv' := []) rfl ?_
                obtain rfl := pr1 h
                exact hk
            · replace h := (if_pos b9).symm.trans h
              refine V_aload_n X 0 dX12_count_81 rfl rfl ?_
              refine V_getr X (o := (0, 32, 0)) (i := (0, 33, 0)) (ci := 12) (k := 1) (N := 30) (T := TX12) (C := RX12) ⟨by decide, rfl⟩ rfl rfl rfl (by decide) (mBa inB_X12) (mB wl_RX12_7) dX12_count_82 ?_
              refine V_bipush X 7 dX12_count_85 (by decide) ?_
              refine V_iald X 7 (by decide) (o := (0, 33, 0)) (n := 737) ⟨by decide, rfl⟩ rfl rfl (by decide) dX12_count_87 ?_
              exact V_iretW X h dX12_count_88
          · replace h := (if_pos b8).symm.trans h
            refine V_aload_n X 0 dX12_count_66 rfl rfl ?_
            refine V_iconst X 2 dX12_count_67 (by decide) ?_
            obtain ⟨x13, c12, h⟩ := bd_some h
            refine V_callVi X (As := [.int 2]) (M_X12_inState c12) (cwV 1 X.2.2.2.2.2.2.1 (gV wm_RX12_250 wi_X12_inState wse_X12_inState win_RX12 wc_X12_inState) rfl rfl rfl hd_X12_inState ⟨Nat.le_of_ble_eq_true rfl, Nat.le_of_ble_eq_true rfl⟩) (b := (0, 32, 0)) ⟨by decide, rfl⟩ rfl rfl rfl rfl (Nat.le_of_ble_eq_true rfl) dX12_count_68 rfl ?_
            obtain ⟨x15, c14, h⟩ := bd_some h
            refine V_callSi X (As := [.int x13]) (M_X12_bits c14) (va_cwS 1 X.2.2.2.2.2.2.1 (gS wm_RX12_247 wst_X12_bits win_RX12 wc_X12_bits) rfl rfl rfl hd_X12_bits.2 ⟨Nat.le_of_ble_eq_true rfl, Nat.le_of_ble_eq_true rfl⟩) rfl (Nat.le_of_ble_eq_true rfl) dX12_count_71 rfl ?_
            exact V_iretW X h dX12_count_74
        · replace h := (if_neg b7).symm.trans h
          refine V_aload_n X 0 dX12_count_49 rfl rfl ?_
          refine V_getr X (o := (0, 32, 0)) (i := (0, 33, 0)) (ci := 12) (k := 1) (N := 30) (T := TX12) (C := RX12) ⟨by decide, rfl⟩ rfl rfl rfl (by decide) (mBa inB_X12) (mB wl_RX12_7) dX12_count_50 ?_
          refine V_iconst X 4 dX12_count_53 (by decide) ?_
          refine V_iload_n X 1 dX12_count_54 rfl rfl ?_
          refine V_iadd X dX12_count_55 ?_
          refine V_iconst X 3 dX12_count_56 (by decide) ?_
          refine V_isub X dX12_count_57 ?_
          obtain ⟨g16, h⟩ := gd_some h
          refine V_iald X ((4 + a1) - 3).toNatClampNeg rfl (o := (0, 33, 0)) (n := 737) ⟨by decide, rfl⟩ rfl rfl g16 dX12_count_58 ?_
          exact V_iretW X h dX12_count_59
      · replace h := (if_pos b4).symm.trans h
        refine V_aload_n X 0 dX12_count_33 rfl rfl ?_
        refine V_getr X (o := (0, 32, 0)) (i := (0, 33, 0)) (ci := 12) (k := 1) (N := 30) (T := TX12) (C := RX12) ⟨by decide, rfl⟩ rfl rfl rfl (by decide) (mBa inB_X12) (mB wl_RX12_7) dX12_count_34 ?_
        refine V_iconst X 1 dX12_count_37 (by decide) ?_
        refine V_iald X 1 (by decide) (o := (0, 33, 0)) (n := 737) ⟨by decide, rfl⟩ rfl rfl (by decide) dX12_count_38 ?_
        exact V_iretW X h dX12_count_39
    · replace h := (if_pos b3).symm.trans h
      refine V_aload_n X 0 dX12_count_21 rfl rfl ?_
      refine V_getr X (o := (0, 32, 0)) (i := (0, 33, 0)) (ci := 12) (k := 1) (N := 30) (T := TX12) (C := RX12) ⟨by decide, rfl⟩ rfl rfl rfl (by decide) (mBa inB_X12) (mB wl_RX12_7) dX12_count_22 ?_
      refine V_iconst X 0 dX12_count_25 (by decide) ?_
      refine V_iald X 0 (by decide) (o := (0, 33, 0)) (n := 737) ⟨by decide, rfl⟩ rfl rfl (by decide) dX12_count_26 ?_
      exact V_iretW X h dX12_count_27
  · replace h := (if_pos b2).symm.trans h
    refine V_aload_n X 0 dX12_count_9 rfl rfl ?_
    refine V_getr X (o := (0, 32, 0)) (i := (0, 33, 0)) (ci := 12) (k := 1) (N := 30) (T := TX12) (C := RX12) ⟨by decide, rfl⟩ rfl rfl rfl (by decide) (mBa inB_X12) (mB wl_RX12_7) dX12_count_10 ?_
    refine V_iconst X 3 dX12_count_13 (by decide) ?_
    refine V_iald X 3 (by decide) (o := (0, 33, 0)) (n := 737) ⟨by decide, rfl⟩ rfl rfl (by decide) dX12_count_14 ?_
    exact V_iretW X h dX12_count_15

