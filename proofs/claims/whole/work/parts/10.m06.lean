def f_X11_spoil (a1 : Int32) (a2 : Int32) (a3 : Int32) (μ : ZMem) : Option ((Int32 ⊕ Nat) × ZMem) := bd (f_X11_isNode a1 μ) (fun (x2 : Int32) => if x2 = 0 then some (.inr 3, μ) else jk (some (.inr 1, μ)) (fun k5 => if a2 < 0 then k5 else if a2 ≤ 3 then bd (α := Int32) (jk (some 1) (fun k9 => if a2 = 1 then k9 else if a2 = 3 then k9 else some 0)) (fun (x8 : Int32) => jk (bd (f_X6_remember 0 μ) (fun (μ17 : ZMem) => gd (zin a1 8) (zlt (μ17 (3, 0, a1.toNatClampNeg) 9) (fun (x19 : Int32) => zlt (mset μ17 (3, 0, a1.toNatClampNeg) 9 a2) (fun (μ20 : ZMem) => zlt (α := Int32) (if x8 = 0 then 0 else a3) (fun (x22 : Int32) => zlt (mset μ20 (3, 0, a1.toNatClampNeg) 10 x22) (fun (μ23 : ZMem) => some (.inl x19, μ23)))))))) (fun k12 => if x8 = 0 then k12 else jk (some (.inr 1, μ)) (fun k14 => if a3 < 0 then k14 else if a3 ≤ 99 then k12 else k14))) else k5))
set_option maxRecDepth 100000 in
set_option maxHeartbeats 4000000 in
theorem M_X11_spoil {l : Launch} {D : va_G} {y : ZLay} {a1 : Int32} {a2 : Int32} {a3 : Int32}  {μ : ZMem} {res : Int32 ⊕ Nat} {μ0 : ZMem} (hlf : l.stackTraces = false) (h : f_X11_spoil a1 a2 a3 μ = some (res, μ0)) : MX l yX11_spoil wb_X11_spoil rm_X11_spoil D y [.ref (zad y (0, 0, 0)), .int a1, .int a2, .int a3] μ res μ0 := by
  unfold f_X11_spoil at h
  refine MX_of RX11 [(0, .ref (zad y (0, 0, 0))), (1, .int a1), (2, .int a2), (3, .int a3)] (by decide) rfl rfl (Nat.le_of_ble_eq_true rfl) rfl ?_
  intro p e s m args below meth c A X hex
  refine V_aload_n X 0 dX11_spoil_0 rfl rfl ?_
  refine V_iload_n X 1 dX11_spoil_1 rfl rfl ?_
  obtain ⟨x2, c1, h⟩ := bd_some h
  refine V_callVi X (As := [.int a1]) (M_X11_isNode c1) (cwV 1 X.2.2.2.2.2.2.1 (gV wm_RX11_148 wi_X11_isNode wse_X11_isNode win_RX11 wc_X11_isNode) rfl rfl rfl hd_X11_isNode ⟨Nat.le_of_ble_eq_true rfl, Nat.le_of_ble_eq_true rfl⟩) (b := (0, 0, 0)) ⟨by decide, rfl⟩ rfl rfl rfl rfl (Nat.le_of_ble_eq_true rfl) dX11_spoil_2 rfl ?_
  refine V_if_ne X (tgt := 16) dX11_spoil_5 (by decide) (fun b3 => ?_) (fun b3 => ?_)
  · replace h := (if_neg b3).symm.trans h
    refine V_iload_n X 2 dX11_spoil_16 rfl rfl ?_
    refine jk0_el (P := V X μ 25 [] []) h (fun h => ?_) (fun k5 hk5 h => ?_)
    · exact V_throw X hex hlf (ik := 119) (ic := 121) 1 h (by decide +kernel) (by decide +kernel) (mB wcl_RX11_119) (mB wine_1) (mBa wx_1) wx_n1 wx_g1 dX11_spoil_25 dX11_spoil_28 dX11_spoil_29 dX11_spoil_32 (Nat.le_of_ble_eq_true rfl) (Nat.le_of_ble_eq_true rfl) (Nat.le_of_ble_eq_true rfl) (Nat.le_of_ble_eq_true rfl)
    · refine V_if_lt X (tgt := 25) dX11_spoil_17 (by decide) (fun b4 => ?_) (fun b4 => ?_)
      · replace h := (if_pos b4).symm.trans h
        refine V_sub X [] (lv' := []) rfl ?_
        exact hk5 h
      · replace h := (if_neg b4).symm.trans h
        refine V_iload_n X 2 dX11_spoil_20 rfl rfl ?_
        refine V_iconst X 3 dX11_spoil_21 (by decide) ?_
        refine V_icmp_le X (tgt := 33) dX11_spoil_22 (by decide) (fun b6 => ?_) (fun b6 => ?_)
        · replace h := (if_pos b6).symm.trans h
          refine V_iload_n X 2 dX11_spoil_33 rfl rfl ?_
          refine V_iconst X 1 dX11_spoil_34 (by decide) ?_
          obtain ⟨x8, h1, h⟩ := bd_some h
          have hk : V X μ 48 [(0, .ref (zad y (0, 0, 0))), (1, .int a1), (2, .int a2), (3, .int a3)] [.int x8] := by
            clear h1
            refine V_istore X [(4, .int x8), (0, .ref (zad y (0, 0, 0))), (1, .int a1), (2, .int a2), (3, .int a3)] dX11_spoil_48 (by decide) rfl ?_
            refine V_iload X 0 dX11_spoil_50 rfl ?_
            refine jk0_el (P := V X μ 73 [(0, .ref (zad y (0, 0, 0))), (1, .int a1), (2, .int a2), (3, .int a3), (4, .int x8)] []) h (fun h => ?_) (fun k12 hk12 h => ?_)
            · refine V_aload_n X 0 dX11_spoil_73 rfl rfl ?_
              refine V_getr X (o := (0, 0, 0)) (i := (0, 2, 0)) (ci := 11) (k := 7) (N := 16) (T := TX11) (C := RX11) ⟨by decide, rfl⟩ rfl rfl rfl (by decide) (mBa inB_X11) (mB wl_RX11_90) dX11_spoil_74 ?_
              refine V_aload_n X 0 dX11_spoil_77 rfl rfl ?_
              refine V_getr X (o := (0, 0, 0)) (i := (1, 0, 0)) (ci := 11) (k := 3) (N := 16) (T := TX11) (C := RX11) ⟨by decide, rfl⟩ rfl rfl rfl (by decide) (mBa inB_X11) (mB wl_RX11_77) dX11_spoil_78 ?_
              obtain ⟨μ17, c16, h⟩ := bd_some h
              refine V_callVv X (As := [.ref (zad y (1, 0, 0))]) (M_X6_remember (by decide) c16) (cwV 1 X.2.2.2.2.2.2.1 (gV wm_RX11_216 wi_X6_remember wse_X6_remember win_RX6 wc_X6_remember) rfl rfl rfl hd_X6_remember ⟨Nat.le_of_ble_eq_true rfl, Nat.le_of_ble_eq_true rfl⟩) (b := (0, 2, 0)) ⟨by decide, rfl⟩ rfl rfl rfl rfl (Nat.le_of_ble_eq_true rfl) dX11_spoil_81 rfl ?_
              refine V_aload_n X 0 dX11_spoil_84 rfl rfl ?_
              refine V_getr X (o := (0, 0, 0)) (i := (1, 0, 0)) (ci := 11) (k := 3) (N := 16) (T := TX11) (C := RX11) ⟨by decide, rfl⟩ rfl rfl rfl (by decide) (mBa inB_X11) (mB wl_RX11_77) dX11_spoil_85 ?_
              refine V_getr X (o := (1, 0, 0)) (i := (2, 0, 0)) (ci := 7) (k := 0) (N := 11) (T := TX7) (C := RX7) ⟨(by decide), rfl⟩ rfl rfl rfl (by decide) (mBa inB_X7) (mB wl_RX11_158) dX11_spoil_88 ?_
              refine V_iload_n X 1 dX11_spoil_91 rfl rfl ?_
              obtain ⟨g18, h⟩ := gd_some h
              refine V_aald X a1.toNatClampNeg rfl (o := (2, 0, 0)) ⟨(by decide), rfl⟩ rfl rfl rfl rfl g18 dX11_spoil_92 ?_
              refine V_geti X (o := (3, 0, a1.toNatClampNeg)) (ci := 5) (k := 9) (N := 11) (T := TX5) (C := RX5) ⟨(by decide), zin_lt g18⟩ rfl rfl rfl (by decide) (mBa inB_X5) (mB wl_RX11_247) dX11_spoil_93 ?_
              refine V_istore X [(5, .int (μ17 (3, 0, a1.toNatClampNeg) 9)), (0, .ref (zad y (0, 0, 0))), (1, .int a1), (2, .int a2), (3, .int a3), (4, .int x8)] dX11_spoil_96 (by decide) rfl ?_
              refine zlt_el (P := fun (x19 : Int32) => V X μ17 98 [(5, .int x19), (0, .ref (zad y (0, 0, 0))), (1, .int a1), (2, .int a2), (3, .int a3), (4, .int x8)] []) h (fun x19 h => ?_)
              refine V_aload_n X 1 dX11_spoil_98 rfl rfl ?_
              refine V_getr X (o := (0, 0, 0)) (i := (1, 0, 0)) (ci := 11) (k := 3) (N := 16) (T := TX11) (C := RX11) ⟨by decide, rfl⟩ rfl rfl rfl (by decide) (mBa inB_X11) (mB wl_RX11_77) dX11_spoil_99 ?_
              refine V_getr X (o := (1, 0, 0)) (i := (2, 0, 0)) (ci := 7) (k := 0) (N := 11) (T := TX7) (C := RX7) ⟨(by decide), rfl⟩ rfl rfl rfl (by decide) (mBa inB_X7) (mB wl_RX11_158) dX11_spoil_102 ?_
              refine V_iload_n X 2 dX11_spoil_105 rfl rfl ?_
              refine V_aald X a1.toNatClampNeg rfl (o := (2, 0, 0)) ⟨(by decide), rfl⟩ rfl rfl rfl rfl g18 dX11_spoil_106 ?_
              refine V_iload_n X 3 dX11_spoil_107 rfl rfl ?_
              refine V_puti X tyX5 .int (o := (3, 0, a1.toNatClampNeg)) (ci := 5) (k := 9) (N := 11) (T := TX5) (C := RX5) ⟨(by decide), zin_lt g18⟩ rfl rfl rfl (by decide) (mBa inB_X5) tyX5_ok nmX5 (mB wl_RX11_247) rfl rfl rfl rfl dX11_spoil_108 ?_
              refine zlt_el (P := fun (μ20 : ZMem) => V X μ20 111 [(5, .int x19), (0, .ref (zad y (0, 0, 0))), (1, .int a1), (2, .int a2), (3, .int a3), (4, .int x8)] []) h (fun μ20 h => ?_)
              refine V_aload_n X 1 dX11_spoil_111 rfl rfl ?_
              refine V_getr X (o := (0, 0, 0)) (i := (1, 0, 0)) (ci := 11) (k := 3) (N := 16) (T := TX11) (C := RX11) ⟨by decide, rfl⟩ rfl rfl rfl (by decide) (mBa inB_X11) (mB wl_RX11_77) dX11_spoil_112 ?_
              refine V_getr X (o := (1, 0, 0)) (i := (2, 0, 0)) (ci := 7) (k := 0) (N := 11) (T := TX7) (C := RX7) ⟨(by decide), rfl⟩ rfl rfl rfl (by decide) (mBa inB_X7) (mB wl_RX11_158) dX11_spoil_115 ?_
              refine V_iload_n X 2 dX11_spoil_118 rfl rfl ?_
              refine V_aald X a1.toNatClampNeg rfl (o := (2, 0, 0)) ⟨(by decide), rfl⟩ rfl rfl rfl rfl g18 dX11_spoil_119 ?_
              refine V_iload X 5 dX11_spoil_120 rfl ?_
              obtain ⟨x22, h1, h⟩ := zl1_some h
              have hk : V X μ20 130 [(5, .int x19)] [.int x22, .ref (zad y (3, 0, a1.toNatClampNeg))] := by
                clear h1
                refine V_puti X tyX5 .int (o := (3, 0, a1.toNatClampNeg)) (ci := 5) (k := 10) (N := 11) (T := TX5) (C := RX5) ⟨(by decide), zin_lt g18⟩ rfl rfl rfl (by decide) (mBa inB_X5) tyX5_ok nmX5 (mB wl_RX11_250) rfl rfl rfl rfl dX11_spoil_130 ?_
                refine zlt_el (P := fun (μ23 : ZMem) => V X μ23 133 [(5, .int x19)] []) h (fun μ23 h => ?_)
                refine V_iload X 0 dX11_spoil_133 rfl ?_
                exact V_iretX X h dX11_spoil_135
              replace h := h1
              clear h1
              refine V_if_eq X (tgt := 129) dX11_spoil_122 (by decide) (fun b21 => ?_) (fun b21 => ?_)
              · replace h := (if_pos b21).symm.trans h
                refine V_iconst X 0 dX11_spoil_129 (by decide) ?_
                refine V_sub X [0] (lv' := [(5, .int x19)]) rfl ?_
                obtain rfl := pr1 h
                exact hk
              · replace h := (if_neg b21).symm.trans h
                refine V_iload_n X 4 dX11_spoil_125 rfl rfl ?_
                refine V_goto X (tgt := 130) dX11_spoil_126 (by decide) ?_
                refine V_sub X [0] (lv' := [(5, .int x19)]) rfl ?_
                obtain rfl := pr1 h
                exact hk
            · refine V_if_eq X (tgt := 73) dX11_spoil_52 (by decide) (fun b11 => ?_) (fun b11 => ?_)
              · replace h := (if_pos b11).symm.trans h
                refine V_sub X [1, 2, 3, 4, 0] (lv' := [(0, .ref (zad y (0, 0, 0))), (1, .int a1), (2, .int a2), (3, .int a3), (4, .int x8)]) rfl ?_
                exact hk12 h
              · replace h := (if_neg b11).symm.trans h
                refine V_iload_n X 4 dX11_spoil_55 rfl rfl ?_
                refine jk0_el (P := V X μ 65 [] []) h (fun h => ?_) (fun k14 hk14 h => ?_)
                · exact V_throw X hex hlf (ik := 119) (ic := 121) 1 h (by decide +kernel) (by decide +kernel) (mB wcl_RX11_119) (mB wine_1) (mBa wx_1) wx_n1 wx_g1 dX11_spoil_65 dX11_spoil_68 dX11_spoil_69 dX11_spoil_72 (Nat.le_of_ble_eq_true rfl) (Nat.le_of_ble_eq_true rfl) (Nat.le_of_ble_eq_true rfl) (Nat.le_of_ble_eq_true rfl)
                · refine V_if_lt X (tgt := 65) dX11_spoil_56 (by decide) (fun b13 => ?_) (fun b13 => ?_)
                  · replace h := (if_pos b13).symm.trans h
                    refine V_sub X [] (lv' := []) rfl ?_
                    exact hk14 h
                  · replace h := (if_neg b13).symm.trans h
                    refine V_iload_n X 4 dX11_spoil_59 rfl rfl ?_
                    refine V_bipush X 99 dX11_spoil_60 (by decide) ?_
                    refine V_icmp_le X (tgt := 73) dX11_spoil_62 (by decide) (fun b15 => ?_) (fun b15 => ?_)
                    · replace h := (if_pos b15).symm.trans h
                      refine V_sub X [1, 2, 3, 4, 0] (lv' := [(0, .ref (zad y (0, 0, 0))), (1, .int a1), (2, .int a2), (3, .int a3), (4, .int x8)]) rfl ?_
                      exact hk12 h
                    · replace h := (if_neg b15).symm.trans h
                      refine V_sub X [] (lv' := []) rfl ?_
                      exact hk14 h
          replace h := h1
          clear h1
          refine jk0_el (P := V X μ 43 [(0, .ref (zad y (0, 0, 0))), (1, .int a1), (2, .int a2), (3, .int a3)] []) h (fun h => ?_) (fun k9 hk9 h => ?_)
          · refine V_iconst X 1 dX11_spoil_43 (by decide) ?_
            refine V_goto X (tgt := 48) dX11_spoil_44 (by decide) ?_
            obtain rfl := so1 h
            exact hk
          · refine V_icmp_eq X (tgt := 43) dX11_spoil_35 (by decide) (fun b7 => ?_) (fun b7 => ?_)
            · replace h := (if_pos b7).symm.trans h
              exact hk9 h
            · replace h := (if_neg b7).symm.trans h
              refine V_iload_n X 2 dX11_spoil_38 rfl rfl ?_
              refine V_iconst X 3 dX11_spoil_39 (by decide) ?_
              refine V_icmp_ne X (tgt := 47) dX11_spoil_40 (by decide) (fun b10 => ?_) (fun b10 => ?_)
              · replace h := (if_neg b10).symm.trans h
                refine V_iconst X 0 dX11_spoil_47 (by decide) ?_
                obtain rfl := so1 h
                exact hk
              · replace h := (if_pos b10).symm.trans h
                exact hk9 h
        · replace h := (if_neg b6).symm.trans h
          refine V_sub X [] (lv' := []) rfl ?_
          exact hk5 h
  · replace h := (if_pos b3).symm.trans h
    exact V_throw X hex hlf (ik := 152) (ic := 154) 3 h (by decide +kernel) (by decide +kernel) (mB wcl_RX11_152) (mB wine_3) (mBa wx_3) wx_n3 wx_g3 dX11_spoil_8 dX11_spoil_11 dX11_spoil_12 dX11_spoil_15 (Nat.le_of_ble_eq_true rfl) (Nat.le_of_ble_eq_true rfl) (Nat.le_of_ble_eq_true rfl) (Nat.le_of_ble_eq_true rfl)

def f_X11_set (a1 : Int32) (a2 : Int32) (μ : ZMem) : Option ((Int32 ⊕ Nat) × ZMem) := bd (f_X11_isNode a1 μ) (fun (x2 : Int32) => if x2 = 0 then some (.inr 3, μ) else jk (some (.inr 1, μ)) (fun k5 => if a2 < (-999) then k5 else if a2 ≤ 999 then bd (f_X6_remember 0 μ) (fun (μ8 : ZMem) => gd (zin a1 8) (zlt (μ8 (3, 0, a1.toNatClampNeg) 0) (fun (x10 : Int32) => zlt (mset μ8 (3, 0, a1.toNatClampNeg) 0 a2) (fun (μ11 : ZMem) => some (.inl x10, μ11))))) else k5))
set_option maxRecDepth 100000 in
set_option maxHeartbeats 4000000 in
theorem M_X11_set {l : Launch} {D : va_G} {y : ZLay} {a1 : Int32} {a2 : Int32}  {μ : ZMem} {res : Int32 ⊕ Nat} {μ0 : ZMem} (hlf : l.stackTraces = false) (h : f_X11_set a1 a2 μ = some (res, μ0)) : MX l yX11_set wb_X11_set rm_X11_set D y [.ref (zad y (0, 0, 0)), .int a1, .int a2] μ res μ0 := by
  unfold f_X11_set at h
  refine MX_of RX11 [(0, .ref (zad y (0, 0, 0))), (1, .int a1), (2, .int a2)] (by decide) rfl rfl (Nat.le_of_ble_eq_true rfl) rfl ?_
  intro p e s m args below meth c A X hex
  refine V_aload_n X 0 dX11_set_0 rfl rfl ?_
  refine V_iload_n X 1 dX11_set_1 rfl rfl ?_
  obtain ⟨x2, c1, h⟩ := bd_some h
  refine V_callVi X (As := [.int a1]) (M_X11_isNode c1) (cwV 1 X.2.2.2.2.2.2.1 (gV wm_RX11_148 wi_X11_isNode wse_X11_isNode win_RX11 wc_X11_isNode) rfl rfl rfl hd_X11_isNode ⟨Nat.le_of_ble_eq_true rfl, Nat.le_of_ble_eq_true rfl⟩) (b := (0, 0, 0)) ⟨by decide, rfl⟩ rfl rfl rfl rfl (Nat.le_of_ble_eq_true rfl) dX11_set_2 rfl ?_
  refine V_if_ne X (tgt := 16) dX11_set_5 (by decide) (fun b3 => ?_) (fun b3 => ?_)
  · replace h := (if_neg b3).symm.trans h
    refine V_iload_n X 2 dX11_set_16 rfl rfl ?_
    refine V_sipush X (-999) dX11_set_17 (by decide) ?_
    refine jk0_el (P := V X μ 30 [] []) h (fun h => ?_) (fun k5 hk5 h => ?_)
    · exact V_throw X hex hlf (ik := 119) (ic := 121) 1 h (by decide +kernel) (by decide +kernel) (mB wcl_RX11_119) (mB wine_1) (mBa wx_1) wx_n1 wx_g1 dX11_set_30 dX11_set_33 dX11_set_34 dX11_set_37 (Nat.le_of_ble_eq_true rfl) (Nat.le_of_ble_eq_true rfl) (Nat.le_of_ble_eq_true rfl) (Nat.le_of_ble_eq_true rfl)
    · refine V_icmp_lt X (tgt := 30) dX11_set_20 (by decide) (fun b4 => ?_) (fun b4 => ?_)
      · replace h := (if_pos b4).symm.trans h
        refine V_sub X [] (lv' := []) rfl ?_
        exact hk5 h
      · replace h := (if_neg b4).symm.trans h
        refine V_iload_n X 2 dX11_set_23 rfl rfl ?_
        refine V_sipush X 999 dX11_set_24 (by decide) ?_
        refine V_icmp_le X (tgt := 38) dX11_set_27 (by decide) (fun b6 => ?_) (fun b6 => ?_)
        · replace h := (if_pos b6).symm.trans h
          refine V_aload_n X 0 dX11_set_38 rfl rfl ?_
          refine V_getr X (o := (0, 0, 0)) (i := (0, 2, 0)) (ci := 11) (k := 7) (N := 16) (T := TX11) (C := RX11) ⟨by decide, rfl⟩ rfl rfl rfl (by decide) (mBa inB_X11) (mB wl_RX11_90) dX11_set_39 ?_
          refine V_aload_n X 0 dX11_set_42 rfl rfl ?_
          refine V_getr X (o := (0, 0, 0)) (i := (1, 0, 0)) (ci := 11) (k := 3) (N := 16) (T := TX11) (C := RX11) ⟨by decide, rfl⟩ rfl rfl rfl (by decide) (mBa inB_X11) (mB wl_RX11_77) dX11_set_43 ?_
          obtain ⟨μ8, c7, h⟩ := bd_some h
          refine V_callVv X (As := [.ref (zad y (1, 0, 0))]) (M_X6_remember (by decide) c7) (cwV 1 X.2.2.2.2.2.2.1 (gV wm_RX11_216 wi_X6_remember wse_X6_remember win_RX6 wc_X6_remember) rfl rfl rfl hd_X6_remember ⟨Nat.le_of_ble_eq_true rfl, Nat.le_of_ble_eq_true rfl⟩) (b := (0, 2, 0)) ⟨by decide, rfl⟩ rfl rfl rfl rfl (Nat.le_of_ble_eq_true rfl) dX11_set_46 rfl ?_
          refine V_aload_n X 0 dX11_set_49 rfl rfl ?_
          refine V_getr X (o := (0, 0, 0)) (i := (1, 0, 0)) (ci := 11) (k := 3) (N := 16) (T := TX11) (C := RX11) ⟨by decide, rfl⟩ rfl rfl rfl (by decide) (mBa inB_X11) (mB wl_RX11_77) dX11_set_50 ?_
          refine V_getr X (o := (1, 0, 0)) (i := (2, 0, 0)) (ci := 7) (k := 0) (N := 11) (T := TX7) (C := RX7) ⟨(by decide), rfl⟩ rfl rfl rfl (by decide) (mBa inB_X7) (mB wl_RX11_158) dX11_set_53 ?_
          refine V_iload_n X 1 dX11_set_56 rfl rfl ?_
          obtain ⟨g9, h⟩ := gd_some h
          refine V_aald X a1.toNatClampNeg rfl (o := (2, 0, 0)) ⟨(by decide), rfl⟩ rfl rfl rfl rfl g9 dX11_set_57 ?_
          refine V_geti X (o := (3, 0, a1.toNatClampNeg)) (ci := 5) (k := 0) (N := 11) (T := TX5) (C := RX5) ⟨(by decide), zin_lt g9⟩ rfl rfl rfl (by decide) (mBa inB_X5) (mB wl_RX11_253) dX11_set_58 ?_
          refine V_istore_n X [(3, .int (μ8 (3, 0, a1.toNatClampNeg) 0)), (0, .ref (zad y (0, 0, 0))), (1, .int a1), (2, .int a2)] dX11_set_61 rfl (by decide) rfl ?_
          refine zlt_el (P := fun (x10 : Int32) => V X μ8 62 [(3, .int x10), (0, .ref (zad y (0, 0, 0))), (1, .int a1), (2, .int a2)] []) h (fun x10 h => ?_)
          refine V_aload_n X 1 dX11_set_62 rfl rfl ?_
          refine V_getr X (o := (0, 0, 0)) (i := (1, 0, 0)) (ci := 11) (k := 3) (N := 16) (T := TX11) (C := RX11) ⟨by decide, rfl⟩ rfl rfl rfl (by decide) (mBa inB_X11) (mB wl_RX11_77) dX11_set_63 ?_
          refine V_getr X (o := (1, 0, 0)) (i := (2, 0, 0)) (ci := 7) (k := 0) (N := 11) (T := TX7) (C := RX7) ⟨(by decide), rfl⟩ rfl rfl rfl (by decide) (mBa inB_X7) (mB wl_RX11_158) dX11_set_66 ?_
          refine V_iload_n X 2 dX11_set_69 rfl rfl ?_
          refine V_aald X a1.toNatClampNeg rfl (o := (2, 0, 0)) ⟨(by decide), rfl⟩ rfl rfl rfl rfl g9 dX11_set_70 ?_
          refine V_iload_n X 3 dX11_set_71 rfl rfl ?_
          refine V_puti X tyX5 .int (o := (3, 0, a1.toNatClampNeg)) (ci := 5) (k := 0) (N := 11) (T := TX5) (C := RX5) ⟨(by decide), zin_lt g9⟩ rfl rfl rfl (by decide) (mBa inB_X5) tyX5_ok nmX5 (mB wl_RX11_253) rfl rfl rfl rfl dX11_set_72 ?_
          refine zlt_el (P := fun (μ11 : ZMem) => V X μ11 75 [(3, .int x10), (0, .ref (zad y (0, 0, 0))), (1, .int a1), (2, .int a2)] []) h (fun μ11 h => ?_)
          refine V_iload_n X 0 dX11_set_75 rfl rfl ?_
          exact V_iretX X h dX11_set_76
        · replace h := (if_neg b6).symm.trans h
          refine V_sub X [] (lv' := []) rfl ?_
          exact hk5 h
  · replace h := (if_pos b3).symm.trans h
    exact V_throw X hex hlf (ik := 152) (ic := 154) 3 h (by decide +kernel) (by decide +kernel) (mB wcl_RX11_152) (mB wine_3) (mBa wx_3) wx_n3 wx_g3 dX11_set_8 dX11_set_11 dX11_set_12 dX11_set_15 (Nat.le_of_ble_eq_true rfl) (Nat.le_of_ble_eq_true rfl) (Nat.le_of_ble_eq_true rfl) (Nat.le_of_ble_eq_true rfl)

def f_X11_tune (a1 : Int32) (a2 : Int32) (μ : ZMem) : Option ((Int32 ⊕ Nat) × ZMem) := jk (some (.inr 1, μ)) (fun k2 => if a2 < 1 then k2 else if a2 ≤ 999 then bd (f_X6_remember 0 μ) (fun (μ5 : ZMem) => zlt (α := Int32) (if a1 = 0 then (μ5 (1, 0, 0) 5) else (μ5 (1, 0, 0) 6)) (fun (x7 : Int32) => zlt (α := ZMem) (if a1 = 0 then zlt (mset μ5 (1, 0, 0) 5 a2) (fun (μ10 : ZMem) => μ10) else zlt (mset μ5 (1, 0, 0) 6 a2) (fun (μ11 : ZMem) => μ11)) (fun (μ9 : ZMem) => some (.inl x7, μ9)))) else k2)
set_option maxRecDepth 100000 in
set_option maxHeartbeats 4000000 in
theorem M_X11_tune {l : Launch} {D : va_G} {y : ZLay} {a1 : Int32} {a2 : Int32}  {μ : ZMem} {res : Int32 ⊕ Nat} {μ0 : ZMem} (hlf : l.stackTraces = false) (h : f_X11_tune a1 a2 μ = some (res, μ0)) : MX l yX11_tune wb_X11_tune rm_X11_tune D y [.ref (zad y (0, 0, 0)), .int a1, .int a2] μ res μ0 := by
  unfold f_X11_tune at h
  refine MX_of RX11 [(0, .ref (zad y (0, 0, 0))), (1, .int a1), (2, .int a2)] (by decide) rfl rfl (Nat.le_of_ble_eq_true rfl) rfl ?_
  intro p e s m args below meth c A X hex
  refine V_iload_n X 2 dX11_tune_0 rfl rfl ?_
  refine V_iconst X 1 dX11_tune_1 (by decide) ?_
  refine jk0_el (P := V X μ 12 [] []) h (fun h => ?_) (fun k2 hk2 h => ?_)
  · exact V_throw X hex hlf (ik := 119) (ic := 121) 1 h (by decide +kernel) (by decide +kernel) (mB wcl_RX11_119) (mB wine_1) (mBa wx_1) wx_n1 wx_g1 dX11_tune_12 dX11_tune_15 dX11_tune_16 dX11_tune_19 (Nat.le_of_ble_eq_true rfl) (Nat.le_of_ble_eq_true rfl) (Nat.le_of_ble_eq_true rfl) (Nat.le_of_ble_eq_true rfl)
  · refine V_icmp_lt X (tgt := 12) dX11_tune_2 (by decide) (fun b1 => ?_) (fun b1 => ?_)
    · replace h := (if_pos b1).symm.trans h
      refine V_sub X [] (lv' := []) rfl ?_
      exact hk2 h
    · replace h := (if_neg b1).symm.trans h
      refine V_iload_n X 2 dX11_tune_5 rfl rfl ?_
      refine V_sipush X 999 dX11_tune_6 (by decide) ?_
      refine V_icmp_le X (tgt := 20) dX11_tune_9 (by decide) (fun b3 => ?_) (fun b3 => ?_)
      · replace h := (if_pos b3).symm.trans h
        refine V_aload_n X 0 dX11_tune_20 rfl rfl ?_
        refine V_getr X (o := (0, 0, 0)) (i := (0, 2, 0)) (ci := 11) (k := 7) (N := 16) (T := TX11) (C := RX11) ⟨by decide, rfl⟩ rfl rfl rfl (by decide) (mBa inB_X11) (mB wl_RX11_90) dX11_tune_21 ?_
        refine V_aload_n X 0 dX11_tune_24 rfl rfl ?_
        refine V_getr X (o := (0, 0, 0)) (i := (1, 0, 0)) (ci := 11) (k := 3) (N := 16) (T := TX11) (C := RX11) ⟨by decide, rfl⟩ rfl rfl rfl (by decide) (mBa inB_X11) (mB wl_RX11_77) dX11_tune_25 ?_
        obtain ⟨μ5, c4, h⟩ := bd_some h
        refine V_callVv X (As := [.ref (zad y (1, 0, 0))]) (M_X6_remember (by decide) c4) (cwV 1 X.2.2.2.2.2.2.1 (gV wm_RX11_216 wi_X6_remember wse_X6_remember win_RX6 wc_X6_remember) rfl rfl rfl hd_X6_remember ⟨Nat.le_of_ble_eq_true rfl, Nat.le_of_ble_eq_true rfl⟩) (b := (0, 2, 0)) ⟨by decide, rfl⟩ rfl rfl rfl rfl (Nat.le_of_ble_eq_true rfl) dX11_tune_28 rfl ?_
        refine V_iload_n X 1 dX11_tune_31 rfl rfl ?_
        obtain ⟨x7, h1, h⟩ := zl1_some h
        have hk : V X μ5 52 [(0, .ref (zad y (0, 0, 0))), (1, .int a1), (2, .int a2)] [.int x7] := by
          clear h1
          refine V_istore_n X [(3, .int x7), (0, .ref (zad y (0, 0, 0))), (1, .int a1), (2, .int a2)] dX11_tune_52 rfl (by decide) rfl ?_
          refine V_iload_n X 2 dX11_tune_53 rfl rfl ?_
          obtain ⟨μ9, h1, h⟩ := zl1_some h
          have hk : V X μ9 76 [(3, .int x7)] [] := by
            clear h1
            refine V_iload_n X 0 dX11_tune_76 rfl rfl ?_
            exact V_iretX X h dX11_tune_77
          replace h := h1
          clear h1
          refine V_if_eq X (tgt := 68) dX11_tune_54 (by decide) (fun b8 => ?_) (fun b8 => ?_)
          · replace h := (if_pos b8).symm.trans h
            refine V_aload_n X 1 dX11_tune_68 rfl rfl ?_
            refine V_getr X (o := (0, 0, 0)) (i := (1, 0, 0)) (ci := 11) (k := 3) (N := 16) (T := TX11) (C := RX11) ⟨by decide, rfl⟩ rfl rfl rfl (by decide) (mBa inB_X11) (mB wl_RX11_77) dX11_tune_69 ?_
            refine V_iload_n X 3 dX11_tune_72 rfl rfl ?_
            refine V_puti X tyX7 .int (o := (1, 0, 0)) (ci := 7) (k := 5) (N := 11) (T := TX7) (C := RX7) ⟨(by decide), rfl⟩ rfl rfl rfl (by decide) (mBa inB_X7) tyX7_ok nmX7 (mB wl_RX11_259) rfl rfl rfl rfl dX11_tune_73 ?_
            refine zlt_el (P := fun (μ10 : ZMem) => V X μ10 76 [(3, .int x7), (0, .ref (zad y (0, 0, 0))), (1, .int a1), (2, .int a2)] []) h (fun μ10 h => ?_)
            refine V_sub X [0] (lv' := [(3, .int x7)]) rfl ?_
            obtain rfl := pr1 h
            exact hk
          · replace h := (if_neg b8).symm.trans h
            refine V_aload_n X 1 dX11_tune_57 rfl rfl ?_
            refine V_getr X (o := (0, 0, 0)) (i := (1, 0, 0)) (ci := 11) (k := 3) (N := 16) (T := TX11) (C := RX11) ⟨by decide, rfl⟩ rfl rfl rfl (by decide) (mBa inB_X11) (mB wl_RX11_77) dX11_tune_58 ?_
            refine V_iload_n X 3 dX11_tune_61 rfl rfl ?_
            refine V_puti X tyX7 .int (o := (1, 0, 0)) (ci := 7) (k := 6) (N := 11) (T := TX7) (C := RX7) ⟨(by decide), rfl⟩ rfl rfl rfl (by decide) (mBa inB_X7) tyX7_ok nmX7 (mB wl_RX11_256) rfl rfl rfl rfl dX11_tune_62 ?_
            refine zlt_el (P := fun (μ11 : ZMem) => V X μ11 65 [(3, .int x7), (0, .ref (zad y (0, 0, 0))), (1, .int a1), (2, .int a2)] []) h (fun μ11 h => ?_)
            refine V_goto X (tgt := 76) dX11_tune_65 (by decide) ?_
            refine V_sub X [0] (lv' := [(3, .int x7)]) rfl ?_
            obtain rfl := pr1 h
            exact hk
        replace h := h1
        clear h1
        refine V_if_eq X (tgt := 45) dX11_tune_32 (by decide) (fun b6 => ?_) (fun b6 => ?_)
        · replace h := (if_pos b6).symm.trans h
          refine V_aload_n X 0 dX11_tune_45 rfl rfl ?_
          refine V_getr X (o := (0, 0, 0)) (i := (1, 0, 0)) (ci := 11) (k := 3) (N := 16) (T := TX11) (C := RX11) ⟨by decide, rfl⟩ rfl rfl rfl (by decide) (mBa inB_X11) (mB wl_RX11_77) dX11_tune_46 ?_
          refine V_geti X (o := (1, 0, 0)) (ci := 7) (k := 5) (N := 11) (T := TX7) (C := RX7) ⟨(by decide), rfl⟩ rfl rfl rfl (by decide) (mBa inB_X7) (mB wl_RX11_259) dX11_tune_49 ?_
          obtain rfl := pr1 h
          exact hk
        · replace h := (if_neg b6).symm.trans h
          refine V_aload_n X 0 dX11_tune_35 rfl rfl ?_
          refine V_getr X (o := (0, 0, 0)) (i := (1, 0, 0)) (ci := 11) (k := 3) (N := 16) (T := TX11) (C := RX11) ⟨by decide, rfl⟩ rfl rfl rfl (by decide) (mBa inB_X11) (mB wl_RX11_77) dX11_tune_36 ?_
          refine V_geti X (o := (1, 0, 0)) (ci := 7) (k := 6) (N := 11) (T := TX7) (C := RX7) ⟨(by decide), rfl⟩ rfl rfl rfl (by decide) (mBa inB_X7) (mB wl_RX11_256) dX11_tune_39 ?_
          refine V_goto X (tgt := 52) dX11_tune_42 (by decide) ?_
          obtain rfl := pr1 h
          exact hk
      · replace h := (if_neg b3).symm.trans h
        refine V_sub X [] (lv' := []) rfl ?_
        exact hk2 h

def f_X11_mid (y : ZLay) (μ : ZMem) : Option ((Int32 ⊕ Nat) × ZMem) := bd2 (f_X11_useTape μ) (fun (x2 : Int32) (μ3 : ZMem) => if x2 ≤ 20 then bd (lp (σ := Int32 × ZMem) (fun q => un2 q (fun (x5 : Int32) (μ6 : ZMem) => if x2 ≤ x5 then some (.inr μ6) else gd (zin x5 400) (gd (zin x5 20) (zlt (mset μ6 (0, 29, 0) x5.toNatClampNeg ((μ6 (0, 1, 0) x5.toNatClampNeg) - 128)) (fun (μ11 : ZMem) => some (.inl ((x5 + 1), μ11))))))) FU (0, μ3)) (fun (μ7 : ZMem) => bd2 (f_X11_midOf y (0, 29, 0) x2 μ7) (fun (x13 : Int32) (μ14 : ZMem) => some (.inl x13, μ14))) else some (.inr 1, μ3))
set_option maxRecDepth 100000 in
set_option maxHeartbeats 4000000 in
theorem M_X11_mid {l : Launch} {D : va_G} {y : ZLay}   {μ : ZMem} {res : Int32 ⊕ Nat} {μ0 : ZMem} (hlf : l.stackTraces = false) (h : f_X11_mid y μ = some (res, μ0)) : MX l yX11_mid wb_X11_mid rm_X11_mid D y [.ref (zad y (0, 0, 0))] μ res μ0 := by
  unfold f_X11_mid at h
  refine MX_of RX11 [(0, .ref (zad y (0, 0, 0)))] (by decide) rfl rfl (Nat.le_of_ble_eq_true rfl) rfl ?_
  intro p e s m args below meth c A X hex
  refine V_aload_n X 0 dX11_mid_0 rfl rfl ?_
  obtain ⟨x2, μ3, c1, h⟩ := bd2_some h
  refine V_callVi X (As := []) (M_X11_useTape c1) (cwV 0 X.2.2.2.2.2.2.1 (gV wm_RX11_101 wi_X11_useTape wse_X11_useTape win_RX11 wc_X11_useTape) rfl rfl rfl hd_X11_useTape ⟨Nat.le_of_ble_eq_true rfl, Nat.le_of_ble_eq_true rfl⟩) (b := (0, 0, 0)) ⟨by decide, rfl⟩ rfl rfl rfl rfl (Nat.le_of_ble_eq_true rfl) dX11_mid_1 rfl ?_
  refine V_istore_n X [(1, .int x2), (0, .ref (zad y (0, 0, 0)))] dX11_mid_4 rfl (by decide) rfl ?_
  refine V_iload_n X 0 dX11_mid_5 rfl rfl ?_
  refine V_bipush X 20 dX11_mid_6 (by decide) ?_
  refine V_icmp_le X (tgt := 19) dX11_mid_8 (by decide) (fun b4 => ?_) (fun b4 => ?_)
  · replace h := (if_pos b4).symm.trans h
    refine V_iconst X 0 dX11_mid_19 (by decide) ?_
    refine V_istore_n X [(2, .int 0), (1, .int x2), (0, .ref (zad y (0, 0, 0)))] dX11_mid_20 rfl (by decide) rfl ?_
    refine V_sub X [2, 1, 0] (lv' := [(0, .ref (zad y (0, 0, 0))), (1, .int x2), (2, .int 0)]) rfl ?_
    obtain ⟨μ7, hl, h⟩ := bd_some h
    have hk : V X μ7 48 [(0, .ref (zad y (0, 0, 0))), (1, .int x2)] [] := by
      clear hl
      refine V_aload_n X 0 dX11_mid_48 rfl rfl ?_
      refine V_getr X (o := (0, 0, 0)) (i := (0, 29, 0)) (ci := 11) (k := 14) (N := 16) (T := TX11) (C := RX11) ⟨by decide, rfl⟩ rfl rfl rfl (by decide) (mBa inB_X11) (mB wl_RX11_61) dX11_mid_49 ?_
      refine V_iload_n X 1 dX11_mid_52 rfl rfl ?_
      obtain ⟨x13, μ14, c12, h⟩ := bd2_some h
      refine V_callSi X (As := [.ref (zad y (0, 29, 0)), .int x2]) (M_X11_midOf (show okI y (0, 29, 0) from ⟨by decide, rfl⟩) (show zisI (0, 29, 0) = true from rfl) c12) (va_cwS 2 X.2.2.2.2.2.2.1 (gS wm_RX11_262 wst_X11_midOf win_RX11 wc_X11_midOf) rfl rfl rfl hd_X11_midOf.2 ⟨Nat.le_of_ble_eq_true rfl, Nat.le_of_ble_eq_true rfl⟩) rfl (Nat.le_of_ble_eq_true rfl) dX11_mid_53 rfl ?_
      exact V_iretX X h dX11_mid_56
    refine lp_ind (P := fun q => V X q.2 21 [(0, .ref (zad y (0, 0, 0))), (1, .int x2), (2, .int q.1)] []) (fun q z h hz => ?_) hl
    obtain ⟨x5, μ6⟩ := q
    replace h := un2_eq h
    show V X μ6 21 [(0, .ref (zad y (0, 0, 0))), (1, .int x2), (2, .int x5)] []
    refine V_iload_n X 2 dX11_mid_21 rfl rfl ?_
    refine V_iload_n X 1 dX11_mid_22 rfl rfl ?_
    refine V_icmp_ge X (tgt := 48) dX11_mid_23 (by decide) (fun b8 => ?_) (fun b8 => ?_)
    · replace h := (if_pos b8).symm.trans h
      refine V_sub X [0, 1] (lv' := [(0, .ref (zad y (0, 0, 0))), (1, .int x2)]) rfl ?_
      cases h
      obtain rfl := pr1 hz
      exact hk
    · replace h := (if_neg b8).symm.trans h
      refine V_aload_n X 0 dX11_mid_26 rfl rfl ?_
      refine V_getr X (o := (0, 0, 0)) (i := (0, 29, 0)) (ci := 11) (k := 14) (N := 16) (T := TX11) (C := RX11) ⟨by decide, rfl⟩ rfl rfl rfl (by decide) (mBa inB_X11) (mB wl_RX11_61) dX11_mid_27 ?_
      refine V_iload_n X 2 dX11_mid_30 rfl rfl ?_
      refine V_aload_n X 0 dX11_mid_31 rfl rfl ?_
      refine V_getr X (o := (0, 0, 0)) (i := (0, 1, 0)) (ci := 11) (k := 0) (N := 16) (T := TX11) (C := RX11) ⟨by decide, rfl⟩ rfl rfl rfl (by decide) (mBa inB_X11) (mB wl_RX11_9) dX11_mid_32 ?_
      refine V_iload_n X 2 dX11_mid_35 rfl rfl ?_
      obtain ⟨g9, h⟩ := gd_some h
      refine V_iald X x5.toNatClampNeg rfl (o := (0, 1, 0)) (n := 400) ⟨by decide, rfl⟩ rfl rfl g9 dX11_mid_36 ?_
      refine V_sipush X 128 dX11_mid_37 (by decide) ?_
      refine V_isub X dX11_mid_40 ?_
      obtain ⟨g10, h⟩ := gd_some h
      refine V_iast X x5.toNatClampNeg rfl (o := (0, 29, 0)) (n := 20) ⟨by decide, rfl⟩ rfl rfl g10 dX11_mid_41 ?_
      refine zlt_el (P := fun (μ11 : ZMem) => V X μ11 42 [(0, .ref (zad y (0, 0, 0))), (1, .int x2), (2, .int x5)] []) h (fun μ11 h => ?_)
      refine V_inc X 2 1 [(2, .int (x5 + 1)), (0, .ref (zad y (0, 0, 0))), (1, .int x2)] dX11_mid_42 rfl (by decide) (by decide) rfl ?_
      refine V_goto X (tgt := 21) dX11_mid_45 (by decide) ?_
      refine V_sub X [1, 2, 0] (lv' := [(0, .ref (zad y (0, 0, 0))), (1, .int x2), (2, .int (x5 + 1))]) rfl ?_
      cases h
      exact hz
  · replace h := (if_neg b4).symm.trans h
    exact V_throw X hex hlf (ik := 119) (ic := 121) 1 h (by decide +kernel) (by decide +kernel) (mB wcl_RX11_119) (mB wine_1) (mBa wx_1) wx_n1 wx_g1 dX11_mid_11 dX11_mid_14 dX11_mid_15 dX11_mid_18 (Nat.le_of_ble_eq_true rfl) (Nat.le_of_ble_eq_true rfl) (Nat.le_of_ble_eq_true rfl) (Nat.le_of_ble_eq_true rfl)

def f_X11_spread (μ : ZMem) : Option (Int32) := bd (f_X7_spreadOfClocks 0 μ) (fun (x2 : Int32) => some x2)
set_option maxRecDepth 100000 in
set_option maxHeartbeats 4000000 in
theorem M_X11_spread {l : Launch} {D : va_G} {y : ZLay}   {μ : ZMem} {r : Int32} (h : f_X11_spread μ = some r) : MI l yX11_spread wb_X11_spread rm_X11_spread D y [.ref (zad y (0, 0, 0))] μ r μ := by
  unfold f_X11_spread at h
  refine MI_of RX11 [(0, .ref (zad y (0, 0, 0)))] (by decide) rfl rfl (Nat.le_of_ble_eq_true rfl) rfl ?_
  intro p e s m args below meth c A X
  refine V_aload_n X 0 dX11_spread_0 rfl rfl ?_
  refine V_getr X (o := (0, 0, 0)) (i := (1, 0, 0)) (ci := 11) (k := 3) (N := 16) (T := TX11) (C := RX11) ⟨by decide, rfl⟩ rfl rfl rfl (by decide) (mBa inB_X11) (mB wl_RX11_77) dX11_spread_1 ?_
  obtain ⟨x2, c1, h⟩ := bd_some h
  refine V_callVi X (As := []) (M_X7_spreadOfClocks (by decide) c1) (cwV 0 X.2.2.2.2.2.2.1 (gV wm_RX11_266 wi_X7_spreadOfClocks wse_X7_spreadOfClocks win_RX7 wc_X7_spreadOfClocks) rfl rfl rfl hd_X7_spreadOfClocks ⟨Nat.le_of_ble_eq_true rfl, Nat.le_of_ble_eq_true rfl⟩) (b := (1, 0, 0)) ⟨(by decide), rfl⟩ rfl rfl rfl rfl (Nat.le_of_ble_eq_true rfl) dX11_spread_4 rfl ?_
  exact V_iretR X h dX11_spread_7

def f_X11_agreed (μ : ZMem) : Option (Int32) := bd (lp (σ := Int32 × Int32) (fun q => un2 q (fun (x1 : Int32) (x2 : Int32) => if (μ (1, 0, 0) 4) ≤ x2 then some (.inr (.inl ())) else gd (zin x2 8) (jk (fun (x6 : Int32) => some (.inl (x6, (x2 + 1)))) (fun k7 => if (μ (3, 0, x2.toNatClampNeg) 3) = 2 then jk (zlt (μ (3, 0, x2.toNatClampNeg) 5) (fun (x11 : Int32) => k7 x11)) (fun k9 => if x1 = (-1) then k9 else if x1 = (μ (3, 0, x2.toNatClampNeg) 5) then k9 else some (.inr (.inr 0))) else k7 x1)))) FU ((-1), 0)) (fun z => sm z (fun (_ : Unit) => some 1) (fun r0 => some r0))
set_option maxRecDepth 100000 in
set_option maxHeartbeats 4000000 in
theorem M_X11_agreed {l : Launch} {D : va_G} {y : ZLay}   {μ : ZMem} {r : Int32} (h : f_X11_agreed μ = some r) : MI l yX11_agreed wb_X11_agreed rm_X11_agreed D y [.ref (zad y (0, 0, 0))] μ r μ := by
  unfold f_X11_agreed at h
  refine MI_of RX11 [(0, .ref (zad y (0, 0, 0)))] (by decide) rfl rfl (Nat.le_of_ble_eq_true rfl) rfl ?_
  intro p e s m args below meth c A X
  refine V_iconst X (-1) dX11_agreed_0 (by decide) ?_
  refine V_istore_n X [(1, .int (-1)), (0, .ref (zad y (0, 0, 0)))] dX11_agreed_1 rfl (by decide) rfl ?_
  refine V_iconst X 0 dX11_agreed_2 (by decide) ?_
  refine V_istore_n X [(2, .int 0), (1, .int (-1)), (0, .ref (zad y (0, 0, 0)))] dX11_agreed_3 rfl (by decide) rfl ?_
  refine V_sub X [2, 1, 0] (lv' := [(0, .ref (zad y (0, 0, 0))), (1, .int (-1)), (2, .int 0)]) rfl ?_
  obtain ⟨zz, hl, h⟩ := bd_some h
  have hk : ∀ (_ : Unit), .inl () = zz → V X μ 73 [] [] := by
    intro _ hzz
    subst hzz
    clear hl
    replace h := sm_l h
    refine V_iconst X 1 dX11_agreed_73 (by decide) ?_
    exact V_zretR X h (by decide) dX11_agreed_74
  have hr : ∀ r0, .inr r0 = zz → some r0 = some r := by
    intro r0 hzz
    subst hzz
    exact h
  refine lp_ind (P := fun q => V X μ 4 [(0, .ref (zad y (0, 0, 0))), (1, .int q.1), (2, .int q.2)] []) (fun q z h hz => ?_) hl
  obtain ⟨x1, x2⟩ := q
  replace h := un2_eq h
  show V X μ 4 [(0, .ref (zad y (0, 0, 0))), (1, .int x1), (2, .int x2)] []
  refine V_iload_n X 2 dX11_agreed_4 rfl rfl ?_
  refine V_aload_n X 0 dX11_agreed_5 rfl rfl ?_
  refine V_getr X (o := (0, 0, 0)) (i := (1, 0, 0)) (ci := 11) (k := 3) (N := 16) (T := TX11) (C := RX11) ⟨by decide, rfl⟩ rfl rfl rfl (by decide) (mBa inB_X11) (mB wl_RX11_77) dX11_agreed_6 ?_
  refine V_geti X (o := (1, 0, 0)) (ci := 7) (k := 4) (N := 11) (T := TX7) (C := RX7) ⟨(by decide), rfl⟩ rfl rfl rfl (by decide) (mBa inB_X7) (mB wl_RX11_145) dX11_agreed_9 ?_
  refine V_icmp_ge X (tgt := 73) dX11_agreed_12 (by decide) (fun b3 => ?_) (fun b3 => ?_)
  · replace h := (if_pos b3).symm.trans h
    refine V_sub X [] (lv' := []) rfl ?_
    cases h
    exact hk () hz
  · replace h := (if_neg b3).symm.trans h
    refine V_aload_n X 0 dX11_agreed_15 rfl rfl ?_
    refine V_getr X (o := (0, 0, 0)) (i := (1, 0, 0)) (ci := 11) (k := 3) (N := 16) (T := TX11) (C := RX11) ⟨by decide, rfl⟩ rfl rfl rfl (by decide) (mBa inB_X11) (mB wl_RX11_77) dX11_agreed_16 ?_
    refine V_getr X (o := (1, 0, 0)) (i := (2, 0, 0)) (ci := 7) (k := 0) (N := 11) (T := TX7) (C := RX7) ⟨(by decide), rfl⟩ rfl rfl rfl (by decide) (mBa inB_X7) (mB wl_RX11_158) dX11_agreed_19 ?_
    refine V_iload_n X 2 dX11_agreed_22 rfl rfl ?_
    obtain ⟨g4, h⟩ := gd_some h
    refine V_aald X x2.toNatClampNeg rfl (o := (2, 0, 0)) ⟨(by decide), rfl⟩ rfl rfl rfl rfl g4 dX11_agreed_23 ?_
    refine V_geti X (o := (3, 0, x2.toNatClampNeg)) (ci := 5) (k := 3) (N := 11) (T := TX5) (C := RX5) ⟨(by decide), zin_lt g4⟩ rfl rfl rfl (by decide) (mBa inB_X5) (mB wl_RX11_196) dX11_agreed_24 ?_
    refine V_iconst X 2 dX11_agreed_27 (by decide) ?_
    refine jk1_el (P := fun (x6 : Int32) => V X μ 67 [(0, .ref (zad y (0, 0, 0))), (1, .int x6), (2, .int x2)] []) h (fun x6 h => ?_) (fun k7 hk7 h => ?_)
    · refine V_inc X 2 1 [(2, .int (x2 + 1)), (0, .ref (zad y (0, 0, 0))), (1, .int x6)] dX11_agreed_67 rfl (by decide) (by decide) rfl ?_
      refine V_goto X (tgt := 4) dX11_agreed_70 (by decide) ?_
      refine V_sub X [1, 2, 0] (lv' := [(0, .ref (zad y (0, 0, 0))), (1, .int x6), (2, .int (x2 + 1))]) rfl ?_
      cases h
      exact hz
    · refine V_icmp_ne X (tgt := 67) dX11_agreed_28 (by decide) (fun b5 => ?_) (fun b5 => ?_)
      · replace h := (if_neg b5).symm.trans h
        exact hk7 _ h
      · replace h := (if_pos b5).symm.trans h
        refine V_iload_n X 1 dX11_agreed_31 rfl rfl ?_
        refine V_iconst X (-1) dX11_agreed_32 (by decide) ?_
        refine jk0_el (P := V X μ 54 [(0, .ref (zad y (0, 0, 0))), (2, .int x2)] []) h (fun h => ?_) (fun k9 hk9 h => ?_)
        · refine V_aload_n X 0 dX11_agreed_54 rfl rfl ?_
          refine V_getr X (o := (0, 0, 0)) (i := (1, 0, 0)) (ci := 11) (k := 3) (N := 16) (T := TX11) (C := RX11) ⟨by decide, rfl⟩ rfl rfl rfl (by decide) (mBa inB_X11) (mB wl_RX11_77) dX11_agreed_55 ?_
          refine V_getr X (o := (1, 0, 0)) (i := (2, 0, 0)) (ci := 7) (k := 0) (N := 11) (T := TX7) (C := RX7) ⟨(by decide), rfl⟩ rfl rfl rfl (by decide) (mBa inB_X7) (mB wl_RX11_158) dX11_agreed_58 ?_
          refine V_iload_n X 1 dX11_agreed_61 rfl rfl ?_
          refine V_aald X x2.toNatClampNeg rfl (o := (2, 0, 0)) ⟨(by decide), rfl⟩ rfl rfl rfl rfl g4 dX11_agreed_62 ?_
          refine V_geti X (o := (3, 0, x2.toNatClampNeg)) (ci := 5) (k := 5) (N := 11) (T := TX5) (C := RX5) ⟨(by decide), zin_lt g4⟩ rfl rfl rfl (by decide) (mBa inB_X5) (mB wl_RX11_244) dX11_agreed_63 ?_
          refine V_istore_n X [(1, .int (μ (3, 0, x2.toNatClampNeg) 5)), (0, .ref (zad y (0, 0, 0))), (2, .int x2)] dX11_agreed_66 rfl (by decide) rfl ?_
          refine zlt_el (P := fun (x11 : Int32) => V X μ 67 [(1, .int x11), (0, .ref (zad y (0, 0, 0))), (2, .int x2)] []) h (fun x11 h => ?_)
          refine V_sub X [1, 0, 2] (lv' := [(0, .ref (zad y (0, 0, 0))), (1, .int x11), (2, .int x2)]) rfl ?_
          exact hk7 _ h
        · refine V_icmp_eq X (tgt := 54) dX11_agreed_33 (by decide) (fun b8 => ?_) (fun b8 => ?_)
          · replace h := (if_pos b8).symm.trans h
            refine V_sub X [0, 2] (lv' := [(0, .ref (zad y (0, 0, 0))), (2, .int x2)]) rfl ?_
            exact hk9 h
          · replace h := (if_neg b8).symm.trans h
            refine V_iload_n X 1 dX11_agreed_36 rfl rfl ?_
            refine V_aload_n X 0 dX11_agreed_37 rfl rfl ?_
            refine V_getr X (o := (0, 0, 0)) (i := (1, 0, 0)) (ci := 11) (k := 3) (N := 16) (T := TX11) (C := RX11) ⟨by decide, rfl⟩ rfl rfl rfl (by decide) (mBa inB_X11) (mB wl_RX11_77) dX11_agreed_38 ?_
            refine V_getr X (o := (1, 0, 0)) (i := (2, 0, 0)) (ci := 7) (k := 0) (N := 11) (T := TX7) (C := RX7) ⟨(by decide), rfl⟩ rfl rfl rfl (by decide) (mBa inB_X7) (mB wl_RX11_158) dX11_agreed_41 ?_
            refine V_iload_n X 2 dX11_agreed_44 rfl rfl ?_
            refine V_aald X x2.toNatClampNeg rfl (o := (2, 0, 0)) ⟨(by decide), rfl⟩ rfl rfl rfl rfl g4 dX11_agreed_45 ?_
            refine V_geti X (o := (3, 0, x2.toNatClampNeg)) (ci := 5) (k := 5) (N := 11) (T := TX5) (C := RX5) ⟨(by decide), zin_lt g4⟩ rfl rfl rfl (by decide) (mBa inB_X5) (mB wl_RX11_244) dX11_agreed_46 ?_
            refine V_icmp_eq X (tgt := 54) dX11_agreed_49 (by decide) (fun b10 => ?_) (fun b10 => ?_)
            · replace h := (if_pos b10).symm.trans h
              refine V_sub X [0, 2] (lv' := [(0, .ref (zad y (0, 0, 0))), (2, .int x2)]) rfl ?_
              exact hk9 h
            · replace h := (if_neg b10).symm.trans h
              refine V_iconst X 0 dX11_agreed_52 (by decide) ?_
              cases h
              have h := hr _ hz
              exact V_zretR X h (by decide) dX11_agreed_53

def f_X11_cliques (y : ZLay) (μ : ZMem) : Option (Int32 × ZMem) := bd (f_X10_look y 0 μ) (fun (μ2 : ZMem) => bd (f_X1_load μ2) (fun (μ4 : ZMem) => bd (f_X1_countCliques μ4) (fun (x6 : Int32) => some (x6, μ4))))
set_option maxRecDepth 100000 in
set_option maxHeartbeats 4000000 in
theorem M_X11_cliques {l : Launch} {D : va_G} {y : ZLay}   {μ : ZMem} {r : Int32} {μ0 : ZMem} (h : f_X11_cliques y μ = some (r, μ0)) : MI l yX11_cliques wb_X11_cliques rm_X11_cliques D y [.ref (zad y (0, 0, 0))] μ r μ0 := by
  unfold f_X11_cliques at h
  refine MI_of RX11 [(0, .ref (zad y (0, 0, 0)))] (by decide) rfl rfl (Nat.le_of_ble_eq_true rfl) rfl ?_
  intro p e s m args below meth c A X
  refine V_aload_n X 0 dX11_cliques_0 rfl rfl ?_
  refine V_getr X (o := (0, 0, 0)) (i := (0, 4, 0)) (ci := 11) (k := 8) (N := 16) (T := TX11) (C := RX11) ⟨by decide, rfl⟩ rfl rfl rfl (by decide) (mBa inB_X11) (mB wl_RX11_20) dX11_cliques_1 ?_
  refine V_getr X (o := (0, 4, 0)) (i := (0, 5, 0)) (ci := 9) (k := 0) (N := 2) (T := TX9) (C := RX9) ⟨by decide, rfl⟩ rfl rfl rfl (by decide) (mBa inB_X9) (mB wl_RX11_168) dX11_cliques_4 ?_
  refine V_aload_n X 0 dX11_cliques_7 rfl rfl ?_
  refine V_getr X (o := (0, 0, 0)) (i := (1, 0, 0)) (ci := 11) (k := 3) (N := 16) (T := TX11) (C := RX11) ⟨by decide, rfl⟩ rfl rfl rfl (by decide) (mBa inB_X11) (mB wl_RX11_77) dX11_cliques_8 ?_
  obtain ⟨μ2, c1, h⟩ := bd_some h
  refine V_callVv X (As := [.ref (zad y (1, 0, 0))]) (M_X10_look (by decide) c1) (cwV 1 X.2.2.2.2.2.2.1 (gV wm_RX11_172 wi_X10_look wse_X10_look win_RX10 wc_X10_look) rfl rfl rfl hd_X10_look ⟨Nat.le_of_ble_eq_true rfl, Nat.le_of_ble_eq_true rfl⟩) (b := (0, 5, 0)) ⟨by decide, rfl⟩ rfl rfl rfl rfl (Nat.le_of_ble_eq_true rfl) dX11_cliques_11 rfl ?_
  refine V_aload_n X 0 dX11_cliques_14 rfl rfl ?_
  refine V_getr X (o := (0, 0, 0)) (i := (0, 12, 0)) (ci := 11) (k := 9) (N := 16) (T := TX11) (C := RX11) ⟨by decide, rfl⟩ rfl rfl rfl (by decide) (mBa inB_X11) (mB wl_RX11_27) dX11_cliques_15 ?_
  refine V_aload_n X 0 dX11_cliques_18 rfl rfl ?_
  refine V_getr X (o := (0, 0, 0)) (i := (0, 4, 0)) (ci := 11) (k := 8) (N := 16) (T := TX11) (C := RX11) ⟨by decide, rfl⟩ rfl rfl rfl (by decide) (mBa inB_X11) (mB wl_RX11_20) dX11_cliques_19 ?_
  refine V_getr X (o := (0, 4, 0)) (i := (0, 5, 0)) (ci := 9) (k := 0) (N := 2) (T := TX9) (C := RX9) ⟨by decide, rfl⟩ rfl rfl rfl (by decide) (mBa inB_X9) (mB wl_RX11_168) dX11_cliques_22 ?_
  obtain ⟨μ4, c3, h⟩ := bd_some h
  refine V_callVv X (As := [.ref (zad y (0, 5, 0))]) (M_X1_load c3) (cwV 1 X.2.2.2.2.2.2.1 (gV wm_RX11_190 wi_X1_load wse_X1_load win_RX1 wc_X1_load) rfl rfl rfl hd_X1_load ⟨Nat.le_of_ble_eq_true rfl, Nat.le_of_ble_eq_true rfl⟩) (b := (0, 12, 0)) ⟨by decide, rfl⟩ rfl rfl rfl rfl (Nat.le_of_ble_eq_true rfl) dX11_cliques_25 rfl ?_
  refine V_aload_n X 0 dX11_cliques_28 rfl rfl ?_
  refine V_getr X (o := (0, 0, 0)) (i := (0, 12, 0)) (ci := 11) (k := 9) (N := 16) (T := TX11) (C := RX11) ⟨by decide, rfl⟩ rfl rfl rfl (by decide) (mBa inB_X11) (mB wl_RX11_27) dX11_cliques_29 ?_
  obtain ⟨x6, c5, h⟩ := bd_some h
  refine V_callVi X (As := []) (M_X1_countCliques c5) (cwV 0 X.2.2.2.2.2.2.1 (gV wm_RX11_269 wi_X1_countCliques wse_X1_countCliques win_RX1 wc_X1_countCliques) rfl rfl rfl hd_X1_countCliques ⟨Nat.le_of_ble_eq_true rfl, Nat.le_of_ble_eq_true rfl⟩) (b := (0, 12, 0)) ⟨by decide, rfl⟩ rfl rfl rfl rfl (Nat.le_of_ble_eq_true rfl) dX11_cliques_32 rfl ?_
  exact V_iretW X h dX11_cliques_35

def f_X11_settles (y : ZLay) (a1 : Int32) (μ : ZMem) : Option ((Int32 ⊕ Nat) × ZMem) := jk (some (.inr 1, μ)) (fun k2 => if a1 < 0 then k2 else if a1 ≤ 999 then bd (f_X7_copyFrom 1 0 μ) (fun (μ5 : ZMem) => bd (lp (σ := Int32 × ZMem) (fun q => un2 q (fun (x6 : Int32) (μ7 : ZMem) => if 60 < x6 then some (.inr (.inl μ7)) else bd (f_X7_inState 1 2 μ7) (fun (x11 : Int32) => jk (bd2 (f_X9_play y 1 0 μ7) (fun (x18 : Int32) (μ19 : ZMem) => some (.inl ((x6 + 1), μ19)))) (fun k13 => if (f_J6_bitCount_0f7a4 x11) < 2 then k13 else bd (f_X7_spreadOfClocks 1 μ7) (fun (x15 : Int32) => if a1 < x15 then k13 else some (.inr (.inr (.inl x6, μ7)))))))) FU (0, μ5)) (fun z => sm z (fun (μ8 : ZMem) => some (.inl (-1), μ8)) (fun r0 => some r0))) else k2)
set_option maxRecDepth 100000 in
set_option maxHeartbeats 4000000 in
theorem M_X11_settles {l : Launch} {D : va_G} {y : ZLay} {a1 : Int32}  {μ : ZMem} {res : Int32 ⊕ Nat} {μ0 : ZMem} (hlf : l.stackTraces = false) (h : f_X11_settles y a1 μ = some (res, μ0)) : MX l yX11_settles wb_X11_settles rm_X11_settles D y [.ref (zad y (0, 0, 0)), .int a1] μ res μ0 := by
  unfold f_X11_settles at h
  refine MX_of RX11 [(0, .ref (zad y (0, 0, 0))), (1, .int a1)] (by decide) rfl rfl (Nat.le_of_ble_eq_true rfl) rfl ?_
  intro p e s m args below meth c A X hex
  refine V_iload_n X 1 dX11_settles_0 rfl rfl ?_
  refine jk0_el (P := V X μ 11 [] []) h (fun h => ?_) (fun k2 hk2 h => ?_)
  · exact V_throw X hex hlf (ik := 119) (ic := 121) 1 h (by decide +kernel) (by decide +kernel) (mB wcl_RX11_119) (mB wine_1) (mBa wx_1) wx_n1 wx_g1 dX11_settles_11 dX11_settles_14 dX11_settles_15 dX11_settles_18 (Nat.le_of_ble_eq_true rfl) (Nat.le_of_ble_eq_true rfl) (Nat.le_of_ble_eq_true rfl) (Nat.le_of_ble_eq_true rfl)
  · refine V_if_lt X (tgt := 11) dX11_settles_1 (by decide) (fun b1 => ?_) (fun b1 => ?_)
    · replace h := (if_pos b1).symm.trans h
      refine V_sub X [] (lv' := []) rfl ?_
      exact hk2 h
    · replace h := (if_neg b1).symm.trans h
      refine V_iload_n X 1 dX11_settles_4 rfl rfl ?_
      refine V_sipush X 999 dX11_settles_5 (by decide) ?_
      refine V_icmp_le X (tgt := 19) dX11_settles_8 (by decide) (fun b3 => ?_) (fun b3 => ?_)
      · replace h := (if_pos b3).symm.trans h
        refine V_aload_n X 0 dX11_settles_19 rfl rfl ?_
        refine V_getr X (o := (0, 0, 0)) (i := (1, 1, 0)) (ci := 11) (k := 4) (N := 16) (T := TX11) (C := RX11) ⟨by decide, rfl⟩ rfl rfl rfl (by decide) (mBa inB_X11) (mB wl_RX11_81) dX11_settles_20 ?_
        refine V_aload_n X 0 dX11_settles_23 rfl rfl ?_
        refine V_getr X (o := (0, 0, 0)) (i := (1, 0, 0)) (ci := 11) (k := 3) (N := 16) (T := TX11) (C := RX11) ⟨by decide, rfl⟩ rfl rfl rfl (by decide) (mBa inB_X11) (mB wl_RX11_77) dX11_settles_24 ?_
        obtain ⟨μ5, c4, h⟩ := bd_some h
        refine V_callVv X (As := [.ref (zad y (1, 0, 0))]) (M_X7_copyFrom (by decide) (by decide) c4) (cwV 1 X.2.2.2.2.2.2.1 (gV wm_RX11_109 wi_X7_copyFrom wse_X7_copyFrom win_RX7 wc_X7_copyFrom) rfl rfl rfl hd_X7_copyFrom ⟨Nat.le_of_ble_eq_true rfl, Nat.le_of_ble_eq_true rfl⟩) (b := (1, 1, 0)) ⟨(by decide), rfl⟩ rfl rfl rfl rfl (Nat.le_of_ble_eq_true rfl) dX11_settles_27 rfl ?_
        refine V_iconst X 0 dX11_settles_30 (by decide) ?_
        refine V_istore_n X [(2, .int 0), (0, .ref (zad y (0, 0, 0))), (1, .int a1)] dX11_settles_31 rfl (by decide) rfl ?_
        refine V_sub X [1, 2, 0] (lv' := [(0, .ref (zad y (0, 0, 0))), (1, .int a1), (2, .int 0)]) rfl ?_
        obtain ⟨zz, hl, h⟩ := bd_some h
        have hk : ∀ (μ8 : ZMem), .inl μ8 = zz → V X μ8 85 [] [] := by
          intro μ8 hzz
          subst hzz
          clear hl
          replace h := sm_l h
          refine V_iconst X (-1) dX11_settles_85 (by decide) ?_
          exact V_iretX X h dX11_settles_86
        have hr : ∀ r0, .inr r0 = zz → some r0 = some (res, μ0) := by
          intro r0 hzz
          subst hzz
          exact h
        refine lp_ind (P := fun q => V X q.2 32 [(0, .ref (zad y (0, 0, 0))), (1, .int a1), (2, .int q.1)] []) (fun q z h hz => ?_) hl
        obtain ⟨x6, μ7⟩ := q
        replace h := un2_eq h
        show V X μ7 32 [(0, .ref (zad y (0, 0, 0))), (1, .int a1), (2, .int x6)] []
        refine V_iload_n X 2 dX11_settles_32 rfl rfl ?_
        refine V_bipush X 60 dX11_settles_33 (by decide) ?_
        refine V_icmp_gt X (tgt := 85) dX11_settles_35 (by decide) (fun b9 => ?_) (fun b9 => ?_)
        · replace h := (if_pos b9).symm.trans h
          refine V_sub X [] (lv' := []) rfl ?_
          cases h
          exact hk _ hz
        · replace h := (if_neg b9).symm.trans h
          refine V_aload_n X 0 dX11_settles_38 rfl rfl ?_
          refine V_getr X (o := (0, 0, 0)) (i := (1, 1, 0)) (ci := 11) (k := 4) (N := 16) (T := TX11) (C := RX11) ⟨by decide, rfl⟩ rfl rfl rfl (by decide) (mBa inB_X11) (mB wl_RX11_81) dX11_settles_39 ?_
          refine V_iconst X 2 dX11_settles_42 (by decide) ?_
          obtain ⟨x11, c10, h⟩ := bd_some h
          refine V_callVi X (As := [.int 2]) (M_X7_inState (by decide) c10) (cwV 1 X.2.2.2.2.2.2.1 (gV wm_RX11_272 wi_X7_inState wse_X7_inState win_RX7 wc_X7_inState) rfl rfl rfl hd_X7_inState ⟨Nat.le_of_ble_eq_true rfl, Nat.le_of_ble_eq_true rfl⟩) (b := (1, 1, 0)) ⟨(by decide), rfl⟩ rfl rfl rfl rfl (Nat.le_of_ble_eq_true rfl) dX11_settles_43 rfl ?_
          refine V_callSi X (As := [.int x11]) (M_J6_bitCount_0f7a4) (va_cwS 1 X.2.2.2.2.2.2.1 (gS wm_RX11_275 wst_J6_bitCount_0f7a4 win_RJ6 wc_J6_bitCount_0f7a4) rfl rfl rfl hd_J6_bitCount_0f7a4.2 ⟨Nat.le_of_ble_eq_true rfl, Nat.le_of_ble_eq_true rfl⟩) rfl (Nat.le_of_ble_eq_true rfl) dX11_settles_46 rfl ?_
          refine V_iconst X 2 dX11_settles_49 (by decide) ?_
          refine jk0_el (P := V X μ7 66 [(0, .ref (zad y (0, 0, 0))), (1, .int a1), (2, .int x6)] []) h (fun h => ?_) (fun k13 hk13 h => ?_)
          · refine V_aload_n X 0 dX11_settles_66 rfl rfl ?_
            refine V_getr X (o := (0, 0, 0)) (i := (0, 4, 0)) (ci := 11) (k := 8) (N := 16) (T := TX11) (C := RX11) ⟨by decide, rfl⟩ rfl rfl rfl (by decide) (mBa inB_X11) (mB wl_RX11_20) dX11_settles_67 ?_
            refine V_aload_n X 0 dX11_settles_70 rfl rfl ?_
            refine V_getr X (o := (0, 0, 0)) (i := (1, 1, 0)) (ci := 11) (k := 4) (N := 16) (T := TX11) (C := RX11) ⟨by decide, rfl⟩ rfl rfl rfl (by decide) (mBa inB_X11) (mB wl_RX11_81) dX11_settles_71 ?_
            refine V_iconst X 0 dX11_settles_74 (by decide) ?_
            obtain ⟨x18, μ19, c17, h⟩ := bd2_some h
            refine V_callVi X (As := [.ref (zad y (1, 1, 0)), .int 0]) (M_X9_play (by decide) c17) (cwV 2 X.2.2.2.2.2.2.1 (gV wm_RX11_219 wi_X9_play wse_X9_play win_RX9 wc_X9_play) rfl rfl rfl hd_X9_play ⟨Nat.le_of_ble_eq_true rfl, Nat.le_of_ble_eq_true rfl⟩) (b := (0, 4, 0)) ⟨by decide, rfl⟩ rfl rfl rfl rfl (Nat.le_of_ble_eq_true rfl) dX11_settles_75 rfl ?_
            refine V_pop X dX11_settles_78 rfl ?_
            refine V_inc X 2 1 [(2, .int (x6 + 1)), (0, .ref (zad y (0, 0, 0))), (1, .int a1)] dX11_settles_79 rfl (by decide) (by decide) rfl ?_
            refine V_goto X (tgt := 32) dX11_settles_82 (by decide) ?_
            refine V_sub X [1, 2, 0] (lv' := [(0, .ref (zad y (0, 0, 0))), (1, .int a1), (2, .int (x6 + 1))]) rfl ?_
            cases h
            exact hz
          · refine V_icmp_lt X (tgt := 66) dX11_settles_50 (by decide) (fun b12 => ?_) (fun b12 => ?_)
            · replace h := (if_pos b12).symm.trans h
              exact hk13 h
            · replace h := (if_neg b12).symm.trans h
              refine V_aload_n X 0 dX11_settles_53 rfl rfl ?_
              refine V_getr X (o := (0, 0, 0)) (i := (1, 1, 0)) (ci := 11) (k := 4) (N := 16) (T := TX11) (C := RX11) ⟨by decide, rfl⟩ rfl rfl rfl (by decide) (mBa inB_X11) (mB wl_RX11_81) dX11_settles_54 ?_
              obtain ⟨x15, c14, h⟩ := bd_some h
              refine V_callVi X (As := []) (M_X7_spreadOfClocks (by decide) c14) (cwV 0 X.2.2.2.2.2.2.1 (gV wm_RX11_266 wi_X7_spreadOfClocks wse_X7_spreadOfClocks win_RX7 wc_X7_spreadOfClocks) rfl rfl rfl hd_X7_spreadOfClocks ⟨Nat.le_of_ble_eq_true rfl, Nat.le_of_ble_eq_true rfl⟩) (b := (1, 1, 0)) ⟨(by decide), rfl⟩ rfl rfl rfl rfl (Nat.le_of_ble_eq_true rfl) dX11_settles_57 rfl ?_
              refine V_iload_n X 1 dX11_settles_60 rfl rfl ?_
              refine V_icmp_gt X (tgt := 66) dX11_settles_61 (by decide) (fun b16 => ?_) (fun b16 => ?_)
              · replace h := (if_pos b16).symm.trans h
                exact hk13 h
              · replace h := (if_neg b16).symm.trans h
                refine V_iload_n X 2 dX11_settles_64 rfl rfl ?_
                cases h
                have h := hr _ hz
                exact V_iretX X h dX11_settles_65
      · replace h := (if_neg b3).symm.trans h
        refine V_sub X [] (lv' := []) rfl ?_
        exact hk2 h

def f_X11_isAhead (a0 : Int32) : Option (Int32) := bd (α := Int32) (jk (some 0) (fun k3 => if a0 < 0 then k3 else if 60 < a0 then k3 else some 1)) (fun (x2 : Int32) => gd (zbo x2) (some x2))
set_option maxRecDepth 100000 in
set_option maxHeartbeats 4000000 in
theorem M_X11_isAhead {l : Launch} {D : va_G} {y : ZLay} {a0 : Int32}  {μ : ZMem} {r : Int32} (h : f_X11_isAhead a0 = some r) : MI l yX11_isAhead wb_X11_isAhead rm_X11_isAhead D y [.int a0] μ r μ := by
  unfold f_X11_isAhead at h
  refine MI_of RX11 [(0, .int a0)] (by decide) rfl rfl (Nat.le_of_ble_eq_true rfl) rfl ?_
  intro p e s m args below meth c A X
  refine V_iload_n X 0 dX11_isAhead_0 rfl rfl ?_
  obtain ⟨x2, h1, h⟩ := bd_some h
  have hk : V X μ 15 [] [.int x2] := by
    clear h1
    obtain ⟨hzb, h⟩ := gd_some h
    exact V_zretR X h hzb dX11_isAhead_15
  replace h := h1
  clear h1
  refine jk0_el (P := V X μ 14 [] []) h (fun h => ?_) (fun k3 hk3 h => ?_)
  · refine V_iconst X 0 dX11_isAhead_14 (by decide) ?_
    obtain rfl := so1 h
    exact hk
  · refine V_if_lt X (tgt := 14) dX11_isAhead_1 (by decide) (fun b1 => ?_) (fun b1 => ?_)
    · replace h := (if_pos b1).symm.trans h
      refine V_sub X [] (lv' := []) rfl ?_
      exact hk3 h
    · replace h := (if_neg b1).symm.trans h
      refine V_iload_n X 0 dX11_isAhead_4 rfl rfl ?_
      refine V_bipush X 60 dX11_isAhead_5 (by decide) ?_
      refine V_icmp_gt X (tgt := 14) dX11_isAhead_7 (by decide) (fun b4 => ?_) (fun b4 => ?_)
      · replace h := (if_pos b4).symm.trans h
        refine V_sub X [] (lv' := []) rfl ?_
        exact hk3 h
      · replace h := (if_neg b4).symm.trans h
        refine V_iconst X 1 dX11_isAhead_10 (by decide) ?_
        refine V_goto X (tgt := 15) dX11_isAhead_11 (by decide) ?_
        refine V_sub X [] (lv' := []) rfl ?_
        obtain rfl := so1 h
        exact hk

def f_X11_widest (y : ZLay) (a1 : Int32) (μ : ZMem) : Option ((Int32 ⊕ Nat) × ZMem) := bd (f_X11_isAhead a1) (fun (x2 : Int32) => if x2 = 0 then some (.inr 1, μ) else bd (f_X7_copyFrom 1 0 μ) (fun (μ5 : ZMem) => bd (f_X7_spreadOfClocks 1 μ5) (fun (x7 : Int32) => bd2 (lp (σ := Int32 × Int32 × ZMem) (fun q => un3 q (fun (x8 : Int32) (x9 : Int32) (μ10 : ZMem) => if a1 ≤ x9 then some (.inr (x8, μ10)) else bd2 (f_X9_play y 1 0 μ10) (fun (x15 : Int32) (μ16 : ZMem) => bd (f_X7_spreadOfClocks 1 μ16) (fun (x18 : Int32) => zlt (zmax x8 x18) (fun (x19 : Int32) => some (.inl (x19, (x9 + 1), μ16))))))) FU (x7, 0, μ5)) (fun (x11 : Int32) (μ12 : ZMem) => some (.inl x11, μ12)))))
set_option maxRecDepth 100000 in
set_option maxHeartbeats 4000000 in
theorem M_X11_widest {l : Launch} {D : va_G} {y : ZLay} {a1 : Int32}  {μ : ZMem} {res : Int32 ⊕ Nat} {μ0 : ZMem} (hlf : l.stackTraces = false) (h : f_X11_widest y a1 μ = some (res, μ0)) : MX l yX11_widest wb_X11_widest rm_X11_widest D y [.ref (zad y (0, 0, 0)), .int a1] μ res μ0 := by
  unfold f_X11_widest at h
  refine MX_of RX11 [(0, .ref (zad y (0, 0, 0))), (1, .int a1)] (by decide) rfl rfl (Nat.le_of_ble_eq_true rfl) rfl ?_
  intro p e s m args below meth c A X hex
  refine V_iload_n X 1 dX11_widest_0 rfl rfl ?_
  obtain ⟨x2, c1, h⟩ := bd_some h
  refine V_callSi X (As := [.int a1]) (M_X11_isAhead c1) (va_cwS 1 X.2.2.2.2.2.2.1 (gS wm_RX11_280 wst_X11_isAhead win_RX11 wc_X11_isAhead) rfl rfl rfl hd_X11_isAhead.2 ⟨Nat.le_of_ble_eq_true rfl, Nat.le_of_ble_eq_true rfl⟩) rfl (Nat.le_of_ble_eq_true rfl) dX11_widest_1 rfl ?_
  refine V_if_ne X (tgt := 15) dX11_widest_4 (by decide) (fun b3 => ?_) (fun b3 => ?_)
  · replace h := (if_neg b3).symm.trans h
    refine V_aload_n X 0 dX11_widest_15 rfl rfl ?_
    refine V_getr X (o := (0, 0, 0)) (i := (1, 1, 0)) (ci := 11) (k := 4) (N := 16) (T := TX11) (C := RX11) ⟨by decide, rfl⟩ rfl rfl rfl (by decide) (mBa inB_X11) (mB wl_RX11_81) dX11_widest_16 ?_
    refine V_aload_n X 0 dX11_widest_19 rfl rfl ?_
    refine V_getr X (o := (0, 0, 0)) (i := (1, 0, 0)) (ci := 11) (k := 3) (N := 16) (T := TX11) (C := RX11) ⟨by decide, rfl⟩ rfl rfl rfl (by decide) (mBa inB_X11) (mB wl_RX11_77) dX11_widest_20 ?_
    obtain ⟨μ5, c4, h⟩ := bd_some h
    refine V_callVv X (As := [.ref (zad y (1, 0, 0))]) (M_X7_copyFrom (by decide) (by decide) c4) (cwV 1 X.2.2.2.2.2.2.1 (gV wm_RX11_109 wi_X7_copyFrom wse_X7_copyFrom win_RX7 wc_X7_copyFrom) rfl rfl rfl hd_X7_copyFrom ⟨Nat.le_of_ble_eq_true rfl, Nat.le_of_ble_eq_true rfl⟩) (b := (1, 1, 0)) ⟨(by decide), rfl⟩ rfl rfl rfl rfl (Nat.le_of_ble_eq_true rfl) dX11_widest_23 rfl ?_
    refine V_aload_n X 0 dX11_widest_26 rfl rfl ?_
    refine V_getr X (o := (0, 0, 0)) (i := (1, 1, 0)) (ci := 11) (k := 4) (N := 16) (T := TX11) (C := RX11) ⟨by decide, rfl⟩ rfl rfl rfl (by decide) (mBa inB_X11) (mB wl_RX11_81) dX11_widest_27 ?_
    obtain ⟨x7, c6, h⟩ := bd_some h
    refine V_callVi X (As := []) (M_X7_spreadOfClocks (by decide) c6) (cwV 0 X.2.2.2.2.2.2.1 (gV wm_RX11_266 wi_X7_spreadOfClocks wse_X7_spreadOfClocks win_RX7 wc_X7_spreadOfClocks) rfl rfl rfl hd_X7_spreadOfClocks ⟨Nat.le_of_ble_eq_true rfl, Nat.le_of_ble_eq_true rfl⟩) (b := (1, 1, 0)) ⟨(by decide), rfl⟩ rfl rfl rfl rfl (Nat.le_of_ble_eq_true rfl) dX11_widest_30 rfl ?_
    refine V_istore_n X [(2, .int x7), (0, .ref (zad y (0, 0, 0))), (1, .int a1)] dX11_widest_33 rfl (by decide) rfl ?_
    refine V_iconst X 0 dX11_widest_34 (by decide) ?_
    refine V_istore_n X [(3, .int 0), (2, .int x7), (0, .ref (zad y (0, 0, 0))), (1, .int a1)] dX11_widest_35 rfl (by decide) rfl ?_
    refine V_sub X [2, 3, 1, 0] (lv' := [(0, .ref (zad y (0, 0, 0))), (1, .int a1), (2, .int x7), (3, .int 0)]) rfl ?_
    obtain ⟨x11, μ12, hl, h⟩ := bd2_some h
    have hk : V X μ12 72 [(2, .int x11)] [] := by
      clear hl
      refine V_iload_n X 0 dX11_widest_72 rfl rfl ?_
      exact V_iretX X h dX11_widest_73
    refine lp_ind (P := fun q => V X q.2.2 36 [(0, .ref (zad y (0, 0, 0))), (1, .int a1), (2, .int q.1), (3, .int q.2.1)] []) (fun q z h hz => ?_) hl
    obtain ⟨x8, x9, μ10⟩ := q
    replace h := un3_eq h
    show V X μ10 36 [(0, .ref (zad y (0, 0, 0))), (1, .int a1), (2, .int x8), (3, .int x9)] []
    refine V_iload_n X 3 dX11_widest_36 rfl rfl ?_
    refine V_iload_n X 1 dX11_widest_37 rfl rfl ?_
    refine V_icmp_ge X (tgt := 72) dX11_widest_38 (by decide) (fun b13 => ?_) (fun b13 => ?_)
    · replace h := (if_pos b13).symm.trans h
      refine V_sub X [2] (lv' := [(2, .int x8)]) rfl ?_
      cases h
      obtain ⟨rfl, rfl⟩ := pr2 hz
      exact hk
    · replace h := (if_neg b13).symm.trans h
      refine V_aload_n X 0 dX11_widest_41 rfl rfl ?_
      refine V_getr X (o := (0, 0, 0)) (i := (0, 4, 0)) (ci := 11) (k := 8) (N := 16) (T := TX11) (C := RX11) ⟨by decide, rfl⟩ rfl rfl rfl (by decide) (mBa inB_X11) (mB wl_RX11_20) dX11_widest_42 ?_
      refine V_aload_n X 0 dX11_widest_45 rfl rfl ?_
      refine V_getr X (o := (0, 0, 0)) (i := (1, 1, 0)) (ci := 11) (k := 4) (N := 16) (T := TX11) (C := RX11) ⟨by decide, rfl⟩ rfl rfl rfl (by decide) (mBa inB_X11) (mB wl_RX11_81) dX11_widest_46 ?_
      refine V_iconst X 0 dX11_widest_49 (by decide) ?_
      obtain ⟨x15, μ16, c14, h⟩ := bd2_some h
      refine V_callVi X (As := [.ref (zad y (1, 1, 0)), .int 0]) (M_X9_play (by decide) c14) (cwV 2 X.2.2.2.2.2.2.1 (gV wm_RX11_219 wi_X9_play wse_X9_play win_RX9 wc_X9_play) rfl rfl rfl hd_X9_play ⟨Nat.le_of_ble_eq_true rfl, Nat.le_of_ble_eq_true rfl⟩) (b := (0, 4, 0)) ⟨by decide, rfl⟩ rfl rfl rfl rfl (Nat.le_of_ble_eq_true rfl) dX11_widest_50 rfl ?_
      refine V_pop X dX11_widest_53 rfl ?_
      refine V_iload_n X 2 dX11_widest_54 rfl rfl ?_
      refine V_aload_n X 0 dX11_widest_55 rfl rfl ?_
      refine V_getr X (o := (0, 0, 0)) (i := (1, 1, 0)) (ci := 11) (k := 4) (N := 16) (T := TX11) (C := RX11) ⟨by decide, rfl⟩ rfl rfl rfl (by decide) (mBa inB_X11) (mB wl_RX11_81) dX11_widest_56 ?_
      obtain ⟨x18, c17, h⟩ := bd_some h
      refine V_callVi X (As := []) (M_X7_spreadOfClocks (by decide) c17) (cwV 0 X.2.2.2.2.2.2.1 (gV wm_RX11_266 wi_X7_spreadOfClocks wse_X7_spreadOfClocks win_RX7 wc_X7_spreadOfClocks) rfl rfl rfl hd_X7_spreadOfClocks ⟨Nat.le_of_ble_eq_true rfl, Nat.le_of_ble_eq_true rfl⟩) (b := (1, 1, 0)) ⟨(by decide), rfl⟩ rfl rfl rfl rfl (Nat.le_of_ble_eq_true rfl) dX11_widest_59 rfl ?_
      refine V_zmax X (ix := 283) (mB wm_RX11_283) (mB wst_Math_max) (mB win_Math) (mB wc_Math_max) (Nat.le_of_ble_eq_true rfl) (Nat.le_of_ble_eq_true rfl) dX11_widest_62 ?_
      refine V_istore_n X [(2, .int (zmax x8 x18)), (0, .ref (zad y (0, 0, 0))), (1, .int a1), (3, .int x9)] dX11_widest_65 rfl (by decide) rfl ?_
      refine zlt_el (P := fun (x19 : Int32) => V X μ16 66 [(2, .int x19), (0, .ref (zad y (0, 0, 0))), (1, .int a1), (3, .int x9)] []) h (fun x19 h => ?_)
      refine V_inc X 3 1 [(3, .int (x9 + 1)), (2, .int x19), (0, .ref (zad y (0, 0, 0))), (1, .int a1)] dX11_widest_66 rfl (by decide) (by decide) rfl ?_
      refine V_goto X (tgt := 36) dX11_widest_69 (by decide) ?_
      refine V_sub X [2, 3, 1, 0] (lv' := [(0, .ref (zad y (0, 0, 0))), (1, .int a1), (2, .int x19), (3, .int (x9 + 1))]) rfl ?_
      cases h
      exact hz
  · replace h := (if_pos b3).symm.trans h
    exact V_throw X hex hlf (ik := 119) (ic := 121) 1 h (by decide +kernel) (by decide +kernel) (mB wcl_RX11_119) (mB wine_1) (mBa wx_1) wx_n1 wx_g1 dX11_widest_7 dX11_widest_10 dX11_widest_11 dX11_widest_14 (Nat.le_of_ble_eq_true rfl) (Nat.le_of_ble_eq_true rfl) (Nat.le_of_ble_eq_true rfl) (Nat.le_of_ble_eq_true rfl)

def f_X11_leads (y : ZLay) (a1 : Int32) (μ : ZMem) : Option (Int32 × ZMem) := bd (f_X7_copyFrom 1 0 μ) (fun (μ2 : ZMem) => bd (lp (σ := Int32 × ZMem) (fun q => un2 q (fun (x3 : Int32) (μ4 : ZMem) => if 60 < x3 then some (.inr (.inl μ4)) else bd (f_X7_inState 1 2 μ4) (fun (x8 : Int32) => if x8 = 0 then bd2 (f_X9_play y 1 0 μ4) (fun (x11 : Int32) (μ12 : ZMem) => some (.inl ((x3 + 1), μ12))) else bd (α := Int32) (if a1 = 0 then some x3 else bd (f_X11_lowest x8) (fun (x16 : Int32) => some x16)) (fun (x14 : Int32) => some (.inr (.inr (x14, μ4))))))) FU (0, μ2)) (fun z => sm z (fun (μ5 : ZMem) => some ((-1), μ5)) (fun r0 => some r0)))
set_option maxRecDepth 100000 in
set_option maxHeartbeats 4000000 in
theorem M_X11_leads {l : Launch} {D : va_G} {y : ZLay} {a1 : Int32}  {μ : ZMem} {r : Int32} {μ0 : ZMem} (h : f_X11_leads y a1 μ = some (r, μ0)) : MI l yX11_leads wb_X11_leads rm_X11_leads D y [.ref (zad y (0, 0, 0)), .int a1] μ r μ0 := by
  unfold f_X11_leads at h
  refine MI_of RX11 [(0, .ref (zad y (0, 0, 0))), (1, .int a1)] (by decide) rfl rfl (Nat.le_of_ble_eq_true rfl) rfl ?_
  intro p e s m args below meth c A X
  refine V_aload_n X 0 dX11_leads_0 rfl rfl ?_
  refine V_getr X (o := (0, 0, 0)) (i := (1, 1, 0)) (ci := 11) (k := 4) (N := 16) (T := TX11) (C := RX11) ⟨by decide, rfl⟩ rfl rfl rfl (by decide) (mBa inB_X11) (mB wl_RX11_81) dX11_leads_1 ?_
  refine V_aload_n X 0 dX11_leads_4 rfl rfl ?_
  refine V_getr X (o := (0, 0, 0)) (i := (1, 0, 0)) (ci := 11) (k := 3) (N := 16) (T := TX11) (C := RX11) ⟨by decide, rfl⟩ rfl rfl rfl (by decide) (mBa inB_X11) (mB wl_RX11_77) dX11_leads_5 ?_
  obtain ⟨μ2, c1, h⟩ := bd_some h
  refine V_callVv X (As := [.ref (zad y (1, 0, 0))]) (M_X7_copyFrom (by decide) (by decide) c1) (cwV 1 X.2.2.2.2.2.2.1 (gV wm_RX11_109 wi_X7_copyFrom wse_X7_copyFrom win_RX7 wc_X7_copyFrom) rfl rfl rfl hd_X7_copyFrom ⟨Nat.le_of_ble_eq_true rfl, Nat.le_of_ble_eq_true rfl⟩) (b := (1, 1, 0)) ⟨(by decide), rfl⟩ rfl rfl rfl rfl (Nat.le_of_ble_eq_true rfl) dX11_leads_8 rfl ?_
  refine V_iconst X 0 dX11_leads_11 (by decide) ?_
  refine V_istore_n X [(2, .int 0), (0, .ref (zad y (0, 0, 0))), (1, .int a1)] dX11_leads_12 rfl (by decide) rfl ?_
  refine V_sub X [1, 2, 0] (lv' := [(0, .ref (zad y (0, 0, 0))), (1, .int a1), (2, .int 0)]) rfl ?_
  obtain ⟨zz, hl, h⟩ := bd_some h
  have hk : ∀ (μ5 : ZMem), .inl μ5 = zz → V X μ5 64 [] [] := by
    intro μ5 hzz
    subst hzz
    clear hl
    replace h := sm_l h
    refine V_iconst X (-1) dX11_leads_64 (by decide) ?_
    exact V_iretW X h dX11_leads_65
  have hr : ∀ r0, .inr r0 = zz → some r0 = some (r, μ0) := by
    intro r0 hzz
    subst hzz
    exact h
  refine lp_ind (P := fun q => V X q.2 13 [(0, .ref (zad y (0, 0, 0))), (1, .int a1), (2, .int q.1)] []) (fun q z h hz => ?_) hl
  obtain ⟨x3, μ4⟩ := q
  replace h := un2_eq h
  show V X μ4 13 [(0, .ref (zad y (0, 0, 0))), (1, .int a1), (2, .int x3)] []
  refine V_iload_n X 2 dX11_leads_13 rfl rfl ?_
  refine V_bipush X 60 dX11_leads_14 (by decide) ?_
  refine V_icmp_gt X (tgt := 64) dX11_leads_16 (by decide) (fun b6 => ?_) (fun b6 => ?_)
  · replace h := (if_pos b6).symm.trans h
    refine V_sub X [] (lv' := []) rfl ?_
    cases h
    exact hk _ hz
  · replace h := (if_neg b6).symm.trans h
    refine V_aload_n X 0 dX11_leads_19 rfl rfl ?_
    refine V_getr X (o := (0, 0, 0)) (i := (1, 1, 0)) (ci := 11) (k := 4) (N := 16) (T := TX11) (C := RX11) ⟨by decide, rfl⟩ rfl rfl rfl (by decide) (mBa inB_X11) (mB wl_RX11_81) dX11_leads_20 ?_
    refine V_iconst X 2 dX11_leads_23 (by decide) ?_
    obtain ⟨x8, c7, h⟩ := bd_some h
    refine V_callVi X (As := [.int 2]) (M_X7_inState (by decide) c7) (cwV 1 X.2.2.2.2.2.2.1 (gV wm_RX11_272 wi_X7_inState wse_X7_inState win_RX7 wc_X7_inState) rfl rfl rfl hd_X7_inState ⟨Nat.le_of_ble_eq_true rfl, Nat.le_of_ble_eq_true rfl⟩) (b := (1, 1, 0)) ⟨(by decide), rfl⟩ rfl rfl rfl rfl (Nat.le_of_ble_eq_true rfl) dX11_leads_24 rfl ?_
    refine V_istore_n X [(3, .int x8), (0, .ref (zad y (0, 0, 0))), (1, .int a1), (2, .int x3)] dX11_leads_27 rfl (by decide) rfl ?_
    refine V_iload_n X 0 dX11_leads_28 rfl rfl ?_
    refine V_if_eq X (tgt := 45) dX11_leads_29 (by decide) (fun b9 => ?_) (fun b9 => ?_)
    · replace h := (if_pos b9).symm.trans h
      refine V_aload_n X 1 dX11_leads_45 rfl rfl ?_
      refine V_getr X (o := (0, 0, 0)) (i := (0, 4, 0)) (ci := 11) (k := 8) (N := 16) (T := TX11) (C := RX11) ⟨by decide, rfl⟩ rfl rfl rfl (by decide) (mBa inB_X11) (mB wl_RX11_20) dX11_leads_46 ?_
      refine V_aload_n X 1 dX11_leads_49 rfl rfl ?_
      refine V_getr X (o := (0, 0, 0)) (i := (1, 1, 0)) (ci := 11) (k := 4) (N := 16) (T := TX11) (C := RX11) ⟨by decide, rfl⟩ rfl rfl rfl (by decide) (mBa inB_X11) (mB wl_RX11_81) dX11_leads_50 ?_
      refine V_iconst X 0 dX11_leads_53 (by decide) ?_
      obtain ⟨x11, μ12, c10, h⟩ := bd2_some h
      refine V_callVi X (As := [.ref (zad y (1, 1, 0)), .int 0]) (M_X9_play (by decide) c10) (cwV 2 X.2.2.2.2.2.2.1 (gV wm_RX11_219 wi_X9_play wse_X9_play win_RX9 wc_X9_play) rfl rfl rfl hd_X9_play ⟨Nat.le_of_ble_eq_true rfl, Nat.le_of_ble_eq_true rfl⟩) (b := (0, 4, 0)) ⟨by decide, rfl⟩ rfl rfl rfl rfl (Nat.le_of_ble_eq_true rfl) dX11_leads_54 rfl ?_
      refine V_pop X dX11_leads_57 rfl ?_
      refine V_inc X 3 1 [(2, .int (x3 + 1)), (3, .int x8), (0, .ref (zad y (0, 0, 0))), (1, .int a1)] dX11_leads_58 rfl (by decide) (by decide) rfl ?_
      refine V_goto X (tgt := 13) dX11_leads_61 (by decide) ?_
      refine V_sub X [2, 3, 0] (lv' := [(0, .ref (zad y (0, 0, 0))), (1, .int a1), (2, .int (x3 + 1))]) rfl ?_
      cases h
      exact hz
    · replace h := (if_neg b9).symm.trans h
      refine V_iload_n X 2 dX11_leads_32 rfl rfl ?_
      obtain ⟨x14, h1, h⟩ := bd_some h
      have hk : V X μ4 44 [] [.int x14] := by
        clear h1
        cases h
        have h := hr _ hz
        exact V_iretW X h dX11_leads_44
      replace h := h1
      clear h1
      refine V_if_eq X (tgt := 43) dX11_leads_33 (by decide) (fun b13 => ?_) (fun b13 => ?_)
      · replace h := (if_pos b13).symm.trans h
        refine V_iload_n X 3 dX11_leads_43 rfl rfl ?_
        refine V_sub X [] (lv' := []) rfl ?_
        obtain rfl := so1 h
        exact hk
      · replace h := (if_neg b13).symm.trans h
        refine V_iload_n X 0 dX11_leads_36 rfl rfl ?_
        obtain ⟨x16, c15, h⟩ := bd_some h
        refine V_callSi X (As := [.int x8]) (M_X11_lowest c15) (va_cwS 1 X.2.2.2.2.2.2.1 (gS wm_RX11_286 wst_X11_lowest win_RX11 wc_X11_lowest) rfl rfl rfl hd_X11_lowest.2 ⟨Nat.le_of_ble_eq_true rfl, Nat.le_of_ble_eq_true rfl⟩) rfl (Nat.le_of_ble_eq_true rfl) dX11_leads_37 rfl ?_
        refine V_goto X (tgt := 44) dX11_leads_40 (by decide) ?_
        refine V_sub X [] (lv' := []) rfl ?_
        obtain rfl := so1 h
        exact hk

def f_X11_narrow (y : ZLay) (μ : ZMem) : Option (Int32 × ZMem) := bd (f_X10_look y 0 μ) (fun (μ2 : ZMem) => bd (lp (σ := Int32 × Int32) (fun q => un2 q (fun (x3 : Int32) (x4 : Int32) => if (μ2 (1, 0, 0) 4) ≤ x4 then some (.inr x3) else gd (zin x4 8) (zlt (α := Int32) (if (μ2 (3, 0, x4.toNatClampNeg) 3) = 2 then if (μ2 (3, 0, x4.toNatClampNeg) 9) = 2 then x3 else zlt (zmax x3 (zabs ((μ2 (3, 0, x4.toNatClampNeg) 0) + (μ2 (0, 8, 0) x4.toNatClampNeg)))) (fun (x11 : Int32) => x11) else x3) (fun (x9 : Int32) => some (.inl (x9, (x4 + 1))))))) FU (1, 0)) (fun (x5 : Int32) => zlt (α := Int32) (if x5 ≤ 999 then x5 else (-1)) (fun (x13 : Int32) => some (x13, μ2))))
set_option maxRecDepth 100000 in
set_option maxHeartbeats 4000000 in
theorem M_X11_narrow {l : Launch} {D : va_G} {y : ZLay}   {μ : ZMem} {r : Int32} {μ0 : ZMem} (h : f_X11_narrow y μ = some (r, μ0)) : MI l yX11_narrow wb_X11_narrow rm_X11_narrow D y [.ref (zad y (0, 0, 0))] μ r μ0 := by
  unfold f_X11_narrow at h
  refine MI_of RX11 [(0, .ref (zad y (0, 0, 0)))] (by decide) rfl rfl (Nat.le_of_ble_eq_true rfl) rfl ?_
  intro p e s m args below meth c A X
  refine V_aload_n X 0 dX11_narrow_0 rfl rfl ?_
  refine V_getr X (o := (0, 0, 0)) (i := (0, 4, 0)) (ci := 11) (k := 8) (N := 16) (T := TX11) (C := RX11) ⟨by decide, rfl⟩ rfl rfl rfl (by decide) (mBa inB_X11) (mB wl_RX11_20) dX11_narrow_1 ?_
  refine V_getr X (o := (0, 4, 0)) (i := (0, 5, 0)) (ci := 9) (k := 0) (N := 2) (T := TX9) (C := RX9) ⟨by decide, rfl⟩ rfl rfl rfl (by decide) (mBa inB_X9) (mB wl_RX11_168) dX11_narrow_4 ?_
  refine V_aload_n X 0 dX11_narrow_7 rfl rfl ?_
  refine V_getr X (o := (0, 0, 0)) (i := (1, 0, 0)) (ci := 11) (k := 3) (N := 16) (T := TX11) (C := RX11) ⟨by decide, rfl⟩ rfl rfl rfl (by decide) (mBa inB_X11) (mB wl_RX11_77) dX11_narrow_8 ?_
  obtain ⟨μ2, c1, h⟩ := bd_some h
  refine V_callVv X (As := [.ref (zad y (1, 0, 0))]) (M_X10_look (by decide) c1) (cwV 1 X.2.2.2.2.2.2.1 (gV wm_RX11_172 wi_X10_look wse_X10_look win_RX10 wc_X10_look) rfl rfl rfl hd_X10_look ⟨Nat.le_of_ble_eq_true rfl, Nat.le_of_ble_eq_true rfl⟩) (b := (0, 5, 0)) ⟨by decide, rfl⟩ rfl rfl rfl rfl (Nat.le_of_ble_eq_true rfl) dX11_narrow_11 rfl ?_
  refine V_iconst X 1 dX11_narrow_14 (by decide) ?_
  refine V_istore_n X [(1, .int 1), (0, .ref (zad y (0, 0, 0)))] dX11_narrow_15 rfl (by decide) rfl ?_
  refine V_iconst X 0 dX11_narrow_16 (by decide) ?_
  refine V_istore_n X [(2, .int 0), (1, .int 1), (0, .ref (zad y (0, 0, 0)))] dX11_narrow_17 rfl (by decide) rfl ?_
  refine V_sub X [2, 1, 0] (lv' := [(0, .ref (zad y (0, 0, 0))), (1, .int 1), (2, .int 0)]) rfl ?_
  obtain ⟨x5, hl, h⟩ := bd_some h
  have hk : V X μ2 86 [(1, .int x5)] [] := by
    clear hl
    refine V_iload_n X 0 dX11_narrow_86 rfl rfl ?_
    refine V_sipush X 999 dX11_narrow_87 (by decide) ?_
    obtain ⟨x13, h1, h⟩ := zl1_some h
    have hk : V X μ2 98 [] [.int x13] := by
      clear h1
      exact V_iretW X h dX11_narrow_98
    replace h := h1
    clear h1
    refine V_icmp_le X (tgt := 97) dX11_narrow_90 (by decide) (fun b12 => ?_) (fun b12 => ?_)
    · replace h := (if_pos b12).symm.trans h
      refine V_iload_n X 0 dX11_narrow_97 rfl rfl ?_
      refine V_sub X [] (lv' := []) rfl ?_
      obtain rfl := pr1 h
      exact hk
    · replace h := (if_neg b12).symm.trans h
      refine V_iconst X (-1) dX11_narrow_93 (by decide) ?_
      refine V_goto X (tgt := 98) dX11_narrow_94 (by decide) ?_
      refine V_sub X [] (lv' := []) rfl ?_
      obtain rfl := pr1 h
      exact hk
  refine lp_ind (P := fun q => V X μ2 18 [(0, .ref (zad y (0, 0, 0))), (1, .int q.1), (2, .int q.2)] []) (fun q z h hz => ?_) hl
  obtain ⟨x3, x4⟩ := q
  replace h := un2_eq h
  show V X μ2 18 [(0, .ref (zad y (0, 0, 0))), (1, .int x3), (2, .int x4)] []
  refine V_iload_n X 2 dX11_narrow_18 rfl rfl ?_
  refine V_aload_n X 0 dX11_narrow_19 rfl rfl ?_
  refine V_getr X (o := (0, 0, 0)) (i := (1, 0, 0)) (ci := 11) (k := 3) (N := 16) (T := TX11) (C := RX11) ⟨by decide, rfl⟩ rfl rfl rfl (by decide) (mBa inB_X11) (mB wl_RX11_77) dX11_narrow_20 ?_
  refine V_geti X (o := (1, 0, 0)) (ci := 7) (k := 4) (N := 11) (T := TX7) (C := RX7) ⟨(by decide), rfl⟩ rfl rfl rfl (by decide) (mBa inB_X7) (mB wl_RX11_145) dX11_narrow_23 ?_
  refine V_icmp_ge X (tgt := 86) dX11_narrow_26 (by decide) (fun b6 => ?_) (fun b6 => ?_)
  · replace h := (if_pos b6).symm.trans h
    refine V_sub X [1] (lv' := [(1, .int x3)]) rfl ?_
    cases h
    obtain rfl := pr1 hz
    exact hk
  · replace h := (if_neg b6).symm.trans h
    refine V_aload_n X 0 dX11_narrow_29 rfl rfl ?_
    refine V_getr X (o := (0, 0, 0)) (i := (1, 0, 0)) (ci := 11) (k := 3) (N := 16) (T := TX11) (C := RX11) ⟨by decide, rfl⟩ rfl rfl rfl (by decide) (mBa inB_X11) (mB wl_RX11_77) dX11_narrow_30 ?_
    refine V_getr X (o := (1, 0, 0)) (i := (2, 0, 0)) (ci := 7) (k := 0) (N := 11) (T := TX7) (C := RX7) ⟨(by decide), rfl⟩ rfl rfl rfl (by decide) (mBa inB_X7) (mB wl_RX11_158) dX11_narrow_33 ?_
    refine V_iload_n X 2 dX11_narrow_36 rfl rfl ?_
    obtain ⟨g7, h⟩ := gd_some h
    refine V_aald X x4.toNatClampNeg rfl (o := (2, 0, 0)) ⟨(by decide), rfl⟩ rfl rfl rfl rfl g7 dX11_narrow_37 ?_
    refine V_astore_n X [(3, .ref (zad y (3, 0, x4.toNatClampNeg))), (0, .ref (zad y (0, 0, 0))), (1, .int x3), (2, .int x4)] dX11_narrow_38 rfl (by decide) rfl ?_
    refine V_aload_n X 0 dX11_narrow_39 rfl rfl ?_
    refine V_geti X (o := (3, 0, x4.toNatClampNeg)) (ci := 5) (k := 3) (N := 11) (T := TX5) (C := RX5) ⟨(by decide), zin_lt g7⟩ rfl rfl rfl (by decide) (mBa inB_X5) (mB wl_RX11_196) dX11_narrow_40 ?_
    refine V_iconst X 2 dX11_narrow_43 (by decide) ?_
    obtain ⟨x9, h1, h⟩ := zl1_some h
    have hk : V X μ2 80 [(0, .ref (zad y (0, 0, 0))), (1, .int x9), (2, .int x4)] [] := by
      clear h1
      refine V_inc X 2 1 [(2, .int (x4 + 1)), (0, .ref (zad y (0, 0, 0))), (1, .int x9)] dX11_narrow_80 rfl (by decide) (by decide) rfl ?_
      refine V_goto X (tgt := 18) dX11_narrow_83 (by decide) ?_
      refine V_sub X [1, 2, 0] (lv' := [(0, .ref (zad y (0, 0, 0))), (1, .int x9), (2, .int (x4 + 1))]) rfl ?_
      cases h
      exact hz
    replace h := h1
    clear h1
    refine V_icmp_ne X (tgt := 80) dX11_narrow_44 (by decide) (fun b8 => ?_) (fun b8 => ?_)
    · replace h := (if_neg b8).symm.trans h
      refine V_sub X [1, 2, 3] (lv' := [(0, .ref (zad y (0, 0, 0))), (1, .int x3), (2, .int x4)]) rfl ?_
      obtain rfl := pr1 h
      exact hk
    · replace h := (if_pos b8).symm.trans h
      refine V_aload_n X 0 dX11_narrow_47 rfl rfl ?_
      refine V_geti X (o := (3, 0, x4.toNatClampNeg)) (ci := 5) (k := 9) (N := 11) (T := TX5) (C := RX5) ⟨(by decide), zin_lt g7⟩ rfl rfl rfl (by decide) (mBa inB_X5) (mB wl_RX11_247) dX11_narrow_48 ?_
      refine V_iconst X 2 dX11_narrow_51 (by decide) ?_
      refine V_icmp_eq X (tgt := 80) dX11_narrow_52 (by decide) (fun b10 => ?_) (fun b10 => ?_)
      · replace h := (if_pos b10).symm.trans h
        refine V_sub X [1, 2, 3] (lv' := [(0, .ref (zad y (0, 0, 0))), (1, .int x3), (2, .int x4)]) rfl ?_
        obtain rfl := pr1 h
        exact hk
      · replace h := (if_neg b10).symm.trans h
        refine V_iload_n X 2 dX11_narrow_55 rfl rfl ?_
        refine V_aload_n X 0 dX11_narrow_56 rfl rfl ?_
        refine V_geti X (o := (3, 0, x4.toNatClampNeg)) (ci := 5) (k := 0) (N := 11) (T := TX5) (C := RX5) ⟨(by decide), zin_lt g7⟩ rfl rfl rfl (by decide) (mBa inB_X5) (mB wl_RX11_253) dX11_narrow_57 ?_
        refine V_aload_n X 1 dX11_narrow_60 rfl rfl ?_
        refine V_getr X (o := (0, 0, 0)) (i := (0, 4, 0)) (ci := 11) (k := 8) (N := 16) (T := TX11) (C := RX11) ⟨by decide, rfl⟩ rfl rfl rfl (by decide) (mBa inB_X11) (mB wl_RX11_20) dX11_narrow_61 ?_
        refine V_getr X (o := (0, 4, 0)) (i := (0, 5, 0)) (ci := 9) (k := 0) (N := 2) (T := TX9) (C := RX9) ⟨by decide, rfl⟩ rfl rfl rfl (by decide) (mBa inB_X9) (mB wl_RX11_168) dX11_narrow_64 ?_
        refine V_getr X (o := (0, 5, 0)) (i := (0, 8, 0)) (ci := 10) (k := 2) (N := 7) (T := TX10) (C := RX10) ⟨by decide, rfl⟩ rfl rfl rfl (by decide) (mBa inB_X10) (mB wl_RX11_177) dX11_narrow_67 ?_
        refine V_iload_n X 3 dX11_narrow_70 rfl rfl ?_
        refine V_iald X x4.toNatClampNeg rfl (o := (0, 8, 0)) (n := 8) ⟨by decide, rfl⟩ rfl rfl g7 dX11_narrow_71 ?_
        refine V_iadd X dX11_narrow_72 ?_
        refine V_zabs X (ix := 289) (mB wm_RX11_289) (mB wst_Math_abs) (mB win_Math) (mB wc_Math_abs) (Nat.le_of_ble_eq_true rfl) (Nat.le_of_ble_eq_true rfl) dX11_narrow_73 ?_
        refine V_zmax X (ix := 283) (mB wm_RX11_283) (mB wst_Math_max) (mB win_Math) (mB wc_Math_max) (Nat.le_of_ble_eq_true rfl) (Nat.le_of_ble_eq_true rfl) dX11_narrow_76 ?_
        refine V_istore_n X [(1, .int (zmax x3 (zabs ((μ2 (3, 0, x4.toNatClampNeg) 0) + (μ2 (0, 8, 0) x4.toNatClampNeg))))), (3, .ref (zad y (3, 0, x4.toNatClampNeg))), (0, .ref (zad y (0, 0, 0))), (2, .int x4)] dX11_narrow_79 rfl (by decide) rfl ?_
        refine zlt_el (P := fun (x11 : Int32) => V X μ2 80 [(1, .int x11), (3, .ref (zad y (3, 0, x4.toNatClampNeg))), (0, .ref (zad y (0, 0, 0))), (2, .int x4)] []) h (fun x11 h => ?_)
        refine V_sub X [2, 0, 3] (lv' := [(0, .ref (zad y (0, 0, 0))), (1, .int x11), (2, .int x4)]) rfl ?_
        obtain rfl := pr1 h
        exact hk

def f_X11_tight (y : ZLay) (μ : ZMem) : Option (Int32 × ZMem) := bd (f_X10_look y 0 μ) (fun (μ2 : ZMem) => zlt (μ2 (0, 5, 0) 4) (fun (x3 : Int32) => bd (lp (σ := Int32 × Int32) (fun q => un2 q (fun (x4 : Int32) (x5 : Int32) => if (μ2 (1, 0, 0) 4) ≤ x5 then some (.inr x4) else bd (lp (σ := Int32 × Int32) (fun q => un2 q (fun (x8 : Int32) (x9 : Int32) => if (μ2 (1, 0, 0) 4) ≤ x9 then some (.inr x8) else bd (α := Int32) (if x5 = x9 then some x8 else bd (f_X11_isIn x3 x5) (fun (x15 : Int32) => if x15 = 0 then some x8 else bd (f_X11_isIn x3 x9) (fun (x18 : Int32) => if x18 = 0 then some x8 else gd (zin x9 8) (gd (zin x5 8) (zlt (zmax x8 (zabs ((μ2 (7, x9.toNatClampNeg, 0) x5.toNatClampNeg) - (μ2 (3, 0, x5.toNatClampNeg) 0)))) (fun (x22 : Int32) => some x22)))))) (fun (x13 : Int32) => some (.inl (x13, (x9 + 1)))))) FU (x4, 0)) (fun (x10 : Int32) => some (.inl (x10, (x5 + 1)))))) FU (1, 0)) (fun (x6 : Int32) => zlt (α := Int32) (if x6 ≤ 999 then x6 else (-1)) (fun (x24 : Int32) => some (x24, μ2)))))
set_option maxRecDepth 100000 in
set_option maxHeartbeats 4000000 in
theorem M_X11_tight {l : Launch} {D : va_G} {y : ZLay}   {μ : ZMem} {r : Int32} {μ0 : ZMem} (h : f_X11_tight y μ = some (r, μ0)) : MI l yX11_tight wb_X11_tight rm_X11_tight D y [.ref (zad y (0, 0, 0))] μ r μ0 := by
  unfold f_X11_tight at h
  refine MI_of RX11 [(0, .ref (zad y (0, 0, 0)))] (by decide) rfl rfl (Nat.le_of_ble_eq_true rfl) rfl ?_
  intro p e s m args below meth c A X
  refine V_aload_n X 0 dX11_tight_0 rfl rfl ?_
  refine V_getr X (o := (0, 0, 0)) (i := (0, 4, 0)) (ci := 11) (k := 8) (N := 16) (T := TX11) (C := RX11) ⟨by decide, rfl⟩ rfl rfl rfl (by decide) (mBa inB_X11) (mB wl_RX11_20) dX11_tight_1 ?_
  refine V_getr X (o := (0, 4, 0)) (i := (0, 5, 0)) (ci := 9) (k := 0) (N := 2) (T := TX9) (C := RX9) ⟨by decide, rfl⟩ rfl rfl rfl (by decide) (mBa inB_X9) (mB wl_RX11_168) dX11_tight_4 ?_
  refine V_aload_n X 0 dX11_tight_7 rfl rfl ?_
  refine V_getr X (o := (0, 0, 0)) (i := (1, 0, 0)) (ci := 11) (k := 3) (N := 16) (T := TX11) (C := RX11) ⟨by decide, rfl⟩ rfl rfl rfl (by decide) (mBa inB_X11) (mB wl_RX11_77) dX11_tight_8 ?_
  obtain ⟨μ2, c1, h⟩ := bd_some h
  refine V_callVv X (As := [.ref (zad y (1, 0, 0))]) (M_X10_look (by decide) c1) (cwV 1 X.2.2.2.2.2.2.1 (gV wm_RX11_172 wi_X10_look wse_X10_look win_RX10 wc_X10_look) rfl rfl rfl hd_X10_look ⟨Nat.le_of_ble_eq_true rfl, Nat.le_of_ble_eq_true rfl⟩) (b := (0, 5, 0)) ⟨by decide, rfl⟩ rfl rfl rfl rfl (Nat.le_of_ble_eq_true rfl) dX11_tight_11 rfl ?_
  refine V_aload_n X 0 dX11_tight_14 rfl rfl ?_
  refine V_getr X (o := (0, 0, 0)) (i := (0, 4, 0)) (ci := 11) (k := 8) (N := 16) (T := TX11) (C := RX11) ⟨by decide, rfl⟩ rfl rfl rfl (by decide) (mBa inB_X11) (mB wl_RX11_20) dX11_tight_15 ?_
  refine V_getr X (o := (0, 4, 0)) (i := (0, 5, 0)) (ci := 9) (k := 0) (N := 2) (T := TX9) (C := RX9) ⟨by decide, rfl⟩ rfl rfl rfl (by decide) (mBa inB_X9) (mB wl_RX11_168) dX11_tight_18 ?_
  refine V_geti X (o := (0, 5, 0)) (ci := 10) (k := 4) (N := 7) (T := TX10) (C := RX10) ⟨by decide, rfl⟩ rfl rfl rfl (by decide) (mBa inB_X10) (mB wl_RX11_292) dX11_tight_21 ?_
  refine V_istore_n X [(1, .int (μ2 (0, 5, 0) 4)), (0, .ref (zad y (0, 0, 0)))] dX11_tight_24 rfl (by decide) rfl ?_
  refine zlt_el (P := fun (x3 : Int32) => V X μ2 25 [(1, .int x3), (0, .ref (zad y (0, 0, 0)))] []) h (fun x3 h => ?_)
  refine V_iconst X 1 dX11_tight_25 (by decide) ?_
  refine V_istore_n X [(2, .int 1), (1, .int x3), (0, .ref (zad y (0, 0, 0)))] dX11_tight_26 rfl (by decide) rfl ?_
  refine V_iconst X 0 dX11_tight_27 (by decide) ?_
  refine V_istore_n X [(3, .int 0), (2, .int 1), (1, .int x3), (0, .ref (zad y (0, 0, 0)))] dX11_tight_28 rfl (by decide) rfl ?_
  refine V_sub X [3, 2, 1, 0] (lv' := [(0, .ref (zad y (0, 0, 0))), (1, .int x3), (2, .int 1), (3, .int 0)]) rfl ?_
  obtain ⟨x6, hl, h⟩ := bd_some h
  have hk : V X μ2 126 [(2, .int x6)] [] := by
    clear hl
    refine V_iload_n X 0 dX11_tight_126 rfl rfl ?_
    refine V_sipush X 999 dX11_tight_127 (by decide) ?_
    obtain ⟨x24, h1, h⟩ := zl1_some h
    have hk : V X μ2 138 [] [.int x24] := by
      clear h1
      exact V_iretW X h dX11_tight_138
    replace h := h1
    clear h1
    refine V_icmp_le X (tgt := 137) dX11_tight_130 (by decide) (fun b23 => ?_) (fun b23 => ?_)
    · replace h := (if_pos b23).symm.trans h
      refine V_iload_n X 0 dX11_tight_137 rfl rfl ?_
      refine V_sub X [] (lv' := []) rfl ?_
      obtain rfl := pr1 h
      exact hk
    · replace h := (if_neg b23).symm.trans h
      refine V_iconst X (-1) dX11_tight_133 (by decide) ?_
      refine V_goto X (tgt := 138) dX11_tight_134 (by decide) ?_
      refine V_sub X [] (lv' := []) rfl ?_
      obtain rfl := pr1 h
      exact hk
  refine lp_ind (P := fun q => V X μ2 29 [(0, .ref (zad y (0, 0, 0))), (1, .int x3), (2, .int q.1), (3, .int q.2)] []) (fun q z h hz => ?_) hl
  obtain ⟨x4, x5⟩ := q
  replace h := un2_eq h
  show V X μ2 29 [(0, .ref (zad y (0, 0, 0))), (1, .int x3), (2, .int x4), (3, .int x5)] []
  refine V_iload_n X 3 dX11_tight_29 rfl rfl ?_
  refine V_aload_n X 0 dX11_tight_30 rfl rfl ?_
  refine V_getr X (o := (0, 0, 0)) (i := (1, 0, 0)) (ci := 11) (k := 3) (N := 16) (T := TX11) (C := RX11) ⟨by decide, rfl⟩ rfl rfl rfl (by decide) (mBa inB_X11) (mB wl_RX11_77) dX11_tight_31 ?_
  refine V_geti X (o := (1, 0, 0)) (ci := 7) (k := 4) (N := 11) (T := TX7) (C := RX7) ⟨(by decide), rfl⟩ rfl rfl rfl (by decide) (mBa inB_X7) (mB wl_RX11_145) dX11_tight_34 ?_
  refine V_icmp_ge X (tgt := 126) dX11_tight_37 (by decide) (fun b7 => ?_) (fun b7 => ?_)
  · replace h := (if_pos b7).symm.trans h
    refine V_sub X [2] (lv' := [(2, .int x4)]) rfl ?_
    cases h
    obtain rfl := pr1 hz
    exact hk
  · replace h := (if_neg b7).symm.trans h
    refine V_iconst X 0 dX11_tight_40 (by decide) ?_
    refine V_istore X [(4, .int 0), (0, .ref (zad y (0, 0, 0))), (1, .int x3), (2, .int x4), (3, .int x5)] dX11_tight_41 (by decide) rfl ?_
    refine V_sub X [1, 2, 3, 4, 0] (lv' := [(0, .ref (zad y (0, 0, 0))), (1, .int x3), (2, .int x4), (3, .int x5), (4, .int 0)]) rfl ?_
    obtain ⟨x10, hl, h⟩ := bd_some h
    have hk : V X μ2 120 [(0, .ref (zad y (0, 0, 0))), (1, .int x3), (2, .int x10), (3, .int x5)] [] := by
      clear hl
      refine V_inc X 3 1 [(3, .int (x5 + 1)), (0, .ref (zad y (0, 0, 0))), (1, .int x3), (2, .int x10)] dX11_tight_120 rfl (by decide) (by decide) rfl ?_
      refine V_goto X (tgt := 29) dX11_tight_123 (by decide) ?_
      refine V_sub X [1, 2, 3, 0] (lv' := [(0, .ref (zad y (0, 0, 0))), (1, .int x3), (2, .int x10), (3, .int (x5 + 1))]) rfl ?_
      cases h
      exact hz
    refine lp_ind (P := fun q => V X μ2 43 [(0, .ref (zad y (0, 0, 0))), (1, .int x3), (2, .int q.1), (3, .int x5), (4, .int q.2)] []) (fun q z h hz => ?_) hl
    obtain ⟨x8, x9⟩ := q
    replace h := un2_eq h
    show V X μ2 43 [(0, .ref (zad y (0, 0, 0))), (1, .int x3), (2, .int x8), (3, .int x5), (4, .int x9)] []
    refine V_iload X 4 dX11_tight_43 rfl ?_
    refine V_aload_n X 0 dX11_tight_45 rfl rfl ?_
    refine V_getr X (o := (0, 0, 0)) (i := (1, 0, 0)) (ci := 11) (k := 3) (N := 16) (T := TX11) (C := RX11) ⟨by decide, rfl⟩ rfl rfl rfl (by decide) (mBa inB_X11) (mB wl_RX11_77) dX11_tight_46 ?_
    refine V_geti X (o := (1, 0, 0)) (ci := 7) (k := 4) (N := 11) (T := TX7) (C := RX7) ⟨(by decide), rfl⟩ rfl rfl rfl (by decide) (mBa inB_X7) (mB wl_RX11_145) dX11_tight_49 ?_
    refine V_icmp_ge X (tgt := 120) dX11_tight_52 (by decide) (fun b11 => ?_) (fun b11 => ?_)
    · replace h := (if_pos b11).symm.trans h
      refine V_sub X [0, 1, 2, 3] (lv' := [(0, .ref (zad y (0, 0, 0))), (1, .int x3), (2, .int x8), (3, .int x5)]) rfl ?_
      cases h
      obtain rfl := pr1 hz
      exact hk
    · replace h := (if_neg b11).symm.trans h
      refine V_iload_n X 3 dX11_tight_55 rfl rfl ?_
      refine V_iload X 4 dX11_tight_56 rfl ?_
      obtain ⟨x13, h1, h⟩ := bd_some h
      have hk : V X μ2 114 [(0, .ref (zad y (0, 0, 0))), (1, .int x3), (2, .int x13), (3, .int x5), (4, .int x9)] [] := by
        clear h1
        refine V_inc X 4 1 [(4, .int (x9 + 1)), (0, .ref (zad y (0, 0, 0))), (1, .int x3), (2, .int x13), (3, .int x5)] dX11_tight_114 rfl (by decide) (by decide) rfl ?_
        refine V_goto X (tgt := 43) dX11_tight_117 (by decide) ?_
        refine V_sub X [1, 2, 3, 4, 0] (lv' := [(0, .ref (zad y (0, 0, 0))), (1, .int x3), (2, .int x13), (3, .int x5), (4, .int (x9 + 1))]) rfl ?_
        cases h
        exact hz
      replace h := h1
      clear h1
      refine V_icmp_eq X (tgt := 114) dX11_tight_58 (by decide) (fun b12 => ?_) (fun b12 => ?_)
      · replace h := (if_pos b12).symm.trans h
        obtain rfl := so1 h
        exact hk
      · replace h := (if_neg b12).symm.trans h
        refine V_iload_n X 1 dX11_tight_61 rfl rfl ?_
        refine V_iload_n X 3 dX11_tight_62 rfl rfl ?_
        obtain ⟨x15, c14, h⟩ := bd_some h
        refine V_callSi X (As := [.int x3, .int x5]) (M_X11_isIn c14) (va_cwS 2 X.2.2.2.2.2.2.1 (gS wm_RX11_212 wst_X11_isIn win_RX11 wc_X11_isIn) rfl rfl rfl hd_X11_isIn.2 ⟨Nat.le_of_ble_eq_true rfl, Nat.le_of_ble_eq_true rfl⟩) rfl (Nat.le_of_ble_eq_true rfl) dX11_tight_63 rfl ?_
        refine V_if_eq X (tgt := 114) dX11_tight_66 (by decide) (fun b16 => ?_) (fun b16 => ?_)
        · replace h := (if_pos b16).symm.trans h
          obtain rfl := so1 h
          exact hk
        · replace h := (if_neg b16).symm.trans h
          refine V_iload_n X 1 dX11_tight_69 rfl rfl ?_
          refine V_iload X 4 dX11_tight_70 rfl ?_
          obtain ⟨x18, c17, h⟩ := bd_some h
          refine V_callSi X (As := [.int x3, .int x9]) (M_X11_isIn c17) (va_cwS 2 X.2.2.2.2.2.2.1 (gS wm_RX11_212 wst_X11_isIn win_RX11 wc_X11_isIn) rfl rfl rfl hd_X11_isIn.2 ⟨Nat.le_of_ble_eq_true rfl, Nat.le_of_ble_eq_true rfl⟩) rfl (Nat.le_of_ble_eq_true rfl) dX11_tight_72 rfl ?_
          refine V_if_eq X (tgt := 114) dX11_tight_75 (by decide) (fun b19 => ?_) (fun b19 => ?_)
          · replace h := (if_pos b19).symm.trans h
            obtain rfl := so1 h
            exact hk
          · replace h := (if_neg b19).symm.trans h
            refine V_iload_n X 2 dX11_tight_78 rfl rfl ?_
            refine V_aload_n X 0 dX11_tight_79 rfl rfl ?_
            refine V_getr X (o := (0, 0, 0)) (i := (0, 4, 0)) (ci := 11) (k := 8) (N := 16) (T := TX11) (C := RX11) ⟨by decide, rfl⟩ rfl rfl rfl (by decide) (mBa inB_X11) (mB wl_RX11_20) dX11_tight_80 ?_
            refine V_getr X (o := (0, 4, 0)) (i := (0, 5, 0)) (ci := 9) (k := 0) (N := 2) (T := TX9) (C := RX9) ⟨by decide, rfl⟩ rfl rfl rfl (by decide) (mBa inB_X9) (mB wl_RX11_168) dX11_tight_83 ?_
            refine V_getr X (o := (0, 5, 0)) (i := (0, 6, 0)) (ci := 10) (k := 0) (N := 7) (T := TX10) (C := RX10) ⟨by decide, rfl⟩ rfl rfl rfl (by decide) (mBa inB_X10) (mB wl_RX11_205) dX11_tight_86 ?_
            refine V_iload X 4 dX11_tight_89 rfl ?_
            obtain ⟨g20, h⟩ := gd_some h
            refine V_aald X x9.toNatClampNeg rfl (o := (0, 6, 0)) ⟨by decide, rfl⟩ rfl rfl rfl rfl g20 dX11_tight_91 ?_
            refine V_iload_n X 3 dX11_tight_92 rfl rfl ?_
            obtain ⟨g21, h⟩ := gd_some h
            refine V_iald X x5.toNatClampNeg rfl (o := (7, x9.toNatClampNeg, 0)) (n := 8) ⟨zin_lt g20, rfl⟩ rfl rfl g21 dX11_tight_93 ?_
            refine V_aload_n X 0 dX11_tight_94 rfl rfl ?_
            refine V_getr X (o := (0, 0, 0)) (i := (1, 0, 0)) (ci := 11) (k := 3) (N := 16) (T := TX11) (C := RX11) ⟨by decide, rfl⟩ rfl rfl rfl (by decide) (mBa inB_X11) (mB wl_RX11_77) dX11_tight_95 ?_
            refine V_getr X (o := (1, 0, 0)) (i := (2, 0, 0)) (ci := 7) (k := 0) (N := 11) (T := TX7) (C := RX7) ⟨(by decide), rfl⟩ rfl rfl rfl (by decide) (mBa inB_X7) (mB wl_RX11_158) dX11_tight_98 ?_
            refine V_iload_n X 3 dX11_tight_101 rfl rfl ?_
            refine V_aald X x5.toNatClampNeg rfl (o := (2, 0, 0)) ⟨(by decide), rfl⟩ rfl rfl rfl rfl g21 dX11_tight_102 ?_
            refine V_geti X (o := (3, 0, x5.toNatClampNeg)) (ci := 5) (k := 0) (N := 11) (T := TX5) (C := RX5) ⟨(by decide), zin_lt g21⟩ rfl rfl rfl (by decide) (mBa inB_X5) (mB wl_RX11_253) dX11_tight_103 ?_
            refine V_isub X dX11_tight_106 ?_
            refine V_zabs X (ix := 289) (mB wm_RX11_289) (mB wst_Math_abs) (mB win_Math) (mB wc_Math_abs) (Nat.le_of_ble_eq_true rfl) (Nat.le_of_ble_eq_true rfl) dX11_tight_107 ?_
            refine V_zmax X (ix := 283) (mB wm_RX11_283) (mB wst_Math_max) (mB win_Math) (mB wc_Math_max) (Nat.le_of_ble_eq_true rfl) (Nat.le_of_ble_eq_true rfl) dX11_tight_110 ?_
            refine V_istore_n X [(2, .int (zmax x8 (zabs ((μ2 (7, x9.toNatClampNeg, 0) x5.toNatClampNeg) - (μ2 (3, 0, x5.toNatClampNeg) 0))))), (0, .ref (zad y (0, 0, 0))), (1, .int x3), (3, .int x5), (4, .int x9)] dX11_tight_113 rfl (by decide) rfl ?_
            refine zlt_el (P := fun (x22 : Int32) => V X μ2 114 [(2, .int x22), (0, .ref (zad y (0, 0, 0))), (1, .int x3), (3, .int x5), (4, .int x9)] []) h (fun x22 h => ?_)
            refine V_sub X [1, 2, 0, 3, 4] (lv' := [(0, .ref (zad y (0, 0, 0))), (1, .int x3), (2, .int x22), (3, .int x5), (4, .int x9)]) rfl ?_
            obtain rfl := so1 h
            exact hk

def f_X11_spare (y : ZLay) (μ : ZMem) : Option (Int32 × ZMem) := bd (f_X10_look y 0 μ) (fun (μ2 : ZMem) => bd (f_X1_load μ2) (fun (μ4 : ZMem) => bd (f_X1_fewestToSpare μ4) (fun (x6 : Int32) => some (x6, μ4))))
set_option maxRecDepth 100000 in
set_option maxHeartbeats 4000000 in
theorem M_X11_spare {l : Launch} {D : va_G} {y : ZLay}   {μ : ZMem} {r : Int32} {μ0 : ZMem} (h : f_X11_spare y μ = some (r, μ0)) : MI l yX11_spare wb_X11_spare rm_X11_spare D y [.ref (zad y (0, 0, 0))] μ r μ0 := by
  unfold f_X11_spare at h
  refine MI_of RX11 [(0, .ref (zad y (0, 0, 0)))] (by decide) rfl rfl (Nat.le_of_ble_eq_true rfl) rfl ?_
  intro p e s m args below meth c A X
  refine V_aload_n X 0 dX11_spare_0 rfl rfl ?_
  refine V_getr X (o := (0, 0, 0)) (i := (0, 4, 0)) (ci := 11) (k := 8) (N := 16) (T := TX11) (C := RX11) ⟨by decide, rfl⟩ rfl rfl rfl (by decide) (mBa inB_X11) (mB wl_RX11_20) dX11_spare_1 ?_
  refine V_getr X (o := (0, 4, 0)) (i := (0, 5, 0)) (ci := 9) (k := 0) (N := 2) (T := TX9) (C := RX9) ⟨by decide, rfl⟩ rfl rfl rfl (by decide) (mBa inB_X9) (mB wl_RX11_168) dX11_spare_4 ?_
  refine V_aload_n X 0 dX11_spare_7 rfl rfl ?_
  refine V_getr X (o := (0, 0, 0)) (i := (1, 0, 0)) (ci := 11) (k := 3) (N := 16) (T := TX11) (C := RX11) ⟨by decide, rfl⟩ rfl rfl rfl (by decide) (mBa inB_X11) (mB wl_RX11_77) dX11_spare_8 ?_
  obtain ⟨μ2, c1, h⟩ := bd_some h
  refine V_callVv X (As := [.ref (zad y (1, 0, 0))]) (M_X10_look (by decide) c1) (cwV 1 X.2.2.2.2.2.2.1 (gV wm_RX11_172 wi_X10_look wse_X10_look win_RX10 wc_X10_look) rfl rfl rfl hd_X10_look ⟨Nat.le_of_ble_eq_true rfl, Nat.le_of_ble_eq_true rfl⟩) (b := (0, 5, 0)) ⟨by decide, rfl⟩ rfl rfl rfl rfl (Nat.le_of_ble_eq_true rfl) dX11_spare_11 rfl ?_
  refine V_aload_n X 0 dX11_spare_14 rfl rfl ?_
  refine V_getr X (o := (0, 0, 0)) (i := (0, 12, 0)) (ci := 11) (k := 9) (N := 16) (T := TX11) (C := RX11) ⟨by decide, rfl⟩ rfl rfl rfl (by decide) (mBa inB_X11) (mB wl_RX11_27) dX11_spare_15 ?_
  refine V_aload_n X 0 dX11_spare_18 rfl rfl ?_
  refine V_getr X (o := (0, 0, 0)) (i := (0, 4, 0)) (ci := 11) (k := 8) (N := 16) (T := TX11) (C := RX11) ⟨by decide, rfl⟩ rfl rfl rfl (by decide) (mBa inB_X11) (mB wl_RX11_20) dX11_spare_19 ?_
  refine V_getr X (o := (0, 4, 0)) (i := (0, 5, 0)) (ci := 9) (k := 0) (N := 2) (T := TX9) (C := RX9) ⟨by decide, rfl⟩ rfl rfl rfl (by decide) (mBa inB_X9) (mB wl_RX11_168) dX11_spare_22 ?_
  obtain ⟨μ4, c3, h⟩ := bd_some h
  refine V_callVv X (As := [.ref (zad y (0, 5, 0))]) (M_X1_load c3) (cwV 1 X.2.2.2.2.2.2.1 (gV wm_RX11_190 wi_X1_load wse_X1_load win_RX1 wc_X1_load) rfl rfl rfl hd_X1_load ⟨Nat.le_of_ble_eq_true rfl, Nat.le_of_ble_eq_true rfl⟩) (b := (0, 12, 0)) ⟨by decide, rfl⟩ rfl rfl rfl rfl (Nat.le_of_ble_eq_true rfl) dX11_spare_25 rfl ?_
  refine V_aload_n X 0 dX11_spare_28 rfl rfl ?_
  refine V_getr X (o := (0, 0, 0)) (i := (0, 12, 0)) (ci := 11) (k := 9) (N := 16) (T := TX11) (C := RX11) ⟨by decide, rfl⟩ rfl rfl rfl (by decide) (mBa inB_X11) (mB wl_RX11_27) dX11_spare_29 ?_
  obtain ⟨x6, c5, h⟩ := bd_some h
  refine V_callVi X (As := []) (M_X1_fewestToSpare c5) (cwV 0 X.2.2.2.2.2.2.1 (gV wm_RX11_295 wi_X1_fewestToSpare wse_X1_fewestToSpare win_RX1 wc_X1_fewestToSpare) rfl rfl rfl hd_X1_fewestToSpare ⟨Nat.le_of_ble_eq_true rfl, Nat.le_of_ble_eq_true rfl⟩) (b := (0, 12, 0)) ⟨by decide, rfl⟩ rfl rfl rfl rfl (Nat.le_of_ble_eq_true rfl) dX11_spare_32 rfl ?_
  exact V_iretW X h dX11_spare_35

def f_X11_order (a1 : Int32) (μ : ZMem) : Option (Int32 × ZMem) := bd2 (α := Int32) (β := ZMem) (if a1 = (-1) then bd (f_X7_spreadOfClocks 0 μ) (fun (x8 : Int32) => some (x8, μ)) else bd2 (f_X1_inOrder 0 a1 μ) (fun (x5 : Int32) (μ6 : ZMem) => some (x5, μ6))) (fun (x2 : Int32) (μ3 : ZMem) => some (x2, μ3))
set_option maxRecDepth 100000 in
set_option maxHeartbeats 4000000 in
theorem M_X11_order {l : Launch} {D : va_G} {y : ZLay} {a1 : Int32}  {μ : ZMem} {r : Int32} {μ0 : ZMem} (h : f_X11_order a1 μ = some (r, μ0)) : MI l yX11_order wb_X11_order rm_X11_order D y [.ref (zad y (0, 0, 0)), .int a1] μ r μ0 := by
  unfold f_X11_order at h
  refine MI_of RX11 [(0, .ref (zad y (0, 0, 0))), (1, .int a1)] (by decide) rfl rfl (Nat.le_of_ble_eq_true rfl) rfl ?_
  intro p e s m args below meth c A X
  refine V_iload_n X 1 dX11_order_0 rfl rfl ?_
  refine V_iconst X (-1) dX11_order_1 (by decide) ?_
  obtain ⟨x2, μ3, h1, h⟩ := bd2_some h
  have hk : V X μ3 27 [] [.int x2] := by
    clear h1
    exact V_iretW X h dX11_order_27
  replace h := h1
  clear h1
  refine V_icmp_ne X (tgt := 15) dX11_order_2 (by decide) (fun b1 => ?_) (fun b1 => ?_)
  · replace h := (if_neg b1).symm.trans h
    refine V_aload_n X 0 dX11_order_15 rfl rfl ?_
    refine V_getr X (o := (0, 0, 0)) (i := (0, 12, 0)) (ci := 11) (k := 9) (N := 16) (T := TX11) (C := RX11) ⟨by decide, rfl⟩ rfl rfl rfl (by decide) (mBa inB_X11) (mB wl_RX11_27) dX11_order_16 ?_
    refine V_aload_n X 0 dX11_order_19 rfl rfl ?_
    refine V_getr X (o := (0, 0, 0)) (i := (1, 0, 0)) (ci := 11) (k := 3) (N := 16) (T := TX11) (C := RX11) ⟨by decide, rfl⟩ rfl rfl rfl (by decide) (mBa inB_X11) (mB wl_RX11_77) dX11_order_20 ?_
    refine V_iload_n X 1 dX11_order_23 rfl rfl ?_
    obtain ⟨x5, μ6, c4, h⟩ := bd2_some h
    refine V_callVi X (As := [.ref (zad y (1, 0, 0)), .int a1]) (M_X1_inOrder (by decide) c4) (cwV 2 X.2.2.2.2.2.2.1 (gV wm_RX11_298 wi_X1_inOrder wse_X1_inOrder win_RX1 wc_X1_inOrder) rfl rfl rfl hd_X1_inOrder ⟨Nat.le_of_ble_eq_true rfl, Nat.le_of_ble_eq_true rfl⟩) (b := (0, 12, 0)) ⟨by decide, rfl⟩ rfl rfl rfl rfl (Nat.le_of_ble_eq_true rfl) dX11_order_24 rfl ?_
    refine V_sub X [] (lv' := []) rfl ?_
    obtain ⟨rfl, rfl⟩ := so2 h
    exact hk
  · replace h := (if_pos b1).symm.trans h
    refine V_aload_n X 0 dX11_order_5 rfl rfl ?_
    refine V_getr X (o := (0, 0, 0)) (i := (1, 0, 0)) (ci := 11) (k := 3) (N := 16) (T := TX11) (C := RX11) ⟨by decide, rfl⟩ rfl rfl rfl (by decide) (mBa inB_X11) (mB wl_RX11_77) dX11_order_6 ?_
    obtain ⟨x8, c7, h⟩ := bd_some h
    refine V_callVi X (As := []) (M_X7_spreadOfClocks (by decide) c7) (cwV 0 X.2.2.2.2.2.2.1 (gV wm_RX11_266 wi_X7_spreadOfClocks wse_X7_spreadOfClocks win_RX7 wc_X7_spreadOfClocks) rfl rfl rfl hd_X7_spreadOfClocks ⟨Nat.le_of_ble_eq_true rfl, Nat.le_of_ble_eq_true rfl⟩) (b := (1, 0, 0)) ⟨(by decide), rfl⟩ rfl rfl rfl rfl (Nat.le_of_ble_eq_true rfl) dX11_order_9 rfl ?_
    refine V_goto X (tgt := 27) dX11_order_12 (by decide) ?_
    refine V_sub X [] (lv' := []) rfl ?_
    obtain ⟨rfl, rfl⟩ := so2 h
    exact hk

def f_X11_courseRows (μ : ZMem) : Option (Int32 × ZMem) := bd2 (f_X11_useTape μ) (fun (x2 : Int32) (μ3 : ZMem) => jk (some ((-1), μ3)) (fun k5 => if 40 < x2 then k5 else if (zrem x2 2) = 0 then bd (lp (σ := Int32) (fun (x7 : Int32) => if x2 ≤ x7 then some (.inr (.inl ())) else gd (zin x7 400) (if (μ3 (0, 1, 0) x7.toNatClampNeg) ≤ 99 then some (.inl (x7 + 2)) else some (.inr (.inr ((-1), μ3))))) FU 0) (fun z => sm z (fun (_ : Unit) => some ((x2 / 2), μ3)) (fun r0 => some r0)) else k5))
set_option maxRecDepth 100000 in
set_option maxHeartbeats 4000000 in
theorem M_X11_courseRows {l : Launch} {D : va_G} {y : ZLay}   {μ : ZMem} {r : Int32} {μ0 : ZMem} (h : f_X11_courseRows μ = some (r, μ0)) : MI l yX11_courseRows wb_X11_courseRows rm_X11_courseRows D y [.ref (zad y (0, 0, 0))] μ r μ0 := by
  unfold f_X11_courseRows at h
  refine MI_of RX11 [(0, .ref (zad y (0, 0, 0)))] (by decide) rfl rfl (Nat.le_of_ble_eq_true rfl) rfl ?_
  intro p e s m args below meth c A X
  refine V_aload_n X 0 dX11_courseRows_0 rfl rfl ?_
  obtain ⟨x2, μ3, c1, h⟩ := bd2_some h
  refine V_callVi X (As := []) (M_X11_useTape c1) (cwV 0 X.2.2.2.2.2.2.1 (gV wm_RX11_101 wi_X11_useTape wse_X11_useTape win_RX11 wc_X11_useTape) rfl rfl rfl hd_X11_useTape ⟨Nat.le_of_ble_eq_true rfl, Nat.le_of_ble_eq_true rfl⟩) (b := (0, 0, 0)) ⟨by decide, rfl⟩ rfl rfl rfl rfl (Nat.le_of_ble_eq_true rfl) dX11_courseRows_1 rfl ?_
  refine V_istore_n X [(1, .int x2), (0, .ref (zad y (0, 0, 0)))] dX11_courseRows_4 rfl (by decide) rfl ?_
  refine V_iload_n X 0 dX11_courseRows_5 rfl rfl ?_
  refine V_bipush X 40 dX11_courseRows_6 (by decide) ?_
  refine jk0_el (P := V X μ3 17 [] []) h (fun h => ?_) (fun k5 hk5 h => ?_)
  · refine V_iconst X (-1) dX11_courseRows_17 (by decide) ?_
    exact V_iretW X h dX11_courseRows_18
  · refine V_icmp_gt X (tgt := 17) dX11_courseRows_8 (by decide) (fun b4 => ?_) (fun b4 => ?_)
    · replace h := (if_pos b4).symm.trans h
      refine V_sub X [] (lv' := []) rfl ?_
      exact hk5 h
    · replace h := (if_neg b4).symm.trans h
      refine V_iload_n X 0 dX11_courseRows_11 rfl rfl ?_
      refine V_iconst X 2 dX11_courseRows_12 (by decide) ?_
      refine V_rem X dX11_courseRows_13 (by decide) ?_
      refine V_if_eq X (tgt := 19) dX11_courseRows_14 (by decide) (fun b6 => ?_) (fun b6 => ?_)
      · replace h := (if_pos b6).symm.trans h
        refine V_iconst X 0 dX11_courseRows_19 (by decide) ?_
        refine V_istore_n X [(2, .int 0), (1, .int x2), (0, .ref (zad y (0, 0, 0)))] dX11_courseRows_20 rfl (by decide) rfl ?_
        refine V_sub X [2, 1, 0] (lv' := [(0, .ref (zad y (0, 0, 0))), (1, .int x2), (2, .int 0)]) rfl ?_
        obtain ⟨zz, hl, h⟩ := bd_some h
        have hk : ∀ (_ : Unit), .inl () = zz → V X μ3 45 [(1, .int x2)] [] := by
          intro _ hzz
          subst hzz
          clear hl
          replace h := sm_l h
          refine V_iload_n X 0 dX11_courseRows_45 rfl rfl ?_
          refine V_iconst X 2 dX11_courseRows_46 (by decide) ?_
          refine V_idiv X dX11_courseRows_47 (by decide) ?_
          exact V_iretW X h dX11_courseRows_48
        have hr : ∀ r0, .inr r0 = zz → some r0 = some (r, μ0) := by
          intro r0 hzz
          subst hzz
          exact h
        refine lp_ind (P := fun (x7 : Int32) => V X μ3 21 [(0, .ref (zad y (0, 0, 0))), (1, .int x2), (2, .int x7)] []) (fun q z h hz => ?_) hl
        obtain ⟨x7, hq⟩ : ∃ x, x = q := ⟨q, rfl⟩
        subst hq
        show V X μ3 21 [(0, .ref (zad y (0, 0, 0))), (1, .int x2), (2, .int x7)] []
        refine V_iload_n X 2 dX11_courseRows_21 rfl rfl ?_
        refine V_iload_n X 1 dX11_courseRows_22 rfl rfl ?_
        refine V_icmp_ge X (tgt := 45) dX11_courseRows_23 (by decide) (fun b8 => ?_) (fun b8 => ?_)
        · replace h := (if_pos b8).symm.trans h
          refine V_sub X [1] (lv' := [(1, .int x2)]) rfl ?_
          cases h
          exact hk () hz
        · replace h := (if_neg b8).symm.trans h
          refine V_aload_n X 0 dX11_courseRows_26 rfl rfl ?_
          refine V_getr X (o := (0, 0, 0)) (i := (0, 1, 0)) (ci := 11) (k := 0) (N := 16) (T := TX11) (C := RX11) ⟨by decide, rfl⟩ rfl rfl rfl (by decide) (mBa inB_X11) (mB wl_RX11_9) dX11_courseRows_27 ?_
          refine V_iload_n X 2 dX11_courseRows_30 rfl rfl ?_
          obtain ⟨g9, h⟩ := gd_some h
          refine V_iald X x7.toNatClampNeg rfl (o := (0, 1, 0)) (n := 400) ⟨by decide, rfl⟩ rfl rfl g9 dX11_courseRows_31 ?_
          refine V_bipush X 99 dX11_courseRows_32 (by decide) ?_
          refine V_icmp_le X (tgt := 39) dX11_courseRows_34 (by decide) (fun b10 => ?_) (fun b10 => ?_)
          · replace h := (if_pos b10).symm.trans h
            refine V_inc X 2 2 [(2, .int (x7 + 2)), (0, .ref (zad y (0, 0, 0))), (1, .int x2)] dX11_courseRows_39 rfl (by decide) (by decide) rfl ?_
            refine V_goto X (tgt := 21) dX11_courseRows_42 (by decide) ?_
            refine V_sub X [1, 2, 0] (lv' := [(0, .ref (zad y (0, 0, 0))), (1, .int x2), (2, .int (x7 + 2))]) rfl ?_
            cases h
            exact hz
          · replace h := (if_neg b10).symm.trans h
            refine V_iconst X (-1) dX11_courseRows_37 (by decide) ?_
            cases h
            have h := hr _ hz
            exact V_iretW X h dX11_courseRows_38
      · replace h := (if_neg b6).symm.trans h
        refine V_sub X [] (lv' := []) rfl ?_
        exact hk5 h

def f_X11_read (y : ZLay) (a1 : Int32) (μ : ZMem) : Option ((Int32 ⊕ Nat) × ZMem) := bd2 (f_X11_courseRows μ) (fun (x2 : Int32) (μ3 : ZMem) => if x2 = (-1) then some (.inr 1, μ3) else bd (f_X2_weighCourses y (0, 1, 0) x2 μ3) (fun (μ6 : ZMem) => bd (α := Int32) (if a1 = 0 then bd (f_X2_countFits μ6) (fun (x10 : Int32) => some x10) else bd (f_X2_firstFit μ6) (fun (x12 : Int32) => some x12)) (fun (x8 : Int32) => some (.inl x8, μ6))))
set_option maxRecDepth 100000 in
set_option maxHeartbeats 4000000 in
theorem M_X11_read {l : Launch} {D : va_G} {y : ZLay} {a1 : Int32}  {μ : ZMem} {res : Int32 ⊕ Nat} {μ0 : ZMem} (hlf : l.stackTraces = false) (h : f_X11_read y a1 μ = some (res, μ0)) : MX l yX11_read wb_X11_read rm_X11_read D y [.ref (zad y (0, 0, 0)), .int a1] μ res μ0 := by
  unfold f_X11_read at h
  refine MX_of RX11 [(0, .ref (zad y (0, 0, 0))), (1, .int a1)] (by decide) rfl rfl (Nat.le_of_ble_eq_true rfl) rfl ?_
  intro p e s m args below meth c A X hex
  refine V_aload_n X 0 dX11_read_0 rfl rfl ?_
  obtain ⟨x2, μ3, c1, h⟩ := bd2_some h
  refine V_callVi X (As := []) (M_X11_courseRows c1) (cwV 0 X.2.2.2.2.2.2.1 (gV wm_RX11_302 wi_X11_courseRows wse_X11_courseRows win_RX11 wc_X11_courseRows) rfl rfl rfl hd_X11_courseRows ⟨Nat.le_of_ble_eq_true rfl, Nat.le_of_ble_eq_true rfl⟩) (b := (0, 0, 0)) ⟨by decide, rfl⟩ rfl rfl rfl rfl (Nat.le_of_ble_eq_true rfl) dX11_read_1 rfl ?_
  refine V_istore_n X [(2, .int x2), (0, .ref (zad y (0, 0, 0))), (1, .int a1)] dX11_read_4 rfl (by decide) rfl ?_
  refine V_iload_n X 0 dX11_read_5 rfl rfl ?_
  refine V_iconst X (-1) dX11_read_6 (by decide) ?_
  refine V_icmp_ne X (tgt := 18) dX11_read_7 (by decide) (fun b4 => ?_) (fun b4 => ?_)
  · replace h := (if_neg b4).symm.trans h
    refine V_aload_n X 1 dX11_read_18 rfl rfl ?_
    refine V_getr X (o := (0, 0, 0)) (i := (0, 17, 0)) (ci := 11) (k := 10) (N := 16) (T := TX11) (C := RX11) ⟨by decide, rfl⟩ rfl rfl rfl (by decide) (mBa inB_X11) (mB wl_RX11_34) dX11_read_19 ?_
    refine V_aload_n X 1 dX11_read_22 rfl rfl ?_
    refine V_getr X (o := (0, 0, 0)) (i := (0, 1, 0)) (ci := 11) (k := 0) (N := 16) (T := TX11) (C := RX11) ⟨by decide, rfl⟩ rfl rfl rfl (by decide) (mBa inB_X11) (mB wl_RX11_9) dX11_read_23 ?_
    refine V_iload_n X 0 dX11_read_26 rfl rfl ?_
    obtain ⟨μ6, c5, h⟩ := bd_some h
    refine V_callVv X (As := [.ref (zad y (0, 1, 0)), .int x2]) (M_X2_weighCourses (show okI y (0, 1, 0) from ⟨by decide, rfl⟩) (show zisI (0, 1, 0) = true from rfl) c5) (cwV 2 X.2.2.2.2.2.2.1 (gV wm_RX11_305 wi_X2_weighCourses wse_X2_weighCourses win_RX2 wc_X2_weighCourses) rfl rfl rfl hd_X2_weighCourses ⟨Nat.le_of_ble_eq_true rfl, Nat.le_of_ble_eq_true rfl⟩) (b := (0, 17, 0)) ⟨by decide, rfl⟩ rfl rfl rfl rfl (Nat.le_of_ble_eq_true rfl) dX11_read_27 rfl ?_
    refine V_iload_n X 2 dX11_read_30 rfl rfl ?_
    obtain ⟨x8, h1, h⟩ := bd_some h
    have hk : V X μ6 51 [] [.int x8] := by
      clear h1
      exact V_iretX X h dX11_read_51
    replace h := h1
    clear h1
    refine V_if_eq X (tgt := 44) dX11_read_31 (by decide) (fun b7 => ?_) (fun b7 => ?_)
    · replace h := (if_pos b7).symm.trans h
      refine V_aload_n X 1 dX11_read_44 rfl rfl ?_
      refine V_getr X (o := (0, 0, 0)) (i := (0, 17, 0)) (ci := 11) (k := 10) (N := 16) (T := TX11) (C := RX11) ⟨by decide, rfl⟩ rfl rfl rfl (by decide) (mBa inB_X11) (mB wl_RX11_34) dX11_read_45 ?_
      obtain ⟨x10, c9, h⟩ := bd_some h
      refine V_callVi X (As := []) (M_X2_countFits c9) (cwV 0 X.2.2.2.2.2.2.1 (gV wm_RX11_311 wi_X2_countFits wse_X2_countFits win_RX2 wc_X2_countFits) rfl rfl rfl hd_X2_countFits ⟨Nat.le_of_ble_eq_true rfl, Nat.le_of_ble_eq_true rfl⟩) (b := (0, 17, 0)) ⟨by decide, rfl⟩ rfl rfl rfl rfl (Nat.le_of_ble_eq_true rfl) dX11_read_48 rfl ?_
      refine V_sub X [] (lv' := []) rfl ?_
      obtain rfl := so1 h
      exact hk
    · replace h := (if_neg b7).symm.trans h
      refine V_aload_n X 1 dX11_read_34 rfl rfl ?_
      refine V_getr X (o := (0, 0, 0)) (i := (0, 17, 0)) (ci := 11) (k := 10) (N := 16) (T := TX11) (C := RX11) ⟨by decide, rfl⟩ rfl rfl rfl (by decide) (mBa inB_X11) (mB wl_RX11_34) dX11_read_35 ?_
      obtain ⟨x12, c11, h⟩ := bd_some h
      refine V_callVi X (As := []) (M_X2_firstFit c11) (cwV 0 X.2.2.2.2.2.2.1 (gV wm_RX11_308 wi_X2_firstFit wse_X2_firstFit win_RX2 wc_X2_firstFit) rfl rfl rfl hd_X2_firstFit ⟨Nat.le_of_ble_eq_true rfl, Nat.le_of_ble_eq_true rfl⟩) (b := (0, 17, 0)) ⟨by decide, rfl⟩ rfl rfl rfl rfl (Nat.le_of_ble_eq_true rfl) dX11_read_38 rfl ?_
      refine V_goto X (tgt := 51) dX11_read_41 (by decide) ?_
      refine V_sub X [] (lv' := []) rfl ?_
      obtain rfl := so1 h
      exact hk
  · replace h := (if_pos b4).symm.trans h
    exact V_throw X hex hlf (ik := 119) (ic := 121) 1 h (by decide +kernel) (by decide +kernel) (mB wcl_RX11_119) (mB wine_1) (mBa wx_1) wx_n1 wx_g1 dX11_read_10 dX11_read_13 dX11_read_14 dX11_read_17 (Nat.le_of_ble_eq_true rfl) (Nat.le_of_ble_eq_true rfl) (Nat.le_of_ble_eq_true rfl) (Nat.le_of_ble_eq_true rfl)

def f_X11_when (y : ZLay) (μ : ZMem) : Option ((Int32 ⊕ Nat) × ZMem) := bd2 (f_X11_courseRows μ) (fun (x2 : Int32) (μ3 : ZMem) => if x2 = (-1) then some (.inr 1, μ3) else bd (f_X2_weighCourses y (0, 1, 0) x2 μ3) (fun (μ6 : ZMem) => bd2 (f_X2_bestRound μ6) (fun (x8 : Int32) (μ9 : ZMem) => some (.inl x8, μ9))))
set_option maxRecDepth 100000 in
set_option maxHeartbeats 4000000 in
theorem M_X11_when {l : Launch} {D : va_G} {y : ZLay}   {μ : ZMem} {res : Int32 ⊕ Nat} {μ0 : ZMem} (hlf : l.stackTraces = false) (h : f_X11_when y μ = some (res, μ0)) : MX l yX11_when wb_X11_when rm_X11_when D y [.ref (zad y (0, 0, 0))] μ res μ0 := by
  unfold f_X11_when at h
  refine MX_of RX11 [(0, .ref (zad y (0, 0, 0)))] (by decide) rfl rfl (Nat.le_of_ble_eq_true rfl) rfl ?_
  intro p e s m args below meth c A X hex
  refine V_aload_n X 0 dX11_when_0 rfl rfl ?_
  obtain ⟨x2, μ3, c1, h⟩ := bd2_some h
  refine V_callVi X (As := []) (M_X11_courseRows c1) (cwV 0 X.2.2.2.2.2.2.1 (gV wm_RX11_302 wi_X11_courseRows wse_X11_courseRows win_RX11 wc_X11_courseRows) rfl rfl rfl hd_X11_courseRows ⟨Nat.le_of_ble_eq_true rfl, Nat.le_of_ble_eq_true rfl⟩) (b := (0, 0, 0)) ⟨by decide, rfl⟩ rfl rfl rfl rfl (Nat.le_of_ble_eq_true rfl) dX11_when_1 rfl ?_
  refine V_istore_n X [(1, .int x2), (0, .ref (zad y (0, 0, 0)))] dX11_when_4 rfl (by decide) rfl ?_
  refine V_iload_n X 0 dX11_when_5 rfl rfl ?_
  refine V_iconst X (-1) dX11_when_6 (by decide) ?_
  refine V_icmp_ne X (tgt := 18) dX11_when_7 (by decide) (fun b4 => ?_) (fun b4 => ?_)
  · replace h := (if_neg b4).symm.trans h
    refine V_aload_n X 1 dX11_when_18 rfl rfl ?_
    refine V_getr X (o := (0, 0, 0)) (i := (0, 17, 0)) (ci := 11) (k := 10) (N := 16) (T := TX11) (C := RX11) ⟨by decide, rfl⟩ rfl rfl rfl (by decide) (mBa inB_X11) (mB wl_RX11_34) dX11_when_19 ?_
    refine V_aload_n X 1 dX11_when_22 rfl rfl ?_
    refine V_getr X (o := (0, 0, 0)) (i := (0, 1, 0)) (ci := 11) (k := 0) (N := 16) (T := TX11) (C := RX11) ⟨by decide, rfl⟩ rfl rfl rfl (by decide) (mBa inB_X11) (mB wl_RX11_9) dX11_when_23 ?_
    refine V_iload_n X 0 dX11_when_26 rfl rfl ?_
    obtain ⟨μ6, c5, h⟩ := bd_some h
    refine V_callVv X (As := [.ref (zad y (0, 1, 0)), .int x2]) (M_X2_weighCourses (show okI y (0, 1, 0) from ⟨by decide, rfl⟩) (show zisI (0, 1, 0) = true from rfl) c5) (cwV 2 X.2.2.2.2.2.2.1 (gV wm_RX11_305 wi_X2_weighCourses wse_X2_weighCourses win_RX2 wc_X2_weighCourses) rfl rfl rfl hd_X2_weighCourses ⟨Nat.le_of_ble_eq_true rfl, Nat.le_of_ble_eq_true rfl⟩) (b := (0, 17, 0)) ⟨by decide, rfl⟩ rfl rfl rfl rfl (Nat.le_of_ble_eq_true rfl) dX11_when_27 rfl ?_
    refine V_aload_n X 1 dX11_when_30 rfl rfl ?_
    refine V_getr X (o := (0, 0, 0)) (i := (0, 17, 0)) (ci := 11) (k := 10) (N := 16) (T := TX11) (C := RX11) ⟨by decide, rfl⟩ rfl rfl rfl (by decide) (mBa inB_X11) (mB wl_RX11_34) dX11_when_31 ?_
    obtain ⟨x8, μ9, c7, h⟩ := bd2_some h
    refine V_callVi X (As := []) (M_X2_bestRound c7) (cwV 0 X.2.2.2.2.2.2.1 (gV wm_RX11_314 wi_X2_bestRound wse_X2_bestRound win_RX2 wc_X2_bestRound) rfl rfl rfl hd_X2_bestRound ⟨Nat.le_of_ble_eq_true rfl, Nat.le_of_ble_eq_true rfl⟩) (b := (0, 17, 0)) ⟨by decide, rfl⟩ rfl rfl rfl rfl (Nat.le_of_ble_eq_true rfl) dX11_when_34 rfl ?_
    exact V_iretX X h dX11_when_37
  · replace h := (if_pos b4).symm.trans h
    exact V_throw X hex hlf (ik := 119) (ic := 121) 1 h (by decide +kernel) (by decide +kernel) (mB wcl_RX11_119) (mB wine_1) (mBa wx_1) wx_n1 wx_g1 dX11_when_10 dX11_when_13 dX11_when_14 dX11_when_17 (Nat.le_of_ble_eq_true rfl) (Nat.le_of_ble_eq_true rfl) (Nat.le_of_ble_eq_true rfl) (Nat.le_of_ble_eq_true rfl)

def f_X11_judgementRows (μ : ZMem) : Option (Int32 × ZMem) := bd2 (f_X11_useTape μ) (fun (x2 : Int32) (μ3 : ZMem) => jk (some ((-1), μ3)) (fun k5 => if 60 < x2 then k5 else if (zrem x2 3) = 0 then bd (lp (σ := Int32) (fun (x7 : Int32) => if x2 ≤ (x7 + 2) then some (.inr (.inl ())) else gd (zin x7 400) (bd (α := Int32) (jk (some 0) (fun k12 => if 8 ≤ (μ3 (0, 1, 0) x7.toNatClampNeg) then k12 else gd (zin (x7 + 1) 400) (if 8 ≤ (μ3 (0, 1, 0) (x7 + 1).toNatClampNeg) then k12 else if (μ3 (0, 1, 0) x7.toNatClampNeg) = (μ3 (0, 1, 0) (x7 + 1).toNatClampNeg) then k12 else some 1))) (fun (x11 : Int32) => jk (some (.inr (.inr ((-1), μ3)))) (fun k17 => if x11 = 0 then k17 else gd (zin (x7 + 2) 400) (if (μ3 (0, 1, 0) (x7 + 2).toNatClampNeg) ≤ 1 then some (.inl (x7 + 3)) else k17))))) FU 0) (fun z => sm z (fun (_ : Unit) => some ((x2 / 3), μ3)) (fun r0 => some r0)) else k5))
set_option maxRecDepth 100000 in
set_option maxHeartbeats 4000000 in
theorem M_X11_judgementRows {l : Launch} {D : va_G} {y : ZLay}   {μ : ZMem} {r : Int32} {μ0 : ZMem} (h : f_X11_judgementRows μ = some (r, μ0)) : MI l yX11_judgementRows wb_X11_judgementRows rm_X11_judgementRows D y [.ref (zad y (0, 0, 0))] μ r μ0 := by
  unfold f_X11_judgementRows at h
  refine MI_of RX11 [(0, .ref (zad y (0, 0, 0)))] (by decide) rfl rfl (Nat.le_of_ble_eq_true rfl) rfl ?_
  intro p e s m args below meth c A X
  refine V_aload_n X 0 dX11_judgementRows_0 rfl rfl ?_
  obtain ⟨x2, μ3, c1, h⟩ := bd2_some h
  refine V_callVi X (As := []) (M_X11_useTape c1) (cwV 0 X.2.2.2.2.2.2.1 (gV wm_RX11_101 wi_X11_useTape wse_X11_useTape win_RX11 wc_X11_useTape) rfl rfl rfl hd_X11_useTape ⟨Nat.le_of_ble_eq_true rfl, Nat.le_of_ble_eq_true rfl⟩) (b := (0, 0, 0)) ⟨by decide, rfl⟩ rfl rfl rfl rfl (Nat.le_of_ble_eq_true rfl) dX11_judgementRows_1 rfl ?_
  refine V_istore_n X [(1, .int x2), (0, .ref (zad y (0, 0, 0)))] dX11_judgementRows_4 rfl (by decide) rfl ?_
  refine V_iload_n X 0 dX11_judgementRows_5 rfl rfl ?_
  refine V_bipush X 60 dX11_judgementRows_6 (by decide) ?_
  refine jk0_el (P := V X μ3 17 [] []) h (fun h => ?_) (fun k5 hk5 h => ?_)
  · refine V_iconst X (-1) dX11_judgementRows_17 (by decide) ?_
    exact V_iretW X h dX11_judgementRows_18
  · refine V_icmp_gt X (tgt := 17) dX11_judgementRows_8 (by decide) (fun b4 => ?_) (fun b4 => ?_)
    · replace h := (if_pos b4).symm.trans h
      refine V_sub X [] (lv' := []) rfl ?_
      exact hk5 h
    · replace h := (if_neg b4).symm.trans h
      refine V_iload_n X 0 dX11_judgementRows_11 rfl rfl ?_
      refine V_iconst X 3 dX11_judgementRows_12 (by decide) ?_
      refine V_rem X dX11_judgementRows_13 (by decide) ?_
      refine V_if_eq X (tgt := 19) dX11_judgementRows_14 (by decide) (fun b6 => ?_) (fun b6 => ?_)
      · replace h := (if_pos b6).symm.trans h
        refine V_iconst X 0 dX11_judgementRows_19 (by decide) ?_
        refine V_istore_n X [(2, .int 0), (1, .int x2), (0, .ref (zad y (0, 0, 0)))] dX11_judgementRows_20 rfl (by decide) rfl ?_
        refine V_sub X [2, 1, 0] (lv' := [(0, .ref (zad y (0, 0, 0))), (1, .int x2), (2, .int 0)]) rfl ?_
        obtain ⟨zz, hl, h⟩ := bd_some h
        have hk : ∀ (_ : Unit), .inl () = zz → V X μ3 99 [(1, .int x2)] [] := by
          intro _ hzz
          subst hzz
          clear hl
          replace h := sm_l h
          refine V_iload_n X 0 dX11_judgementRows_99 rfl rfl ?_
          refine V_iconst X 3 dX11_judgementRows_100 (by decide) ?_
          refine V_idiv X dX11_judgementRows_101 (by decide) ?_
          exact V_iretW X h dX11_judgementRows_102
        have hr : ∀ r0, .inr r0 = zz → some r0 = some (r, μ0) := by
          intro r0 hzz
          subst hzz
          exact h
        refine lp_ind (P := fun (x7 : Int32) => V X μ3 21 [(0, .ref (zad y (0, 0, 0))), (1, .int x2), (2, .int x7)] []) (fun q z h hz => ?_) hl
        obtain ⟨x7, hq⟩ : ∃ x, x = q := ⟨q, rfl⟩
        subst hq
        show V X μ3 21 [(0, .ref (zad y (0, 0, 0))), (1, .int x2), (2, .int x7)] []
        refine V_iload_n X 2 dX11_judgementRows_21 rfl rfl ?_
        refine V_iconst X 2 dX11_judgementRows_22 (by decide) ?_
        refine V_iadd X dX11_judgementRows_23 ?_
        refine V_iload_n X 1 dX11_judgementRows_24 rfl rfl ?_
        refine V_icmp_ge X (tgt := 99) dX11_judgementRows_25 (by decide) (fun b8 => ?_) (fun b8 => ?_)
        · replace h := (if_pos b8).symm.trans h
          refine V_sub X [1] (lv' := [(1, .int x2)]) rfl ?_
          cases h
          exact hk () hz
        · replace h := (if_neg b8).symm.trans h
          refine V_aload_n X 0 dX11_judgementRows_28 rfl rfl ?_
          refine V_getr X (o := (0, 0, 0)) (i := (0, 1, 0)) (ci := 11) (k := 0) (N := 16) (T := TX11) (C := RX11) ⟨by decide, rfl⟩ rfl rfl rfl (by decide) (mBa inB_X11) (mB wl_RX11_9) dX11_judgementRows_29 ?_
          refine V_iload_n X 2 dX11_judgementRows_32 rfl rfl ?_
          obtain ⟨g9, h⟩ := gd_some h
          refine V_iald X x7.toNatClampNeg rfl (o := (0, 1, 0)) (n := 400) ⟨by decide, rfl⟩ rfl rfl g9 dX11_judgementRows_33 ?_
          refine V_bipush X 8 dX11_judgementRows_34 (by decide) ?_
          obtain ⟨x11, h1, h⟩ := bd_some h
          have hk : V X μ3 74 [(0, .ref (zad y (0, 0, 0))), (1, .int x2), (2, .int x7)] [.int x11] := by
            clear h1
            refine V_istore_n X [(3, .int x11), (0, .ref (zad y (0, 0, 0))), (1, .int x2), (2, .int x7)] dX11_judgementRows_74 rfl (by decide) rfl ?_
            refine V_iload_n X 0 dX11_judgementRows_75 rfl rfl ?_
            refine jk0_el (P := V X μ3 91 [] []) h (fun h => ?_) (fun k17 hk17 h => ?_)
            · refine V_iconst X (-1) dX11_judgementRows_91 (by decide) ?_
              cases h
              have h := hr _ hz
              exact V_iretW X h dX11_judgementRows_92
            · refine V_if_eq X (tgt := 91) dX11_judgementRows_76 (by decide) (fun b16 => ?_) (fun b16 => ?_)
              · replace h := (if_pos b16).symm.trans h
                refine V_sub X [] (lv' := []) rfl ?_
                exact hk17 h
              · replace h := (if_neg b16).symm.trans h
                refine V_aload_n X 1 dX11_judgementRows_79 rfl rfl ?_
                refine V_getr X (o := (0, 0, 0)) (i := (0, 1, 0)) (ci := 11) (k := 0) (N := 16) (T := TX11) (C := RX11) ⟨by decide, rfl⟩ rfl rfl rfl (by decide) (mBa inB_X11) (mB wl_RX11_9) dX11_judgementRows_80 ?_
                refine V_iload_n X 3 dX11_judgementRows_83 rfl rfl ?_
                refine V_iconst X 2 dX11_judgementRows_84 (by decide) ?_
                refine V_iadd X dX11_judgementRows_85 ?_
                obtain ⟨g18, h⟩ := gd_some h
                refine V_iald X (x7 + 2).toNatClampNeg rfl (o := (0, 1, 0)) (n := 400) ⟨by decide, rfl⟩ rfl rfl g18 dX11_judgementRows_86 ?_
                refine V_iconst X 1 dX11_judgementRows_87 (by decide) ?_
                refine V_icmp_le X (tgt := 93) dX11_judgementRows_88 (by decide) (fun b19 => ?_) (fun b19 => ?_)
                · replace h := (if_pos b19).symm.trans h
                  refine V_inc X 3 3 [(2, .int (x7 + 3)), (3, .int x11), (0, .ref (zad y (0, 0, 0))), (1, .int x2)] dX11_judgementRows_93 rfl (by decide) (by decide) rfl ?_
                  refine V_goto X (tgt := 21) dX11_judgementRows_96 (by decide) ?_
                  refine V_sub X [2, 3, 0] (lv' := [(0, .ref (zad y (0, 0, 0))), (1, .int x2), (2, .int (x7 + 3))]) rfl ?_
                  cases h
                  exact hz
                · replace h := (if_neg b19).symm.trans h
                  refine V_sub X [] (lv' := []) rfl ?_
                  exact hk17 h
          replace h := h1
          clear h1
          refine jk0_el (P := V X μ3 73 [(0, .ref (zad y (0, 0, 0))), (1, .int x2), (2, .int x7)] []) h (fun h => ?_) (fun k12 hk12 h => ?_)
          · refine V_iconst X 0 dX11_judgementRows_73 (by decide) ?_
            obtain rfl := so1 h
            exact hk
          · refine V_icmp_ge X (tgt := 73) dX11_judgementRows_36 (by decide) (fun b10 => ?_) (fun b10 => ?_)
            · replace h := (if_pos b10).symm.trans h
              exact hk12 h
            · replace h := (if_neg b10).symm.trans h
              refine V_aload_n X 0 dX11_judgementRows_39 rfl rfl ?_
              refine V_getr X (o := (0, 0, 0)) (i := (0, 1, 0)) (ci := 11) (k := 0) (N := 16) (T := TX11) (C := RX11) ⟨by decide, rfl⟩ rfl rfl rfl (by decide) (mBa inB_X11) (mB wl_RX11_9) dX11_judgementRows_40 ?_
              refine V_iload_n X 2 dX11_judgementRows_43 rfl rfl ?_
              refine V_iconst X 1 dX11_judgementRows_44 (by decide) ?_
              refine V_iadd X dX11_judgementRows_45 ?_
              obtain ⟨g13, h⟩ := gd_some h
              refine V_iald X (x7 + 1).toNatClampNeg rfl (o := (0, 1, 0)) (n := 400) ⟨by decide, rfl⟩ rfl rfl g13 dX11_judgementRows_46 ?_
              refine V_bipush X 8 dX11_judgementRows_47 (by decide) ?_
              refine V_icmp_ge X (tgt := 73) dX11_judgementRows_49 (by decide) (fun b14 => ?_) (fun b14 => ?_)
              · replace h := (if_pos b14).symm.trans h
                exact hk12 h
              · replace h := (if_neg b14).symm.trans h
                refine V_aload_n X 0 dX11_judgementRows_52 rfl rfl ?_
                refine V_getr X (o := (0, 0, 0)) (i := (0, 1, 0)) (ci := 11) (k := 0) (N := 16) (T := TX11) (C := RX11) ⟨by decide, rfl⟩ rfl rfl rfl (by decide) (mBa inB_X11) (mB wl_RX11_9) dX11_judgementRows_53 ?_
                refine V_iload_n X 2 dX11_judgementRows_56 rfl rfl ?_
                refine V_iald X x7.toNatClampNeg rfl (o := (0, 1, 0)) (n := 400) ⟨by decide, rfl⟩ rfl rfl g9 dX11_judgementRows_57 ?_
                refine V_aload_n X 0 dX11_judgementRows_58 rfl rfl ?_
                refine V_getr X (o := (0, 0, 0)) (i := (0, 1, 0)) (ci := 11) (k := 0) (N := 16) (T := TX11) (C := RX11) ⟨by decide, rfl⟩ rfl rfl rfl (by decide) (mBa inB_X11) (mB wl_RX11_9) dX11_judgementRows_59 ?_
                refine V_iload_n X 2 dX11_judgementRows_62 rfl rfl ?_
                refine V_iconst X 1 dX11_judgementRows_63 (by decide) ?_
                refine V_iadd X dX11_judgementRows_64 ?_
                refine V_iald X (x7 + 1).toNatClampNeg rfl (o := (0, 1, 0)) (n := 400) ⟨by decide, rfl⟩ rfl rfl g13 dX11_judgementRows_65 ?_
                refine V_icmp_eq X (tgt := 73) dX11_judgementRows_66 (by decide) (fun b15 => ?_) (fun b15 => ?_)
                · replace h := (if_pos b15).symm.trans h
                  exact hk12 h
                · replace h := (if_neg b15).symm.trans h
                  refine V_iconst X 1 dX11_judgementRows_69 (by decide) ?_
                  refine V_goto X (tgt := 74) dX11_judgementRows_70 (by decide) ?_
                  obtain rfl := so1 h
                  exact hk
      · replace h := (if_neg b6).symm.trans h
        refine V_sub X [] (lv' := []) rfl ?_
        exact hk5 h

def f_X11_blame (y : ZLay) (μ : ZMem) : Option ((Int32 ⊕ Nat) × ZMem) := bd2 (f_X11_judgementRows μ) (fun (x2 : Int32) (μ3 : ZMem) => if x2 = (-1) then some (.inr 1, μ3) else bd (f_X2_weighBlames y (0, 1, 0) x2 μ3) (fun (μ6 : ZMem) => bd (f_X2_countFits μ6) (fun (x8 : Int32) => some (.inl x8, μ6))))
set_option maxRecDepth 100000 in
set_option maxHeartbeats 4000000 in
theorem M_X11_blame {l : Launch} {D : va_G} {y : ZLay}   {μ : ZMem} {res : Int32 ⊕ Nat} {μ0 : ZMem} (hlf : l.stackTraces = false) (h : f_X11_blame y μ = some (res, μ0)) : MX l yX11_blame wb_X11_blame rm_X11_blame D y [.ref (zad y (0, 0, 0))] μ res μ0 := by
  unfold f_X11_blame at h
  refine MX_of RX11 [(0, .ref (zad y (0, 0, 0)))] (by decide) rfl rfl (Nat.le_of_ble_eq_true rfl) rfl ?_
  intro p e s m args below meth c A X hex
  refine V_aload_n X 0 dX11_blame_0 rfl rfl ?_
  obtain ⟨x2, μ3, c1, h⟩ := bd2_some h
  refine V_callVi X (As := []) (M_X11_judgementRows c1) (cwV 0 X.2.2.2.2.2.2.1 (gV wm_RX11_317 wi_X11_judgementRows wse_X11_judgementRows win_RX11 wc_X11_judgementRows) rfl rfl rfl hd_X11_judgementRows ⟨Nat.le_of_ble_eq_true rfl, Nat.le_of_ble_eq_true rfl⟩) (b := (0, 0, 0)) ⟨by decide, rfl⟩ rfl rfl rfl rfl (Nat.le_of_ble_eq_true rfl) dX11_blame_1 rfl ?_
  refine V_istore_n X [(1, .int x2), (0, .ref (zad y (0, 0, 0)))] dX11_blame_4 rfl (by decide) rfl ?_
  refine V_iload_n X 0 dX11_blame_5 rfl rfl ?_
  refine V_iconst X (-1) dX11_blame_6 (by decide) ?_
  refine V_icmp_ne X (tgt := 18) dX11_blame_7 (by decide) (fun b4 => ?_) (fun b4 => ?_)
  · replace h := (if_neg b4).symm.trans h
    refine V_aload_n X 1 dX11_blame_18 rfl rfl ?_
    refine V_getr X (o := (0, 0, 0)) (i := (0, 17, 0)) (ci := 11) (k := 10) (N := 16) (T := TX11) (C := RX11) ⟨by decide, rfl⟩ rfl rfl rfl (by decide) (mBa inB_X11) (mB wl_RX11_34) dX11_blame_19 ?_
    refine V_aload_n X 1 dX11_blame_22 rfl rfl ?_
    refine V_getr X (o := (0, 0, 0)) (i := (0, 1, 0)) (ci := 11) (k := 0) (N := 16) (T := TX11) (C := RX11) ⟨by decide, rfl⟩ rfl rfl rfl (by decide) (mBa inB_X11) (mB wl_RX11_9) dX11_blame_23 ?_
    refine V_iload_n X 0 dX11_blame_26 rfl rfl ?_
    obtain ⟨μ6, c5, h⟩ := bd_some h
    refine V_callVv X (As := [.ref (zad y (0, 1, 0)), .int x2]) (M_X2_weighBlames (show okI y (0, 1, 0) from ⟨by decide, rfl⟩) (show zisI (0, 1, 0) = true from rfl) c5) (cwV 2 X.2.2.2.2.2.2.1 (gV wm_RX11_320 wi_X2_weighBlames wse_X2_weighBlames win_RX2 wc_X2_weighBlames) rfl rfl rfl hd_X2_weighBlames ⟨Nat.le_of_ble_eq_true rfl, Nat.le_of_ble_eq_true rfl⟩) (b := (0, 17, 0)) ⟨by decide, rfl⟩ rfl rfl rfl rfl (Nat.le_of_ble_eq_true rfl) dX11_blame_27 rfl ?_
    refine V_aload_n X 1 dX11_blame_30 rfl rfl ?_
    refine V_getr X (o := (0, 0, 0)) (i := (0, 17, 0)) (ci := 11) (k := 10) (N := 16) (T := TX11) (C := RX11) ⟨by decide, rfl⟩ rfl rfl rfl (by decide) (mBa inB_X11) (mB wl_RX11_34) dX11_blame_31 ?_
    obtain ⟨x8, c7, h⟩ := bd_some h
    refine V_callVi X (As := []) (M_X2_countFits c7) (cwV 0 X.2.2.2.2.2.2.1 (gV wm_RX11_311 wi_X2_countFits wse_X2_countFits win_RX2 wc_X2_countFits) rfl rfl rfl hd_X2_countFits ⟨Nat.le_of_ble_eq_true rfl, Nat.le_of_ble_eq_true rfl⟩) (b := (0, 17, 0)) ⟨by decide, rfl⟩ rfl rfl rfl rfl (Nat.le_of_ble_eq_true rfl) dX11_blame_34 rfl ?_
    exact V_iretX X h dX11_blame_37
  · replace h := (if_pos b4).symm.trans h
    exact V_throw X hex hlf (ik := 119) (ic := 121) 1 h (by decide +kernel) (by decide +kernel) (mB wcl_RX11_119) (mB wine_1) (mBa wx_1) wx_n1 wx_g1 dX11_blame_10 dX11_blame_13 dX11_blame_14 dX11_blame_17 (Nat.le_of_ble_eq_true rfl) (Nat.le_of_ble_eq_true rfl) (Nat.le_of_ble_eq_true rfl) (Nat.le_of_ble_eq_true rfl)

def f_X11_guilty (y : ZLay) (μ : ZMem) : Option ((Int32 ⊕ Nat) × ZMem) := bd2 (f_X11_judgementRows μ) (fun (x2 : Int32) (μ3 : ZMem) => if x2 = (-1) then some (.inr 1, μ3) else bd (f_X2_weighBlames y (0, 1, 0) x2 μ3) (fun (μ6 : ZMem) => bd (f_X2_firstFit μ6) (fun (x8 : Int32) => some (.inl x8, μ6))))
set_option maxRecDepth 100000 in
set_option maxHeartbeats 4000000 in
theorem M_X11_guilty {l : Launch} {D : va_G} {y : ZLay}   {μ : ZMem} {res : Int32 ⊕ Nat} {μ0 : ZMem} (hlf : l.stackTraces = false) (h : f_X11_guilty y μ = some (res, μ0)) : MX l yX11_guilty wb_X11_guilty rm_X11_guilty D y [.ref (zad y (0, 0, 0))] μ res μ0 := by
  unfold f_X11_guilty at h
  refine MX_of RX11 [(0, .ref (zad y (0, 0, 0)))] (by decide) rfl rfl (Nat.le_of_ble_eq_true rfl) rfl ?_
  intro p e s m args below meth c A X hex
  refine V_aload_n X 0 dX11_guilty_0 rfl rfl ?_
  obtain ⟨x2, μ3, c1, h⟩ := bd2_some h
  refine V_callVi X (As := []) (M_X11_judgementRows c1) (cwV 0 X.2.2.2.2.2.2.1 (gV wm_RX11_317 wi_X11_judgementRows wse_X11_judgementRows win_RX11 wc_X11_judgementRows) rfl rfl rfl hd_X11_judgementRows ⟨Nat.le_of_ble_eq_true rfl, Nat.le_of_ble_eq_true rfl⟩) (b := (0, 0, 0)) ⟨by decide, rfl⟩ rfl rfl rfl rfl (Nat.le_of_ble_eq_true rfl) dX11_guilty_1 rfl ?_
  refine V_istore_n X [(1, .int x2), (0, .ref (zad y (0, 0, 0)))] dX11_guilty_4 rfl (by decide) rfl ?_
  refine V_iload_n X 0 dX11_guilty_5 rfl rfl ?_
  refine V_iconst X (-1) dX11_guilty_6 (by decide) ?_
  refine V_icmp_ne X (tgt := 18) dX11_guilty_7 (by decide) (fun b4 => ?_) (fun b4 => ?_)
  · replace h := (if_neg b4).symm.trans h
    refine V_aload_n X 1 dX11_guilty_18 rfl rfl ?_
    refine V_getr X (o := (0, 0, 0)) (i := (0, 17, 0)) (ci := 11) (k := 10) (N := 16) (T := TX11) (C := RX11) ⟨by decide, rfl⟩ rfl rfl rfl (by decide) (mBa inB_X11) (mB wl_RX11_34) dX11_guilty_19 ?_
    refine V_aload_n X 1 dX11_guilty_22 rfl rfl ?_
    refine V_getr X (o := (0, 0, 0)) (i := (0, 1, 0)) (ci := 11) (k := 0) (N := 16) (T := TX11) (C := RX11) ⟨by decide, rfl⟩ rfl rfl rfl (by decide) (mBa inB_X11) (mB wl_RX11_9) dX11_guilty_23 ?_
    refine V_iload_n X 0 dX11_guilty_26 rfl rfl ?_
    obtain ⟨μ6, c5, h⟩ := bd_some h
    refine V_callVv X (As := [.ref (zad y (0, 1, 0)), .int x2]) (M_X2_weighBlames (show okI y (0, 1, 0) from ⟨by decide, rfl⟩) (show zisI (0, 1, 0) = true from rfl) c5) (cwV 2 X.2.2.2.2.2.2.1 (gV wm_RX11_320 wi_X2_weighBlames wse_X2_weighBlames win_RX2 wc_X2_weighBlames) rfl rfl rfl hd_X2_weighBlames ⟨Nat.le_of_ble_eq_true rfl, Nat.le_of_ble_eq_true rfl⟩) (b := (0, 17, 0)) ⟨by decide, rfl⟩ rfl rfl rfl rfl (Nat.le_of_ble_eq_true rfl) dX11_guilty_27 rfl ?_
    refine V_aload_n X 1 dX11_guilty_30 rfl rfl ?_
    refine V_getr X (o := (0, 0, 0)) (i := (0, 17, 0)) (ci := 11) (k := 10) (N := 16) (T := TX11) (C := RX11) ⟨by decide, rfl⟩ rfl rfl rfl (by decide) (mBa inB_X11) (mB wl_RX11_34) dX11_guilty_31 ?_
    obtain ⟨x8, c7, h⟩ := bd_some h
    refine V_callVi X (As := []) (M_X2_firstFit c7) (cwV 0 X.2.2.2.2.2.2.1 (gV wm_RX11_308 wi_X2_firstFit wse_X2_firstFit win_RX2 wc_X2_firstFit) rfl rfl rfl hd_X2_firstFit ⟨Nat.le_of_ble_eq_true rfl, Nat.le_of_ble_eq_true rfl⟩) (b := (0, 17, 0)) ⟨by decide, rfl⟩ rfl rfl rfl rfl (Nat.le_of_ble_eq_true rfl) dX11_guilty_34 rfl ?_
    exact V_iretX X h dX11_guilty_37
  · replace h := (if_pos b4).symm.trans h
    exact V_throw X hex hlf (ik := 119) (ic := 121) 1 h (by decide +kernel) (by decide +kernel) (mB wcl_RX11_119) (mB wine_1) (mBa wx_1) wx_n1 wx_g1 dX11_guilty_10 dX11_guilty_13 dX11_guilty_14 dX11_guilty_17 (Nat.le_of_ble_eq_true rfl) (Nat.le_of_ble_eq_true rfl) (Nat.le_of_ble_eq_true rfl) (Nat.le_of_ble_eq_true rfl)

