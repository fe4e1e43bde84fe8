def f_X11_probe (y : ZLay) (μ : ZMem) : Option ((Int32 ⊕ Nat) × ZMem) := bd2 (f_X11_judgementRows μ) (fun (x2 : Int32) (μ3 : ZMem) => if x2 = (-1) then some (.inr 1, μ3) else bd (f_X2_weighBlames y (0, 1, 0) x2 μ3) (fun (μ6 : ZMem) => bd (f_X2_bestPair μ6) (fun (x8 : Int32) => some (.inl x8, μ6))))
set_option maxRecDepth 100000 in
set_option maxHeartbeats 4000000 in
theorem M_X11_probe {l : Launch} {D : va_G} {y : ZLay}   {μ : ZMem} {res : Int32 ⊕ Nat} {μ0 : ZMem} (hlf : l.stackTraces = false) (h : f_X11_probe y μ = some (res, μ0)) : MX l yX11_probe wb_X11_probe rm_X11_probe D y [.ref (zad y (0, 0, 0))] μ res μ0 := by
  unfold f_X11_probe at h
  refine MX_of RX11 [(0, .ref (zad y (0, 0, 0)))] (by decide) rfl rfl (Nat.le_of_ble_eq_true rfl) rfl ?_
  intro p e s m args below meth c A X hex
  refine V_aload_n X 0 dX11_probe_0 rfl rfl ?_
  obtain ⟨x2, μ3, c1, h⟩ := bd2_some h
  refine V_callVi X (As := []) (M_X11_judgementRows c1) (cwV 0 X.2.2.2.2.2.2.1 (gV wm_RX11_317 wi_X11_judgementRows wse_X11_judgementRows win_RX11 wc_X11_judgementRows) rfl rfl rfl hd_X11_judgementRows ⟨Nat.le_of_ble_eq_true rfl, Nat.le_of_ble_eq_true rfl⟩) (b := (0, 0, 0)) ⟨by decide, rfl⟩ rfl rfl rfl rfl (Nat.le_of_ble_eq_true rfl) dX11_probe_1 rfl ?_
  refine V_istore_n X [(1, .int x2), (0, .ref (zad y (0, 0, 0)))] dX11_probe_4 rfl (by decide) rfl ?_
  refine V_iload_n X 0 dX11_probe_5 rfl rfl ?_
  refine V_iconst X (-1) dX11_probe_6 (by decide) ?_
  refine V_icmp_ne X (tgt := 18) dX11_probe_7 (by decide) (fun b4 => ?_) (fun b4 => ?_)
  · replace h := (if_neg b4).symm.trans h
    refine V_aload_n X 1 dX11_probe_18 rfl rfl ?_
    refine V_getr X (o := (0, 0, 0)) (i := (0, 17, 0)) (ci := 11) (k := 10) (N := 16) (T := TX11) (C := RX11) ⟨by decide, rfl⟩ rfl rfl rfl (by decide) (mBa inB_X11) (mB wl_RX11_34) dX11_probe_19 ?_
    refine V_aload_n X 1 dX11_probe_22 rfl rfl ?_
    refine V_getr X (o := (0, 0, 0)) (i := (0, 1, 0)) (ci := 11) (k := 0) (N := 16) (T := TX11) (C := RX11) ⟨by decide, rfl⟩ rfl rfl rfl (by decide) (mBa inB_X11) (mB wl_RX11_9) dX11_probe_23 ?_
    refine V_iload_n X 0 dX11_probe_26 rfl rfl ?_
    obtain ⟨μ6, c5, h⟩ := bd_some h
    refine V_callVv X (As := [.ref (zad y (0, 1, 0)), .int x2]) (M_X2_weighBlames (show okI y (0, 1, 0) from ⟨by decide, rfl⟩) (show zisI (0, 1, 0) = true from rfl) c5) (cwV 2 X.2.2.2.2.2.2.1 (gV wm_RX11_320 wi_X2_weighBlames wse_X2_weighBlames win_RX2 wc_X2_weighBlames) rfl rfl rfl hd_X2_weighBlames ⟨Nat.le_of_ble_eq_true rfl, Nat.le_of_ble_eq_true rfl⟩) (b := (0, 17, 0)) ⟨by decide, rfl⟩ rfl rfl rfl rfl (Nat.le_of_ble_eq_true rfl) dX11_probe_27 rfl ?_
    refine V_aload_n X 1 dX11_probe_30 rfl rfl ?_
    refine V_getr X (o := (0, 0, 0)) (i := (0, 17, 0)) (ci := 11) (k := 10) (N := 16) (T := TX11) (C := RX11) ⟨by decide, rfl⟩ rfl rfl rfl (by decide) (mBa inB_X11) (mB wl_RX11_34) dX11_probe_31 ?_
    obtain ⟨x8, c7, h⟩ := bd_some h
    refine V_callVi X (As := []) (M_X2_bestPair c7) (cwV 0 X.2.2.2.2.2.2.1 (gV wm_RX11_323 wi_X2_bestPair wse_X2_bestPair win_RX2 wc_X2_bestPair) rfl rfl rfl hd_X2_bestPair ⟨Nat.le_of_ble_eq_true rfl, Nat.le_of_ble_eq_true rfl⟩) (b := (0, 17, 0)) ⟨by decide, rfl⟩ rfl rfl rfl rfl (Nat.le_of_ble_eq_true rfl) dX11_probe_34 rfl ?_
    exact V_iretX X h dX11_probe_37
  · replace h := (if_pos b4).symm.trans h
    exact V_throw X hex hlf (ik := 119) (ic := 121) 1 h (by decide +kernel) (by decide +kernel) (mB wcl_RX11_119) (mB wine_1) (mBa wx_1) wx_n1 wx_g1 dX11_probe_10 dX11_probe_13 dX11_probe_14 dX11_probe_17 (Nat.le_of_ble_eq_true rfl) (Nat.le_of_ble_eq_true rfl) (Nat.le_of_ble_eq_true rfl) (Nat.le_of_ble_eq_true rfl)

def f_X11_pairs (y : ZLay) (a1 : Int32) (μ : ZMem) : Option ((Int32 ⊕ Nat) × ZMem) := jk (bd (f_X10_look y 0 μ) (fun (μ7 : ZMem) => bd (f_X1_load μ7) (fun (μ9 : ZMem) => bd (f_X1_weighPairs 0 μ9) (fun (μ11 : ZMem) => bd (α := Int32) (if a1 = (-1) then bd (f_X1_mostOfPairs μ11) (fun (x17 : Int32) => some x17) else bd (f_X1_partnerOf a1 μ11) (fun (x15 : Int32) => some x15)) (fun (x13 : Int32) => some (.inl x13, μ11)))))) (fun k2 => if a1 = (-1) then k2 else bd (f_X11_isNode a1 μ) (fun (x4 : Int32) => if x4 = 0 then some (.inr 3, μ) else k2))
set_option maxRecDepth 100000 in
set_option maxHeartbeats 4000000 in
theorem M_X11_pairs {l : Launch} {D : va_G} {y : ZLay} {a1 : Int32}  {μ : ZMem} {res : Int32 ⊕ Nat} {μ0 : ZMem} (hlf : l.stackTraces = false) (h : f_X11_pairs y a1 μ = some (res, μ0)) : MX l yX11_pairs wb_X11_pairs rm_X11_pairs D y [.ref (zad y (0, 0, 0)), .int a1] μ res μ0 := by
  unfold f_X11_pairs at h
  refine MX_of RX11 [(0, .ref (zad y (0, 0, 0))), (1, .int a1)] (by decide) rfl rfl (Nat.le_of_ble_eq_true rfl) rfl ?_
  intro p e s m args below meth c A X hex
  refine V_iload_n X 1 dX11_pairs_0 rfl rfl ?_
  refine V_iconst X (-1) dX11_pairs_1 (by decide) ?_
  refine jk0_el (P := V X μ 21 [(0, .ref (zad y (0, 0, 0))), (1, .int a1)] []) h (fun h => ?_) (fun k2 hk2 h => ?_)
  · refine V_aload_n X 0 dX11_pairs_21 rfl rfl ?_
    refine V_getr X (o := (0, 0, 0)) (i := (0, 4, 0)) (ci := 11) (k := 8) (N := 16) (T := TX11) (C := RX11) ⟨by decide, rfl⟩ rfl rfl rfl (by decide) (mBa inB_X11) (mB wl_RX11_20) dX11_pairs_22 ?_
    refine V_getr X (o := (0, 4, 0)) (i := (0, 5, 0)) (ci := 9) (k := 0) (N := 2) (T := TX9) (C := RX9) ⟨by decide, rfl⟩ rfl rfl rfl (by decide) (mBa inB_X9) (mB wl_RX11_168) dX11_pairs_25 ?_
    refine V_aload_n X 0 dX11_pairs_28 rfl rfl ?_
    refine V_getr X (o := (0, 0, 0)) (i := (1, 0, 0)) (ci := 11) (k := 3) (N := 16) (T := TX11) (C := RX11) ⟨by decide, rfl⟩ rfl rfl rfl (by decide) (mBa inB_X11) (mB wl_RX11_77) dX11_pairs_29 ?_
    obtain ⟨μ7, c6, h⟩ := bd_some h
    refine V_callVv X (As := [.ref (zad y (1, 0, 0))]) (M_X10_look (by decide) c6) (cwV 1 X.2.2.2.2.2.2.1 (gV wm_RX11_172 wi_X10_look wse_X10_look win_RX10 wc_X10_look) rfl rfl rfl hd_X10_look ⟨Nat.le_of_ble_eq_true rfl, Nat.le_of_ble_eq_true rfl⟩) (b := (0, 5, 0)) ⟨by decide, rfl⟩ rfl rfl rfl rfl (Nat.le_of_ble_eq_true rfl) dX11_pairs_32 rfl ?_
    refine V_aload_n X 0 dX11_pairs_35 rfl rfl ?_
    refine V_getr X (o := (0, 0, 0)) (i := (0, 12, 0)) (ci := 11) (k := 9) (N := 16) (T := TX11) (C := RX11) ⟨by decide, rfl⟩ rfl rfl rfl (by decide) (mBa inB_X11) (mB wl_RX11_27) dX11_pairs_36 ?_
    refine V_aload_n X 0 dX11_pairs_39 rfl rfl ?_
    refine V_getr X (o := (0, 0, 0)) (i := (0, 4, 0)) (ci := 11) (k := 8) (N := 16) (T := TX11) (C := RX11) ⟨by decide, rfl⟩ rfl rfl rfl (by decide) (mBa inB_X11) (mB wl_RX11_20) dX11_pairs_40 ?_
    refine V_getr X (o := (0, 4, 0)) (i := (0, 5, 0)) (ci := 9) (k := 0) (N := 2) (T := TX9) (C := RX9) ⟨by decide, rfl⟩ rfl rfl rfl (by decide) (mBa inB_X9) (mB wl_RX11_168) dX11_pairs_43 ?_
    obtain ⟨μ9, c8, h⟩ := bd_some h
    refine V_callVv X (As := [.ref (zad y (0, 5, 0))]) (M_X1_load c8) (cwV 1 X.2.2.2.2.2.2.1 (gV wm_RX11_190 wi_X1_load wse_X1_load win_RX1 wc_X1_load) rfl rfl rfl hd_X1_load ⟨Nat.le_of_ble_eq_true rfl, Nat.le_of_ble_eq_true rfl⟩) (b := (0, 12, 0)) ⟨by decide, rfl⟩ rfl rfl rfl rfl (Nat.le_of_ble_eq_true rfl) dX11_pairs_46 rfl ?_
    refine V_aload_n X 0 dX11_pairs_49 rfl rfl ?_
    refine V_getr X (o := (0, 0, 0)) (i := (0, 12, 0)) (ci := 11) (k := 9) (N := 16) (T := TX11) (C := RX11) ⟨by decide, rfl⟩ rfl rfl rfl (by decide) (mBa inB_X11) (mB wl_RX11_27) dX11_pairs_50 ?_
    refine V_aload_n X 0 dX11_pairs_53 rfl rfl ?_
    refine V_getr X (o := (0, 0, 0)) (i := (1, 0, 0)) (ci := 11) (k := 3) (N := 16) (T := TX11) (C := RX11) ⟨by decide, rfl⟩ rfl rfl rfl (by decide) (mBa inB_X11) (mB wl_RX11_77) dX11_pairs_54 ?_
    obtain ⟨μ11, c10, h⟩ := bd_some h
    refine V_callVv X (As := [.ref (zad y (1, 0, 0))]) (M_X1_weighPairs (by decide) c10) (cwV 1 X.2.2.2.2.2.2.1 (gV wm_RX11_326 wi_X1_weighPairs wse_X1_weighPairs win_RX1 wc_X1_weighPairs) rfl rfl rfl hd_X1_weighPairs ⟨Nat.le_of_ble_eq_true rfl, Nat.le_of_ble_eq_true rfl⟩) (b := (0, 12, 0)) ⟨by decide, rfl⟩ rfl rfl rfl rfl (Nat.le_of_ble_eq_true rfl) dX11_pairs_57 rfl ?_
    refine V_iload_n X 1 dX11_pairs_60 rfl rfl ?_
    refine V_iconst X (-1) dX11_pairs_61 (by decide) ?_
    obtain ⟨x13, h1, h⟩ := bd_some h
    have hk : V X μ11 83 [] [.int x13] := by
      clear h1
      exact V_iretX X h dX11_pairs_83
    replace h := h1
    clear h1
    refine V_icmp_ne X (tgt := 75) dX11_pairs_62 (by decide) (fun b12 => ?_) (fun b12 => ?_)
    · replace h := (if_neg b12).symm.trans h
      refine V_aload_n X 0 dX11_pairs_75 rfl rfl ?_
      refine V_getr X (o := (0, 0, 0)) (i := (0, 12, 0)) (ci := 11) (k := 9) (N := 16) (T := TX11) (C := RX11) ⟨by decide, rfl⟩ rfl rfl rfl (by decide) (mBa inB_X11) (mB wl_RX11_27) dX11_pairs_76 ?_
      refine V_iload_n X 1 dX11_pairs_79 rfl rfl ?_
      obtain ⟨x15, c14, h⟩ := bd_some h
      refine V_callVi X (As := [.int a1]) (M_X1_partnerOf c14) (cwV 1 X.2.2.2.2.2.2.1 (gV wm_RX11_332 wi_X1_partnerOf wse_X1_partnerOf win_RX1 wc_X1_partnerOf) rfl rfl rfl hd_X1_partnerOf ⟨Nat.le_of_ble_eq_true rfl, Nat.le_of_ble_eq_true rfl⟩) (b := (0, 12, 0)) ⟨by decide, rfl⟩ rfl rfl rfl rfl (Nat.le_of_ble_eq_true rfl) dX11_pairs_80 rfl ?_
      refine V_sub X [] (lv' := []) rfl ?_
      obtain rfl := so1 h
      exact hk
    · replace h := (if_pos b12).symm.trans h
      refine V_aload_n X 0 dX11_pairs_65 rfl rfl ?_
      refine V_getr X (o := (0, 0, 0)) (i := (0, 12, 0)) (ci := 11) (k := 9) (N := 16) (T := TX11) (C := RX11) ⟨by decide, rfl⟩ rfl rfl rfl (by decide) (mBa inB_X11) (mB wl_RX11_27) dX11_pairs_66 ?_
      obtain ⟨x17, c16, h⟩ := bd_some h
      refine V_callVi X (As := []) (M_X1_mostOfPairs c16) (cwV 0 X.2.2.2.2.2.2.1 (gV wm_RX11_329 wi_X1_mostOfPairs wse_X1_mostOfPairs win_RX1 wc_X1_mostOfPairs) rfl rfl rfl hd_X1_mostOfPairs ⟨Nat.le_of_ble_eq_true rfl, Nat.le_of_ble_eq_true rfl⟩) (b := (0, 12, 0)) ⟨by decide, rfl⟩ rfl rfl rfl rfl (Nat.le_of_ble_eq_true rfl) dX11_pairs_69 rfl ?_
      refine V_goto X (tgt := 83) dX11_pairs_72 (by decide) ?_
      refine V_sub X [] (lv' := []) rfl ?_
      obtain rfl := so1 h
      exact hk
  · refine V_icmp_eq X (tgt := 21) dX11_pairs_2 (by decide) (fun b1 => ?_) (fun b1 => ?_)
    · replace h := (if_pos b1).symm.trans h
      exact hk2 h
    · replace h := (if_neg b1).symm.trans h
      refine V_aload_n X 0 dX11_pairs_5 rfl rfl ?_
      refine V_iload_n X 1 dX11_pairs_6 rfl rfl ?_
      obtain ⟨x4, c3, h⟩ := bd_some h
      refine V_callVi X (As := [.int a1]) (M_X11_isNode c3) (cwV 1 X.2.2.2.2.2.2.1 (gV wm_RX11_148 wi_X11_isNode wse_X11_isNode win_RX11 wc_X11_isNode) rfl rfl rfl hd_X11_isNode ⟨Nat.le_of_ble_eq_true rfl, Nat.le_of_ble_eq_true rfl⟩) (b := (0, 0, 0)) ⟨by decide, rfl⟩ rfl rfl rfl rfl (Nat.le_of_ble_eq_true rfl) dX11_pairs_7 rfl ?_
      refine V_if_ne X (tgt := 21) dX11_pairs_10 (by decide) (fun b5 => ?_) (fun b5 => ?_)
      · replace h := (if_neg b5).symm.trans h
        exact hk2 h
      · replace h := (if_pos b5).symm.trans h
        exact V_throw X hex hlf (ik := 152) (ic := 154) 3 h (by decide +kernel) (by decide +kernel) (mB wcl_RX11_152) (mB wine_3) (mBa wx_3) wx_n3 wx_g3 dX11_pairs_13 dX11_pairs_16 dX11_pairs_17 dX11_pairs_20 (Nat.le_of_ble_eq_true rfl) (Nat.le_of_ble_eq_true rfl) (Nat.le_of_ble_eq_true rfl) (Nat.le_of_ble_eq_true rfl)

def f_X11_nextOfShare (μ : ZMem) : Option (Int32) := bd (lp (σ := Int32 × Int32 × Int32) (fun q => un3 q (fun (x1 : Int32) (x2 : Int32) (x3 : Int32) => if (μ (1, 0, 0) 4) ≤ x3 then some (.inr x1) else gd (zin x3 8) (gd (gnz ((zmax 0 (μ (0, 30, 0) x3.toNatClampNeg)) + 1)) (zlt ((100 - (μ (3, 0, x3.toNatClampNeg) 8)) / ((zmax 0 (μ (0, 30, 0) x3.toNatClampNeg)) + 1)) (fun (x8 : Int32) => zl2 (α := Int32) (β := Int32) (if x8 ≤ x2 then (x1, x2) else (x3, x8)) (fun (x10 : Int32) (x11 : Int32) => some (.inl (x10, x11, (x3 + 1))))))))) FU (0, (-1), 0)) (fun (x4 : Int32) => some x4)
set_option maxRecDepth 100000 in
set_option maxHeartbeats 4000000 in
theorem M_X11_nextOfShare {l : Launch} {D : va_G} {y : ZLay}   {μ : ZMem} {r : Int32} (h : f_X11_nextOfShare μ = some r) : MI l yX11_nextOfShare wb_X11_nextOfShare rm_X11_nextOfShare D y [.ref (zad y (0, 0, 0))] μ r μ := by
  unfold f_X11_nextOfShare at h
  refine MI_of RX11 [(0, .ref (zad y (0, 0, 0)))] (by decide) rfl rfl (Nat.le_of_ble_eq_true rfl) rfl ?_
  intro p e s m args below meth c A X
  refine V_iconst X 0 dX11_nextOfShare_0 (by decide) ?_
  refine V_istore_n X [(1, .int 0), (0, .ref (zad y (0, 0, 0)))] dX11_nextOfShare_1 rfl (by decide) rfl ?_
  refine V_iconst X (-1) dX11_nextOfShare_2 (by decide) ?_
  refine V_istore_n X [(2, .int (-1)), (1, .int 0), (0, .ref (zad y (0, 0, 0)))] dX11_nextOfShare_3 rfl (by decide) rfl ?_
  refine V_iconst X 0 dX11_nextOfShare_4 (by decide) ?_
  refine V_istore_n X [(3, .int 0), (2, .int (-1)), (1, .int 0), (0, .ref (zad y (0, 0, 0)))] dX11_nextOfShare_5 rfl (by decide) rfl ?_
  refine V_sub X [3, 2, 1, 0] (lv' := [(0, .ref (zad y (0, 0, 0))), (1, .int 0), (2, .int (-1)), (3, .int 0)]) rfl ?_
  obtain ⟨x4, hl, h⟩ := bd_some h
  have hk : V X μ 64 [(1, .int x4)] [] := by
    clear hl
    refine V_iload_n X 0 dX11_nextOfShare_64 rfl rfl ?_
    exact V_iretR X h dX11_nextOfShare_65
  refine lp_ind (P := fun q => V X μ 6 [(0, .ref (zad y (0, 0, 0))), (1, .int q.1), (2, .int q.2.1), (3, .int q.2.2)] []) (fun q z h hz => ?_) hl
  obtain ⟨x1, x2, x3⟩ := q
  replace h := un3_eq h
  show V X μ 6 [(0, .ref (zad y (0, 0, 0))), (1, .int x1), (2, .int x2), (3, .int x3)] []
  refine V_iload_n X 3 dX11_nextOfShare_6 rfl rfl ?_
  refine V_aload_n X 0 dX11_nextOfShare_7 rfl rfl ?_
  refine V_getr X (o := (0, 0, 0)) (i := (1, 0, 0)) (ci := 11) (k := 3) (N := 16) (T := TX11) (C := RX11) ⟨by decide, rfl⟩ rfl rfl rfl (by decide) (mBa inB_X11) (mB wl_RX11_77) dX11_nextOfShare_8 ?_
  refine V_geti X (o := (1, 0, 0)) (ci := 7) (k := 4) (N := 11) (T := TX7) (C := RX7) ⟨(by decide), rfl⟩ rfl rfl rfl (by decide) (mBa inB_X7) (mB wl_RX11_145) dX11_nextOfShare_11 ?_
  refine V_icmp_ge X (tgt := 64) dX11_nextOfShare_14 (by decide) (fun b5 => ?_) (fun b5 => ?_)
  · replace h := (if_pos b5).symm.trans h
    refine V_sub X [1] (lv' := [(1, .int x1)]) rfl ?_
    cases h
    obtain rfl := pr1 hz
    exact hk
  · replace h := (if_neg b5).symm.trans h
    refine V_bipush X 100 dX11_nextOfShare_17 (by decide) ?_
    refine V_aload_n X 0 dX11_nextOfShare_19 rfl rfl ?_
    refine V_getr X (o := (0, 0, 0)) (i := (1, 0, 0)) (ci := 11) (k := 3) (N := 16) (T := TX11) (C := RX11) ⟨by decide, rfl⟩ rfl rfl rfl (by decide) (mBa inB_X11) (mB wl_RX11_77) dX11_nextOfShare_20 ?_
    refine V_getr X (o := (1, 0, 0)) (i := (2, 0, 0)) (ci := 7) (k := 0) (N := 11) (T := TX7) (C := RX7) ⟨(by decide), rfl⟩ rfl rfl rfl (by decide) (mBa inB_X7) (mB wl_RX11_158) dX11_nextOfShare_23 ?_
    refine V_iload_n X 3 dX11_nextOfShare_26 rfl rfl ?_
    obtain ⟨g6, h⟩ := gd_some h
    refine V_aald X x3.toNatClampNeg rfl (o := (2, 0, 0)) ⟨(by decide), rfl⟩ rfl rfl rfl rfl g6 dX11_nextOfShare_27 ?_
    refine V_geti X (o := (3, 0, x3.toNatClampNeg)) (ci := 5) (k := 8) (N := 11) (T := TX5) (C := RX5) ⟨(by decide), zin_lt g6⟩ rfl rfl rfl (by decide) (mBa inB_X5) (mB wl_RX11_338) dX11_nextOfShare_28 ?_
    refine V_isub X dX11_nextOfShare_31 ?_
    refine V_iconst X 0 dX11_nextOfShare_32 (by decide) ?_
    refine V_aload_n X 0 dX11_nextOfShare_33 rfl rfl ?_
    refine V_getr X (o := (0, 0, 0)) (i := (0, 30, 0)) (ci := 11) (k := 15) (N := 16) (T := TX11) (C := RX11) ⟨by decide, rfl⟩ rfl rfl rfl (by decide) (mBa inB_X11) (mB wl_RX11_64) dX11_nextOfShare_34 ?_
    refine V_iload_n X 3 dX11_nextOfShare_37 rfl rfl ?_
    refine V_iald X x3.toNatClampNeg rfl (o := (0, 30, 0)) (n := 8) ⟨by decide, rfl⟩ rfl rfl g6 dX11_nextOfShare_38 ?_
    refine V_zmax X (ix := 283) (mB wm_RX11_283) (mB wst_Math_max) (mB win_Math) (mB wc_Math_max) (Nat.le_of_ble_eq_true rfl) (Nat.le_of_ble_eq_true rfl) dX11_nextOfShare_39 ?_
    refine V_iconst X 1 dX11_nextOfShare_42 (by decide) ?_
    refine V_iadd X dX11_nextOfShare_43 ?_
    obtain ⟨g7, h⟩ := gd_some h
    refine V_idiv X dX11_nextOfShare_44 (gnz_ne g7) ?_
    refine V_istore X [(4, .int ((100 - (μ (3, 0, x3.toNatClampNeg) 8)) / ((zmax 0 (μ (0, 30, 0) x3.toNatClampNeg)) + 1))), (0, .ref (zad y (0, 0, 0))), (1, .int x1), (2, .int x2), (3, .int x3)] dX11_nextOfShare_45 (by decide) rfl ?_
    refine zlt_el (P := fun (x8 : Int32) => V X μ 47 [(4, .int x8), (0, .ref (zad y (0, 0, 0))), (1, .int x1), (2, .int x2), (3, .int x3)] []) h (fun x8 h => ?_)
    refine V_iload X 0 dX11_nextOfShare_47 rfl ?_
    refine V_iload_n X 3 dX11_nextOfShare_49 rfl rfl ?_
    obtain ⟨x10, x11, h1, h⟩ := zl2_some h
    have hk : V X μ 58 [(0, .ref (zad y (0, 0, 0))), (1, .int x10), (2, .int x11), (3, .int x3)] [] := by
      clear h1
      refine V_inc X 3 1 [(3, .int (x3 + 1)), (0, .ref (zad y (0, 0, 0))), (1, .int x10), (2, .int x11)] dX11_nextOfShare_58 rfl (by decide) (by decide) rfl ?_
      refine V_goto X (tgt := 6) dX11_nextOfShare_61 (by decide) ?_
      refine V_sub X [1, 2, 3, 0] (lv' := [(0, .ref (zad y (0, 0, 0))), (1, .int x10), (2, .int x11), (3, .int (x3 + 1))]) rfl ?_
      cases h
      exact hz
    replace h := h1
    clear h1
    refine V_icmp_le X (tgt := 58) dX11_nextOfShare_50 (by decide) (fun b9 => ?_) (fun b9 => ?_)
    · replace h := (if_pos b9).symm.trans h
      refine V_sub X [1, 2, 3, 4] (lv' := [(0, .ref (zad y (0, 0, 0))), (1, .int x1), (2, .int x2), (3, .int x3)]) rfl ?_
      obtain ⟨rfl, rfl⟩ := pr2 h
      exact hk
    · replace h := (if_neg b9).symm.trans h
      refine V_iload X 0 dX11_nextOfShare_53 rfl ?_
      refine V_istore_n X [(2, .int x8), (4, .int x8), (0, .ref (zad y (0, 0, 0))), (1, .int x1), (3, .int x3)] dX11_nextOfShare_55 rfl (by decide) rfl ?_
      refine V_iload_n X 4 dX11_nextOfShare_56 rfl rfl ?_
      refine V_istore_n X [(1, .int x3), (2, .int x8), (4, .int x8), (0, .ref (zad y (0, 0, 0))), (3, .int x3)] dX11_nextOfShare_57 rfl (by decide) rfl ?_
      refine V_sub X [3, 0, 1, 4] (lv' := [(0, .ref (zad y (0, 0, 0))), (1, .int x3), (2, .int x8), (3, .int x3)]) rfl ?_
      obtain ⟨rfl, rfl⟩ := pr2 h
      exact hk

def f_X11_share (a1 : Int32) (a2 : Int32) (μ : ZMem) : Option ((Int32 ⊕ Nat) × ZMem) := bd (f_X11_isNode a1 μ) (fun (x2 : Int32) => if x2 = 0 then some (.inr 3, μ) else jk (some (.inr 1, μ)) (fun k5 => if a2 < 0 then k5 else if a2 ≤ 99 then bd (lp (σ := Int32 × ZMem) (fun q => un2 q (fun (x7 : Int32) (μ8 : ZMem) => if 8 ≤ x7 then some (.inr μ8) else gd (zin x7 8) (zlt (mset μ8 (0, 30, 0) x7.toNatClampNeg 0) (fun (μ12 : ZMem) => some (.inl ((x7 + 1), μ12)))))) FU (0, μ)) (fun (μ9 : ZMem) => bd (lp (σ := Int32 × ZMem) (fun q => un2 q (fun (x13 : Int32) (μ14 : ZMem) => if a2 ≤ x13 then some (.inr μ14) else bd (f_X11_nextOfShare μ14) (fun (x18 : Int32) => gd (zin x18 8) (zlt (mset μ14 (0, 30, 0) x18.toNatClampNeg ((μ14 (0, 30, 0) x18.toNatClampNeg) + 1)) (fun (μ20 : ZMem) => some (.inl ((x13 + 1), μ20))))))) FU (0, μ9)) (fun (μ15 : ZMem) => gd (zin a1 8) (some (.inl (μ15 (0, 30, 0) a1.toNatClampNeg), μ15)))) else k5))
set_option maxRecDepth 100000 in
set_option maxHeartbeats 4000000 in
theorem M_X11_share {l : Launch} {D : va_G} {y : ZLay} {a1 : Int32} {a2 : Int32}  {μ : ZMem} {res : Int32 ⊕ Nat} {μ0 : ZMem} (hlf : l.stackTraces = false) (h : f_X11_share a1 a2 μ = some (res, μ0)) : MX l yX11_share wb_X11_share rm_X11_share D y [.ref (zad y (0, 0, 0)), .int a1, .int a2] μ res μ0 := by
  unfold f_X11_share at h
  refine MX_of RX11 [(0, .ref (zad y (0, 0, 0))), (1, .int a1), (2, .int a2)] (by decide) rfl rfl (Nat.le_of_ble_eq_true rfl) rfl ?_
  intro p e s m args below meth c A X hex
  refine V_aload_n X 0 dX11_share_0 rfl rfl ?_
  refine V_iload_n X 1 dX11_share_1 rfl rfl ?_
  obtain ⟨x2, c1, h⟩ := bd_some h
  refine V_callVi X (As := [.int a1]) (M_X11_isNode c1) (cwV 1 X.2.2.2.2.2.2.1 (gV wm_RX11_148 wi_X11_isNode wse_X11_isNode win_RX11 wc_X11_isNode) rfl rfl rfl hd_X11_isNode ⟨Nat.le_of_ble_eq_true rfl, Nat.le_of_ble_eq_true rfl⟩) (b := (0, 0, 0)) ⟨by decide, rfl⟩ rfl rfl rfl rfl (Nat.le_of_ble_eq_true rfl) dX11_share_2 rfl ?_
  refine V_if_ne X (tgt := 16) dX11_share_5 (by decide) (fun b3 => ?_) (fun b3 => ?_)
  · replace h := (if_neg b3).symm.trans h
    refine V_iload_n X 2 dX11_share_16 rfl rfl ?_
    refine jk0_el (P := V X μ 26 [] []) h (fun h => ?_) (fun k5 hk5 h => ?_)
    · exact V_throw X hex hlf (ik := 119) (ic := 121) 1 h (by decide +kernel) (by decide +kernel) (mB wcl_RX11_119) (mB wine_1) (mBa wx_1) wx_n1 wx_g1 dX11_share_26 dX11_share_29 dX11_share_30 dX11_share_33 (Nat.le_of_ble_eq_true rfl) (Nat.le_of_ble_eq_true rfl) (Nat.le_of_ble_eq_true rfl) (Nat.le_of_ble_eq_true rfl)
    · refine V_if_lt X (tgt := 26) dX11_share_17 (by decide) (fun b4 => ?_) (fun b4 => ?_)
      · replace h := (if_pos b4).symm.trans h
        refine V_sub X [] (lv' := []) rfl ?_
        exact hk5 h
      · replace h := (if_neg b4).symm.trans h
        refine V_iload_n X 2 dX11_share_20 rfl rfl ?_
        refine V_bipush X 99 dX11_share_21 (by decide) ?_
        refine V_icmp_le X (tgt := 34) dX11_share_23 (by decide) (fun b6 => ?_) (fun b6 => ?_)
        · replace h := (if_pos b6).symm.trans h
          refine V_iconst X 0 dX11_share_34 (by decide) ?_
          refine V_istore_n X [(3, .int 0), (0, .ref (zad y (0, 0, 0))), (1, .int a1), (2, .int a2)] dX11_share_35 rfl (by decide) rfl ?_
          refine V_sub X [1, 2, 3, 0] (lv' := [(0, .ref (zad y (0, 0, 0))), (1, .int a1), (2, .int a2), (3, .int 0)]) rfl ?_
          obtain ⟨μ9, hl, h⟩ := bd_some h
          have hk : V X μ9 58 [(0, .ref (zad y (0, 0, 0))), (1, .int a1), (2, .int a2)] [] := by
            clear hl
            refine V_iconst X 0 dX11_share_58 (by decide) ?_
            refine V_istore_n X [(3, .int 0), (0, .ref (zad y (0, 0, 0))), (1, .int a1), (2, .int a2)] dX11_share_59 rfl (by decide) rfl ?_
            refine V_sub X [1, 2, 3, 0] (lv' := [(0, .ref (zad y (0, 0, 0))), (1, .int a1), (2, .int a2), (3, .int 0)]) rfl ?_
            obtain ⟨μ15, hl, h⟩ := bd_some h
            have hk : V X μ15 84 [(0, .ref (zad y (0, 0, 0))), (1, .int a1)] [] := by
              clear hl
              refine V_aload_n X 0 dX11_share_84 rfl rfl ?_
              refine V_getr X (o := (0, 0, 0)) (i := (0, 30, 0)) (ci := 11) (k := 15) (N := 16) (T := TX11) (C := RX11) ⟨by decide, rfl⟩ rfl rfl rfl (by decide) (mBa inB_X11) (mB wl_RX11_64) dX11_share_85 ?_
              refine V_iload_n X 1 dX11_share_88 rfl rfl ?_
              obtain ⟨g21, h⟩ := gd_some h
              refine V_iald X a1.toNatClampNeg rfl (o := (0, 30, 0)) (n := 8) ⟨by decide, rfl⟩ rfl rfl g21 dX11_share_89 ?_
              exact V_iretX X h dX11_share_90
            refine lp_ind (P := fun q => V X q.2 60 [(0, .ref (zad y (0, 0, 0))), (1, .int a1), (2, .int a2), (3, .int q.1)] []) (fun q z h hz => ?_) hl
            obtain ⟨x13, μ14⟩ := q
            replace h := un2_eq h
            show V X μ14 60 [(0, .ref (zad y (0, 0, 0))), (1, .int a1), (2, .int a2), (3, .int x13)] []
            refine V_iload_n X 3 dX11_share_60 rfl rfl ?_
            refine V_iload_n X 2 dX11_share_61 rfl rfl ?_
            refine V_icmp_ge X (tgt := 84) dX11_share_62 (by decide) (fun b16 => ?_) (fun b16 => ?_)
            · replace h := (if_pos b16).symm.trans h
              refine V_sub X [0, 1] (lv' := [(0, .ref (zad y (0, 0, 0))), (1, .int a1)]) rfl ?_
              cases h
              obtain rfl := pr1 hz
              exact hk
            · replace h := (if_neg b16).symm.trans h
              refine V_aload_n X 0 dX11_share_65 rfl rfl ?_
              refine V_getr X (o := (0, 0, 0)) (i := (0, 30, 0)) (ci := 11) (k := 15) (N := 16) (T := TX11) (C := RX11) ⟨by decide, rfl⟩ rfl rfl rfl (by decide) (mBa inB_X11) (mB wl_RX11_64) dX11_share_66 ?_
              refine V_aload_n X 0 dX11_share_69 rfl rfl ?_
              obtain ⟨x18, c17, h⟩ := bd_some h
              refine V_callVi X (As := []) (M_X11_nextOfShare c17) (cwV 0 X.2.2.2.2.2.2.1 (gV wm_RX11_335 wi_X11_nextOfShare wse_X11_nextOfShare win_RX11 wc_X11_nextOfShare) rfl rfl rfl hd_X11_nextOfShare ⟨Nat.le_of_ble_eq_true rfl, Nat.le_of_ble_eq_true rfl⟩) (b := (0, 0, 0)) ⟨by decide, rfl⟩ rfl rfl rfl rfl (Nat.le_of_ble_eq_true rfl) dX11_share_70 rfl ?_
              refine V_dup2 X dX11_share_73 rfl rfl ?_
              obtain ⟨g19, h⟩ := gd_some h
              refine V_iald X x18.toNatClampNeg rfl (o := (0, 30, 0)) (n := 8) ⟨by decide, rfl⟩ rfl rfl g19 dX11_share_74 ?_
              refine V_iconst X 1 dX11_share_75 (by decide) ?_
              refine V_iadd X dX11_share_76 ?_
              refine V_iast X x18.toNatClampNeg rfl (o := (0, 30, 0)) (n := 8) ⟨by decide, rfl⟩ rfl rfl g19 dX11_share_77 ?_
              refine zlt_el (P := fun (μ20 : ZMem) => V X μ20 78 [(0, .ref (zad y (0, 0, 0))), (1, .int a1), (2, .int a2), (3, .int x13)] []) h (fun μ20 h => ?_)
              refine V_inc X 3 1 [(3, .int (x13 + 1)), (0, .ref (zad y (0, 0, 0))), (1, .int a1), (2, .int a2)] dX11_share_78 rfl (by decide) (by decide) rfl ?_
              refine V_goto X (tgt := 60) dX11_share_81 (by decide) ?_
              refine V_sub X [1, 2, 3, 0] (lv' := [(0, .ref (zad y (0, 0, 0))), (1, .int a1), (2, .int a2), (3, .int (x13 + 1))]) rfl ?_
              cases h
              exact hz
          refine lp_ind (P := fun q => V X q.2 36 [(0, .ref (zad y (0, 0, 0))), (1, .int a1), (2, .int a2), (3, .int q.1)] []) (fun q z h hz => ?_) hl
          obtain ⟨x7, μ8⟩ := q
          replace h := un2_eq h
          show V X μ8 36 [(0, .ref (zad y (0, 0, 0))), (1, .int a1), (2, .int a2), (3, .int x7)] []
          refine V_iload_n X 3 dX11_share_36 rfl rfl ?_
          refine V_aload_n X 0 dX11_share_37 rfl rfl ?_
          refine V_getr X (o := (0, 0, 0)) (i := (0, 30, 0)) (ci := 11) (k := 15) (N := 16) (T := TX11) (C := RX11) ⟨by decide, rfl⟩ rfl rfl rfl (by decide) (mBa inB_X11) (mB wl_RX11_64) dX11_share_38 ?_
          refine V_alen X 8 (o := (0, 30, 0)) (n := 8) ⟨by decide, rfl⟩ rfl rfl (by decide) dX11_share_41 ?_
          refine V_icmp_ge X (tgt := 58) dX11_share_42 (by decide) (fun b10 => ?_) (fun b10 => ?_)
          · replace h := (if_pos b10).symm.trans h
            refine V_sub X [0, 1, 2] (lv' := [(0, .ref (zad y (0, 0, 0))), (1, .int a1), (2, .int a2)]) rfl ?_
            cases h
            obtain rfl := pr1 hz
            exact hk
          · replace h := (if_neg b10).symm.trans h
            refine V_aload_n X 0 dX11_share_45 rfl rfl ?_
            refine V_getr X (o := (0, 0, 0)) (i := (0, 30, 0)) (ci := 11) (k := 15) (N := 16) (T := TX11) (C := RX11) ⟨by decide, rfl⟩ rfl rfl rfl (by decide) (mBa inB_X11) (mB wl_RX11_64) dX11_share_46 ?_
            refine V_iload_n X 3 dX11_share_49 rfl rfl ?_
            refine V_iconst X 0 dX11_share_50 (by decide) ?_
            obtain ⟨g11, h⟩ := gd_some h
            refine V_iast X x7.toNatClampNeg rfl (o := (0, 30, 0)) (n := 8) ⟨by decide, rfl⟩ rfl rfl g11 dX11_share_51 ?_
            refine zlt_el (P := fun (μ12 : ZMem) => V X μ12 52 [(0, .ref (zad y (0, 0, 0))), (1, .int a1), (2, .int a2), (3, .int x7)] []) h (fun μ12 h => ?_)
            refine V_inc X 3 1 [(3, .int (x7 + 1)), (0, .ref (zad y (0, 0, 0))), (1, .int a1), (2, .int a2)] dX11_share_52 rfl (by decide) (by decide) rfl ?_
            refine V_goto X (tgt := 36) dX11_share_55 (by decide) ?_
            refine V_sub X [1, 2, 3, 0] (lv' := [(0, .ref (zad y (0, 0, 0))), (1, .int a1), (2, .int a2), (3, .int (x7 + 1))]) rfl ?_
            cases h
            exact hz
        · replace h := (if_neg b6).symm.trans h
          refine V_sub X [] (lv' := []) rfl ?_
          exact hk5 h
  · replace h := (if_pos b3).symm.trans h
    exact V_throw X hex hlf (ik := 152) (ic := 154) 3 h (by decide +kernel) (by decide +kernel) (mB wcl_RX11_152) (mB wine_3) (mBa wx_3) wx_n3 wx_g3 dX11_share_8 dX11_share_11 dX11_share_12 dX11_share_15 (Nat.le_of_ble_eq_true rfl) (Nat.le_of_ble_eq_true rfl) (Nat.le_of_ble_eq_true rfl) (Nat.le_of_ble_eq_true rfl)

def f_X11_guardianHas (a1 : Int32) (a2 : Int32) (a3 : Int32) (μ : ZMem) : Option (Int32) := bd (f_X11_isNode a1 μ) (fun (x2 : Int32) => if x2 = 0 then some 0 else gd (zin a1 8) (if a2 = 0 then zlt (α := Int32) (if a3 = 0 then (μ (3, 0, a1.toNatClampNeg) 6) else (-(μ (3, 0, a1.toNatClampNeg) 6))) (fun (x9 : Int32) => some x9) else zlt (α := Int32) (if a3 = 0 then ((-(μ (3, 0, a1.toNatClampNeg) 7)) - 1) else 2) (fun (x7 : Int32) => some x7)))
set_option maxRecDepth 100000 in
set_option maxHeartbeats 4000000 in
theorem M_X11_guardianHas {l : Launch} {D : va_G} {y : ZLay} {a1 : Int32} {a2 : Int32} {a3 : Int32}  {μ : ZMem} {r : Int32} (h : f_X11_guardianHas a1 a2 a3 μ = some r) : MI l yX11_guardianHas wb_X11_guardianHas rm_X11_guardianHas D y [.ref (zad y (0, 0, 0)), .int a1, .int a2, .int a3] μ r μ := by
  unfold f_X11_guardianHas at h
  refine MI_of RX11 [(0, .ref (zad y (0, 0, 0))), (1, .int a1), (2, .int a2), (3, .int a3)] (by decide) rfl rfl (Nat.le_of_ble_eq_true rfl) rfl ?_
  intro p e s m args below meth c A X
  refine V_aload_n X 0 dX11_guardianHas_0 rfl rfl ?_
  refine V_iload_n X 1 dX11_guardianHas_1 rfl rfl ?_
  obtain ⟨x2, c1, h⟩ := bd_some h
  refine V_callVi X (As := [.int a1]) (M_X11_isNode c1) (cwV 1 X.2.2.2.2.2.2.1 (gV wm_RX11_148 wi_X11_isNode wse_X11_isNode win_RX11 wc_X11_isNode) rfl rfl rfl hd_X11_isNode ⟨Nat.le_of_ble_eq_true rfl, Nat.le_of_ble_eq_true rfl⟩) (b := (0, 0, 0)) ⟨by decide, rfl⟩ rfl rfl rfl rfl (Nat.le_of_ble_eq_true rfl) dX11_guardianHas_2 rfl ?_
  refine V_if_ne X (tgt := 10) dX11_guardianHas_5 (by decide) (fun b3 => ?_) (fun b3 => ?_)
  · replace h := (if_neg b3).symm.trans h
    refine V_aload_n X 0 dX11_guardianHas_10 rfl rfl ?_
    refine V_getr X (o := (0, 0, 0)) (i := (1, 0, 0)) (ci := 11) (k := 3) (N := 16) (T := TX11) (C := RX11) ⟨by decide, rfl⟩ rfl rfl rfl (by decide) (mBa inB_X11) (mB wl_RX11_77) dX11_guardianHas_11 ?_
    refine V_getr X (o := (1, 0, 0)) (i := (2, 0, 0)) (ci := 7) (k := 0) (N := 11) (T := TX7) (C := RX7) ⟨(by decide), rfl⟩ rfl rfl rfl (by decide) (mBa inB_X7) (mB wl_RX11_158) dX11_guardianHas_14 ?_
    refine V_iload_n X 1 dX11_guardianHas_17 rfl rfl ?_
    obtain ⟨g4, h⟩ := gd_some h
    refine V_aald X a1.toNatClampNeg rfl (o := (2, 0, 0)) ⟨(by decide), rfl⟩ rfl rfl rfl rfl g4 dX11_guardianHas_18 ?_
    refine V_astore X [(4, .ref (zad y (3, 0, a1.toNatClampNeg))), (0, .ref (zad y (0, 0, 0))), (1, .int a1), (2, .int a2), (3, .int a3)] dX11_guardianHas_19 (by decide) rfl ?_
    refine V_iload_n X 3 dX11_guardianHas_21 rfl rfl ?_
    refine V_if_ne X (tgt := 44) dX11_guardianHas_22 (by decide) (fun b5 => ?_) (fun b5 => ?_)
    · replace h := (if_neg b5).symm.trans h
      refine V_iload_n X 4 dX11_guardianHas_44 rfl rfl ?_
      obtain ⟨x7, h1, h⟩ := zl1_some h
      have hk : V X μ 60 [] [.int x7] := by
        clear h1
        exact V_iretR X h dX11_guardianHas_60
      replace h := h1
      clear h1
      refine V_if_ne X (tgt := 59) dX11_guardianHas_45 (by decide) (fun b6 => ?_) (fun b6 => ?_)
      · replace h := (if_neg b6).symm.trans h
        refine V_iconst X 2 dX11_guardianHas_59 (by decide) ?_
        refine V_sub X [] (lv' := []) rfl ?_
        obtain rfl := pr1 h
        exact hk
      · replace h := (if_pos b6).symm.trans h
        refine V_aload X 0 dX11_guardianHas_48 rfl ?_
        refine V_geti X (o := (3, 0, a1.toNatClampNeg)) (ci := 5) (k := 7) (N := 11) (T := TX5) (C := RX5) ⟨(by decide), zin_lt g4⟩ rfl rfl rfl (by decide) (mBa inB_X5) (mB wl_RX11_241) dX11_guardianHas_50 ?_
        refine V_ineg X dX11_guardianHas_53 ?_
        refine V_iconst X 1 dX11_guardianHas_54 (by decide) ?_
        refine V_isub X dX11_guardianHas_55 ?_
        refine V_goto X (tgt := 60) dX11_guardianHas_56 (by decide) ?_
        refine V_sub X [] (lv' := []) rfl ?_
        obtain rfl := pr1 h
        exact hk
    · replace h := (if_pos b5).symm.trans h
      refine V_iload_n X 4 dX11_guardianHas_25 rfl rfl ?_
      obtain ⟨x9, h1, h⟩ := zl1_some h
      have hk : V X μ 43 [] [.int x9] := by
        clear h1
        exact V_iretR X h dX11_guardianHas_43
      replace h := h1
      clear h1
      refine V_if_ne X (tgt := 37) dX11_guardianHas_26 (by decide) (fun b8 => ?_) (fun b8 => ?_)
      · replace h := (if_neg b8).symm.trans h
        refine V_aload X 0 dX11_guardianHas_37 rfl ?_
        refine V_geti X (o := (3, 0, a1.toNatClampNeg)) (ci := 5) (k := 6) (N := 11) (T := TX5) (C := RX5) ⟨(by decide), zin_lt g4⟩ rfl rfl rfl (by decide) (mBa inB_X5) (mB wl_RX11_238) dX11_guardianHas_39 ?_
        refine V_ineg X dX11_guardianHas_42 ?_
        refine V_sub X [] (lv' := []) rfl ?_
        obtain rfl := pr1 h
        exact hk
      · replace h := (if_pos b8).symm.trans h
        refine V_aload X 0 dX11_guardianHas_29 rfl ?_
        refine V_geti X (o := (3, 0, a1.toNatClampNeg)) (ci := 5) (k := 6) (N := 11) (T := TX5) (C := RX5) ⟨(by decide), zin_lt g4⟩ rfl rfl rfl (by decide) (mBa inB_X5) (mB wl_RX11_238) dX11_guardianHas_31 ?_
        refine V_goto X (tgt := 43) dX11_guardianHas_34 (by decide) ?_
        refine V_sub X [] (lv' := []) rfl ?_
        obtain rfl := pr1 h
        exact hk
  · replace h := (if_pos b3).symm.trans h
    refine V_iconst X 0 dX11_guardianHas_8 (by decide) ?_
    exact V_iretR X h dX11_guardianHas_9

def f_X11_babblerHas (a0 : Int32) (a1 : Int32) : Int32 := if a0 = 0 then zlt (α := Int32) (if a1 = 0 then (-1) else 0) (fun (x5 : Int32) => x5) else zlt (α := Int32) (if a1 = 0 then 2 else 1) (fun (x3 : Int32) => x3)
set_option maxRecDepth 100000 in
set_option maxHeartbeats 4000000 in
theorem M_X11_babblerHas {l : Launch} {D : va_G} {y : ZLay} {a0 : Int32} {a1 : Int32}  {μ : ZMem} : MI l yX11_babblerHas wb_X11_babblerHas rm_X11_babblerHas D y [.int a0, .int a1] μ (f_X11_babblerHas a0 a1) μ := by
  obtain ⟨r, h⟩ : ∃ r, f_X11_babblerHas a0 a1 = r := ⟨_, rfl⟩
  rw [h]
  unfold f_X11_babblerHas at h
  refine MI_of RX11 [(0, .int a0), (1, .int a1)] (by decide) rfl rfl (Nat.le_of_ble_eq_true rfl) rfl ?_
  intro p e s m args below meth c A X
  refine V_iload_n X 0 dX11_babblerHas_0 rfl rfl ?_
  refine V_if_ne X (tgt := 14) dX11_babblerHas_1 (by decide) (fun b1 => ?_) (fun b1 => ?_)
  · replace h := (if_neg b1).symm.trans h
    refine V_iload_n X 1 dX11_babblerHas_14 rfl rfl ?_
    obtain ⟨x3, h1, h⟩ := zl1_some h
    have hk : V X μ 23 [] [.int x3] := by
      clear h1
      exact V_iretT X h dX11_babblerHas_23
    replace h := h1
    clear h1
    refine V_if_ne X (tgt := 22) dX11_babblerHas_15 (by decide) (fun b2 => ?_) (fun b2 => ?_)
    · replace h := (if_neg b2).symm.trans h
      refine V_iconst X 1 dX11_babblerHas_22 (by decide) ?_
      refine V_sub X [] (lv' := []) rfl ?_
      obtain rfl := pr1 h
      exact hk
    · replace h := (if_pos b2).symm.trans h
      refine V_iconst X 2 dX11_babblerHas_18 (by decide) ?_
      refine V_goto X (tgt := 23) dX11_babblerHas_19 (by decide) ?_
      refine V_sub X [] (lv' := []) rfl ?_
      obtain rfl := pr1 h
      exact hk
  · replace h := (if_pos b1).symm.trans h
    refine V_iload_n X 1 dX11_babblerHas_4 rfl rfl ?_
    obtain ⟨x5, h1, h⟩ := zl1_some h
    have hk : V X μ 13 [] [.int x5] := by
      clear h1
      exact V_iretT X h dX11_babblerHas_13
    replace h := h1
    clear h1
    refine V_if_ne X (tgt := 12) dX11_babblerHas_5 (by decide) (fun b4 => ?_) (fun b4 => ?_)
    · replace h := (if_neg b4).symm.trans h
      refine V_iconst X 0 dX11_babblerHas_12 (by decide) ?_
      refine V_sub X [] (lv' := []) rfl ?_
      obtain rfl := pr1 h
      exact hk
    · replace h := (if_pos b4).symm.trans h
      refine V_iconst X (-1) dX11_babblerHas_8 (by decide) ?_
      refine V_goto X (tgt := 13) dX11_babblerHas_9 (by decide) ?_
      refine V_sub X [] (lv' := []) rfl ?_
      obtain rfl := pr1 h
      exact hk

def f_X11_rests (a1 : Int32) (μ : ZMem) : Option ((Int32 ⊕ Nat) × ZMem) := bd (f_X11_isNode a1 μ) (fun (x2 : Int32) => if x2 = 0 then some (.inr 3, μ) else bd (lp (σ := Int32 × Int32) (fun q => un2 q (fun (x4 : Int32) (x5 : Int32) => if 2 ≤ x5 then some (.inr x4) else bd (lp (σ := Int32 × Int32) (fun q => un2 q (fun (x8 : Int32) (x9 : Int32) => if 2 ≤ x9 then some (.inr x8) else bd (f_X11_guardianHas a1 x5 x9 μ) (fun (x13 : Int32) => bd (f_X11_guardianHas a1 (1 - x5) x9 μ) (fun (x15 : Int32) => bd (α := Int32) (jk (some 0) (fun k18 => if x13 < x15 then k18 else if (f_X11_babblerHas x5 x9) < (f_X11_babblerHas x5 (1 - x9)) then k18 else some 1)) (fun (x17 : Int32) => zlt (α := Int32) (if x17 = 0 then x8 else zlt (x8 ||| (f_X11_bit ((2 * x5) + x9))) (fun (x22 : Int32) => x22)) (fun (x21 : Int32) => some (.inl (x21, (x9 + 1))))))))) FU (x4, 0)) (fun (x10 : Int32) => some (.inl (x10, (x5 + 1)))))) FU (0, 0)) (fun (x6 : Int32) => some (.inl x6, μ)))
set_option maxRecDepth 100000 in
set_option maxHeartbeats 4000000 in
theorem M_X11_rests {l : Launch} {D : va_G} {y : ZLay} {a1 : Int32}  {μ : ZMem} {res : Int32 ⊕ Nat} {μ0 : ZMem} (hlf : l.stackTraces = false) (h : f_X11_rests a1 μ = some (res, μ0)) : MX l yX11_rests wb_X11_rests rm_X11_rests D y [.ref (zad y (0, 0, 0)), .int a1] μ res μ0 := by
  unfold f_X11_rests at h
  refine MX_of RX11 [(0, .ref (zad y (0, 0, 0))), (1, .int a1)] (by decide) rfl rfl (Nat.le_of_ble_eq_true rfl) rfl ?_
  intro p e s m args below meth c A X hex
  refine V_aload_n X 0 dX11_rests_0 rfl rfl ?_
  refine V_iload_n X 1 dX11_rests_1 rfl rfl ?_
  obtain ⟨x2, c1, h⟩ := bd_some h
  refine V_callVi X (As := [.int a1]) (M_X11_isNode c1) (cwV 1 X.2.2.2.2.2.2.1 (gV wm_RX11_148 wi_X11_isNode wse_X11_isNode win_RX11 wc_X11_isNode) rfl rfl rfl hd_X11_isNode ⟨Nat.le_of_ble_eq_true rfl, Nat.le_of_ble_eq_true rfl⟩) (b := (0, 0, 0)) ⟨by decide, rfl⟩ rfl rfl rfl rfl (Nat.le_of_ble_eq_true rfl) dX11_rests_2 rfl ?_
  refine V_if_ne X (tgt := 16) dX11_rests_5 (by decide) (fun b3 => ?_) (fun b3 => ?_)
  · replace h := (if_neg b3).symm.trans h
    refine V_iconst X 0 dX11_rests_16 (by decide) ?_
    refine V_istore_n X [(2, .int 0), (0, .ref (zad y (0, 0, 0))), (1, .int a1)] dX11_rests_17 rfl (by decide) rfl ?_
    refine V_iconst X 0 dX11_rests_18 (by decide) ?_
    refine V_istore_n X [(3, .int 0), (2, .int 0), (0, .ref (zad y (0, 0, 0))), (1, .int a1)] dX11_rests_19 rfl (by decide) rfl ?_
    refine V_sub X [2, 3, 1, 0] (lv' := [(0, .ref (zad y (0, 0, 0))), (1, .int a1), (2, .int 0), (3, .int 0)]) rfl ?_
    obtain ⟨x6, hl, h⟩ := bd_some h
    have hk : V X μ 108 [(2, .int x6)] [] := by
      clear hl
      refine V_iload_n X 0 dX11_rests_108 rfl rfl ?_
      exact V_iretX X h dX11_rests_109
    refine lp_ind (P := fun q => V X μ 20 [(0, .ref (zad y (0, 0, 0))), (1, .int a1), (2, .int q.1), (3, .int q.2)] []) (fun q z h hz => ?_) hl
    obtain ⟨x4, x5⟩ := q
    replace h := un2_eq h
    show V X μ 20 [(0, .ref (zad y (0, 0, 0))), (1, .int a1), (2, .int x4), (3, .int x5)] []
    refine V_iload_n X 3 dX11_rests_20 rfl rfl ?_
    refine V_iconst X 2 dX11_rests_21 (by decide) ?_
    refine V_icmp_ge X (tgt := 108) dX11_rests_22 (by decide) (fun b7 => ?_) (fun b7 => ?_)
    · replace h := (if_pos b7).symm.trans h
      refine V_sub X [2] (lv' := [(2, .int x4)]) rfl ?_
      cases h
      obtain rfl := pr1 hz
      exact hk
    · replace h := (if_neg b7).symm.trans h
      refine V_iconst X 0 dX11_rests_25 (by decide) ?_
      refine V_istore X [(4, .int 0), (0, .ref (zad y (0, 0, 0))), (1, .int a1), (2, .int x4), (3, .int x5)] dX11_rests_26 (by decide) rfl ?_
      refine V_sub X [1, 2, 3, 4, 0] (lv' := [(0, .ref (zad y (0, 0, 0))), (1, .int a1), (2, .int x4), (3, .int x5), (4, .int 0)]) rfl ?_
      obtain ⟨x10, hl, h⟩ := bd_some h
      have hk : V X μ 102 [(0, .ref (zad y (0, 0, 0))), (1, .int a1), (2, .int x10), (3, .int x5)] [] := by
        clear hl
        refine V_inc X 3 1 [(3, .int (x5 + 1)), (0, .ref (zad y (0, 0, 0))), (1, .int a1), (2, .int x10)] dX11_rests_102 rfl (by decide) (by decide) rfl ?_
        refine V_goto X (tgt := 20) dX11_rests_105 (by decide) ?_
        refine V_sub X [1, 2, 3, 0] (lv' := [(0, .ref (zad y (0, 0, 0))), (1, .int a1), (2, .int x10), (3, .int (x5 + 1))]) rfl ?_
        cases h
        exact hz
      refine lp_ind (P := fun q => V X μ 28 [(0, .ref (zad y (0, 0, 0))), (1, .int a1), (2, .int q.1), (3, .int x5), (4, .int q.2)] []) (fun q z h hz => ?_) hl
      obtain ⟨x8, x9⟩ := q
      replace h := un2_eq h
      show V X μ 28 [(0, .ref (zad y (0, 0, 0))), (1, .int a1), (2, .int x8), (3, .int x5), (4, .int x9)] []
      refine V_iload X 4 dX11_rests_28 rfl ?_
      refine V_iconst X 2 dX11_rests_30 (by decide) ?_
      refine V_icmp_ge X (tgt := 102) dX11_rests_31 (by decide) (fun b11 => ?_) (fun b11 => ?_)
      · replace h := (if_pos b11).symm.trans h
        refine V_sub X [0, 1, 2, 3] (lv' := [(0, .ref (zad y (0, 0, 0))), (1, .int a1), (2, .int x8), (3, .int x5)]) rfl ?_
        cases h
        obtain rfl := pr1 hz
        exact hk
      · replace h := (if_neg b11).symm.trans h
        refine V_aload_n X 0 dX11_rests_34 rfl rfl ?_
        refine V_iload_n X 1 dX11_rests_35 rfl rfl ?_
        refine V_iload_n X 3 dX11_rests_36 rfl rfl ?_
        refine V_iload X 4 dX11_rests_37 rfl ?_
        obtain ⟨x13, c12, h⟩ := bd_some h
        refine V_callVi X (As := [.int a1, .int x5, .int x9]) (M_X11_guardianHas c12) (cwV 3 X.2.2.2.2.2.2.1 (gV wm_RX11_341 wi_X11_guardianHas wse_X11_guardianHas win_RX11 wc_X11_guardianHas) rfl rfl rfl hd_X11_guardianHas ⟨Nat.le_of_ble_eq_true rfl, Nat.le_of_ble_eq_true rfl⟩) (b := (0, 0, 0)) ⟨by decide, rfl⟩ rfl rfl rfl rfl (Nat.le_of_ble_eq_true rfl) dX11_rests_39 rfl ?_
        refine V_aload_n X 0 dX11_rests_42 rfl rfl ?_
        refine V_iload_n X 1 dX11_rests_43 rfl rfl ?_
        refine V_iconst X 1 dX11_rests_44 (by decide) ?_
        refine V_iload_n X 3 dX11_rests_45 rfl rfl ?_
        refine V_isub X dX11_rests_46 ?_
        refine V_iload X 4 dX11_rests_47 rfl ?_
        obtain ⟨x15, c14, h⟩ := bd_some h
        refine V_callVi X (As := [.int a1, .int (1 - x5), .int x9]) (M_X11_guardianHas c14) (cwV 3 X.2.2.2.2.2.2.1 (gV wm_RX11_341 wi_X11_guardianHas wse_X11_guardianHas win_RX11 wc_X11_guardianHas) rfl rfl rfl hd_X11_guardianHas ⟨Nat.le_of_ble_eq_true rfl, Nat.le_of_ble_eq_true rfl⟩) (b := (0, 0, 0)) ⟨by decide, rfl⟩ rfl rfl rfl rfl (Nat.le_of_ble_eq_true rfl) dX11_rests_49 rfl ?_
        obtain ⟨x17, h1, h⟩ := bd_some h
        have hk : V X μ 77 [(0, .ref (zad y (0, 0, 0))), (1, .int a1), (2, .int x8), (3, .int x5), (4, .int x9)] [.int x17] := by
          clear h1
          refine V_istore X [(5, .int x17), (0, .ref (zad y (0, 0, 0))), (1, .int a1), (2, .int x8), (3, .int x5), (4, .int x9)] dX11_rests_77 (by decide) rfl ?_
          refine V_iload X 0 dX11_rests_79 rfl ?_
          obtain ⟨x21, h1, h⟩ := zl1_some h
          have hk : V X μ 96 [(0, .ref (zad y (0, 0, 0))), (1, .int a1), (2, .int x21), (3, .int x5), (4, .int x9)] [] := by
            clear h1
            refine V_inc X 4 1 [(4, .int (x9 + 1)), (0, .ref (zad y (0, 0, 0))), (1, .int a1), (2, .int x21), (3, .int x5)] dX11_rests_96 rfl (by decide) (by decide) rfl ?_
            refine V_goto X (tgt := 28) dX11_rests_99 (by decide) ?_
            refine V_sub X [1, 2, 3, 4, 0] (lv' := [(0, .ref (zad y (0, 0, 0))), (1, .int a1), (2, .int x21), (3, .int x5), (4, .int (x9 + 1))]) rfl ?_
            cases h
            exact hz
          replace h := h1
          clear h1
          refine V_if_eq X (tgt := 96) dX11_rests_81 (by decide) (fun b20 => ?_) (fun b20 => ?_)
          · replace h := (if_pos b20).symm.trans h
            refine V_sub X [1, 2, 3, 4, 5] (lv' := [(0, .ref (zad y (0, 0, 0))), (1, .int a1), (2, .int x8), (3, .int x5), (4, .int x9)]) rfl ?_
            obtain rfl := pr1 h
            exact hk
          · replace h := (if_neg b20).symm.trans h
            refine V_iload_n X 3 dX11_rests_84 rfl rfl ?_
            refine V_iconst X 2 dX11_rests_85 (by decide) ?_
            refine V_iload_n X 4 dX11_rests_86 rfl rfl ?_
            refine V_imul X dX11_rests_87 ?_
            refine V_iload X 5 dX11_rests_88 rfl ?_
            refine V_iadd X dX11_rests_90 ?_
            refine V_callSi X (As := [.int ((2 * x5) + x9)]) (M_X11_bit) (va_cwS 1 X.2.2.2.2.2.2.1 (gS wm_RX11_348 wst_X11_bit win_RX11 wc_X11_bit) rfl rfl rfl hd_X11_bit.2 ⟨Nat.le_of_ble_eq_true rfl, Nat.le_of_ble_eq_true rfl⟩) rfl (Nat.le_of_ble_eq_true rfl) dX11_rests_91 rfl ?_
            refine V_ior X dX11_rests_94 ?_
            refine V_istore_n X [(2, .int (x8 ||| (f_X11_bit ((2 * x5) + x9)))), (5, .int x17), (0, .ref (zad y (0, 0, 0))), (1, .int a1), (3, .int x5), (4, .int x9)] dX11_rests_95 rfl (by decide) rfl ?_
            refine zlt_el (P := fun (x22 : Int32) => V X μ 96 [(2, .int x22), (5, .int x17), (0, .ref (zad y (0, 0, 0))), (1, .int a1), (3, .int x5), (4, .int x9)] []) h (fun x22 h => ?_)
            refine V_sub X [2, 3, 0, 4, 5] (lv' := [(0, .ref (zad y (0, 0, 0))), (1, .int a1), (2, .int x22), (3, .int x5), (4, .int x9)]) rfl ?_
            obtain rfl := pr1 h
            exact hk
        replace h := h1
        clear h1
        refine jk0_el (P := V X μ 76 [(0, .ref (zad y (0, 0, 0))), (1, .int a1), (2, .int x8), (3, .int x5), (4, .int x9)] []) h (fun h => ?_) (fun k18 hk18 h => ?_)
        · refine V_iconst X 0 dX11_rests_76 (by decide) ?_
          obtain rfl := so1 h
          exact hk
        · refine V_icmp_lt X (tgt := 76) dX11_rests_52 (by decide) (fun b16 => ?_) (fun b16 => ?_)
          · replace h := (if_pos b16).symm.trans h
            exact hk18 h
          · replace h := (if_neg b16).symm.trans h
            refine V_iload_n X 3 dX11_rests_55 rfl rfl ?_
            refine V_iload X 4 dX11_rests_56 rfl ?_
            refine V_callSi X (As := [.int x5, .int x9]) (M_X11_babblerHas) (va_cwS 2 X.2.2.2.2.2.2.1 (gS wm_RX11_345 wst_X11_babblerHas win_RX11 wc_X11_babblerHas) rfl rfl rfl hd_X11_babblerHas.2 ⟨Nat.le_of_ble_eq_true rfl, Nat.le_of_ble_eq_true rfl⟩) rfl (Nat.le_of_ble_eq_true rfl) dX11_rests_58 rfl ?_
            refine V_iload_n X 3 dX11_rests_61 rfl rfl ?_
            refine V_iconst X 1 dX11_rests_62 (by decide) ?_
            refine V_iload X 4 dX11_rests_63 rfl ?_
            refine V_isub X dX11_rests_65 ?_
            refine V_callSi X (As := [.int x5, .int (1 - x9)]) (M_X11_babblerHas) (va_cwS 2 X.2.2.2.2.2.2.1 (gS wm_RX11_345 wst_X11_babblerHas win_RX11 wc_X11_babblerHas) rfl rfl rfl hd_X11_babblerHas.2 ⟨Nat.le_of_ble_eq_true rfl, Nat.le_of_ble_eq_true rfl⟩) rfl (Nat.le_of_ble_eq_true rfl) dX11_rests_66 rfl ?_
            refine V_icmp_lt X (tgt := 76) dX11_rests_69 (by decide) (fun b19 => ?_) (fun b19 => ?_)
            · replace h := (if_pos b19).symm.trans h
              exact hk18 h
            · replace h := (if_neg b19).symm.trans h
              refine V_iconst X 1 dX11_rests_72 (by decide) ?_
              refine V_goto X (tgt := 77) dX11_rests_73 (by decide) ?_
              obtain rfl := so1 h
              exact hk
  · replace h := (if_pos b3).symm.trans h
    exact V_throw X hex hlf (ik := 152) (ic := 154) 3 h (by decide +kernel) (by decide +kernel) (mB wcl_RX11_152) (mB wine_3) (mBa wx_3) wx_n3 wx_g3 dX11_rests_8 dX11_rests_11 dX11_rests_12 dX11_rests_15 (Nat.le_of_ble_eq_true rfl) (Nat.le_of_ble_eq_true rfl) (Nat.le_of_ble_eq_true rfl) (Nat.le_of_ble_eq_true rfl)

def f_X11_choose (a0 : Int32) (a1 : Int32) : Option (Int32) := bd (lp (σ := Int32 × Int32) (fun q => un2 q (fun (x1 : Int32) (x2 : Int32) => if a1 < x2 then some (.inr x1) else gd (gnz x2) (zlt ((x1 * ((a0 - a1) + x2)) / x2) (fun (x6 : Int32) => some (.inl (x6, (x2 + 1))))))) FU (1, 1)) (fun (x3 : Int32) => some x3)
set_option maxRecDepth 100000 in
set_option maxHeartbeats 4000000 in
theorem M_X11_choose {l : Launch} {D : va_G} {y : ZLay} {a0 : Int32} {a1 : Int32}  {μ : ZMem} {r : Int32} (h : f_X11_choose a0 a1 = some r) : MI l yX11_choose wb_X11_choose rm_X11_choose D y [.int a0, .int a1] μ r μ := by
  unfold f_X11_choose at h
  refine MI_of RX11 [(0, .int a0), (1, .int a1)] (by decide) rfl rfl (Nat.le_of_ble_eq_true rfl) rfl ?_
  intro p e s m args below meth c A X
  refine V_iconst X 1 dX11_choose_0 (by decide) ?_
  refine V_istore_n X [(2, .int 1), (0, .int a0), (1, .int a1)] dX11_choose_1 rfl (by decide) rfl ?_
  refine V_iconst X 1 dX11_choose_2 (by decide) ?_
  refine V_istore_n X [(3, .int 1), (2, .int 1), (0, .int a0), (1, .int a1)] dX11_choose_3 rfl (by decide) rfl ?_
  refine V_sub X [2, 3, 1, 0] (lv' := [(0, .int a0), (1, .int a1), (2, .int 1), (3, .int 1)]) rfl ?_
  obtain ⟨x3, hl, h⟩ := bd_some h
  have hk : V X μ 25 [(2, .int x3)] [] := by
    clear hl
    refine V_iload_n X 0 dX11_choose_25 rfl rfl ?_
    exact V_iretR X h dX11_choose_26
  refine lp_ind (P := fun q => V X μ 4 [(0, .int a0), (1, .int a1), (2, .int q.1), (3, .int q.2)] []) (fun q z h hz => ?_) hl
  obtain ⟨x1, x2⟩ := q
  replace h := un2_eq h
  show V X μ 4 [(0, .int a0), (1, .int a1), (2, .int x1), (3, .int x2)] []
  refine V_iload_n X 3 dX11_choose_4 rfl rfl ?_
  refine V_iload_n X 1 dX11_choose_5 rfl rfl ?_
  refine V_icmp_gt X (tgt := 25) dX11_choose_6 (by decide) (fun b4 => ?_) (fun b4 => ?_)
  · replace h := (if_pos b4).symm.trans h
    refine V_sub X [2] (lv' := [(2, .int x1)]) rfl ?_
    cases h
    obtain rfl := pr1 hz
    exact hk
  · replace h := (if_neg b4).symm.trans h
    refine V_iload_n X 2 dX11_choose_9 rfl rfl ?_
    refine V_iload_n X 0 dX11_choose_10 rfl rfl ?_
    refine V_iload_n X 1 dX11_choose_11 rfl rfl ?_
    refine V_isub X dX11_choose_12 ?_
    refine V_iload_n X 3 dX11_choose_13 rfl rfl ?_
    refine V_iadd X dX11_choose_14 ?_
    refine V_imul X dX11_choose_15 ?_
    refine V_iload_n X 3 dX11_choose_16 rfl rfl ?_
    obtain ⟨g5, h⟩ := gd_some h
    refine V_idiv X dX11_choose_17 (gnz_ne g5) ?_
    refine V_istore_n X [(2, .int ((x1 * ((a0 - a1) + x2)) / x2)), (0, .int a0), (1, .int a1), (3, .int x2)] dX11_choose_18 rfl (by decide) rfl ?_
    refine zlt_el (P := fun (x6 : Int32) => V X μ 19 [(2, .int x6), (0, .int a0), (1, .int a1), (3, .int x2)] []) h (fun x6 h => ?_)
    refine V_inc X 3 1 [(3, .int (x2 + 1)), (2, .int x6), (0, .int a0), (1, .int a1)] dX11_choose_19 rfl (by decide) (by decide) rfl ?_
    refine V_goto X (tgt := 4) dX11_choose_22 (by decide) ?_
    refine V_sub X [2, 3, 1, 0] (lv' := [(0, .int a0), (1, .int a1), (2, .int x6), (3, .int (x2 + 1))]) rfl ?_
    cases h
    exact hz

def f_X11_odds (y : ZLay) (a1 : Int32) (a2 : Int32) (a3 : Int32) (μ : ZMem) : Option ((Int32 ⊕ Nat) × ZMem) := bd (f_X11_isNode a1 μ) (fun (x2 : Int32) => if x2 = 0 then some (.inr 3, μ) else jk (some (.inr 1, μ)) (fun k5 => if a2 < 0 then k5 else if 5 < a2 then k5 else if a3 < 0 then k5 else if a3 ≤ 5 then bd (f_X10_look y 0 μ) (fun (μ10 : ZMem) => gd (zin a1 8) (zlt (((μ10 (0, 9, 0) a1.toNatClampNeg)).toInt64) (fun (x12 : Int64) => bd (lp (σ := Int64 × Int32) (fun q => un2 q (fun (x13 : Int64) (x14 : Int32) => if a2 ≤ x14 then some (.inr x13) else zlt (x13 * 100) (fun (x17 : Int64) => some (.inl (x17, (x14 + 1)))))) FU (1, 0)) (fun (x15 : Int64) => bd (lp (σ := Int64 × Int32) (fun q => un2 q (fun (x18 : Int64) (x19 : Int32) => if a2 < x19 then some (.inr x18) else bd (lp (σ := Int64 × Int32) (fun q => un2 q (fun (x22 : Int64) (x23 : Int32) => if a2 ≤ x23 then some (.inr x22) else zlt (α := Int64) (if x19 ≤ x23 then (100 - x12) else x12) (fun (x27 : Int64) => zlt (x22 * x27) (fun (x28 : Int64) => some (.inl (x28, (x23 + 1))))))) FU (1, 0)) (fun (x24 : Int64) => bd (f_X11_choose a2 x19) (fun (x30 : Int32) => zlt (x18 + (x24 * ((x30).toInt64))) (fun (x31 : Int64) => some (.inl (x31, (x19 + 1)))))))) FU (0, a3)) (fun (x20 : Int64) => gd (gnzl (zmaxl 1 x15)) (some (.inl ((((x20 * 10000) / (zmaxl 1 x15))).toInt32), μ10))))))) else k5))
set_option maxRecDepth 100000 in
set_option maxHeartbeats 4000000 in
theorem M_X11_odds {l : Launch} {D : va_G} {y : ZLay} {a1 : Int32} {a2 : Int32} {a3 : Int32}  {μ : ZMem} {res : Int32 ⊕ Nat} {μ0 : ZMem} (hlf : l.stackTraces = false) (h : f_X11_odds y a1 a2 a3 μ = some (res, μ0)) : MX l yX11_odds wb_X11_odds rm_X11_odds D y [.ref (zad y (0, 0, 0)), .int a1, .int a2, .int a3] μ res μ0 := by
  unfold f_X11_odds at h
  refine MX_of RX11 [(0, .ref (zad y (0, 0, 0))), (1, .int a1), (2, .int a2), (3, .int a3)] (by decide) rfl rfl (Nat.le_of_ble_eq_true rfl) rfl ?_
  intro p e s m args below meth c A X hex
  refine V_aload_n X 0 dX11_odds_0 rfl rfl ?_
  refine V_iload_n X 1 dX11_odds_1 rfl rfl ?_
  obtain ⟨x2, c1, h⟩ := bd_some h
  refine V_callVi X (As := [.int a1]) (M_X11_isNode c1) (cwV 1 X.2.2.2.2.2.2.1 (gV wm_RX11_148 wi_X11_isNode wse_X11_isNode win_RX11 wc_X11_isNode) rfl rfl rfl hd_X11_isNode ⟨Nat.le_of_ble_eq_true rfl, Nat.le_of_ble_eq_true rfl⟩) (b := (0, 0, 0)) ⟨by decide, rfl⟩ rfl rfl rfl rfl (Nat.le_of_ble_eq_true rfl) dX11_odds_2 rfl ?_
  refine V_if_ne X (tgt := 16) dX11_odds_5 (by decide) (fun b3 => ?_) (fun b3 => ?_)
  · replace h := (if_neg b3).symm.trans h
    refine V_iload_n X 2 dX11_odds_16 rfl rfl ?_
    refine jk0_el (P := V X μ 34 [] []) h (fun h => ?_) (fun k5 hk5 h => ?_)
    · exact V_throw X hex hlf (ik := 119) (ic := 121) 1 h (by decide +kernel) (by decide +kernel) (mB wcl_RX11_119) (mB wine_1) (mBa wx_1) wx_n1 wx_g1 dX11_odds_34 dX11_odds_37 dX11_odds_38 dX11_odds_41 (Nat.le_of_ble_eq_true rfl) (Nat.le_of_ble_eq_true rfl) (Nat.le_of_ble_eq_true rfl) (Nat.le_of_ble_eq_true rfl)
    · refine V_if_lt X (tgt := 34) dX11_odds_17 (by decide) (fun b4 => ?_) (fun b4 => ?_)
      · replace h := (if_pos b4).symm.trans h
        refine V_sub X [] (lv' := []) rfl ?_
        exact hk5 h
      · replace h := (if_neg b4).symm.trans h
        refine V_iload_n X 2 dX11_odds_20 rfl rfl ?_
        refine V_iconst X 5 dX11_odds_21 (by decide) ?_
        refine V_icmp_gt X (tgt := 34) dX11_odds_22 (by decide) (fun b6 => ?_) (fun b6 => ?_)
        · replace h := (if_pos b6).symm.trans h
          refine V_sub X [] (lv' := []) rfl ?_
          exact hk5 h
        · replace h := (if_neg b6).symm.trans h
          refine V_iload_n X 3 dX11_odds_25 rfl rfl ?_
          refine V_if_lt X (tgt := 34) dX11_odds_26 (by decide) (fun b7 => ?_) (fun b7 => ?_)
          · replace h := (if_pos b7).symm.trans h
            refine V_sub X [] (lv' := []) rfl ?_
            exact hk5 h
          · replace h := (if_neg b7).symm.trans h
            refine V_iload_n X 3 dX11_odds_29 rfl rfl ?_
            refine V_iconst X 5 dX11_odds_30 (by decide) ?_
            refine V_icmp_le X (tgt := 42) dX11_odds_31 (by decide) (fun b8 => ?_) (fun b8 => ?_)
            · replace h := (if_pos b8).symm.trans h
              refine V_aload_n X 0 dX11_odds_42 rfl rfl ?_
              refine V_getr X (o := (0, 0, 0)) (i := (0, 4, 0)) (ci := 11) (k := 8) (N := 16) (T := TX11) (C := RX11) ⟨by decide, rfl⟩ rfl rfl rfl (by decide) (mBa inB_X11) (mB wl_RX11_20) dX11_odds_43 ?_
              refine V_getr X (o := (0, 4, 0)) (i := (0, 5, 0)) (ci := 9) (k := 0) (N := 2) (T := TX9) (C := RX9) ⟨by decide, rfl⟩ rfl rfl rfl (by decide) (mBa inB_X9) (mB wl_RX11_168) dX11_odds_46 ?_
              refine V_aload_n X 0 dX11_odds_49 rfl rfl ?_
              refine V_getr X (o := (0, 0, 0)) (i := (1, 0, 0)) (ci := 11) (k := 3) (N := 16) (T := TX11) (C := RX11) ⟨by decide, rfl⟩ rfl rfl rfl (by decide) (mBa inB_X11) (mB wl_RX11_77) dX11_odds_50 ?_
              obtain ⟨μ10, c9, h⟩ := bd_some h
              refine V_callVv X (As := [.ref (zad y (1, 0, 0))]) (M_X10_look (by decide) c9) (cwV 1 X.2.2.2.2.2.2.1 (gV wm_RX11_172 wi_X10_look wse_X10_look win_RX10 wc_X10_look) rfl rfl rfl hd_X10_look ⟨Nat.le_of_ble_eq_true rfl, Nat.le_of_ble_eq_true rfl⟩) (b := (0, 5, 0)) ⟨by decide, rfl⟩ rfl rfl rfl rfl (Nat.le_of_ble_eq_true rfl) dX11_odds_53 rfl ?_
              refine V_aload_n X 0 dX11_odds_56 rfl rfl ?_
              refine V_getr X (o := (0, 0, 0)) (i := (0, 4, 0)) (ci := 11) (k := 8) (N := 16) (T := TX11) (C := RX11) ⟨by decide, rfl⟩ rfl rfl rfl (by decide) (mBa inB_X11) (mB wl_RX11_20) dX11_odds_57 ?_
              refine V_getr X (o := (0, 4, 0)) (i := (0, 5, 0)) (ci := 9) (k := 0) (N := 2) (T := TX9) (C := RX9) ⟨by decide, rfl⟩ rfl rfl rfl (by decide) (mBa inB_X9) (mB wl_RX11_168) dX11_odds_60 ?_
              refine V_getr X (o := (0, 5, 0)) (i := (0, 9, 0)) (ci := 10) (k := 3) (N := 7) (T := TX10) (C := RX10) ⟨by decide, rfl⟩ rfl rfl rfl (by decide) (mBa inB_X10) (mB wl_RX11_180) dX11_odds_63 ?_
              refine V_iload_n X 1 dX11_odds_66 rfl rfl ?_
              obtain ⟨g11, h⟩ := gd_some h
              refine V_iald X a1.toNatClampNeg rfl (o := (0, 9, 0)) (n := 8) ⟨by decide, rfl⟩ rfl rfl g11 dX11_odds_67 ?_
              refine V_i2l X dX11_odds_68 ?_
              refine V_lstore X [(4, .long (((μ10 (0, 9, 0) a1.toNatClampNeg)).toInt64)), (0, .ref (zad y (0, 0, 0))), (1, .int a1), (2, .int a2), (3, .int a3)] dX11_odds_69 (by decide) rfl ?_
              refine zlt_el (P := fun (x12 : Int64) => V X μ10 71 [(4, .long x12), (0, .ref (zad y (0, 0, 0))), (1, .int a1), (2, .int a2), (3, .int a3)] []) h (fun x12 h => ?_)
              refine V_lconst X 0 dX11_odds_71 (by decide) ?_
              refine V_lstore X [(6, .long 0), (4, .long x12), (0, .ref (zad y (0, 0, 0))), (1, .int a1), (2, .int a2), (3, .int a3)] dX11_odds_72 (by decide) rfl ?_
              refine V_lconst X 1 dX11_odds_74 (by decide) ?_
              refine V_lstore X [(8, .long 1), (6, .long 0), (4, .long x12), (0, .ref (zad y (0, 0, 0))), (1, .int a1), (2, .int a2), (3, .int a3)] dX11_odds_75 (by decide) rfl ?_
              refine V_iconst X 0 dX11_odds_77 (by decide) ?_
              refine V_istore X [(10, .int 0), (8, .long 1), (6, .long 0), (4, .long x12), (0, .ref (zad y (0, 0, 0))), (1, .int a1), (2, .int a2), (3, .int a3)] dX11_odds_78 (by decide) rfl ?_
              refine V_sub X [6, 7, 3, 2, 1, 0] (lv' := [(2, .int a2), (3, .int a3), (4, .long x12), (6, .long 0), (8, .long 1), (10, .int 0)]) rfl ?_
              obtain ⟨x15, hl, h⟩ := bd_some h
              have hk : V X μ10 100 [(2, .int a2), (3, .int a3), (4, .long x12), (6, .long 0), (8, .long x15)] [] := by
                clear hl
                refine V_iload_n X 1 dX11_odds_100 rfl rfl ?_
                refine V_istore X [(10, .int a3), (2, .int a2), (3, .int a3), (4, .long x12), (6, .long 0), (8, .long x15)] dX11_odds_101 (by decide) rfl ?_
                refine V_sub X [1, 3, 4, 5, 0] (lv' := [(2, .int a2), (4, .long x12), (6, .long 0), (8, .long x15), (10, .int a3)]) rfl ?_
                obtain ⟨x20, hl, h⟩ := bd_some h
                have hk : V X μ10 171 [(6, .long x20), (8, .long x15)] [] := by
                  clear hl
                  refine V_lload X 0 dX11_odds_171 rfl ?_
                  refine V_ldc2 X (ix := 356) (v := 10000) (mB wk_RX11_356) dX11_odds_173 ?_
                  refine V_lmul X dX11_odds_176 ?_
                  refine V_lconst X 1 dX11_odds_177 (by decide) ?_
                  refine V_lload X 1 dX11_odds_178 rfl ?_
                  refine V_zmaxl X (ix := 358) (mB wm_RX11_358) (mB wst_Math_maxJ) (mB win_Math) (mB wc_Math_maxJ) (Nat.le_of_ble_eq_true rfl) (Nat.le_of_ble_eq_true rfl) dX11_odds_180 ?_
                  obtain ⟨g32, h⟩ := gd_some h
                  refine V_ldiv X dX11_odds_183 (gnzl_ne g32) ?_
                  refine V_l2i X dX11_odds_184 ?_
                  exact V_iretX X h dX11_odds_185
                refine lp_ind (P := fun q => V X μ10 103 [(2, .int a2), (4, .long x12), (6, .long q.1), (8, .long x15), (10, .int q.2)] []) (fun q z h hz => ?_) hl
                obtain ⟨x18, x19⟩ := q
                replace h := un2_eq h
                show V X μ10 103 [(2, .int a2), (4, .long x12), (6, .long x18), (8, .long x15), (10, .int x19)] []
                refine V_iload X 4 dX11_odds_103 rfl ?_
                refine V_iload_n X 0 dX11_odds_105 rfl rfl ?_
                refine V_icmp_gt X (tgt := 171) dX11_odds_106 (by decide) (fun b21 => ?_) (fun b21 => ?_)
                · replace h := (if_pos b21).symm.trans h
                  refine V_sub X [2, 3] (lv' := [(6, .long x18), (8, .long x15)]) rfl ?_
                  cases h
                  obtain rfl := pr1 hz
                  exact hk
                · replace h := (if_neg b21).symm.trans h
                  refine V_lconst X 1 dX11_odds_109 (by decide) ?_
                  refine V_lstore X [(11, .long 1), (2, .int a2), (4, .long x12), (6, .long x18), (8, .long x15), (10, .int x19)] dX11_odds_110 (by decide) rfl ?_
                  refine V_iconst X 0 dX11_odds_112 (by decide) ?_
                  refine V_istore X [(13, .int 0), (11, .long 1), (2, .int a2), (4, .long x12), (6, .long x18), (8, .long x15), (10, .int x19)] dX11_odds_113 (by decide) rfl ?_
                  refine V_sub X [2, 3, 4, 5, 6, 1, 0] (lv' := [(2, .int a2), (4, .long x12), (6, .long x18), (8, .long x15), (10, .int x19), (11, .long 1), (13, .int 0)]) rfl ?_
                  obtain ⟨x24, hl, h⟩ := bd_some h
                  have hk : V X μ10 150 [(2, .int a2), (4, .long x12), (6, .long x18), (8, .long x15), (10, .int x19), (11, .long x24)] [] := by
                    clear hl
                    refine V_lload X 2 dX11_odds_150 rfl ?_
                    refine V_lload X 5 dX11_odds_152 rfl ?_
                    refine V_iload_n X 0 dX11_odds_154 rfl rfl ?_
                    refine V_iload X 4 dX11_odds_155 rfl ?_
                    obtain ⟨x30, c29, h⟩ := bd_some h
                    refine V_callSi X (As := [.int a2, .int x19]) (M_X11_choose c29) (va_cwS 2 X.2.2.2.2.2.2.1 (gS wm_RX11_353 wst_X11_choose win_RX11 wc_X11_choose) rfl rfl rfl hd_X11_choose.2 ⟨Nat.le_of_ble_eq_true rfl, Nat.le_of_ble_eq_true rfl⟩) rfl (Nat.le_of_ble_eq_true rfl) dX11_odds_157 rfl ?_
                    refine V_i2l X dX11_odds_160 ?_
                    refine V_lmul X dX11_odds_161 ?_
                    refine V_ladd X dX11_odds_162 ?_
                    refine V_lstore X [(6, .long (x18 + (x24 * ((x30).toInt64)))), (2, .int a2), (4, .long x12), (8, .long x15), (10, .int x19), (11, .long x24)] dX11_odds_163 (by decide) rfl ?_
                    refine zlt_el (P := fun (x31 : Int64) => V X μ10 165 [(6, .long x31), (2, .int a2), (4, .long x12), (8, .long x15), (10, .int x19), (11, .long x24)] []) h (fun x31 h => ?_)
                    refine V_inc X 4 1 [(10, .int (x19 + 1)), (6, .long x31), (2, .int a2), (4, .long x12), (8, .long x15), (11, .long x24)] dX11_odds_165 rfl (by decide) (by decide) rfl ?_
                    refine V_goto X (tgt := 103) dX11_odds_168 (by decide) ?_
                    refine V_sub X [2, 3, 1, 4, 0] (lv' := [(2, .int a2), (4, .long x12), (6, .long x31), (8, .long x15), (10, .int (x19 + 1))]) rfl ?_
                    cases h
                    exact hz
                  refine lp_ind (P := fun q => V X μ10 115 [(2, .int a2), (4, .long x12), (6, .long x18), (8, .long x15), (10, .int x19), (11, .long q.1), (13, .int q.2)] []) (fun q z h hz => ?_) hl
                  obtain ⟨x22, x23⟩ := q
                  replace h := un2_eq h
                  show V X μ10 115 [(2, .int a2), (4, .long x12), (6, .long x18), (8, .long x15), (10, .int x19), (11, .long x22), (13, .int x23)] []
                  refine V_iload X 6 dX11_odds_115 rfl ?_
                  refine V_iload_n X 0 dX11_odds_117 rfl rfl ?_
                  refine V_icmp_ge X (tgt := 150) dX11_odds_118 (by decide) (fun b25 => ?_) (fun b25 => ?_)
                  · replace h := (if_pos b25).symm.trans h
                    refine V_sub X [0, 1, 2, 3, 4, 5] (lv' := [(2, .int a2), (4, .long x12), (6, .long x18), (8, .long x15), (10, .int x19), (11, .long x22)]) rfl ?_
                    cases h
                    obtain rfl := pr1 hz
                    exact hk
                  · replace h := (if_neg b25).symm.trans h
                    refine V_lload X 5 dX11_odds_121 rfl ?_
                    refine V_iload X 6 dX11_odds_123 rfl ?_
                    refine V_iload X 4 dX11_odds_125 rfl ?_
                    obtain ⟨x27, h1, h⟩ := zl1_some h
                    have hk : V X μ10 141 [(2, .int a2), (4, .long x12), (6, .long x18), (8, .long x15), (10, .int x19), (13, .int x23)] [.long x27, .long x22] := by
                      clear h1
                      refine V_lmul X dX11_odds_141 ?_
                      refine V_lstore X [(11, .long (x22 * x27)), (2, .int a2), (4, .long x12), (6, .long x18), (8, .long x15), (10, .int x19), (13, .int x23)] dX11_odds_142 (by decide) rfl ?_
                      refine zlt_el (P := fun (x28 : Int64) => V X μ10 144 [(11, .long x28), (2, .int a2), (4, .long x12), (6, .long x18), (8, .long x15), (10, .int x19), (13, .int x23)] []) h (fun x28 h => ?_)
                      refine V_inc X 6 1 [(13, .int (x23 + 1)), (11, .long x28), (2, .int a2), (4, .long x12), (6, .long x18), (8, .long x15), (10, .int x19)] dX11_odds_144 rfl (by decide) (by decide) rfl ?_
                      refine V_goto X (tgt := 115) dX11_odds_147 (by decide) ?_
                      refine V_sub X [2, 3, 4, 5, 6, 1, 0] (lv' := [(2, .int a2), (4, .long x12), (6, .long x18), (8, .long x15), (10, .int x19), (11, .long x28), (13, .int (x23 + 1))]) rfl ?_
                      cases h
                      exact hz
                    replace h := h1
                    clear h1
                    refine V_icmp_ge X (tgt := 135) dX11_odds_127 (by decide) (fun b26 => ?_) (fun b26 => ?_)
                    · replace h := (if_pos b26).symm.trans h
                      refine V_ldc2 X (ix := 351) (v := 100) (mB wk_RX11_351) dX11_odds_135 ?_
                      refine V_lload X 1 dX11_odds_138 rfl ?_
                      refine V_lsub X dX11_odds_140 ?_
                      refine V_sub X [0, 1, 2, 3, 4, 6] (lv' := [(2, .int a2), (4, .long x12), (6, .long x18), (8, .long x15), (10, .int x19), (13, .int x23)]) rfl ?_
                      obtain rfl := pr1 h
                      exact hk
                    · replace h := (if_neg b26).symm.trans h
                      refine V_lload X 1 dX11_odds_130 rfl ?_
                      refine V_goto X (tgt := 141) dX11_odds_132 (by decide) ?_
                      refine V_sub X [0, 1, 2, 3, 4, 6] (lv' := [(2, .int a2), (4, .long x12), (6, .long x18), (8, .long x15), (10, .int x19), (13, .int x23)]) rfl ?_
                      obtain rfl := pr1 h
                      exact hk
              refine lp_ind (P := fun q => V X μ10 80 [(2, .int a2), (3, .int a3), (4, .long x12), (6, .long 0), (8, .long q.1), (10, .int q.2)] []) (fun q z h hz => ?_) hl
              obtain ⟨x13, x14⟩ := q
              replace h := un2_eq h
              show V X μ10 80 [(2, .int a2), (3, .int a3), (4, .long x12), (6, .long 0), (8, .long x13), (10, .int x14)] []
              refine V_iload X 5 dX11_odds_80 rfl ?_
              refine V_iload_n X 0 dX11_odds_82 rfl rfl ?_
              refine V_icmp_ge X (tgt := 100) dX11_odds_83 (by decide) (fun b16 => ?_) (fun b16 => ?_)
              · replace h := (if_pos b16).symm.trans h
                refine V_sub X [0, 1, 2, 3, 4] (lv' := [(2, .int a2), (3, .int a3), (4, .long x12), (6, .long 0), (8, .long x13)]) rfl ?_
                cases h
                obtain rfl := pr1 hz
                exact hk
              · replace h := (if_neg b16).symm.trans h
                refine V_lload X 4 dX11_odds_86 rfl ?_
                refine V_ldc2 X (ix := 351) (v := 100) (mB wk_RX11_351) dX11_odds_88 ?_
                refine V_lmul X dX11_odds_91 ?_
                refine V_lstore X [(8, .long (x13 * 100)), (2, .int a2), (3, .int a3), (4, .long x12), (6, .long 0), (10, .int x14)] dX11_odds_92 (by decide) rfl ?_
                refine zlt_el (P := fun (x17 : Int64) => V X μ10 94 [(8, .long x17), (2, .int a2), (3, .int a3), (4, .long x12), (6, .long 0), (10, .int x14)] []) h (fun x17 h => ?_)
                refine V_inc X 5 1 [(10, .int (x14 + 1)), (8, .long x17), (2, .int a2), (3, .int a3), (4, .long x12), (6, .long 0)] dX11_odds_94 rfl (by decide) (by decide) rfl ?_
                refine V_goto X (tgt := 80) dX11_odds_97 (by decide) ?_
                refine V_sub X [2, 3, 4, 5, 1, 0] (lv' := [(2, .int a2), (3, .int a3), (4, .long x12), (6, .long 0), (8, .long x17), (10, .int (x14 + 1))]) rfl ?_
                cases h
                exact hz
            · replace h := (if_neg b8).symm.trans h
              refine V_sub X [] (lv' := []) rfl ?_
              exact hk5 h
  · replace h := (if_pos b3).symm.trans h
    exact V_throw X hex hlf (ik := 152) (ic := 154) 3 h (by decide +kernel) (by decide +kernel) (mB wcl_RX11_152) (mB wine_3) (mBa wx_3) wx_n3 wx_g3 dX11_odds_8 dX11_odds_11 dX11_odds_12 dX11_odds_15 (Nat.le_of_ble_eq_true rfl) (Nat.le_of_ble_eq_true rfl) (Nat.le_of_ble_eq_true rfl) (Nat.le_of_ble_eq_true rfl)

def f_X11_most (a1 : Int32) (μ : ZMem) : Option ((Int32 ⊕ Nat) × ZMem) := jk (some (.inr 4, μ)) (fun k2 => if a1 < 0 then k2 else if a1 ≤ 2 then bd (lp (σ := Int32 × Int32 × Int32) (fun q => un3 q (fun (x4 : Int32) (x5 : Int32) (x6 : Int32) => if (μ (1, 0, 0) 4) ≤ x6 then some (.inr x4) else gd (zin x6 8) (zlt ((μ (3, 0, x6.toNatClampNeg) 1) + (μ (3, 0, x6.toNatClampNeg) 2)) (fun (x10 : Int32) => zlt (α := Int32) (if a1 = 0 then x10 else if a1 = 1 then (-x10) else (zabs (μ (3, 0, x6.toNatClampNeg) 0))) (fun (x12 : Int32) => bd2 (α := Int32) (β := Int32) (jk (some (x6, x12)) (fun k17 => if x4 = (-1) then k17 else if x12 ≤ x5 then some (x4, x5) else k17)) (fun (x15 : Int32) (x16 : Int32) => some (.inl (x15, x16, (x6 + 1))))))))) FU ((-1), 0, 0)) (fun (x7 : Int32) => some (.inl x7, μ)) else k2)
set_option maxRecDepth 100000 in
set_option maxHeartbeats 4000000 in
theorem M_X11_most {l : Launch} {D : va_G} {y : ZLay} {a1 : Int32}  {μ : ZMem} {res : Int32 ⊕ Nat} {μ0 : ZMem} (hlf : l.stackTraces = false) (h : f_X11_most a1 μ = some (res, μ0)) : MX l yX11_most wb_X11_most rm_X11_most D y [.ref (zad y (0, 0, 0)), .int a1] μ res μ0 := by
  unfold f_X11_most at h
  refine MX_of RX11 [(0, .ref (zad y (0, 0, 0))), (1, .int a1)] (by decide) rfl rfl (Nat.le_of_ble_eq_true rfl) rfl ?_
  intro p e s m args below meth c A X hex
  refine V_iload_n X 1 dX11_most_0 rfl rfl ?_
  refine jk0_el (P := V X μ 9 [] []) h (fun h => ?_) (fun k2 hk2 h => ?_)
  · exact V_throw X hex hlf (ik := 155) (ic := 157) 4 h (by decide +kernel) (by decide +kernel) (mB wcl_RX11_155) (mB wine_4) (mBa wx_4) wx_n4 wx_g4 dX11_most_9 dX11_most_12 dX11_most_13 dX11_most_16 (Nat.le_of_ble_eq_true rfl) (Nat.le_of_ble_eq_true rfl) (Nat.le_of_ble_eq_true rfl) (Nat.le_of_ble_eq_true rfl)
  · refine V_if_lt X (tgt := 9) dX11_most_1 (by decide) (fun b1 => ?_) (fun b1 => ?_)
    · replace h := (if_pos b1).symm.trans h
      refine V_sub X [] (lv' := []) rfl ?_
      exact hk2 h
    · replace h := (if_neg b1).symm.trans h
      refine V_iload_n X 1 dX11_most_4 rfl rfl ?_
      refine V_iconst X 2 dX11_most_5 (by decide) ?_
      refine V_icmp_le X (tgt := 17) dX11_most_6 (by decide) (fun b3 => ?_) (fun b3 => ?_)
      · replace h := (if_pos b3).symm.trans h
        refine V_iconst X (-1) dX11_most_17 (by decide) ?_
        refine V_istore_n X [(2, .int (-1)), (0, .ref (zad y (0, 0, 0))), (1, .int a1)] dX11_most_18 rfl (by decide) rfl ?_
        refine V_iconst X 0 dX11_most_19 (by decide) ?_
        refine V_istore_n X [(3, .int 0), (2, .int (-1)), (0, .ref (zad y (0, 0, 0))), (1, .int a1)] dX11_most_20 rfl (by decide) rfl ?_
        refine V_iconst X 0 dX11_most_21 (by decide) ?_
        refine V_istore X [(4, .int 0), (3, .int 0), (2, .int (-1)), (0, .ref (zad y (0, 0, 0))), (1, .int a1)] dX11_most_22 (by decide) rfl ?_
        refine V_sub X [3, 4, 2, 1, 0] (lv' := [(0, .ref (zad y (0, 0, 0))), (1, .int a1), (2, .int (-1)), (3, .int 0), (4, .int 0)]) rfl ?_
        obtain ⟨x7, hl, h⟩ := bd_some h
        have hk : V X μ 114 [(2, .int x7)] [] := by
          clear hl
          refine V_iload_n X 0 dX11_most_114 rfl rfl ?_
          exact V_iretX X h dX11_most_115
        refine lp_ind (P := fun q => V X μ 24 [(0, .ref (zad y (0, 0, 0))), (1, .int a1), (2, .int q.1), (3, .int q.2.1), (4, .int q.2.2)] []) (fun q z h hz => ?_) hl
        obtain ⟨x4, x5, x6⟩ := q
        replace h := un3_eq h
        show V X μ 24 [(0, .ref (zad y (0, 0, 0))), (1, .int a1), (2, .int x4), (3, .int x5), (4, .int x6)] []
        refine V_iload X 4 dX11_most_24 rfl ?_
        refine V_aload_n X 0 dX11_most_26 rfl rfl ?_
        refine V_getr X (o := (0, 0, 0)) (i := (1, 0, 0)) (ci := 11) (k := 3) (N := 16) (T := TX11) (C := RX11) ⟨by decide, rfl⟩ rfl rfl rfl (by decide) (mBa inB_X11) (mB wl_RX11_77) dX11_most_27 ?_
        refine V_geti X (o := (1, 0, 0)) (ci := 7) (k := 4) (N := 11) (T := TX7) (C := RX7) ⟨(by decide), rfl⟩ rfl rfl rfl (by decide) (mBa inB_X7) (mB wl_RX11_145) dX11_most_30 ?_
        refine V_icmp_ge X (tgt := 114) dX11_most_33 (by decide) (fun b8 => ?_) (fun b8 => ?_)
        · replace h := (if_pos b8).symm.trans h
          refine V_sub X [2] (lv' := [(2, .int x4)]) rfl ?_
          cases h
          obtain rfl := pr1 hz
          exact hk
        · replace h := (if_neg b8).symm.trans h
          refine V_aload_n X 0 dX11_most_36 rfl rfl ?_
          refine V_getr X (o := (0, 0, 0)) (i := (1, 0, 0)) (ci := 11) (k := 3) (N := 16) (T := TX11) (C := RX11) ⟨by decide, rfl⟩ rfl rfl rfl (by decide) (mBa inB_X11) (mB wl_RX11_77) dX11_most_37 ?_
          refine V_getr X (o := (1, 0, 0)) (i := (2, 0, 0)) (ci := 7) (k := 0) (N := 11) (T := TX7) (C := RX7) ⟨(by decide), rfl⟩ rfl rfl rfl (by decide) (mBa inB_X7) (mB wl_RX11_158) dX11_most_40 ?_
          refine V_iload X 4 dX11_most_43 rfl ?_
          obtain ⟨g9, h⟩ := gd_some h
          refine V_aald X x6.toNatClampNeg rfl (o := (2, 0, 0)) ⟨(by decide), rfl⟩ rfl rfl rfl rfl g9 dX11_most_45 ?_
          refine V_astore X [(5, .ref (zad y (3, 0, x6.toNatClampNeg))), (0, .ref (zad y (0, 0, 0))), (1, .int a1), (2, .int x4), (3, .int x5), (4, .int x6)] dX11_most_46 (by decide) rfl ?_
          refine V_aload X 0 dX11_most_48 rfl ?_
          refine V_geti X (o := (3, 0, x6.toNatClampNeg)) (ci := 5) (k := 1) (N := 11) (T := TX5) (C := RX5) ⟨(by decide), zin_lt g9⟩ rfl rfl rfl (by decide) (mBa inB_X5) (mB wl_RX11_361) dX11_most_50 ?_
          refine V_aload X 0 dX11_most_53 rfl ?_
          refine V_geti X (o := (3, 0, x6.toNatClampNeg)) (ci := 5) (k := 2) (N := 11) (T := TX5) (C := RX5) ⟨(by decide), zin_lt g9⟩ rfl rfl rfl (by decide) (mBa inB_X5) (mB wl_RX11_364) dX11_most_55 ?_
          refine V_iadd X dX11_most_58 ?_
          refine V_istore X [(6, .int ((μ (3, 0, x6.toNatClampNeg) 1) + (μ (3, 0, x6.toNatClampNeg) 2))), (5, .ref (zad y (3, 0, x6.toNatClampNeg))), (0, .ref (zad y (0, 0, 0))), (1, .int a1), (2, .int x4), (3, .int x5), (4, .int x6)] dX11_most_59 (by decide) rfl ?_
          refine zlt_el (P := fun (x10 : Int32) => V X μ 61 [(6, .int x10), (5, .ref (zad y (3, 0, x6.toNatClampNeg))), (0, .ref (zad y (0, 0, 0))), (1, .int a1), (2, .int x4), (3, .int x5), (4, .int x6)] []) h (fun x10 h => ?_)
          refine V_iload_n X 3 dX11_most_61 rfl rfl ?_
          obtain ⟨x12, h1, h⟩ := zl1_some h
          have hk : V X μ 89 [(0, .ref (zad y (0, 0, 0))), (1, .int a1), (2, .int x4), (3, .int x5), (4, .int x6)] [.int x12] := by
            clear h1
            refine V_istore X [(7, .int x12), (0, .ref (zad y (0, 0, 0))), (1, .int a1), (2, .int x4), (3, .int x5), (4, .int x6)] dX11_most_89 (by decide) rfl ?_
            refine V_iload_n X 3 dX11_most_91 rfl rfl ?_
            refine V_iconst X (-1) dX11_most_92 (by decide) ?_
            obtain ⟨x15, x16, h1, h⟩ := bd2_some h
            have hk : V X μ 108 [(0, .ref (zad y (0, 0, 0))), (1, .int a1), (2, .int x15), (3, .int x16), (4, .int x6)] [] := by
              clear h1
              refine V_inc X 4 1 [(4, .int (x6 + 1)), (0, .ref (zad y (0, 0, 0))), (1, .int a1), (2, .int x15), (3, .int x16)] dX11_most_108 rfl (by decide) (by decide) rfl ?_
              refine V_goto X (tgt := 24) dX11_most_111 (by decide) ?_
              refine V_sub X [1, 2, 3, 4, 0] (lv' := [(0, .ref (zad y (0, 0, 0))), (1, .int a1), (2, .int x15), (3, .int x16), (4, .int (x6 + 1))]) rfl ?_
              cases h
              exact hz
            replace h := h1
            clear h1
            refine jk0_el (P := V X μ 102 [(0, .ref (zad y (0, 0, 0))), (1, .int a1), (4, .int x6), (7, .int x12)] []) h (fun h => ?_) (fun k17 hk17 h => ?_)
            · refine V_iload X 2 dX11_most_102 rfl ?_
              refine V_istore_n X [(2, .int x6), (0, .ref (zad y (0, 0, 0))), (1, .int a1), (4, .int x6), (7, .int x12)] dX11_most_104 rfl (by decide) rfl ?_
              refine V_iload X 4 dX11_most_105 rfl ?_
              refine V_istore_n X [(3, .int x12), (2, .int x6), (0, .ref (zad y (0, 0, 0))), (1, .int a1), (4, .int x6), (7, .int x12)] dX11_most_107 rfl (by decide) rfl ?_
              refine V_sub X [2, 3, 1, 0, 4] (lv' := [(0, .ref (zad y (0, 0, 0))), (1, .int a1), (2, .int x6), (3, .int x12), (4, .int x6)]) rfl ?_
              obtain ⟨rfl, rfl⟩ := so2 h
              exact hk
            · refine V_icmp_eq X (tgt := 102) dX11_most_93 (by decide) (fun b14 => ?_) (fun b14 => ?_)
              · replace h := (if_pos b14).symm.trans h
                refine V_sub X [1, 2, 5, 0] (lv' := [(0, .ref (zad y (0, 0, 0))), (1, .int a1), (4, .int x6), (7, .int x12)]) rfl ?_
                exact hk17 h
              · replace h := (if_neg b14).symm.trans h
                refine V_iload X 0 dX11_most_96 rfl ?_
                refine V_iload_n X 4 dX11_most_98 rfl rfl ?_
                refine V_icmp_le X (tgt := 108) dX11_most_99 (by decide) (fun b18 => ?_) (fun b18 => ?_)
                · replace h := (if_pos b18).symm.trans h
                  refine V_sub X [1, 2, 3, 4, 5] (lv' := [(0, .ref (zad y (0, 0, 0))), (1, .int a1), (2, .int x4), (3, .int x5), (4, .int x6)]) rfl ?_
                  obtain ⟨rfl, rfl⟩ := so2 h
                  exact hk
                · replace h := (if_neg b18).symm.trans h
                  refine V_sub X [1, 2, 5, 0] (lv' := [(0, .ref (zad y (0, 0, 0))), (1, .int a1), (4, .int x6), (7, .int x12)]) rfl ?_
                  exact hk17 h
          replace h := h1
          clear h1
          refine V_if_ne X (tgt := 70) dX11_most_62 (by decide) (fun b11 => ?_) (fun b11 => ?_)
          · replace h := (if_neg b11).symm.trans h
            refine V_iload_n X 3 dX11_most_70 rfl rfl ?_
            refine V_iconst X 1 dX11_most_71 (by decide) ?_
            refine V_icmp_ne X (tgt := 81) dX11_most_72 (by decide) (fun b13 => ?_) (fun b13 => ?_)
            · replace h := (if_neg b13).symm.trans h
              refine V_aload X 1 dX11_most_81 rfl ?_
              refine V_geti X (o := (3, 0, x6.toNatClampNeg)) (ci := 5) (k := 0) (N := 11) (T := TX5) (C := RX5) ⟨(by decide), zin_lt g9⟩ rfl rfl rfl (by decide) (mBa inB_X5) (mB wl_RX11_253) dX11_most_83 ?_
              refine V_zabs X (ix := 289) (mB wm_RX11_289) (mB wst_Math_abs) (mB win_Math) (mB wc_Math_abs) (Nat.le_of_ble_eq_true rfl) (Nat.le_of_ble_eq_true rfl) dX11_most_86 ?_
              refine V_sub X [2, 3, 4, 5, 6] (lv' := [(0, .ref (zad y (0, 0, 0))), (1, .int a1), (2, .int x4), (3, .int x5), (4, .int x6)]) rfl ?_
              obtain rfl := pr1 h
              exact hk
            · replace h := (if_pos b13).symm.trans h
              refine V_iload X 0 dX11_most_75 rfl ?_
              refine V_ineg X dX11_most_77 ?_
              refine V_goto X (tgt := 89) dX11_most_78 (by decide) ?_
              refine V_sub X [2, 3, 4, 5, 6] (lv' := [(0, .ref (zad y (0, 0, 0))), (1, .int a1), (2, .int x4), (3, .int x5), (4, .int x6)]) rfl ?_
              obtain rfl := pr1 h
              exact hk
          · replace h := (if_pos b11).symm.trans h
            refine V_iload X 0 dX11_most_65 rfl ?_
            refine V_goto X (tgt := 89) dX11_most_67 (by decide) ?_
            refine V_sub X [2, 3, 4, 5, 6] (lv' := [(0, .ref (zad y (0, 0, 0))), (1, .int a1), (2, .int x4), (3, .int x5), (4, .int x6)]) rfl ?_
            obtain rfl := pr1 h
            exact hk
      · replace h := (if_neg b3).symm.trans h
        refine V_sub X [] (lv' := []) rfl ?_
        exact hk2 h

def f_X11_byState (a1 : Int32) (μ : ZMem) : Option ((Int32 ⊕ Nat) × ZMem) := jk (some (.inr 4, μ)) (fun k2 => if a1 < 0 then k2 else if a1 ≤ 3 then bd (f_X7_inState 0 a1 μ) (fun (x5 : Int32) => some (.inl x5, μ)) else k2)
set_option maxRecDepth 100000 in
set_option maxHeartbeats 4000000 in
theorem M_X11_byState {l : Launch} {D : va_G} {y : ZLay} {a1 : Int32}  {μ : ZMem} {res : Int32 ⊕ Nat} {μ0 : ZMem} (hlf : l.stackTraces = false) (h : f_X11_byState a1 μ = some (res, μ0)) : MX l yX11_byState wb_X11_byState rm_X11_byState D y [.ref (zad y (0, 0, 0)), .int a1] μ res μ0 := by
  unfold f_X11_byState at h
  refine MX_of RX11 [(0, .ref (zad y (0, 0, 0))), (1, .int a1)] (by decide) rfl rfl (Nat.le_of_ble_eq_true rfl) rfl ?_
  intro p e s m args below meth c A X hex
  refine V_iload_n X 1 dX11_byState_0 rfl rfl ?_
  refine jk0_el (P := V X μ 9 [] []) h (fun h => ?_) (fun k2 hk2 h => ?_)
  · exact V_throw X hex hlf (ik := 155) (ic := 157) 4 h (by decide +kernel) (by decide +kernel) (mB wcl_RX11_155) (mB wine_4) (mBa wx_4) wx_n4 wx_g4 dX11_byState_9 dX11_byState_12 dX11_byState_13 dX11_byState_16 (Nat.le_of_ble_eq_true rfl) (Nat.le_of_ble_eq_true rfl) (Nat.le_of_ble_eq_true rfl) (Nat.le_of_ble_eq_true rfl)
  · refine V_if_lt X (tgt := 9) dX11_byState_1 (by decide) (fun b1 => ?_) (fun b1 => ?_)
    · replace h := (if_pos b1).symm.trans h
      refine V_sub X [] (lv' := []) rfl ?_
      exact hk2 h
    · replace h := (if_neg b1).symm.trans h
      refine V_iload_n X 1 dX11_byState_4 rfl rfl ?_
      refine V_iconst X 3 dX11_byState_5 (by decide) ?_
      refine V_icmp_le X (tgt := 17) dX11_byState_6 (by decide) (fun b3 => ?_) (fun b3 => ?_)
      · replace h := (if_pos b3).symm.trans h
        refine V_aload_n X 0 dX11_byState_17 rfl rfl ?_
        refine V_getr X (o := (0, 0, 0)) (i := (1, 0, 0)) (ci := 11) (k := 3) (N := 16) (T := TX11) (C := RX11) ⟨by decide, rfl⟩ rfl rfl rfl (by decide) (mBa inB_X11) (mB wl_RX11_77) dX11_byState_18 ?_
        refine V_iload_n X 1 dX11_byState_21 rfl rfl ?_
        obtain ⟨x5, c4, h⟩ := bd_some h
        refine V_callVi X (As := [.int a1]) (M_X7_inState (by decide) c4) (cwV 1 X.2.2.2.2.2.2.1 (gV wm_RX11_272 wi_X7_inState wse_X7_inState win_RX7 wc_X7_inState) rfl rfl rfl hd_X7_inState ⟨Nat.le_of_ble_eq_true rfl, Nat.le_of_ble_eq_true rfl⟩) (b := (1, 0, 0)) ⟨(by decide), rfl⟩ rfl rfl rfl rfl (Nat.le_of_ble_eq_true rfl) dX11_byState_22 rfl ?_
        exact V_iretX X h dX11_byState_25
      · replace h := (if_neg b3).symm.trans h
        refine V_sub X [] (lv' := []) rfl ?_
        exact hk2 h

def f_X11_twins (μ : ZMem) : Option (Int32) := bd (lp (σ := Int32 × Int32) (fun q => un2 q (fun (x1 : Int32) (x2 : Int32) => if (μ (1, 0, 0) 4) ≤ x2 then some (.inr x1) else zlt (x2 + 1) (fun (x5 : Int32) => bd (lp (σ := Int32 × Int32) (fun q => un2 q (fun (x6 : Int32) (x7 : Int32) => if (μ (1, 0, 0) 4) ≤ x7 then some (.inr x6) else gd (zin x2 8) (gd (zin x7 8) (bd (α := Int32) (jk (some 0) (fun k14 => if (μ (3, 0, x2.toNatClampNeg) 1) = (μ (3, 0, x7.toNatClampNeg) 1) then if (μ (3, 0, x2.toNatClampNeg) 3) = (μ (3, 0, x7.toNatClampNeg) 3) then some 1 else k14 else k14)) (fun (x13 : Int32) => zlt (α := Int32) (if x13 = 0 then 0 else 1) (fun (x17 : Int32) => zlt (x6 + x17) (fun (x18 : Int32) => some (.inl (x18, (x7 + 1)))))))))) FU (x1, x5)) (fun (x8 : Int32) => some (.inl (x8, (x2 + 1))))))) FU (0, 0)) (fun (x3 : Int32) => some x3)
set_option maxRecDepth 100000 in
set_option maxHeartbeats 4000000 in
theorem M_X11_twins {l : Launch} {D : va_G} {y : ZLay}   {μ : ZMem} {r : Int32} (h : f_X11_twins μ = some r) : MI l yX11_twins wb_X11_twins rm_X11_twins D y [.ref (zad y (0, 0, 0))] μ r μ := by
  unfold f_X11_twins at h
  refine MI_of RX11 [(0, .ref (zad y (0, 0, 0)))] (by decide) rfl rfl (Nat.le_of_ble_eq_true rfl) rfl ?_
  intro p e s m args below meth c A X
  refine V_iconst X 0 dX11_twins_0 (by decide) ?_
  refine V_istore_n X [(1, .int 0), (0, .ref (zad y (0, 0, 0)))] dX11_twins_1 rfl (by decide) rfl ?_
  refine V_iconst X 0 dX11_twins_2 (by decide) ?_
  refine V_istore_n X [(2, .int 0), (1, .int 0), (0, .ref (zad y (0, 0, 0)))] dX11_twins_3 rfl (by decide) rfl ?_
  refine V_sub X [2, 1, 0] (lv' := [(0, .ref (zad y (0, 0, 0))), (1, .int 0), (2, .int 0)]) rfl ?_
  obtain ⟨x3, hl, h⟩ := bd_some h
  have hk : V X μ 116 [(1, .int x3)] [] := by
    clear hl
    refine V_iload_n X 0 dX11_twins_116 rfl rfl ?_
    exact V_iretR X h dX11_twins_117
  refine lp_ind (P := fun q => V X μ 4 [(0, .ref (zad y (0, 0, 0))), (1, .int q.1), (2, .int q.2)] []) (fun q z h hz => ?_) hl
  obtain ⟨x1, x2⟩ := q
  replace h := un2_eq h
  show V X μ 4 [(0, .ref (zad y (0, 0, 0))), (1, .int x1), (2, .int x2)] []
  refine V_iload_n X 2 dX11_twins_4 rfl rfl ?_
  refine V_aload_n X 0 dX11_twins_5 rfl rfl ?_
  refine V_getr X (o := (0, 0, 0)) (i := (1, 0, 0)) (ci := 11) (k := 3) (N := 16) (T := TX11) (C := RX11) ⟨by decide, rfl⟩ rfl rfl rfl (by decide) (mBa inB_X11) (mB wl_RX11_77) dX11_twins_6 ?_
  refine V_geti X (o := (1, 0, 0)) (ci := 7) (k := 4) (N := 11) (T := TX7) (C := RX7) ⟨(by decide), rfl⟩ rfl rfl rfl (by decide) (mBa inB_X7) (mB wl_RX11_145) dX11_twins_9 ?_
  refine V_icmp_ge X (tgt := 116) dX11_twins_12 (by decide) (fun b4 => ?_) (fun b4 => ?_)
  · replace h := (if_pos b4).symm.trans h
    refine V_sub X [1] (lv' := [(1, .int x1)]) rfl ?_
    cases h
    obtain rfl := pr1 hz
    exact hk
  · replace h := (if_neg b4).symm.trans h
    refine V_iload_n X 2 dX11_twins_15 rfl rfl ?_
    refine V_iconst X 1 dX11_twins_16 (by decide) ?_
    refine V_iadd X dX11_twins_17 ?_
    refine V_istore_n X [(3, .int (x2 + 1)), (0, .ref (zad y (0, 0, 0))), (1, .int x1), (2, .int x2)] dX11_twins_18 rfl (by decide) rfl ?_
    refine zlt_el (P := fun (x5 : Int32) => V X μ 19 [(3, .int x5), (0, .ref (zad y (0, 0, 0))), (1, .int x1), (2, .int x2)] []) h (fun x5 h => ?_)
    refine V_sub X [1, 2, 3, 0] (lv' := [(0, .ref (zad y (0, 0, 0))), (1, .int x1), (2, .int x2), (3, .int x5)]) rfl ?_
    obtain ⟨x8, hl, h⟩ := bd_some h
    have hk : V X μ 110 [(0, .ref (zad y (0, 0, 0))), (1, .int x8), (2, .int x2)] [] := by
      clear hl
      refine V_inc X 2 1 [(2, .int (x2 + 1)), (0, .ref (zad y (0, 0, 0))), (1, .int x8)] dX11_twins_110 rfl (by decide) (by decide) rfl ?_
      refine V_goto X (tgt := 4) dX11_twins_113 (by decide) ?_
      refine V_sub X [1, 2, 0] (lv' := [(0, .ref (zad y (0, 0, 0))), (1, .int x8), (2, .int (x2 + 1))]) rfl ?_
      cases h
      exact hz
    refine lp_ind (P := fun q => V X μ 19 [(0, .ref (zad y (0, 0, 0))), (1, .int q.1), (2, .int x2), (3, .int q.2)] []) (fun q z h hz => ?_) hl
    obtain ⟨x6, x7⟩ := q
    replace h := un2_eq h
    show V X μ 19 [(0, .ref (zad y (0, 0, 0))), (1, .int x6), (2, .int x2), (3, .int x7)] []
    refine V_iload_n X 3 dX11_twins_19 rfl rfl ?_
    refine V_aload_n X 0 dX11_twins_20 rfl rfl ?_
    refine V_getr X (o := (0, 0, 0)) (i := (1, 0, 0)) (ci := 11) (k := 3) (N := 16) (T := TX11) (C := RX11) ⟨by decide, rfl⟩ rfl rfl rfl (by decide) (mBa inB_X11) (mB wl_RX11_77) dX11_twins_21 ?_
    refine V_geti X (o := (1, 0, 0)) (ci := 7) (k := 4) (N := 11) (T := TX7) (C := RX7) ⟨(by decide), rfl⟩ rfl rfl rfl (by decide) (mBa inB_X7) (mB wl_RX11_145) dX11_twins_24 ?_
    refine V_icmp_ge X (tgt := 110) dX11_twins_27 (by decide) (fun b9 => ?_) (fun b9 => ?_)
    · replace h := (if_pos b9).symm.trans h
      refine V_sub X [0, 1, 2] (lv' := [(0, .ref (zad y (0, 0, 0))), (1, .int x6), (2, .int x2)]) rfl ?_
      cases h
      obtain rfl := pr1 hz
      exact hk
    · replace h := (if_neg b9).symm.trans h
      refine V_aload_n X 0 dX11_twins_30 rfl rfl ?_
      refine V_getr X (o := (0, 0, 0)) (i := (1, 0, 0)) (ci := 11) (k := 3) (N := 16) (T := TX11) (C := RX11) ⟨by decide, rfl⟩ rfl rfl rfl (by decide) (mBa inB_X11) (mB wl_RX11_77) dX11_twins_31 ?_
      refine V_getr X (o := (1, 0, 0)) (i := (2, 0, 0)) (ci := 7) (k := 0) (N := 11) (T := TX7) (C := RX7) ⟨(by decide), rfl⟩ rfl rfl rfl (by decide) (mBa inB_X7) (mB wl_RX11_158) dX11_twins_34 ?_
      refine V_iload_n X 2 dX11_twins_37 rfl rfl ?_
      obtain ⟨g10, h⟩ := gd_some h
      refine V_aald X x2.toNatClampNeg rfl (o := (2, 0, 0)) ⟨(by decide), rfl⟩ rfl rfl rfl rfl g10 dX11_twins_38 ?_
      refine V_geti X (o := (3, 0, x2.toNatClampNeg)) (ci := 5) (k := 1) (N := 11) (T := TX5) (C := RX5) ⟨(by decide), zin_lt g10⟩ rfl rfl rfl (by decide) (mBa inB_X5) (mB wl_RX11_361) dX11_twins_39 ?_
      refine V_aload_n X 0 dX11_twins_42 rfl rfl ?_
      refine V_getr X (o := (0, 0, 0)) (i := (1, 0, 0)) (ci := 11) (k := 3) (N := 16) (T := TX11) (C := RX11) ⟨by decide, rfl⟩ rfl rfl rfl (by decide) (mBa inB_X11) (mB wl_RX11_77) dX11_twins_43 ?_
      refine V_getr X (o := (1, 0, 0)) (i := (2, 0, 0)) (ci := 7) (k := 0) (N := 11) (T := TX7) (C := RX7) ⟨(by decide), rfl⟩ rfl rfl rfl (by decide) (mBa inB_X7) (mB wl_RX11_158) dX11_twins_46 ?_
      refine V_iload_n X 3 dX11_twins_49 rfl rfl ?_
      obtain ⟨g11, h⟩ := gd_some h
      refine V_aald X x7.toNatClampNeg rfl (o := (2, 0, 0)) ⟨(by decide), rfl⟩ rfl rfl rfl rfl g11 dX11_twins_50 ?_
      refine V_geti X (o := (3, 0, x7.toNatClampNeg)) (ci := 5) (k := 1) (N := 11) (T := TX5) (C := RX5) ⟨(by decide), zin_lt g11⟩ rfl rfl rfl (by decide) (mBa inB_X5) (mB wl_RX11_361) dX11_twins_51 ?_
      obtain ⟨x13, h1, h⟩ := bd_some h
      have hk : V X μ 89 [(0, .ref (zad y (0, 0, 0))), (1, .int x6), (2, .int x2), (3, .int x7)] [.int x13] := by
        clear h1
        refine V_istore X [(4, .int x13), (0, .ref (zad y (0, 0, 0))), (1, .int x6), (2, .int x2), (3, .int x7)] dX11_twins_89 (by decide) rfl ?_
        refine V_iload_n X 2 dX11_twins_91 rfl rfl ?_
        refine V_iload X 0 dX11_twins_92 rfl ?_
        obtain ⟨x17, h1, h⟩ := zl1_some h
        have hk : V X μ 102 [(0, .ref (zad y (0, 0, 0))), (2, .int x2), (3, .int x7)] [.int x17, .int x6] := by
          clear h1
          refine V_iadd X dX11_twins_102 ?_
          refine V_istore_n X [(1, .int (x6 + x17)), (0, .ref (zad y (0, 0, 0))), (2, .int x2), (3, .int x7)] dX11_twins_103 rfl (by decide) rfl ?_
          refine zlt_el (P := fun (x18 : Int32) => V X μ 104 [(1, .int x18), (0, .ref (zad y (0, 0, 0))), (2, .int x2), (3, .int x7)] []) h (fun x18 h => ?_)
          refine V_inc X 3 1 [(3, .int (x7 + 1)), (1, .int x18), (0, .ref (zad y (0, 0, 0))), (2, .int x2)] dX11_twins_104 rfl (by decide) (by decide) rfl ?_
          refine V_goto X (tgt := 19) dX11_twins_107 (by decide) ?_
          refine V_sub X [2, 1, 3, 0] (lv' := [(0, .ref (zad y (0, 0, 0))), (1, .int x18), (2, .int x2), (3, .int (x7 + 1))]) rfl ?_
          cases h
          exact hz
        replace h := h1
        clear h1
        refine V_if_eq X (tgt := 101) dX11_twins_94 (by decide) (fun b16 => ?_) (fun b16 => ?_)
        · replace h := (if_pos b16).symm.trans h
          refine V_iconst X 0 dX11_twins_101 (by decide) ?_
          refine V_sub X [1, 3, 4] (lv' := [(0, .ref (zad y (0, 0, 0))), (2, .int x2), (3, .int x7)]) rfl ?_
          obtain rfl := pr1 h
          exact hk
        · replace h := (if_neg b16).symm.trans h
          refine V_iconst X 1 dX11_twins_97 (by decide) ?_
          refine V_goto X (tgt := 102) dX11_twins_98 (by decide) ?_
          refine V_sub X [1, 3, 4] (lv' := [(0, .ref (zad y (0, 0, 0))), (2, .int x2), (3, .int x7)]) rfl ?_
          obtain rfl := pr1 h
          exact hk
      replace h := h1
      clear h1
      refine jk0_el (P := V X μ 88 [(0, .ref (zad y (0, 0, 0))), (1, .int x6), (2, .int x2), (3, .int x7)] []) h (fun h => ?_) (fun k14 hk14 h => ?_)
      · refine V_iconst X 0 dX11_twins_88 (by decide) ?_
        obtain rfl := so1 h
        exact hk
      · refine V_icmp_ne X (tgt := 88) dX11_twins_54 (by decide) (fun b12 => ?_) (fun b12 => ?_)
        · replace h := (if_neg b12).symm.trans h
          exact hk14 h
        · replace h := (if_pos b12).symm.trans h
          refine V_aload_n X 0 dX11_twins_57 rfl rfl ?_
          refine V_getr X (o := (0, 0, 0)) (i := (1, 0, 0)) (ci := 11) (k := 3) (N := 16) (T := TX11) (C := RX11) ⟨by decide, rfl⟩ rfl rfl rfl (by decide) (mBa inB_X11) (mB wl_RX11_77) dX11_twins_58 ?_
          refine V_getr X (o := (1, 0, 0)) (i := (2, 0, 0)) (ci := 7) (k := 0) (N := 11) (T := TX7) (C := RX7) ⟨(by decide), rfl⟩ rfl rfl rfl (by decide) (mBa inB_X7) (mB wl_RX11_158) dX11_twins_61 ?_
          refine V_iload_n X 2 dX11_twins_64 rfl rfl ?_
          refine V_aald X x2.toNatClampNeg rfl (o := (2, 0, 0)) ⟨(by decide), rfl⟩ rfl rfl rfl rfl g10 dX11_twins_65 ?_
          refine V_geti X (o := (3, 0, x2.toNatClampNeg)) (ci := 5) (k := 3) (N := 11) (T := TX5) (C := RX5) ⟨(by decide), zin_lt g10⟩ rfl rfl rfl (by decide) (mBa inB_X5) (mB wl_RX11_196) dX11_twins_66 ?_
          refine V_aload_n X 0 dX11_twins_69 rfl rfl ?_
          refine V_getr X (o := (0, 0, 0)) (i := (1, 0, 0)) (ci := 11) (k := 3) (N := 16) (T := TX11) (C := RX11) ⟨by decide, rfl⟩ rfl rfl rfl (by decide) (mBa inB_X11) (mB wl_RX11_77) dX11_twins_70 ?_
          refine V_getr X (o := (1, 0, 0)) (i := (2, 0, 0)) (ci := 7) (k := 0) (N := 11) (T := TX7) (C := RX7) ⟨(by decide), rfl⟩ rfl rfl rfl (by decide) (mBa inB_X7) (mB wl_RX11_158) dX11_twins_73 ?_
          refine V_iload_n X 3 dX11_twins_76 rfl rfl ?_
          refine V_aald X x7.toNatClampNeg rfl (o := (2, 0, 0)) ⟨(by decide), rfl⟩ rfl rfl rfl rfl g11 dX11_twins_77 ?_
          refine V_geti X (o := (3, 0, x7.toNatClampNeg)) (ci := 5) (k := 3) (N := 11) (T := TX5) (C := RX5) ⟨(by decide), zin_lt g11⟩ rfl rfl rfl (by decide) (mBa inB_X5) (mB wl_RX11_196) dX11_twins_78 ?_
          refine V_icmp_ne X (tgt := 88) dX11_twins_81 (by decide) (fun b15 => ?_) (fun b15 => ?_)
          · replace h := (if_neg b15).symm.trans h
            exact hk14 h
          · replace h := (if_pos b15).symm.trans h
            refine V_iconst X 1 dX11_twins_84 (by decide) ?_
            refine V_goto X (tgt := 89) dX11_twins_85 (by decide) ?_
            obtain rfl := so1 h
            exact hk

def f_X11_playDraft (y : ZLay) (a1 : Int32) (a2 : Int32) (μ : ZMem) : Option (ZMem) := bd (lp (σ := Int32 × ZMem) (fun q => un2 q (fun (x1 : Int32) (μ2 : ZMem) => if a1 ≤ x1 then some (.inr μ2) else bd2 (f_X9_play y 1 a2 μ2) (fun (x6 : Int32) (μ7 : ZMem) => some (.inl ((x1 + 1), μ7))))) FU (0, μ)) (fun (μ3 : ZMem) => some μ3)
set_option maxRecDepth 100000 in
set_option maxHeartbeats 4000000 in
theorem M_X11_playDraft {l : Launch} {D : va_G} {y : ZLay} {a1 : Int32} {a2 : Int32}  {μ : ZMem} {μ0 : ZMem} (h : f_X11_playDraft y a1 a2 μ = some μ0) : MV l yX11_playDraft wb_X11_playDraft rm_X11_playDraft D y [.ref (zad y (0, 0, 0)), .int a1, .int a2] μ μ0 := by
  unfold f_X11_playDraft at h
  refine MV_of RX11 [(0, .ref (zad y (0, 0, 0))), (1, .int a1), (2, .int a2)] (by decide) rfl rfl (Nat.le_of_ble_eq_true rfl) rfl ?_
  intro p e s m args below meth c A X
  refine V_iconst X 0 dX11_playDraft_0 (by decide) ?_
  refine V_istore_n X [(3, .int 0), (0, .ref (zad y (0, 0, 0))), (1, .int a1), (2, .int a2)] dX11_playDraft_1 rfl (by decide) rfl ?_
  refine V_sub X [1, 2, 3, 0] (lv' := [(0, .ref (zad y (0, 0, 0))), (1, .int a1), (2, .int a2), (3, .int 0)]) rfl ?_
  obtain ⟨μ3, hl, h⟩ := bd_some h
  have hk : V X μ3 26 [] [] := by
    clear hl
    exact V_vretW X h dX11_playDraft_26
  refine lp_ind (P := fun q => V X q.2 2 [(0, .ref (zad y (0, 0, 0))), (1, .int a1), (2, .int a2), (3, .int q.1)] []) (fun q z h hz => ?_) hl
  obtain ⟨x1, μ2⟩ := q
  replace h := un2_eq h
  show V X μ2 2 [(0, .ref (zad y (0, 0, 0))), (1, .int a1), (2, .int a2), (3, .int x1)] []
  refine V_iload_n X 3 dX11_playDraft_2 rfl rfl ?_
  refine V_iload_n X 1 dX11_playDraft_3 rfl rfl ?_
  refine V_icmp_ge X (tgt := 26) dX11_playDraft_4 (by decide) (fun b4 => ?_) (fun b4 => ?_)
  · replace h := (if_pos b4).symm.trans h
    refine V_sub X [] (lv' := []) rfl ?_
    cases h
    obtain rfl := pr1 hz
    exact hk
  · replace h := (if_neg b4).symm.trans h
    refine V_aload_n X 0 dX11_playDraft_7 rfl rfl ?_
    refine V_getr X (o := (0, 0, 0)) (i := (0, 4, 0)) (ci := 11) (k := 8) (N := 16) (T := TX11) (C := RX11) ⟨by decide, rfl⟩ rfl rfl rfl (by decide) (mBa inB_X11) (mB wl_RX11_20) dX11_playDraft_8 ?_
    refine V_aload_n X 0 dX11_playDraft_11 rfl rfl ?_
    refine V_getr X (o := (0, 0, 0)) (i := (1, 1, 0)) (ci := 11) (k := 4) (N := 16) (T := TX11) (C := RX11) ⟨by decide, rfl⟩ rfl rfl rfl (by decide) (mBa inB_X11) (mB wl_RX11_81) dX11_playDraft_12 ?_
    refine V_iload_n X 2 dX11_playDraft_15 rfl rfl ?_
    obtain ⟨x6, μ7, c5, h⟩ := bd2_some h
    refine V_callVi X (As := [.ref (zad y (1, 1, 0)), .int a2]) (M_X9_play (by decide) c5) (cwV 2 X.2.2.2.2.2.2.1 (gV wm_RX11_219 wi_X9_play wse_X9_play win_RX9 wc_X9_play) rfl rfl rfl hd_X9_play ⟨Nat.le_of_ble_eq_true rfl, Nat.le_of_ble_eq_true rfl⟩) (b := (0, 4, 0)) ⟨by decide, rfl⟩ rfl rfl rfl rfl (Nat.le_of_ble_eq_true rfl) dX11_playDraft_16 rfl ?_
    refine V_pop X dX11_playDraft_19 rfl ?_
    refine V_inc X 3 1 [(3, .int (x1 + 1)), (0, .ref (zad y (0, 0, 0))), (1, .int a1), (2, .int a2)] dX11_playDraft_20 rfl (by decide) (by decide) rfl ?_
    refine V_goto X (tgt := 2) dX11_playDraft_23 (by decide) ?_
    refine V_sub X [1, 2, 3, 0] (lv' := [(0, .ref (zad y (0, 0, 0))), (1, .int a1), (2, .int a2), (3, .int (x1 + 1))]) rfl ?_
    cases h
    exact hz

def f_X11_ahead (y : ZLay) (a1 : Int32) (a2 : Int32) (a3 : Int32) (μ : ZMem) : Option ((Int32 ⊕ Nat) × ZMem) := bd (f_X11_isNode a1 μ) (fun (x2 : Int32) => if x2 = 0 then some (.inr 3, μ) else bd (f_X11_isAhead a2) (fun (x5 : Int32) => if x5 = 0 then some (.inr 1, μ) else bd (f_X7_copyFrom 1 0 μ) (fun (μ8 : ZMem) => bd (f_X11_playDraft y a2 0 μ8) (fun (μ10 : ZMem) => bd (α := Int32) (if a3 = 0 then gd (zin a1 8) (some (μ10 (3, 1, a1.toNatClampNeg) 0)) else gd (zin a1 8) (some (μ10 (3, 1, a1.toNatClampNeg) 3))) (fun (x12 : Int32) => some (.inl x12, μ10))))))
set_option maxRecDepth 100000 in
set_option maxHeartbeats 4000000 in
theorem M_X11_ahead {l : Launch} {D : va_G} {y : ZLay} {a1 : Int32} {a2 : Int32} {a3 : Int32}  {μ : ZMem} {res : Int32 ⊕ Nat} {μ0 : ZMem} (hlf : l.stackTraces = false) (h : f_X11_ahead y a1 a2 a3 μ = some (res, μ0)) : MX l yX11_ahead wb_X11_ahead rm_X11_ahead D y [.ref (zad y (0, 0, 0)), .int a1, .int a2, .int a3] μ res μ0 := by
  unfold f_X11_ahead at h
  refine MX_of RX11 [(0, .ref (zad y (0, 0, 0))), (1, .int a1), (2, .int a2), (3, .int a3)] (by decide) rfl rfl (Nat.le_of_ble_eq_true rfl) rfl ?_
  intro p e s m args below meth c A X hex
  refine V_aload_n X 0 dX11_ahead_0 rfl rfl ?_
  refine V_iload_n X 1 dX11_ahead_1 rfl rfl ?_
  obtain ⟨x2, c1, h⟩ := bd_some h
  refine V_callVi X (As := [.int a1]) (M_X11_isNode c1) (cwV 1 X.2.2.2.2.2.2.1 (gV wm_RX11_148 wi_X11_isNode wse_X11_isNode win_RX11 wc_X11_isNode) rfl rfl rfl hd_X11_isNode ⟨Nat.le_of_ble_eq_true rfl, Nat.le_of_ble_eq_true rfl⟩) (b := (0, 0, 0)) ⟨by decide, rfl⟩ rfl rfl rfl rfl (Nat.le_of_ble_eq_true rfl) dX11_ahead_2 rfl ?_
  refine V_if_ne X (tgt := 16) dX11_ahead_5 (by decide) (fun b3 => ?_) (fun b3 => ?_)
  · replace h := (if_neg b3).symm.trans h
    refine V_iload_n X 2 dX11_ahead_16 rfl rfl ?_
    obtain ⟨x5, c4, h⟩ := bd_some h
    refine V_callSi X (As := [.int a2]) (M_X11_isAhead c4) (va_cwS 1 X.2.2.2.2.2.2.1 (gS wm_RX11_280 wst_X11_isAhead win_RX11 wc_X11_isAhead) rfl rfl rfl hd_X11_isAhead.2 ⟨Nat.le_of_ble_eq_true rfl, Nat.le_of_ble_eq_true rfl⟩) rfl (Nat.le_of_ble_eq_true rfl) dX11_ahead_17 rfl ?_
    refine V_if_ne X (tgt := 31) dX11_ahead_20 (by decide) (fun b6 => ?_) (fun b6 => ?_)
    · replace h := (if_neg b6).symm.trans h
      refine V_aload_n X 0 dX11_ahead_31 rfl rfl ?_
      refine V_getr X (o := (0, 0, 0)) (i := (1, 1, 0)) (ci := 11) (k := 4) (N := 16) (T := TX11) (C := RX11) ⟨by decide, rfl⟩ rfl rfl rfl (by decide) (mBa inB_X11) (mB wl_RX11_81) dX11_ahead_32 ?_
      refine V_aload_n X 0 dX11_ahead_35 rfl rfl ?_
      refine V_getr X (o := (0, 0, 0)) (i := (1, 0, 0)) (ci := 11) (k := 3) (N := 16) (T := TX11) (C := RX11) ⟨by decide, rfl⟩ rfl rfl rfl (by decide) (mBa inB_X11) (mB wl_RX11_77) dX11_ahead_36 ?_
      obtain ⟨μ8, c7, h⟩ := bd_some h
      refine V_callVv X (As := [.ref (zad y (1, 0, 0))]) (M_X7_copyFrom (by decide) (by decide) c7) (cwV 1 X.2.2.2.2.2.2.1 (gV wm_RX11_109 wi_X7_copyFrom wse_X7_copyFrom win_RX7 wc_X7_copyFrom) rfl rfl rfl hd_X7_copyFrom ⟨Nat.le_of_ble_eq_true rfl, Nat.le_of_ble_eq_true rfl⟩) (b := (1, 1, 0)) ⟨(by decide), rfl⟩ rfl rfl rfl rfl (Nat.le_of_ble_eq_true rfl) dX11_ahead_39 rfl ?_
      refine V_aload_n X 0 dX11_ahead_42 rfl rfl ?_
      refine V_iload_n X 2 dX11_ahead_43 rfl rfl ?_
      refine V_iconst X 0 dX11_ahead_44 (by decide) ?_
      obtain ⟨μ10, c9, h⟩ := bd_some h
      refine V_callVv X (As := [.int a2, .int 0]) (M_X11_playDraft c9) (cwV 2 X.2.2.2.2.2.2.1 (gV wm_RX11_367 wi_X11_playDraft wse_X11_playDraft win_RX11 wc_X11_playDraft) rfl rfl rfl hd_X11_playDraft ⟨Nat.le_of_ble_eq_true rfl, Nat.le_of_ble_eq_true rfl⟩) (b := (0, 0, 0)) ⟨by decide, rfl⟩ rfl rfl rfl rfl (Nat.le_of_ble_eq_true rfl) dX11_ahead_45 rfl ?_
      refine V_iload_n X 3 dX11_ahead_48 rfl rfl ?_
      obtain ⟨x12, h1, h⟩ := bd_some h
      have hk : V X μ10 79 [] [.int x12] := by
        clear h1
        exact V_iretX X h dX11_ahead_79
      replace h := h1
      clear h1
      refine V_if_eq X (tgt := 67) dX11_ahead_49 (by decide) (fun b11 => ?_) (fun b11 => ?_)
      · replace h := (if_pos b11).symm.trans h
        refine V_aload_n X 0 dX11_ahead_67 rfl rfl ?_
        refine V_getr X (o := (0, 0, 0)) (i := (1, 1, 0)) (ci := 11) (k := 4) (N := 16) (T := TX11) (C := RX11) ⟨by decide, rfl⟩ rfl rfl rfl (by decide) (mBa inB_X11) (mB wl_RX11_81) dX11_ahead_68 ?_
        refine V_getr X (o := (1, 1, 0)) (i := (2, 1, 0)) (ci := 7) (k := 0) (N := 11) (T := TX7) (C := RX7) ⟨(by decide), rfl⟩ rfl rfl rfl (by decide) (mBa inB_X7) (mB wl_RX11_158) dX11_ahead_71 ?_
        refine V_iload_n X 1 dX11_ahead_74 rfl rfl ?_
        obtain ⟨g13, h⟩ := gd_some h
        refine V_aald X a1.toNatClampNeg rfl (o := (2, 1, 0)) ⟨(by decide), rfl⟩ rfl rfl rfl rfl g13 dX11_ahead_75 ?_
        refine V_geti X (o := (3, 1, a1.toNatClampNeg)) (ci := 5) (k := 0) (N := 11) (T := TX5) (C := RX5) ⟨(by decide), zin_lt g13⟩ rfl rfl rfl (by decide) (mBa inB_X5) (mB wl_RX11_253) dX11_ahead_76 ?_
        refine V_sub X [] (lv' := []) rfl ?_
        obtain rfl := so1 h
        exact hk
      · replace h := (if_neg b11).symm.trans h
        refine V_aload_n X 0 dX11_ahead_52 rfl rfl ?_
        refine V_getr X (o := (0, 0, 0)) (i := (1, 1, 0)) (ci := 11) (k := 4) (N := 16) (T := TX11) (C := RX11) ⟨by decide, rfl⟩ rfl rfl rfl (by decide) (mBa inB_X11) (mB wl_RX11_81) dX11_ahead_53 ?_
        refine V_getr X (o := (1, 1, 0)) (i := (2, 1, 0)) (ci := 7) (k := 0) (N := 11) (T := TX7) (C := RX7) ⟨(by decide), rfl⟩ rfl rfl rfl (by decide) (mBa inB_X7) (mB wl_RX11_158) dX11_ahead_56 ?_
        refine V_iload_n X 1 dX11_ahead_59 rfl rfl ?_
        obtain ⟨g14, h⟩ := gd_some h
        refine V_aald X a1.toNatClampNeg rfl (o := (2, 1, 0)) ⟨(by decide), rfl⟩ rfl rfl rfl rfl g14 dX11_ahead_60 ?_
        refine V_geti X (o := (3, 1, a1.toNatClampNeg)) (ci := 5) (k := 3) (N := 11) (T := TX5) (C := RX5) ⟨(by decide), zin_lt g14⟩ rfl rfl rfl (by decide) (mBa inB_X5) (mB wl_RX11_196) dX11_ahead_61 ?_
        refine V_goto X (tgt := 79) dX11_ahead_64 (by decide) ?_
        refine V_sub X [] (lv' := []) rfl ?_
        obtain rfl := so1 h
        exact hk
    · replace h := (if_pos b6).symm.trans h
      exact V_throw X hex hlf (ik := 119) (ic := 121) 1 h (by decide +kernel) (by decide +kernel) (mB wcl_RX11_119) (mB wine_1) (mBa wx_1) wx_n1 wx_g1 dX11_ahead_23 dX11_ahead_26 dX11_ahead_27 dX11_ahead_30 (Nat.le_of_ble_eq_true rfl) (Nat.le_of_ble_eq_true rfl) (Nat.le_of_ble_eq_true rfl) (Nat.le_of_ble_eq_true rfl)
  · replace h := (if_pos b3).symm.trans h
    exact V_throw X hex hlf (ik := 152) (ic := 154) 3 h (by decide +kernel) (by decide +kernel) (mB wcl_RX11_152) (mB wine_3) (mBa wx_3) wx_n3 wx_g3 dX11_ahead_8 dX11_ahead_11 dX11_ahead_12 dX11_ahead_15 (Nat.le_of_ble_eq_true rfl) (Nat.le_of_ble_eq_true rfl) (Nat.le_of_ble_eq_true rfl) (Nat.le_of_ble_eq_true rfl)

def f_X11_trial (y : ZLay) (a1 : Int32) (a2 : Int32) (μ : ZMem) : Option ((Int32 ⊕ Nat) × ZMem) := bd (f_X11_isAhead a1) (fun (x2 : Int32) => if x2 = 0 then some (.inr 1, μ) else bd (f_X7_copyFrom 1 0 μ) (fun (μ5 : ZMem) => bd (f_X11_playDraft y a1 1 μ5) (fun (μ7 : ZMem) => bd (α := Int32) (if a2 = 0 then bd (f_X7_inState 1 2 μ7) (fun (x11 : Int32) => some x11) else bd (f_X7_spreadOfClocks 1 μ7) (fun (x13 : Int32) => some x13)) (fun (x9 : Int32) => some (.inl x9, μ7)))))
set_option maxRecDepth 100000 in
set_option maxHeartbeats 4000000 in
theorem M_X11_trial {l : Launch} {D : va_G} {y : ZLay} {a1 : Int32} {a2 : Int32}  {μ : ZMem} {res : Int32 ⊕ Nat} {μ0 : ZMem} (hlf : l.stackTraces = false) (h : f_X11_trial y a1 a2 μ = some (res, μ0)) : MX l yX11_trial wb_X11_trial rm_X11_trial D y [.ref (zad y (0, 0, 0)), .int a1, .int a2] μ res μ0 := by
  unfold f_X11_trial at h
  refine MX_of RX11 [(0, .ref (zad y (0, 0, 0))), (1, .int a1), (2, .int a2)] (by decide) rfl rfl (Nat.le_of_ble_eq_true rfl) rfl ?_
  intro p e s m args below meth c A X hex
  refine V_iload_n X 1 dX11_trial_0 rfl rfl ?_
  obtain ⟨x2, c1, h⟩ := bd_some h
  refine V_callSi X (As := [.int a1]) (M_X11_isAhead c1) (va_cwS 1 X.2.2.2.2.2.2.1 (gS wm_RX11_280 wst_X11_isAhead win_RX11 wc_X11_isAhead) rfl rfl rfl hd_X11_isAhead.2 ⟨Nat.le_of_ble_eq_true rfl, Nat.le_of_ble_eq_true rfl⟩) rfl (Nat.le_of_ble_eq_true rfl) dX11_trial_1 rfl ?_
  refine V_if_ne X (tgt := 15) dX11_trial_4 (by decide) (fun b3 => ?_) (fun b3 => ?_)
  · replace h := (if_neg b3).symm.trans h
    refine V_aload_n X 0 dX11_trial_15 rfl rfl ?_
    refine V_getr X (o := (0, 0, 0)) (i := (1, 1, 0)) (ci := 11) (k := 4) (N := 16) (T := TX11) (C := RX11) ⟨by decide, rfl⟩ rfl rfl rfl (by decide) (mBa inB_X11) (mB wl_RX11_81) dX11_trial_16 ?_
    refine V_aload_n X 0 dX11_trial_19 rfl rfl ?_
    refine V_getr X (o := (0, 0, 0)) (i := (1, 0, 0)) (ci := 11) (k := 3) (N := 16) (T := TX11) (C := RX11) ⟨by decide, rfl⟩ rfl rfl rfl (by decide) (mBa inB_X11) (mB wl_RX11_77) dX11_trial_20 ?_
    obtain ⟨μ5, c4, h⟩ := bd_some h
    refine V_callVv X (As := [.ref (zad y (1, 0, 0))]) (M_X7_copyFrom (by decide) (by decide) c4) (cwV 1 X.2.2.2.2.2.2.1 (gV wm_RX11_109 wi_X7_copyFrom wse_X7_copyFrom win_RX7 wc_X7_copyFrom) rfl rfl rfl hd_X7_copyFrom ⟨Nat.le_of_ble_eq_true rfl, Nat.le_of_ble_eq_true rfl⟩) (b := (1, 1, 0)) ⟨(by decide), rfl⟩ rfl rfl rfl rfl (Nat.le_of_ble_eq_true rfl) dX11_trial_23 rfl ?_
    refine V_aload_n X 0 dX11_trial_26 rfl rfl ?_
    refine V_iload_n X 1 dX11_trial_27 rfl rfl ?_
    refine V_iconst X 1 dX11_trial_28 (by decide) ?_
    obtain ⟨μ7, c6, h⟩ := bd_some h
    refine V_callVv X (As := [.int a1, .int 1]) (M_X11_playDraft c6) (cwV 2 X.2.2.2.2.2.2.1 (gV wm_RX11_367 wi_X11_playDraft wse_X11_playDraft win_RX11 wc_X11_playDraft) rfl rfl rfl hd_X11_playDraft ⟨Nat.le_of_ble_eq_true rfl, Nat.le_of_ble_eq_true rfl⟩) (b := (0, 0, 0)) ⟨by decide, rfl⟩ rfl rfl rfl rfl (Nat.le_of_ble_eq_true rfl) dX11_trial_29 rfl ?_
    refine V_iload_n X 2 dX11_trial_32 rfl rfl ?_
    obtain ⟨x9, h1, h⟩ := bd_some h
    have hk : V X μ7 54 [] [.int x9] := by
      clear h1
      exact V_iretX X h dX11_trial_54
    replace h := h1
    clear h1
    refine V_if_eq X (tgt := 46) dX11_trial_33 (by decide) (fun b8 => ?_) (fun b8 => ?_)
    · replace h := (if_pos b8).symm.trans h
      refine V_aload_n X 0 dX11_trial_46 rfl rfl ?_
      refine V_getr X (o := (0, 0, 0)) (i := (1, 1, 0)) (ci := 11) (k := 4) (N := 16) (T := TX11) (C := RX11) ⟨by decide, rfl⟩ rfl rfl rfl (by decide) (mBa inB_X11) (mB wl_RX11_81) dX11_trial_47 ?_
      refine V_iconst X 2 dX11_trial_50 (by decide) ?_
      obtain ⟨x11, c10, h⟩ := bd_some h
      refine V_callVi X (As := [.int 2]) (M_X7_inState (by decide) c10) (cwV 1 X.2.2.2.2.2.2.1 (gV wm_RX11_272 wi_X7_inState wse_X7_inState win_RX7 wc_X7_inState) rfl rfl rfl hd_X7_inState ⟨Nat.le_of_ble_eq_true rfl, Nat.le_of_ble_eq_true rfl⟩) (b := (1, 1, 0)) ⟨(by decide), rfl⟩ rfl rfl rfl rfl (Nat.le_of_ble_eq_true rfl) dX11_trial_51 rfl ?_
      refine V_sub X [] (lv' := []) rfl ?_
      obtain rfl := so1 h
      exact hk
    · replace h := (if_neg b8).symm.trans h
      refine V_aload_n X 0 dX11_trial_36 rfl rfl ?_
      refine V_getr X (o := (0, 0, 0)) (i := (1, 1, 0)) (ci := 11) (k := 4) (N := 16) (T := TX11) (C := RX11) ⟨by decide, rfl⟩ rfl rfl rfl (by decide) (mBa inB_X11) (mB wl_RX11_81) dX11_trial_37 ?_
      obtain ⟨x13, c12, h⟩ := bd_some h
      refine V_callVi X (As := []) (M_X7_spreadOfClocks (by decide) c12) (cwV 0 X.2.2.2.2.2.2.1 (gV wm_RX11_266 wi_X7_spreadOfClocks wse_X7_spreadOfClocks win_RX7 wc_X7_spreadOfClocks) rfl rfl rfl hd_X7_spreadOfClocks ⟨Nat.le_of_ble_eq_true rfl, Nat.le_of_ble_eq_true rfl⟩) (b := (1, 1, 0)) ⟨(by decide), rfl⟩ rfl rfl rfl rfl (Nat.le_of_ble_eq_true rfl) dX11_trial_40 rfl ?_
      refine V_goto X (tgt := 54) dX11_trial_43 (by decide) ?_
      refine V_sub X [] (lv' := []) rfl ?_
      obtain rfl := so1 h
      exact hk
  · replace h := (if_pos b3).symm.trans h
    exact V_throw X hex hlf (ik := 119) (ic := 121) 1 h (by decide +kernel) (by decide +kernel) (mB wcl_RX11_119) (mB wine_1) (mBa wx_1) wx_n1 wx_g1 dX11_trial_7 dX11_trial_10 dX11_trial_11 dX11_trial_14 (Nat.le_of_ble_eq_true rfl) (Nat.le_of_ble_eq_true rfl) (Nat.le_of_ble_eq_true rfl) (Nat.le_of_ble_eq_true rfl)

def f_X11_span (y : ZLay) (a1 : Int32) (a2 : Int32) (μ : ZMem) : Option ((Int32 ⊕ Nat) × ZMem) := bd (f_X11_isAhead a1) (fun (x2 : Int32) => if x2 = 0 then some (.inr 1, μ) else zlt (α := Int32) (if a2 = 0 then 8 else 0) (fun (x5 : Int32) => bd2 (lp (σ := Int32 × Int32 × ZMem) (fun q => un3 q (fun (x6 : Int32) (x7 : Int32) (μ8 : ZMem) => if 6 < x7 then some (.inr (x6, μ8)) else bd (f_X7_copyFrom 1 0 μ8) (fun (μ13 : ZMem) => zlt (mset μ13 (1, 1, 0) 8 x7) (fun (μ14 : ZMem) => bd (f_X11_playDraft y a1 1 μ14) (fun (μ16 : ZMem) => bd (f_X7_inState 1 2 μ16) (fun (x18 : Int32) => zlt (f_J6_bitCount_0f7a4 x18) (fun (x19 : Int32) => zlt (α := Int32) (if a2 = 0 then (zmin x6 x19) else (zmax x6 x19)) (fun (x21 : Int32) => some (.inl (x21, (x7 + 1), μ16)))))))))) FU (x5, 1, μ)) (fun (x9 : Int32) (μ10 : ZMem) => some (.inl x9, μ10))))
set_option maxRecDepth 100000 in
set_option maxHeartbeats 4000000 in
theorem M_X11_span {l : Launch} {D : va_G} {y : ZLay} {a1 : Int32} {a2 : Int32}  {μ : ZMem} {res : Int32 ⊕ Nat} {μ0 : ZMem} (hlf : l.stackTraces = false) (h : f_X11_span y a1 a2 μ = some (res, μ0)) : MX l yX11_span wb_X11_span rm_X11_span D y [.ref (zad y (0, 0, 0)), .int a1, .int a2] μ res μ0 := by
  unfold f_X11_span at h
  refine MX_of RX11 [(0, .ref (zad y (0, 0, 0))), (1, .int a1), (2, .int a2)] (by decide) rfl rfl (Nat.le_of_ble_eq_true rfl) rfl ?_
  intro p e s m args below meth c A X hex
  refine V_iload_n X 1 dX11_span_0 rfl rfl ?_
  obtain ⟨x2, c1, h⟩ := bd_some h
  refine V_callSi X (As := [.int a1]) (M_X11_isAhead c1) (va_cwS 1 X.2.2.2.2.2.2.1 (gS wm_RX11_280 wst_X11_isAhead win_RX11 wc_X11_isAhead) rfl rfl rfl hd_X11_isAhead.2 ⟨Nat.le_of_ble_eq_true rfl, Nat.le_of_ble_eq_true rfl⟩) rfl (Nat.le_of_ble_eq_true rfl) dX11_span_1 rfl ?_
  refine V_if_ne X (tgt := 15) dX11_span_4 (by decide) (fun b3 => ?_) (fun b3 => ?_)
  · replace h := (if_neg b3).symm.trans h
    refine V_iload_n X 2 dX11_span_15 rfl rfl ?_
    obtain ⟨x5, h1, h⟩ := zl1_some h
    have hk : V X μ 25 [(0, .ref (zad y (0, 0, 0))), (1, .int a1), (2, .int a2)] [.int x5] := by
      clear h1
      refine V_istore_n X [(3, .int x5), (0, .ref (zad y (0, 0, 0))), (1, .int a1), (2, .int a2)] dX11_span_25 rfl (by decide) rfl ?_
      refine V_iconst X 1 dX11_span_26 (by decide) ?_
      refine V_istore X [(4, .int 1), (3, .int x5), (0, .ref (zad y (0, 0, 0))), (1, .int a1), (2, .int a2)] dX11_span_27 (by decide) rfl ?_
      refine V_sub X [2, 3, 4, 1, 0] (lv' := [(0, .ref (zad y (0, 0, 0))), (1, .int a1), (2, .int a2), (3, .int x5), (4, .int 1)]) rfl ?_
      obtain ⟨x9, μ10, hl, h⟩ := bd2_some h
      have hk : V X μ10 101 [(3, .int x9)] [] := by
        clear hl
        refine V_iload_n X 0 dX11_span_101 rfl rfl ?_
        exact V_iretX X h dX11_span_102
      refine lp_ind (P := fun q => V X q.2.2 29 [(0, .ref (zad y (0, 0, 0))), (1, .int a1), (2, .int a2), (3, .int q.1), (4, .int q.2.1)] []) (fun q z h hz => ?_) hl
      obtain ⟨x6, x7, μ8⟩ := q
      replace h := un3_eq h
      show V X μ8 29 [(0, .ref (zad y (0, 0, 0))), (1, .int a1), (2, .int a2), (3, .int x6), (4, .int x7)] []
      refine V_iload X 4 dX11_span_29 rfl ?_
      refine V_bipush X 6 dX11_span_31 (by decide) ?_
      refine V_icmp_gt X (tgt := 101) dX11_span_33 (by decide) (fun b11 => ?_) (fun b11 => ?_)
      · replace h := (if_pos b11).symm.trans h
        refine V_sub X [3] (lv' := [(3, .int x6)]) rfl ?_
        cases h
        obtain ⟨rfl, rfl⟩ := pr2 hz
        exact hk
      · replace h := (if_neg b11).symm.trans h
        refine V_aload_n X 0 dX11_span_36 rfl rfl ?_
        refine V_getr X (o := (0, 0, 0)) (i := (1, 1, 0)) (ci := 11) (k := 4) (N := 16) (T := TX11) (C := RX11) ⟨by decide, rfl⟩ rfl rfl rfl (by decide) (mBa inB_X11) (mB wl_RX11_81) dX11_span_37 ?_
        refine V_aload_n X 0 dX11_span_40 rfl rfl ?_
        refine V_getr X (o := (0, 0, 0)) (i := (1, 0, 0)) (ci := 11) (k := 3) (N := 16) (T := TX11) (C := RX11) ⟨by decide, rfl⟩ rfl rfl rfl (by decide) (mBa inB_X11) (mB wl_RX11_77) dX11_span_41 ?_
        obtain ⟨μ13, c12, h⟩ := bd_some h
        refine V_callVv X (As := [.ref (zad y (1, 0, 0))]) (M_X7_copyFrom (by decide) (by decide) c12) (cwV 1 X.2.2.2.2.2.2.1 (gV wm_RX11_109 wi_X7_copyFrom wse_X7_copyFrom win_RX7 wc_X7_copyFrom) rfl rfl rfl hd_X7_copyFrom ⟨Nat.le_of_ble_eq_true rfl, Nat.le_of_ble_eq_true rfl⟩) (b := (1, 1, 0)) ⟨(by decide), rfl⟩ rfl rfl rfl rfl (Nat.le_of_ble_eq_true rfl) dX11_span_44 rfl ?_
        refine V_aload_n X 0 dX11_span_47 rfl rfl ?_
        refine V_getr X (o := (0, 0, 0)) (i := (1, 1, 0)) (ci := 11) (k := 4) (N := 16) (T := TX11) (C := RX11) ⟨by decide, rfl⟩ rfl rfl rfl (by decide) (mBa inB_X11) (mB wl_RX11_81) dX11_span_48 ?_
        refine V_iload X 4 dX11_span_51 rfl ?_
        refine V_puti X tyX7 .int (o := (1, 1, 0)) (ci := 7) (k := 8) (N := 11) (T := TX7) (C := RX7) ⟨(by decide), rfl⟩ rfl rfl rfl (by decide) (mBa inB_X7) tyX7_ok nmX7 (mB wl_RX11_371) rfl rfl rfl rfl dX11_span_53 ?_
        refine zlt_el (P := fun (μ14 : ZMem) => V X μ14 56 [(0, .ref (zad y (0, 0, 0))), (1, .int a1), (2, .int a2), (3, .int x6), (4, .int x7)] []) h (fun μ14 h => ?_)
        refine V_aload_n X 0 dX11_span_56 rfl rfl ?_
        refine V_iload_n X 1 dX11_span_57 rfl rfl ?_
        refine V_iconst X 1 dX11_span_58 (by decide) ?_
        obtain ⟨μ16, c15, h⟩ := bd_some h
        refine V_callVv X (As := [.int a1, .int 1]) (M_X11_playDraft c15) (cwV 2 X.2.2.2.2.2.2.1 (gV wm_RX11_367 wi_X11_playDraft wse_X11_playDraft win_RX11 wc_X11_playDraft) rfl rfl rfl hd_X11_playDraft ⟨Nat.le_of_ble_eq_true rfl, Nat.le_of_ble_eq_true rfl⟩) (b := (0, 0, 0)) ⟨by decide, rfl⟩ rfl rfl rfl rfl (Nat.le_of_ble_eq_true rfl) dX11_span_59 rfl ?_
        refine V_aload_n X 0 dX11_span_62 rfl rfl ?_
        refine V_getr X (o := (0, 0, 0)) (i := (1, 1, 0)) (ci := 11) (k := 4) (N := 16) (T := TX11) (C := RX11) ⟨by decide, rfl⟩ rfl rfl rfl (by decide) (mBa inB_X11) (mB wl_RX11_81) dX11_span_63 ?_
        refine V_iconst X 2 dX11_span_66 (by decide) ?_
        obtain ⟨x18, c17, h⟩ := bd_some h
        refine V_callVi X (As := [.int 2]) (M_X7_inState (by decide) c17) (cwV 1 X.2.2.2.2.2.2.1 (gV wm_RX11_272 wi_X7_inState wse_X7_inState win_RX7 wc_X7_inState) rfl rfl rfl hd_X7_inState ⟨Nat.le_of_ble_eq_true rfl, Nat.le_of_ble_eq_true rfl⟩) (b := (1, 1, 0)) ⟨(by decide), rfl⟩ rfl rfl rfl rfl (Nat.le_of_ble_eq_true rfl) dX11_span_67 rfl ?_
        refine V_callSi X (As := [.int x18]) (M_J6_bitCount_0f7a4) (va_cwS 1 X.2.2.2.2.2.2.1 (gS wm_RX11_275 wst_J6_bitCount_0f7a4 win_RJ6 wc_J6_bitCount_0f7a4) rfl rfl rfl hd_J6_bitCount_0f7a4.2 ⟨Nat.le_of_ble_eq_true rfl, Nat.le_of_ble_eq_true rfl⟩) rfl (Nat.le_of_ble_eq_true rfl) dX11_span_70 rfl ?_
        refine V_istore X [(5, .int (f_J6_bitCount_0f7a4 x18)), (0, .ref (zad y (0, 0, 0))), (1, .int a1), (2, .int a2), (3, .int x6), (4, .int x7)] dX11_span_73 (by decide) rfl ?_
        refine zlt_el (P := fun (x19 : Int32) => V X μ16 75 [(5, .int x19), (0, .ref (zad y (0, 0, 0))), (1, .int a1), (2, .int a2), (3, .int x6), (4, .int x7)] []) h (fun x19 h => ?_)
        refine V_iload_n X 3 dX11_span_75 rfl rfl ?_
        obtain ⟨x21, h1, h⟩ := zl1_some h
        have hk : V X μ16 94 [(0, .ref (zad y (0, 0, 0))), (1, .int a1), (2, .int a2), (4, .int x7)] [.int x21] := by
          clear h1
          refine V_istore_n X [(3, .int x21), (0, .ref (zad y (0, 0, 0))), (1, .int a1), (2, .int a2), (4, .int x7)] dX11_span_94 rfl (by decide) rfl ?_
          refine V_inc X 4 1 [(4, .int (x7 + 1)), (3, .int x21), (0, .ref (zad y (0, 0, 0))), (1, .int a1), (2, .int a2)] dX11_span_95 rfl (by decide) (by decide) rfl ?_
          refine V_goto X (tgt := 29) dX11_span_98 (by decide) ?_
          refine V_sub X [2, 3, 4, 1, 0] (lv' := [(0, .ref (zad y (0, 0, 0))), (1, .int a1), (2, .int a2), (3, .int x21), (4, .int (x7 + 1))]) rfl ?_
          cases h
          exact hz
        replace h := h1
        clear h1
        refine V_if_eq X (tgt := 88) dX11_span_76 (by decide) (fun b20 => ?_) (fun b20 => ?_)
        · replace h := (if_pos b20).symm.trans h
          refine V_iload_n X 4 dX11_span_88 rfl rfl ?_
          refine V_iload X 0 dX11_span_89 rfl ?_
          refine V_zmin X (ix := 229) (mB wm_RX11_229) (mB wst_Math_min) (mB win_Math) (mB wc_Math_min) (Nat.le_of_ble_eq_true rfl) (Nat.le_of_ble_eq_true rfl) dX11_span_91 ?_
          refine V_sub X [1, 2, 3, 5] (lv' := [(0, .ref (zad y (0, 0, 0))), (1, .int a1), (2, .int a2), (4, .int x7)]) rfl ?_
          obtain rfl := pr1 h
          exact hk
        · replace h := (if_neg b20).symm.trans h
          refine V_iload_n X 4 dX11_span_79 rfl rfl ?_
          refine V_iload X 0 dX11_span_80 rfl ?_
          refine V_zmax X (ix := 283) (mB wm_RX11_283) (mB wst_Math_max) (mB win_Math) (mB wc_Math_max) (Nat.le_of_ble_eq_true rfl) (Nat.le_of_ble_eq_true rfl) dX11_span_82 ?_
          refine V_goto X (tgt := 94) dX11_span_85 (by decide) ?_
          refine V_sub X [1, 2, 3, 5] (lv' := [(0, .ref (zad y (0, 0, 0))), (1, .int a1), (2, .int a2), (4, .int x7)]) rfl ?_
          obtain rfl := pr1 h
          exact hk
    replace h := h1
    clear h1
    refine V_if_eq X (tgt := 23) dX11_span_16 (by decide) (fun b4 => ?_) (fun b4 => ?_)
    · replace h := (if_pos b4).symm.trans h
      refine V_bipush X 8 dX11_span_23 (by decide) ?_
      obtain rfl := pr1 h
      exact hk
    · replace h := (if_neg b4).symm.trans h
      refine V_iconst X 0 dX11_span_19 (by decide) ?_
      refine V_goto X (tgt := 25) dX11_span_20 (by decide) ?_
      obtain rfl := pr1 h
      exact hk
  · replace h := (if_pos b3).symm.trans h
    exact V_throw X hex hlf (ik := 119) (ic := 121) 1 h (by decide +kernel) (by decide +kernel) (mB wcl_RX11_119) (mB wine_1) (mBa wx_1) wx_n1 wx_g1 dX11_span_7 dX11_span_10 dX11_span_11 dX11_span_14 (Nat.le_of_ble_eq_true rfl) (Nat.le_of_ble_eq_true rfl) (Nat.le_of_ble_eq_true rfl) (Nat.le_of_ble_eq_true rfl)

def f_X11_led (a1 : Int32) (a2 : Int32) (μ : ZMem) : Option ((Int32 ⊕ Nat) × ZMem) := bd (f_X11_isNode a1 μ) (fun (x2 : Int32) => if x2 = 0 then some (.inr 3, μ) else zlt ((μ (1, 0, 0) 2) - 1) (fun (x4 : Int32) => bd2 (lp (σ := Int32 × Int32 × Int32) (fun q => un3 q (fun (x5 : Int32) (x6 : Int32) (x7 : Int32) => if x7 < 0 then some (.inr (x5, x6)) else bd (f_X7_rowOf 0 x7 1 μ) (fun (x12 : Int32) => bd2 (α := Int32) (β := Int32) (if x12 = a1 then bd (f_X7_rowOf 0 x7 0 μ) (fun (x17 : Int32) => some ((x5 + 1), x17)) else some (x5, x6)) (fun (x14 : Int32) (x15 : Int32) => some (.inl (x14, x15, (x7 + (-1)))))))) FU (0, (-1), x4)) (fun (x8 : Int32) (x9 : Int32) => zlt (α := Int32) (if a2 = 0 then x8 else x9) (fun (x19 : Int32) => some (.inl x19, μ)))))
set_option maxRecDepth 100000 in
set_option maxHeartbeats 4000000 in
theorem M_X11_led {l : Launch} {D : va_G} {y : ZLay} {a1 : Int32} {a2 : Int32}  {μ : ZMem} {res : Int32 ⊕ Nat} {μ0 : ZMem} (hlf : l.stackTraces = false) (h : f_X11_led a1 a2 μ = some (res, μ0)) : MX l yX11_led wb_X11_led rm_X11_led D y [.ref (zad y (0, 0, 0)), .int a1, .int a2] μ res μ0 := by
  unfold f_X11_led at h
  refine MX_of RX11 [(0, .ref (zad y (0, 0, 0))), (1, .int a1), (2, .int a2)] (by decide) rfl rfl (Nat.le_of_ble_eq_true rfl) rfl ?_
  intro p e s m args below meth c A X hex
  refine V_aload_n X 0 dX11_led_0 rfl rfl ?_
  refine V_iload_n X 1 dX11_led_1 rfl rfl ?_
  obtain ⟨x2, c1, h⟩ := bd_some h
  refine V_callVi X (As := [.int a1]) (M_X11_isNode c1) (cwV 1 X.2.2.2.2.2.2.1 (gV wm_RX11_148 wi_X11_isNode wse_X11_isNode win_RX11 wc_X11_isNode) rfl rfl rfl hd_X11_isNode ⟨Nat.le_of_ble_eq_true rfl, Nat.le_of_ble_eq_true rfl⟩) (b := (0, 0, 0)) ⟨by decide, rfl⟩ rfl rfl rfl rfl (Nat.le_of_ble_eq_true rfl) dX11_led_2 rfl ?_
  refine V_if_ne X (tgt := 16) dX11_led_5 (by decide) (fun b3 => ?_) (fun b3 => ?_)
  · replace h := (if_neg b3).symm.trans h
    refine V_iconst X 0 dX11_led_16 (by decide) ?_
    refine V_istore_n X [(3, .int 0), (0, .ref (zad y (0, 0, 0))), (1, .int a1), (2, .int a2)] dX11_led_17 rfl (by decide) rfl ?_
    refine V_iconst X (-1) dX11_led_18 (by decide) ?_
    refine V_istore X [(4, .int (-1)), (3, .int 0), (0, .ref (zad y (0, 0, 0))), (1, .int a1), (2, .int a2)] dX11_led_19 (by decide) rfl ?_
    refine V_aload_n X 2 dX11_led_21 rfl rfl ?_
    refine V_getr X (o := (0, 0, 0)) (i := (1, 0, 0)) (ci := 11) (k := 3) (N := 16) (T := TX11) (C := RX11) ⟨by decide, rfl⟩ rfl rfl rfl (by decide) (mBa inB_X11) (mB wl_RX11_77) dX11_led_22 ?_
    refine V_geti X (o := (1, 0, 0)) (ci := 7) (k := 2) (N := 11) (T := TX7) (C := RX7) ⟨(by decide), rfl⟩ rfl rfl rfl (by decide) (mBa inB_X7) (mB wl_RX11_374) dX11_led_25 ?_
    refine V_iconst X 1 dX11_led_28 (by decide) ?_
    refine V_isub X dX11_led_29 ?_
    refine V_istore X [(5, .int ((μ (1, 0, 0) 2) - 1)), (4, .int (-1)), (3, .int 0), (0, .ref (zad y (0, 0, 0))), (1, .int a1), (2, .int a2)] dX11_led_30 (by decide) rfl ?_
    refine zlt_el (P := fun (x4 : Int32) => V X μ 32 [(5, .int x4), (4, .int (-1)), (3, .int 0), (0, .ref (zad y (0, 0, 0))), (1, .int a1), (2, .int a2)] []) h (fun x4 h => ?_)
    refine V_sub X [3, 4, 5, 2, 1, 0] (lv' := [(0, .ref (zad y (0, 0, 0))), (1, .int a1), (2, .int a2), (3, .int 0), (4, .int (-1)), (5, .int x4)]) rfl ?_
    obtain ⟨x8, x9, hl, h⟩ := bd2_some h
    have hk : V X μ 72 [(2, .int a2), (3, .int x8), (4, .int x9)] [] := by
      clear hl
      refine V_iload_n X 0 dX11_led_72 rfl rfl ?_
      obtain ⟨x19, h1, h⟩ := zl1_some h
      have hk : V X μ 82 [] [.int x19] := by
        clear h1
        exact V_iretX X h dX11_led_82
      replace h := h1
      clear h1
      refine V_if_eq X (tgt := 81) dX11_led_73 (by decide) (fun b18 => ?_) (fun b18 => ?_)
      · replace h := (if_pos b18).symm.trans h
        refine V_iload_n X 1 dX11_led_81 rfl rfl ?_
        refine V_sub X [] (lv' := []) rfl ?_
        obtain rfl := pr1 h
        exact hk
      · replace h := (if_neg b18).symm.trans h
        refine V_iload X 2 dX11_led_76 rfl ?_
        refine V_goto X (tgt := 82) dX11_led_78 (by decide) ?_
        refine V_sub X [] (lv' := []) rfl ?_
        obtain rfl := pr1 h
        exact hk
    refine lp_ind (P := fun q => V X μ 32 [(0, .ref (zad y (0, 0, 0))), (1, .int a1), (2, .int a2), (3, .int q.1), (4, .int q.2.1), (5, .int q.2.2)] []) (fun q z h hz => ?_) hl
    obtain ⟨x5, x6, x7⟩ := q
    replace h := un3_eq h
    show V X μ 32 [(0, .ref (zad y (0, 0, 0))), (1, .int a1), (2, .int a2), (3, .int x5), (4, .int x6), (5, .int x7)] []
    refine V_iload X 5 dX11_led_32 rfl ?_
    refine V_if_lt X (tgt := 72) dX11_led_34 (by decide) (fun b10 => ?_) (fun b10 => ?_)
    · replace h := (if_pos b10).symm.trans h
      refine V_sub X [2, 3, 4] (lv' := [(2, .int a2), (3, .int x5), (4, .int x6)]) rfl ?_
      cases h
      obtain ⟨rfl, rfl⟩ := pr2 hz
      exact hk
    · replace h := (if_neg b10).symm.trans h
      refine V_aload_n X 0 dX11_led_37 rfl rfl ?_
      refine V_getr X (o := (0, 0, 0)) (i := (1, 0, 0)) (ci := 11) (k := 3) (N := 16) (T := TX11) (C := RX11) ⟨by decide, rfl⟩ rfl rfl rfl (by decide) (mBa inB_X11) (mB wl_RX11_77) dX11_led_38 ?_
      refine V_iload X 5 dX11_led_41 rfl ?_
      refine V_iconst X 1 dX11_led_43 (by decide) ?_
      obtain ⟨x12, c11, h⟩ := bd_some h
      refine V_callVi X (As := [.int x7, .int 1]) (M_X7_rowOf (by decide) c11) (cwV 2 X.2.2.2.2.2.2.1 (gV wm_RX11_377 wi_X7_rowOf wse_X7_rowOf win_RX7 wc_X7_rowOf) rfl rfl rfl hd_X7_rowOf ⟨Nat.le_of_ble_eq_true rfl, Nat.le_of_ble_eq_true rfl⟩) (b := (1, 0, 0)) ⟨(by decide), rfl⟩ rfl rfl rfl rfl (Nat.le_of_ble_eq_true rfl) dX11_led_44 rfl ?_
      refine V_iload_n X 1 dX11_led_47 rfl rfl ?_
      obtain ⟨x14, x15, h1, h⟩ := bd2_some h
      have hk : V X μ 66 [(0, .ref (zad y (0, 0, 0))), (1, .int a1), (2, .int a2), (3, .int x14), (4, .int x15), (5, .int x7)] [] := by
        clear h1
        refine V_inc X 5 (-1) [(5, .int (x7 + (-1))), (0, .ref (zad y (0, 0, 0))), (1, .int a1), (2, .int a2), (3, .int x14), (4, .int x15)] dX11_led_66 rfl (by decide) (by decide) rfl ?_
        refine V_goto X (tgt := 32) dX11_led_69 (by decide) ?_
        refine V_sub X [1, 2, 3, 4, 5, 0] (lv' := [(0, .ref (zad y (0, 0, 0))), (1, .int a1), (2, .int a2), (3, .int x14), (4, .int x15), (5, .int (x7 + (-1)))]) rfl ?_
        cases h
        exact hz
      replace h := h1
      clear h1
      refine V_icmp_ne X (tgt := 66) dX11_led_48 (by decide) (fun b13 => ?_) (fun b13 => ?_)
      · replace h := (if_neg b13).symm.trans h
        obtain ⟨rfl, rfl⟩ := so2 h
        exact hk
      · replace h := (if_pos b13).symm.trans h
        refine V_inc X 3 1 [(3, .int (x5 + 1)), (0, .ref (zad y (0, 0, 0))), (1, .int a1), (2, .int a2), (4, .int x6), (5, .int x7)] dX11_led_51 rfl (by decide) (by decide) rfl ?_
        refine V_aload_n X 1 dX11_led_54 rfl rfl ?_
        refine V_getr X (o := (0, 0, 0)) (i := (1, 0, 0)) (ci := 11) (k := 3) (N := 16) (T := TX11) (C := RX11) ⟨by decide, rfl⟩ rfl rfl rfl (by decide) (mBa inB_X11) (mB wl_RX11_77) dX11_led_55 ?_
        refine V_iload X 5 dX11_led_58 rfl ?_
        refine V_iconst X 0 dX11_led_60 (by decide) ?_
        obtain ⟨x17, c16, h⟩ := bd_some h
        refine V_callVi X (As := [.int x7, .int 0]) (M_X7_rowOf (by decide) c16) (cwV 2 X.2.2.2.2.2.2.1 (gV wm_RX11_377 wi_X7_rowOf wse_X7_rowOf win_RX7 wc_X7_rowOf) rfl rfl rfl hd_X7_rowOf ⟨Nat.le_of_ble_eq_true rfl, Nat.le_of_ble_eq_true rfl⟩) (b := (1, 0, 0)) ⟨(by decide), rfl⟩ rfl rfl rfl rfl (Nat.le_of_ble_eq_true rfl) dX11_led_61 rfl ?_
        refine V_istore X [(4, .int x17), (3, .int (x5 + 1)), (0, .ref (zad y (0, 0, 0))), (1, .int a1), (2, .int a2), (5, .int x7)] dX11_led_64 (by decide) rfl ?_
        refine V_sub X [2, 3, 4, 1, 0, 5] (lv' := [(0, .ref (zad y (0, 0, 0))), (1, .int a1), (2, .int a2), (3, .int (x5 + 1)), (4, .int x17), (5, .int x7)]) rfl ?_
        obtain ⟨rfl, rfl⟩ := so2 h
        exact hk
  · replace h := (if_pos b3).symm.trans h
    exact V_throw X hex hlf (ik := 152) (ic := 154) 3 h (by decide +kernel) (by decide +kernel) (mB wcl_RX11_152) (mB wine_3) (mBa wx_3) wx_n3 wx_g3 dX11_led_8 dX11_led_11 dX11_led_12 dX11_led_15 (Nat.le_of_ble_eq_true rfl) (Nat.le_of_ble_eq_true rfl) (Nat.le_of_ble_eq_true rfl) (Nat.le_of_ble_eq_true rfl)

def f_X11_log (a1 : Int32) (a2 : Int32) (μ : ZMem) : Option ((Int32 ⊕ Nat) × ZMem) := jk (some (.inr 4, μ)) (fun k2 => if a2 < 0 then k2 else if a2 ≤ 3 then bd (f_X7_rowOf 0 a1 a2 μ) (fun (x5 : Int32) => some (.inl x5, μ)) else k2)
set_option maxRecDepth 100000 in
set_option maxHeartbeats 4000000 in
theorem M_X11_log {l : Launch} {D : va_G} {y : ZLay} {a1 : Int32} {a2 : Int32}  {μ : ZMem} {res : Int32 ⊕ Nat} {μ0 : ZMem} (hlf : l.stackTraces = false) (h : f_X11_log a1 a2 μ = some (res, μ0)) : MX l yX11_log wb_X11_log rm_X11_log D y [.ref (zad y (0, 0, 0)), .int a1, .int a2] μ res μ0 := by
  unfold f_X11_log at h
  refine MX_of RX11 [(0, .ref (zad y (0, 0, 0))), (1, .int a1), (2, .int a2)] (by decide) rfl rfl (Nat.le_of_ble_eq_true rfl) rfl ?_
  intro p e s m args below meth c A X hex
  refine V_iload_n X 2 dX11_log_0 rfl rfl ?_
  refine jk0_el (P := V X μ 9 [] []) h (fun h => ?_) (fun k2 hk2 h => ?_)
  · exact V_throw X hex hlf (ik := 155) (ic := 157) 4 h (by decide +kernel) (by decide +kernel) (mB wcl_RX11_155) (mB wine_4) (mBa wx_4) wx_n4 wx_g4 dX11_log_9 dX11_log_12 dX11_log_13 dX11_log_16 (Nat.le_of_ble_eq_true rfl) (Nat.le_of_ble_eq_true rfl) (Nat.le_of_ble_eq_true rfl) (Nat.le_of_ble_eq_true rfl)
  · refine V_if_lt X (tgt := 9) dX11_log_1 (by decide) (fun b1 => ?_) (fun b1 => ?_)
    · replace h := (if_pos b1).symm.trans h
      refine V_sub X [] (lv' := []) rfl ?_
      exact hk2 h
    · replace h := (if_neg b1).symm.trans h
      refine V_iload_n X 2 dX11_log_4 rfl rfl ?_
      refine V_iconst X 3 dX11_log_5 (by decide) ?_
      refine V_icmp_le X (tgt := 17) dX11_log_6 (by decide) (fun b3 => ?_) (fun b3 => ?_)
      · replace h := (if_pos b3).symm.trans h
        refine V_aload_n X 0 dX11_log_17 rfl rfl ?_
        refine V_getr X (o := (0, 0, 0)) (i := (1, 0, 0)) (ci := 11) (k := 3) (N := 16) (T := TX11) (C := RX11) ⟨by decide, rfl⟩ rfl rfl rfl (by decide) (mBa inB_X11) (mB wl_RX11_77) dX11_log_18 ?_
        refine V_iload_n X 1 dX11_log_21 rfl rfl ?_
        refine V_iload_n X 2 dX11_log_22 rfl rfl ?_
        obtain ⟨x5, c4, h⟩ := bd_some h
        refine V_callVi X (As := [.int a1, .int a2]) (M_X7_rowOf (by decide) c4) (cwV 2 X.2.2.2.2.2.2.1 (gV wm_RX11_377 wi_X7_rowOf wse_X7_rowOf win_RX7 wc_X7_rowOf) rfl rfl rfl hd_X7_rowOf ⟨Nat.le_of_ble_eq_true rfl, Nat.le_of_ble_eq_true rfl⟩) (b := (1, 0, 0)) ⟨(by decide), rfl⟩ rfl rfl rfl rfl (Nat.le_of_ble_eq_true rfl) dX11_log_23 rfl ?_
        exact V_iretX X h dX11_log_26
      · replace h := (if_neg b3).symm.trans h
        refine V_sub X [] (lv' := []) rfl ?_
        exact hk2 h

