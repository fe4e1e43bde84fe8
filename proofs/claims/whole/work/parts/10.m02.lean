def f_X2_bestPair (μ : ZMem) : Option (Int32) := bd (f_X2_countFits μ) (fun (x2 : Int32) => if 2 ≤ x2 then bd (lp (σ := Int32 × Int32 × Int32) (fun q => un3 q (fun (x4 : Int32) (x5 : Int32) (x6 : Int32) => if 64 ≤ x6 then some (.inr x4) else zlt (x6 / 8) (fun (x9 : Int32) => zlt (zrem x6 8) (fun (x10 : Int32) => bd (f_X2_countHearing x9 x10 μ) (fun (x12 : Int32) => zlt (zmax x12 (x2 - x12)) (fun (x13 : Int32) => bd2 (α := Int32) (β := Int32) (if x9 = x10 then some (x4, x5) else jk (some (x6, x13)) (fun k18 => if x4 = (-1) then k18 else if x5 ≤ x13 then some (x4, x5) else k18)) (fun (x15 : Int32) (x16 : Int32) => some (.inl (x15, x16, (x6 + 1)))))))))) FU ((-1), 0, 0)) (fun (x7 : Int32) => some x7) else some (-1))
set_option maxRecDepth 100000 in
set_option maxHeartbeats 4000000 in
theorem M_X2_bestPair {l : Launch} {D : va_G} {y : ZLay}   {μ : ZMem} {r : Int32} (h : f_X2_bestPair μ = some r) : MI l yX2_bestPair wb_X2_bestPair rm_X2_bestPair D y [.ref (zad y (0, 17, 0))] μ r μ := by
  unfold f_X2_bestPair at h
  refine MI_of RX2 [(0, .ref (zad y (0, 17, 0)))] (by decide) rfl rfl (Nat.le_of_ble_eq_true rfl) rfl ?_
  intro p e s m args below meth c A X
  refine V_aload_n X 0 dX2_bestPair_0 rfl rfl ?_
  obtain ⟨x2, c1, h⟩ := bd_some h
  refine V_callVi X (As := []) (M_X2_countFits c1) (cwV 0 X.2.2.2.2.2.2.1 (gV wm_RX2_30 wi_X2_countFits wse_X2_countFits win_RX2 wc_X2_countFits) rfl rfl rfl hd_X2_countFits ⟨Nat.le_of_ble_eq_true rfl, Nat.le_of_ble_eq_true rfl⟩) (b := (0, 17, 0)) ⟨by decide, rfl⟩ rfl rfl rfl rfl (Nat.le_of_ble_eq_true rfl) dX2_bestPair_1 rfl ?_
  refine V_istore_n X [(1, .int x2), (0, .ref (zad y (0, 17, 0)))] dX2_bestPair_4 rfl (by decide) rfl ?_
  refine V_iload_n X 0 dX2_bestPair_5 rfl rfl ?_
  refine V_iconst X 2 dX2_bestPair_6 (by decide) ?_
  refine V_icmp_ge X (tgt := 12) dX2_bestPair_7 (by decide) (fun b3 => ?_) (fun b3 => ?_)
  · replace h := (if_pos b3).symm.trans h
    refine V_iconst X (-1) dX2_bestPair_12 (by decide) ?_
    refine V_istore_n X [(2, .int (-1)), (1, .int x2), (0, .ref (zad y (0, 17, 0)))] dX2_bestPair_13 rfl (by decide) rfl ?_
    refine V_iconst X 0 dX2_bestPair_14 (by decide) ?_
    refine V_istore_n X [(3, .int 0), (2, .int (-1)), (1, .int x2), (0, .ref (zad y (0, 17, 0)))] dX2_bestPair_15 rfl (by decide) rfl ?_
    refine V_iconst X 0 dX2_bestPair_16 (by decide) ?_
    refine V_istore X [(4, .int 0), (3, .int 0), (2, .int (-1)), (1, .int x2), (0, .ref (zad y (0, 17, 0)))] dX2_bestPair_17 (by decide) rfl ?_
    refine V_sub X [4, 3, 2, 1, 0] (lv' := [(0, .ref (zad y (0, 17, 0))), (1, .int x2), (2, .int (-1)), (3, .int 0), (4, .int 0)]) rfl ?_
    obtain ⟨x7, hl, h⟩ := bd_some h
    have hk : V X μ 91 [(2, .int x7)] [] := by
      clear hl
      refine V_iload_n X 0 dX2_bestPair_91 rfl rfl ?_
      exact V_iretR X h dX2_bestPair_92
    refine lp_ind (P := fun q => V X μ 19 [(0, .ref (zad y (0, 17, 0))), (1, .int x2), (2, .int q.1), (3, .int q.2.1), (4, .int q.2.2)] []) (fun q z h hz => ?_) hl
    obtain ⟨x4, x5, x6⟩ := q
    replace h := un3_eq h
    show V X μ 19 [(0, .ref (zad y (0, 17, 0))), (1, .int x2), (2, .int x4), (3, .int x5), (4, .int x6)] []
    refine V_iload X 4 dX2_bestPair_19 rfl ?_
    refine V_bipush X 64 dX2_bestPair_21 (by decide) ?_
    refine V_icmp_ge X (tgt := 91) dX2_bestPair_23 (by decide) (fun b8 => ?_) (fun b8 => ?_)
    · replace h := (if_pos b8).symm.trans h
      refine V_sub X [2] (lv' := [(2, .int x4)]) rfl ?_
      cases h
      obtain rfl := pr1 hz
      exact hk
    · replace h := (if_neg b8).symm.trans h
      refine V_iload X 4 dX2_bestPair_26 rfl ?_
      refine V_bipush X 8 dX2_bestPair_28 (by decide) ?_
      refine V_idiv X dX2_bestPair_30 (by decide) ?_
      refine V_istore X [(5, .int (x6 / 8)), (0, .ref (zad y (0, 17, 0))), (1, .int x2), (2, .int x4), (3, .int x5), (4, .int x6)] dX2_bestPair_31 (by decide) rfl ?_
      refine zlt_el (P := fun (x9 : Int32) => V X μ 33 [(5, .int x9), (0, .ref (zad y (0, 17, 0))), (1, .int x2), (2, .int x4), (3, .int x5), (4, .int x6)] []) h (fun x9 h => ?_)
      refine V_iload X 5 dX2_bestPair_33 rfl ?_
      refine V_bipush X 8 dX2_bestPair_35 (by decide) ?_
      refine V_rem X dX2_bestPair_37 (by decide) ?_
      refine V_istore X [(6, .int (zrem x6 8)), (5, .int x9), (0, .ref (zad y (0, 17, 0))), (1, .int x2), (2, .int x4), (3, .int x5), (4, .int x6)] dX2_bestPair_38 (by decide) rfl ?_
      refine zlt_el (P := fun (x10 : Int32) => V X μ 40 [(6, .int x10), (5, .int x9), (0, .ref (zad y (0, 17, 0))), (1, .int x2), (2, .int x4), (3, .int x5), (4, .int x6)] []) h (fun x10 h => ?_)
      refine V_aload_n X 2 dX2_bestPair_40 rfl rfl ?_
      refine V_iload X 1 dX2_bestPair_41 rfl ?_
      refine V_iload X 0 dX2_bestPair_43 rfl ?_
      obtain ⟨x12, c11, h⟩ := bd_some h
      refine V_callVi X (As := [.int x9, .int x10]) (M_X2_countHearing c11) (cwV 2 X.2.2.2.2.2.2.1 (gV wm_RX2_43 wi_X2_countHearing wse_X2_countHearing win_RX2 wc_X2_countHearing) rfl rfl rfl hd_X2_countHearing ⟨Nat.le_of_ble_eq_true rfl, Nat.le_of_ble_eq_true rfl⟩) (b := (0, 17, 0)) ⟨by decide, rfl⟩ rfl rfl rfl rfl (Nat.le_of_ble_eq_true rfl) dX2_bestPair_45 rfl ?_
      refine V_istore X [(7, .int x12), (6, .int x10), (5, .int x9), (0, .ref (zad y (0, 17, 0))), (1, .int x2), (2, .int x4), (3, .int x5), (4, .int x6)] dX2_bestPair_48 (by decide) rfl ?_
      refine V_iload X 0 dX2_bestPair_50 rfl ?_
      refine V_iload_n X 4 dX2_bestPair_52 rfl rfl ?_
      refine V_iload X 0 dX2_bestPair_53 rfl ?_
      refine V_isub X dX2_bestPair_55 ?_
      refine V_zmax X (ix := 38) (mB wm_RX2_38) (mB wst_Math_max) (mB win_Math) (mB wc_Math_max) (Nat.le_of_ble_eq_true rfl) (Nat.le_of_ble_eq_true rfl) dX2_bestPair_56 ?_
      refine V_istore X [(8, .int (zmax x12 (x2 - x12))), (7, .int x12), (6, .int x10), (5, .int x9), (0, .ref (zad y (0, 17, 0))), (1, .int x2), (2, .int x4), (3, .int x5), (4, .int x6)] dX2_bestPair_59 (by decide) rfl ?_
      refine zlt_el (P := fun (x13 : Int32) => V X μ 61 [(8, .int x13), (7, .int x12), (6, .int x10), (5, .int x9), (0, .ref (zad y (0, 17, 0))), (1, .int x2), (2, .int x4), (3, .int x5), (4, .int x6)] []) h (fun x13 h => ?_)
      refine V_iload X 3 dX2_bestPair_61 rfl ?_
      refine V_iload X 2 dX2_bestPair_63 rfl ?_
      obtain ⟨x15, x16, h1, h⟩ := bd2_some h
      have hk : V X μ 85 [(0, .ref (zad y (0, 17, 0))), (1, .int x2), (2, .int x15), (3, .int x16), (4, .int x6)] [] := by
        clear h1
        refine V_inc X 4 1 [(4, .int (x6 + 1)), (0, .ref (zad y (0, 17, 0))), (1, .int x2), (2, .int x15), (3, .int x16)] dX2_bestPair_85 rfl (by decide) (by decide) rfl ?_
        refine V_goto X (tgt := 19) dX2_bestPair_88 (by decide) ?_
        refine V_sub X [1, 2, 3, 4, 0] (lv' := [(0, .ref (zad y (0, 17, 0))), (1, .int x2), (2, .int x15), (3, .int x16), (4, .int (x6 + 1))]) rfl ?_
        cases h
        exact hz
      replace h := h1
      clear h1
      refine V_icmp_eq X (tgt := 85) dX2_bestPair_65 (by decide) (fun b14 => ?_) (fun b14 => ?_)
      · replace h := (if_pos b14).symm.trans h
        refine V_sub X [4, 5, 6, 7, 8] (lv' := [(0, .ref (zad y (0, 17, 0))), (1, .int x2), (2, .int x4), (3, .int x5), (4, .int x6)]) rfl ?_
        obtain ⟨rfl, rfl⟩ := so2 h
        exact hk
      · replace h := (if_neg b14).symm.trans h
        refine V_iload_n X 6 dX2_bestPair_68 rfl rfl ?_
        refine V_iconst X (-1) dX2_bestPair_69 (by decide) ?_
        refine jk0_el (P := V X μ 79 [(0, .ref (zad y (0, 17, 0))), (1, .int x2), (4, .int x6), (8, .int x13)] []) h (fun h => ?_) (fun k18 hk18 h => ?_)
        · refine V_iload X 2 dX2_bestPair_79 rfl ?_
          refine V_istore_n X [(2, .int x6), (0, .ref (zad y (0, 17, 0))), (1, .int x2), (4, .int x6), (8, .int x13)] dX2_bestPair_81 rfl (by decide) rfl ?_
          refine V_iload X 4 dX2_bestPair_82 rfl ?_
          refine V_istore_n X [(3, .int x13), (2, .int x6), (0, .ref (zad y (0, 17, 0))), (1, .int x2), (4, .int x6), (8, .int x13)] dX2_bestPair_84 rfl (by decide) rfl ?_
          refine V_sub X [2, 3, 1, 0, 4] (lv' := [(0, .ref (zad y (0, 17, 0))), (1, .int x2), (2, .int x6), (3, .int x13), (4, .int x6)]) rfl ?_
          obtain ⟨rfl, rfl⟩ := so2 h
          exact hk
        · refine V_icmp_eq X (tgt := 79) dX2_bestPair_70 (by decide) (fun b17 => ?_) (fun b17 => ?_)
          · replace h := (if_pos b17).symm.trans h
            refine V_sub X [4, 5, 8, 0] (lv' := [(0, .ref (zad y (0, 17, 0))), (1, .int x2), (4, .int x6), (8, .int x13)]) rfl ?_
            exact hk18 h
          · replace h := (if_neg b17).symm.trans h
            refine V_iload X 0 dX2_bestPair_73 rfl ?_
            refine V_iload_n X 7 dX2_bestPair_75 rfl rfl ?_
            refine V_icmp_ge X (tgt := 85) dX2_bestPair_76 (by decide) (fun b19 => ?_) (fun b19 => ?_)
            · replace h := (if_pos b19).symm.trans h
              refine V_sub X [4, 5, 6, 7, 8] (lv' := [(0, .ref (zad y (0, 17, 0))), (1, .int x2), (2, .int x4), (3, .int x5), (4, .int x6)]) rfl ?_
              obtain ⟨rfl, rfl⟩ := so2 h
              exact hk
            · replace h := (if_neg b19).symm.trans h
              refine V_sub X [4, 5, 8, 0] (lv' := [(0, .ref (zad y (0, 17, 0))), (1, .int x2), (4, .int x6), (8, .int x13)]) rfl ?_
              exact hk18 h
  · replace h := (if_neg b3).symm.trans h
    refine V_iconst X (-1) dX2_bestPair_10 (by decide) ?_
    exact V_iretR X h dX2_bestPair_11

def f_X7_inState (s0 : Nat) (a1 : Int32) (μ : ZMem) : Option (Int32) := bd (lp (σ := Int32 × Int32) (fun q => un2 q (fun (x1 : Int32) (x2 : Int32) => if (μ (1, s0, 0) 4) ≤ x2 then some (.inr x1) else gd (zin x2 8) (zlt (α := Int32) (if (μ (3, s0, x2.toNatClampNeg) 3) = a1 then zlt (x1 ||| (f_X11_bit x2)) (fun (x8 : Int32) => x8) else x1) (fun (x7 : Int32) => some (.inl (x7, (x2 + 1))))))) FU (0, 0)) (fun (x3 : Int32) => some x3)
set_option maxRecDepth 100000 in
set_option maxHeartbeats 4000000 in
theorem M_X7_inState {l : Launch} {D : va_G} {y : ZLay} {s0 : Nat} {a1 : Int32} (hs0 : s0 < 15) {μ : ZMem} {r : Int32} (h : f_X7_inState s0 a1 μ = some r) : MI l yX7_inState wb_X7_inState rm_X7_inState D y [.ref (zad y (1, s0, 0)), .int a1] μ r μ := by
  unfold f_X7_inState at h
  refine MI_of RX7 [(0, .ref (zad y (1, s0, 0))), (1, .int a1)] (by decide) rfl rfl (Nat.le_of_ble_eq_true rfl) rfl ?_
  intro p e s m args below meth c A X
  refine V_iconst X 0 dX7_inState_0 (by decide) ?_
  refine V_istore_n X [(2, .int 0), (0, .ref (zad y (1, s0, 0))), (1, .int a1)] dX7_inState_1 rfl (by decide) rfl ?_
  refine V_iconst X 0 dX7_inState_2 (by decide) ?_
  refine V_istore_n X [(3, .int 0), (2, .int 0), (0, .ref (zad y (1, s0, 0))), (1, .int a1)] dX7_inState_3 rfl (by decide) rfl ?_
  refine V_sub X [2, 3, 1, 0] (lv' := [(0, .ref (zad y (1, s0, 0))), (1, .int a1), (2, .int 0), (3, .int 0)]) rfl ?_
  obtain ⟨x3, hl, h⟩ := bd_some h
  have hk : V X μ 38 [(2, .int x3)] [] := by
    clear hl
    refine V_iload_n X 0 dX7_inState_38 rfl rfl ?_
    exact V_iretR X h dX7_inState_39
  refine lp_ind (P := fun q => V X μ 4 [(0, .ref (zad y (1, s0, 0))), (1, .int a1), (2, .int q.1), (3, .int q.2)] []) (fun q z h hz => ?_) hl
  obtain ⟨x1, x2⟩ := q
  replace h := un2_eq h
  show V X μ 4 [(0, .ref (zad y (1, s0, 0))), (1, .int a1), (2, .int x1), (3, .int x2)] []
  refine V_iload_n X 3 dX7_inState_4 rfl rfl ?_
  refine V_aload_n X 0 dX7_inState_5 rfl rfl ?_
  refine V_geti X (o := (1, s0, 0)) (ci := 7) (k := 4) (N := 11) (T := TX7) (C := RX7) ⟨hs0, rfl⟩ rfl rfl rfl (by decide) (mBa inB_X7) (mB wl_RX7_52) dX7_inState_6 ?_
  refine V_icmp_ge X (tgt := 38) dX7_inState_9 (by decide) (fun b4 => ?_) (fun b4 => ?_)
  · replace h := (if_pos b4).symm.trans h
    refine V_sub X [2] (lv' := [(2, .int x1)]) rfl ?_
    cases h
    obtain rfl := pr1 hz
    exact hk
  · replace h := (if_neg b4).symm.trans h
    refine V_aload_n X 0 dX7_inState_12 rfl rfl ?_
    refine V_getr X (o := (1, s0, 0)) (i := (2, s0, 0)) (ci := 7) (k := 0) (N := 11) (T := TX7) (C := RX7) ⟨hs0, rfl⟩ rfl rfl rfl (by decide) (mBa inB_X7) (mB wl_RX7_11) dX7_inState_13 ?_
    refine V_iload_n X 3 dX7_inState_16 rfl rfl ?_
    obtain ⟨g5, h⟩ := gd_some h
    refine V_aald X x2.toNatClampNeg rfl (o := (2, s0, 0)) ⟨hs0, rfl⟩ rfl rfl rfl rfl g5 dX7_inState_17 ?_
    refine V_geti X (o := (3, s0, x2.toNatClampNeg)) (ci := 5) (k := 3) (N := 11) (T := TX5) (C := RX5) ⟨hs0, zin_lt g5⟩ rfl rfl rfl (by decide) (mBa inB_X5) (mB wl_RX7_65) dX7_inState_18 ?_
    refine V_iload_n X 1 dX7_inState_21 rfl rfl ?_
    obtain ⟨x7, h1, h⟩ := zl1_some h
    have hk : V X μ 32 [(0, .ref (zad y (1, s0, 0))), (1, .int a1), (2, .int x7), (3, .int x2)] [] := by
      clear h1
      refine V_inc X 3 1 [(3, .int (x2 + 1)), (0, .ref (zad y (1, s0, 0))), (1, .int a1), (2, .int x7)] dX7_inState_32 rfl (by decide) (by decide) rfl ?_
      refine V_goto X (tgt := 4) dX7_inState_35 (by decide) ?_
      refine V_sub X [1, 2, 3, 0] (lv' := [(0, .ref (zad y (1, s0, 0))), (1, .int a1), (2, .int x7), (3, .int (x2 + 1))]) rfl ?_
      cases h
      exact hz
    replace h := h1
    clear h1
    refine V_icmp_ne X (tgt := 32) dX7_inState_22 (by decide) (fun b6 => ?_) (fun b6 => ?_)
    · replace h := (if_neg b6).symm.trans h
      obtain rfl := pr1 h
      exact hk
    · replace h := (if_pos b6).symm.trans h
      refine V_iload_n X 2 dX7_inState_25 rfl rfl ?_
      refine V_iload_n X 3 dX7_inState_26 rfl rfl ?_
      refine V_callSNi X (As := [.int x2]) (M_X11_bit) ⟨va_cnB (host := "SlotCluster") 1 X.2.2.2.2.2.2.1 (gN wc_X11_bit) rfl rfl rfl (X.2.2.2.2.2.2.2.2.1 _ (List.mem_of_getElem? wn_RX7_68)) (X.2.2.2.2.2.2.1 (.initialized RX11) (mB win_RX11)) hd_X11_bit.2 ⟨Nat.le_of_ble_eq_true rfl, Nat.le_of_ble_eq_true rfl⟩, X.2.2.2.2.2.2.1 (.static yX11_bit) (mB wst_X11_bit), trivial⟩ rfl (Nat.le_of_ble_eq_true rfl) dX7_inState_27 rfl ?_
      refine V_ior X dX7_inState_30 ?_
      refine V_istore_n X [(2, .int (x1 ||| (f_X11_bit x2))), (0, .ref (zad y (1, s0, 0))), (1, .int a1), (3, .int x2)] dX7_inState_31 rfl (by decide) rfl ?_
      refine zlt_el (P := fun (x8 : Int32) => V X μ 32 [(2, .int x8), (0, .ref (zad y (1, s0, 0))), (1, .int a1), (3, .int x2)] []) h (fun x8 h => ?_)
      refine V_sub X [1, 2, 0, 3] (lv' := [(0, .ref (zad y (1, s0, 0))), (1, .int a1), (2, .int x8), (3, .int x2)]) rfl ?_
      obtain rfl := pr1 h
      exact hk

def f_X3_partOf (s0 : Nat) (a1 : Int32) (a2 : Int32) (a3 : Int32) (μ : ZMem) : Option (Int32) := jk (some a2) (fun k2 => if a2 < 1000 then k2 else if a1 < 0 then k2 else if a1 < (μ (1, s0, 0) 4) then gd (zin a1 8) (if a2 = 1000 then some a1 else if a2 = 1001 then some (zmax 0 ((μ (3, s0, a1.toNatClampNeg) 1) + (μ (3, s0, a1.toNatClampNeg) 2))) else if a2 = 1002 then some (zmax 0 ((-(μ (3, s0, a1.toNatClampNeg) 1)) - (μ (3, s0, a1.toNatClampNeg) 2))) else if a2 = 1003 then some (f_J6_bitCount_0f7a4 (μ (3, s0, a1.toNatClampNeg) 5)) else if a2 = 1004 then some (μ (3, s0, a1.toNatClampNeg) 6) else if a2 = 1005 then some (μ (3, s0, a1.toNatClampNeg) 7) else if a2 = 1006 then some (μ (3, s0, a1.toNatClampNeg) 4) else if a2 = 1007 then zlt (α := Int32) (if (zrem (μ (1, s0, 0) 7) 2) = 0 then 1 else 0) (fun (x20 : Int32) => some x20) else if a2 = 1008 then zlt (α := Int32) (if a3 = 0 then 0 else 1) (fun (x18 : Int32) => some x18) else zlt (α := Int32) (if (μ (3, s0, a1.toNatClampNeg) 8) ≤ 0 then 0 else 1) (fun (x16 : Int32) => some x16)) else k2)
set_option maxRecDepth 100000 in
set_option maxHeartbeats 4000000 in
theorem M_X3_partOf {l : Launch} {D : va_G} {y : ZLay} {s0 : Nat} {a1 : Int32} {a2 : Int32} {a3 : Int32} (hs0 : s0 < 15) {μ : ZMem} {r : Int32} (h : f_X3_partOf s0 a1 a2 a3 μ = some r) : MI l yX3_partOf wb_X3_partOf rm_X3_partOf D y [.ref (zad y (1, s0, 0)), .int a1, .int a2, .int a3] μ r μ := by
  unfold f_X3_partOf at h
  refine MI_of RX3 [(0, .ref (zad y (1, s0, 0))), (1, .int a1), (2, .int a2), (3, .int a3)] (by decide) rfl rfl (Nat.le_of_ble_eq_true rfl) rfl ?_
  intro p e s m args below meth c A X
  refine V_iload_n X 2 dX3_partOf_0 rfl rfl ?_
  refine V_sipush X 1000 dX3_partOf_1 (by decide) ?_
  refine jk0_el (P := V X μ 19 [(2, .int a2)] []) h (fun h => ?_) (fun k2 hk2 h => ?_)
  · refine V_iload_n X 0 dX3_partOf_19 rfl rfl ?_
    exact V_iretR X h dX3_partOf_20
  · refine V_icmp_lt X (tgt := 19) dX3_partOf_4 (by decide) (fun b1 => ?_) (fun b1 => ?_)
    · replace h := (if_pos b1).symm.trans h
      refine V_sub X [2] (lv' := [(2, .int a2)]) rfl ?_
      exact hk2 h
    · replace h := (if_neg b1).symm.trans h
      refine V_iload_n X 1 dX3_partOf_7 rfl rfl ?_
      refine V_if_lt X (tgt := 19) dX3_partOf_8 (by decide) (fun b3 => ?_) (fun b3 => ?_)
      · replace h := (if_pos b3).symm.trans h
        refine V_sub X [2] (lv' := [(2, .int a2)]) rfl ?_
        exact hk2 h
      · replace h := (if_neg b3).symm.trans h
        refine V_iload_n X 1 dX3_partOf_11 rfl rfl ?_
        refine V_aload_n X 0 dX3_partOf_12 rfl rfl ?_
        refine V_geti X (o := (1, s0, 0)) (ci := 7) (k := 4) (N := 11) (T := TX7) (C := RX7) ⟨hs0, rfl⟩ rfl rfl rfl (by decide) (mBa inB_X7) (mB wl_RX3_58) dX3_partOf_13 ?_
        refine V_icmp_lt X (tgt := 21) dX3_partOf_16 (by decide) (fun b4 => ?_) (fun b4 => ?_)
        · replace h := (if_pos b4).symm.trans h
          refine V_aload_n X 0 dX3_partOf_21 rfl rfl ?_
          refine V_getr X (o := (1, s0, 0)) (i := (2, s0, 0)) (ci := 7) (k := 0) (N := 11) (T := TX7) (C := RX7) ⟨hs0, rfl⟩ rfl rfl rfl (by decide) (mBa inB_X7) (mB wl_RX3_61) dX3_partOf_22 ?_
          refine V_iload_n X 1 dX3_partOf_25 rfl rfl ?_
          obtain ⟨g5, h⟩ := gd_some h
          refine V_aald X a1.toNatClampNeg rfl (o := (2, s0, 0)) ⟨hs0, rfl⟩ rfl rfl rfl rfl g5 dX3_partOf_26 ?_
          refine V_astore X [(4, .ref (zad y (3, s0, a1.toNatClampNeg))), (0, .ref (zad y (1, s0, 0))), (1, .int a1), (2, .int a2), (3, .int a3)] dX3_partOf_27 (by decide) rfl ?_
          refine V_iload_n X 3 dX3_partOf_29 rfl rfl ?_
          by_cases b6 : a2 = 1000
          · replace h := (if_pos b6).symm.trans h
            refine V_tblIn X (tgt := 80) dX3_partOf_30 (by rw [b6]; decide) (by rw [b6]; decide) (by rw [b6]; try rfl) (by decide) ?_
            refine V_iload_n X 2 dX3_partOf_80 rfl rfl ?_
            exact V_iretR X h dX3_partOf_81
          · replace h := (if_neg b6).symm.trans h
            by_cases b7 : a2 = 1001
            · replace h := (if_pos b7).symm.trans h
              refine V_tblIn X (tgt := 82) dX3_partOf_30 (by rw [b7]; decide) (by rw [b7]; decide) (by rw [b7]; try rfl) (by decide) ?_
              refine V_iconst X 0 dX3_partOf_82 (by decide) ?_
              refine V_aload X 0 dX3_partOf_83 rfl ?_
              refine V_geti X (o := (3, s0, a1.toNatClampNeg)) (ci := 5) (k := 1) (N := 11) (T := TX5) (C := RX5) ⟨hs0, zin_lt g5⟩ rfl rfl rfl (by decide) (mBa inB_X5) (mB wl_RX3_65) dX3_partOf_85 ?_
              refine V_aload X 0 dX3_partOf_88 rfl ?_
              refine V_geti X (o := (3, s0, a1.toNatClampNeg)) (ci := 5) (k := 2) (N := 11) (T := TX5) (C := RX5) ⟨hs0, zin_lt g5⟩ rfl rfl rfl (by decide) (mBa inB_X5) (mB wl_RX3_70) dX3_partOf_90 ?_
              refine V_iadd X dX3_partOf_93 ?_
              refine V_zmax X (ix := 44) (mB wm_RX3_44) (mB wst_Math_max) (mB win_Math) (mB wc_Math_max) (Nat.le_of_ble_eq_true rfl) (Nat.le_of_ble_eq_true rfl) dX3_partOf_94 ?_
              exact V_iretR X h dX3_partOf_97
            · replace h := (if_neg b7).symm.trans h
              by_cases b8 : a2 = 1002
              · replace h := (if_pos b8).symm.trans h
                refine V_tblIn X (tgt := 98) dX3_partOf_30 (by rw [b8]; decide) (by rw [b8]; decide) (by rw [b8]; try rfl) (by decide) ?_
                refine V_iconst X 0 dX3_partOf_98 (by decide) ?_
                refine V_aload X 0 dX3_partOf_99 rfl ?_
                refine V_geti X (o := (3, s0, a1.toNatClampNeg)) (ci := 5) (k := 1) (N := 11) (T := TX5) (C := RX5) ⟨hs0, zin_lt g5⟩ rfl rfl rfl (by decide) (mBa inB_X5) (mB wl_RX3_65) dX3_partOf_101 ?_
                refine V_ineg X dX3_partOf_104 ?_
                refine V_aload X 0 dX3_partOf_105 rfl ?_
                refine V_geti X (o := (3, s0, a1.toNatClampNeg)) (ci := 5) (k := 2) (N := 11) (T := TX5) (C := RX5) ⟨hs0, zin_lt g5⟩ rfl rfl rfl (by decide) (mBa inB_X5) (mB wl_RX3_70) dX3_partOf_107 ?_
                refine V_isub X dX3_partOf_110 ?_
                refine V_zmax X (ix := 44) (mB wm_RX3_44) (mB wst_Math_max) (mB win_Math) (mB wc_Math_max) (Nat.le_of_ble_eq_true rfl) (Nat.le_of_ble_eq_true rfl) dX3_partOf_111 ?_
                exact V_iretR X h dX3_partOf_114
              · replace h := (if_neg b8).symm.trans h
                by_cases b9 : a2 = 1003
                · replace h := (if_pos b9).symm.trans h
                  refine V_tblIn X (tgt := 115) dX3_partOf_30 (by rw [b9]; decide) (by rw [b9]; decide) (by rw [b9]; try rfl) (by decide) ?_
                  refine V_aload X 0 dX3_partOf_115 rfl ?_
                  refine V_geti X (o := (3, s0, a1.toNatClampNeg)) (ci := 5) (k := 5) (N := 11) (T := TX5) (C := RX5) ⟨hs0, zin_lt g5⟩ rfl rfl rfl (by decide) (mBa inB_X5) (mB wl_RX3_73) dX3_partOf_117 ?_
                  refine V_callSi X (As := [.int (μ (3, s0, a1.toNatClampNeg) 5)]) (M_J6_bitCount_0f7a4) (va_cwS 1 X.2.2.2.2.2.2.1 (gS wm_RX3_76 wst_J6_bitCount_0f7a4 win_RJ6 wc_J6_bitCount_0f7a4) rfl rfl rfl hd_J6_bitCount_0f7a4.2 ⟨Nat.le_of_ble_eq_true rfl, Nat.le_of_ble_eq_true rfl⟩) rfl (Nat.le_of_ble_eq_true rfl) dX3_partOf_120 rfl ?_
                  exact V_iretR X h dX3_partOf_123
                · replace h := (if_neg b9).symm.trans h
                  by_cases b10 : a2 = 1004
                  · replace h := (if_pos b10).symm.trans h
                    refine V_tblIn X (tgt := 124) dX3_partOf_30 (by rw [b10]; decide) (by rw [b10]; decide) (by rw [b10]; try rfl) (by decide) ?_
                    refine V_aload X 0 dX3_partOf_124 rfl ?_
                    refine V_geti X (o := (3, s0, a1.toNatClampNeg)) (ci := 5) (k := 6) (N := 11) (T := TX5) (C := RX5) ⟨hs0, zin_lt g5⟩ rfl rfl rfl (by decide) (mBa inB_X5) (mB wl_RX3_81) dX3_partOf_126 ?_
                    exact V_iretR X h dX3_partOf_129
                  · replace h := (if_neg b10).symm.trans h
                    by_cases b11 : a2 = 1005
                    · replace h := (if_pos b11).symm.trans h
                      refine V_tblIn X (tgt := 130) dX3_partOf_30 (by rw [b11]; decide) (by rw [b11]; decide) (by rw [b11]; try rfl) (by decide) ?_
                      refine V_aload X 0 dX3_partOf_130 rfl ?_
                      refine V_geti X (o := (3, s0, a1.toNatClampNeg)) (ci := 5) (k := 7) (N := 11) (T := TX5) (C := RX5) ⟨hs0, zin_lt g5⟩ rfl rfl rfl (by decide) (mBa inB_X5) (mB wl_RX3_84) dX3_partOf_132 ?_
                      exact V_iretR X h dX3_partOf_135
                    · replace h := (if_neg b11).symm.trans h
                      by_cases b12 : a2 = 1006
                      · replace h := (if_pos b12).symm.trans h
                        refine V_tblIn X (tgt := 136) dX3_partOf_30 (by rw [b12]; decide) (by rw [b12]; decide) (by rw [b12]; try rfl) (by decide) ?_
                        refine V_aload X 0 dX3_partOf_136 rfl ?_
                        refine V_geti X (o := (3, s0, a1.toNatClampNeg)) (ci := 5) (k := 4) (N := 11) (T := TX5) (C := RX5) ⟨hs0, zin_lt g5⟩ rfl rfl rfl (by decide) (mBa inB_X5) (mB wl_RX3_87) dX3_partOf_138 ?_
                        exact V_iretR X h dX3_partOf_141
                      · replace h := (if_neg b12).symm.trans h
                        by_cases b13 : a2 = 1007
                        · replace h := (if_pos b13).symm.trans h
                          refine V_tblIn X (tgt := 142) dX3_partOf_30 (by rw [b13]; decide) (by rw [b13]; decide) (by rw [b13]; try rfl) (by decide) ?_
                          refine V_aload_n X 1 dX3_partOf_142 rfl rfl ?_
                          refine V_geti X (o := (1, s0, 0)) (ci := 7) (k := 7) (N := 11) (T := TX7) (C := RX7) ⟨hs0, rfl⟩ rfl rfl rfl (by decide) (mBa inB_X7) (mB wl_RX3_90) dX3_partOf_143 ?_
                          refine V_iconst X 2 dX3_partOf_146 (by decide) ?_
                          refine V_rem X dX3_partOf_147 (by decide) ?_
                          obtain ⟨x20, h1, h⟩ := zl1_some h
                          have hk : V X μ 156 [] [.int x20] := by
                            clear h1
                            exact V_iretR X h dX3_partOf_156
                          replace h := h1
                          clear h1
                          refine V_if_ne X (tgt := 155) dX3_partOf_148 (by decide) (fun b19 => ?_) (fun b19 => ?_)
                          · replace h := (if_neg b19).symm.trans h
                            refine V_iconst X 0 dX3_partOf_155 (by decide) ?_
                            refine V_sub X [] (lv' := []) rfl ?_
                            obtain rfl := pr1 h
                            exact hk
                          · replace h := (if_pos b19).symm.trans h
                            refine V_iconst X 1 dX3_partOf_151 (by decide) ?_
                            refine V_goto X (tgt := 156) dX3_partOf_152 (by decide) ?_
                            refine V_sub X [] (lv' := []) rfl ?_
                            obtain rfl := pr1 h
                            exact hk
                        · replace h := (if_neg b13).symm.trans h
                          by_cases b14 : a2 = 1008
                          · replace h := (if_pos b14).symm.trans h
                            refine V_tblIn X (tgt := 157) dX3_partOf_30 (by rw [b14]; decide) (by rw [b14]; decide) (by rw [b14]; try rfl) (by decide) ?_
                            refine V_iload_n X 4 dX3_partOf_157 rfl rfl ?_
                            obtain ⟨x18, h1, h⟩ := zl1_some h
                            have hk : V X μ 166 [] [.int x18] := by
                              clear h1
                              exact V_iretR X h dX3_partOf_166
                            replace h := h1
                            clear h1
                            refine V_if_eq X (tgt := 165) dX3_partOf_158 (by decide) (fun b17 => ?_) (fun b17 => ?_)
                            · replace h := (if_pos b17).symm.trans h
                              refine V_iconst X 0 dX3_partOf_165 (by decide) ?_
                              refine V_sub X [] (lv' := []) rfl ?_
                              obtain rfl := pr1 h
                              exact hk
                            · replace h := (if_neg b17).symm.trans h
                              refine V_iconst X 1 dX3_partOf_161 (by decide) ?_
                              refine V_goto X (tgt := 166) dX3_partOf_162 (by decide) ?_
                              refine V_sub X [] (lv' := []) rfl ?_
                              obtain rfl := pr1 h
                              exact hk
                          · replace h := (if_neg b14).symm.trans h
                            have hd0 := tne (j := 1000) (by decide) b6
                            have hd1 := tne (j := 1001) (by decide) b7
                            have hd2 := tne (j := 1002) (by decide) b8
                            have hd3 := tne (j := 1003) (by decide) b9
                            have hd4 := tne (j := 1004) (by decide) b10
                            have hd5 := tne (j := 1005) (by decide) b11
                            have hd6 := tne (j := 1006) (by decide) b12
                            have hd7 := tne (j := 1007) (by decide) b13
                            have hd8 := tne (j := 1008) (by decide) b14
                            refine V_tblOut X (tgt := 167) dX3_partOf_30 (by omega) (by decide) ?_
                            refine V_aload X 0 dX3_partOf_167 rfl ?_
                            refine V_geti X (o := (3, s0, a1.toNatClampNeg)) (ci := 5) (k := 8) (N := 11) (T := TX5) (C := RX5) ⟨hs0, zin_lt g5⟩ rfl rfl rfl (by decide) (mBa inB_X5) (mB wl_RX3_93) dX3_partOf_169 ?_
                            obtain ⟨x16, h1, h⟩ := zl1_some h
                            have hk : V X μ 180 [] [.int x16] := by
                              clear h1
                              exact V_iretR X h dX3_partOf_180
                            replace h := h1
                            clear h1
                            refine V_if_le X (tgt := 179) dX3_partOf_172 (by decide) (fun b15 => ?_) (fun b15 => ?_)
                            · replace h := (if_pos b15).symm.trans h
                              refine V_iconst X 0 dX3_partOf_179 (by decide) ?_
                              refine V_sub X [] (lv' := []) rfl ?_
                              obtain rfl := pr1 h
                              exact hk
                            · replace h := (if_neg b15).symm.trans h
                              refine V_iconst X 1 dX3_partOf_175 (by decide) ?_
                              refine V_goto X (tgt := 180) dX3_partOf_176 (by decide) ?_
                              refine V_sub X [] (lv' := []) rfl ?_
                              obtain rfl := pr1 h
                              exact hk
        · replace h := (if_neg b4).symm.trans h
          refine V_sub X [2] (lv' := [(2, .int a2)]) rfl ?_
          exact hk2 h

def f_X3_joined (a0 : Int32) (a1 : Int32) (a2 : Int32) : Int32 := if a0 = 1015 then (a1 &&& a2) else if a0 = 2043 then (a1 + a2) else if a0 = 2060 then zlt (α := Int32) (if a2 ≤ a1 then 0 else 1) (fun (x8 : Int32) => x8) else if a0 = 2062 then zlt (α := Int32) (if a1 ≤ a2 then 0 else 1) (fun (x6 : Int32) => x6) else (a1 ||| a2)
set_option maxRecDepth 100000 in
set_option maxHeartbeats 4000000 in
theorem M_X3_joined {l : Launch} {D : va_G} {y : ZLay} {a0 : Int32} {a1 : Int32} {a2 : Int32}  {μ : ZMem} : MI l yX3_joined wb_X3_joined rm_X3_joined D y [.int a0, .int a1, .int a2] μ (f_X3_joined a0 a1 a2) μ := by
  obtain ⟨r, h⟩ : ∃ r, f_X3_joined a0 a1 a2 = r := ⟨_, rfl⟩
  rw [h]
  unfold f_X3_joined at h
  refine MI_of RX3 [(0, .int a0), (1, .int a1), (2, .int a2)] (by decide) rfl rfl (Nat.le_of_ble_eq_true rfl) rfl ?_
  intro p e s m args below meth c A X
  refine V_iload_n X 0 dX3_joined_0 rfl rfl ?_
  by_cases b1 : a0 = 1015
  · replace h := (if_pos b1).symm.trans h
    refine V_lookup X (tgt := 70) dX3_joined_1 (by decide +kernel) (by rw [b1]; try rfl) (by decide) ?_
    refine V_iload_n X 1 dX3_joined_70 rfl rfl ?_
    refine V_iload_n X 2 dX3_joined_71 rfl rfl ?_
    refine V_iand X dX3_joined_72 ?_
    exact V_iretT X h dX3_joined_73
  · replace h := (if_neg b1).symm.trans h
    by_cases b2 : a0 = 2043
    · replace h := (if_pos b2).symm.trans h
      refine V_lookup X (tgt := 44) dX3_joined_1 (by decide +kernel) (by rw [b2]; try rfl) (by decide) ?_
      refine V_iload_n X 1 dX3_joined_44 rfl rfl ?_
      refine V_iload_n X 2 dX3_joined_45 rfl rfl ?_
      refine V_iadd X dX3_joined_46 ?_
      exact V_iretT X h dX3_joined_47
    · replace h := (if_neg b2).symm.trans h
      by_cases b3 : a0 = 2060
      · replace h := (if_pos b3).symm.trans h
        refine V_lookup X (tgt := 48) dX3_joined_1 (by decide +kernel) (by rw [b3]; try rfl) (by decide) ?_
        refine V_iload_n X 1 dX3_joined_48 rfl rfl ?_
        refine V_iload_n X 2 dX3_joined_49 rfl rfl ?_
        obtain ⟨x8, h1, h⟩ := zl1_some h
        have hk : V X μ 58 [] [.int x8] := by
          clear h1
          exact V_iretT X h dX3_joined_58
        replace h := h1
        clear h1
        refine V_icmp_ge X (tgt := 57) dX3_joined_50 (by decide) (fun b7 => ?_) (fun b7 => ?_)
        · replace h := (if_pos b7).symm.trans h
          refine V_iconst X 0 dX3_joined_57 (by decide) ?_
          refine V_sub X [] (lv' := []) rfl ?_
          obtain rfl := pr1 h
          exact hk
        · replace h := (if_neg b7).symm.trans h
          refine V_iconst X 1 dX3_joined_53 (by decide) ?_
          refine V_goto X (tgt := 58) dX3_joined_54 (by decide) ?_
          refine V_sub X [] (lv' := []) rfl ?_
          obtain rfl := pr1 h
          exact hk
      · replace h := (if_neg b3).symm.trans h
        by_cases b4 : a0 = 2062
        · replace h := (if_pos b4).symm.trans h
          refine V_lookup X (tgt := 59) dX3_joined_1 (by decide +kernel) (by rw [b4]; try rfl) (by decide) ?_
          refine V_iload_n X 1 dX3_joined_59 rfl rfl ?_
          refine V_iload_n X 2 dX3_joined_60 rfl rfl ?_
          obtain ⟨x6, h1, h⟩ := zl1_some h
          have hk : V X μ 69 [] [.int x6] := by
            clear h1
            exact V_iretT X h dX3_joined_69
          replace h := h1
          clear h1
          refine V_icmp_le X (tgt := 68) dX3_joined_61 (by decide) (fun b5 => ?_) (fun b5 => ?_)
          · replace h := (if_pos b5).symm.trans h
            refine V_iconst X 0 dX3_joined_68 (by decide) ?_
            refine V_sub X [] (lv' := []) rfl ?_
            obtain rfl := pr1 h
            exact hk
          · replace h := (if_neg b5).symm.trans h
            refine V_iconst X 1 dX3_joined_64 (by decide) ?_
            refine V_goto X (tgt := 69) dX3_joined_65 (by decide) ?_
            refine V_sub X [] (lv' := []) rfl ?_
            obtain rfl := pr1 h
            exact hk
        · replace h := (if_neg b4).symm.trans h
          have hd0 := tne (j := 1015) (by decide) b1
          have hd1 := tne (j := 2043) (by decide) b2
          have hd2 := tne (j := 2060) (by decide) b3
          have hd3 := tne (j := 2062) (by decide) b4
          refine V_lookup X (tgt := 74) dX3_joined_1 (by decide +kernel) (by show Op.lookupswitch.offset [(1015, 69), (2043, 43), (2060, 47), (2062, 58)] (73) _ = _; rw [Op.lookupswitch.offset_cons, if_neg (Ne.symm hd0), Op.lookupswitch.offset_cons, if_neg (Ne.symm hd1), Op.lookupswitch.offset_cons, if_neg (Ne.symm hd2), Op.lookupswitch.offset_cons, if_neg (Ne.symm hd3), Op.lookupswitch.offset_nil]) (by decide) ?_
          refine V_iload_n X 1 dX3_joined_74 rfl rfl ?_
          refine V_iload_n X 2 dX3_joined_75 rfl rfl ?_
          refine V_ior X dX3_joined_76 ?_
          exact V_iretT X h dX3_joined_77

def f_X3_holds (y : ZLay) (n0 : Nat) (s1 : Nat) (a2 : Int32) (a3 : Int32) (a4 : Int32) (μ : ZMem) : Option (Int32 × ZMem) := jk (some (0, μ)) (fun k2 => if a3 < 0 then k2 else if (a3 + 1) < (Int32.ofNat (zlen y (6, n0, 2))) then gd (zin a3 (zlen y (6, n0, 2))) (zlt (zmax 0 (μ (6, n0, 2) a3.toNatClampNeg)) (fun (x5 : Int32) => bd2 (lp (σ := Int32 × Int32 × ZMem) (fun q => un3 q (fun (x6 : Int32) (x7 : Int32) (μ8 : ZMem) => gd (zin (a3 + 1) (zlen y (6, n0, 2))) (if (μ8 (6, n0, 2) (a3 + 1).toNatClampNeg) ≤ x7 then some (.inr (x6, μ8)) else if (Int32.ofNat (zlen y (6, n0, 3))) ≤ x7 then some (.inr (x6, μ8)) else gd (zin x7 (zlen y (6, n0, 3))) (zlt (μ8 (6, n0, 3) x7.toNatClampNeg) (fun (x15 : Int32) => bd2 (α := Int32) (β := ZMem) (if 1009 < x15 then if x15 = 1016 then if x6 < 1 then some (x6, μ8) else gd (zin (x6 - 1) 32) (zlt (mset μ8 (6, n0, 4) (x6 - 1).toNatClampNeg (1 - (μ8 (6, n0, 4) (x6 - 1).toNatClampNeg))) (fun (μ26 : ZMem) => some (x6, μ26))) else if x6 < 2 then some (x6, μ8) else gd (zin ((x6 + (-1)) - 1) 32) (gd (zin (x6 + (-1)) 32) (zlt (mset μ8 (6, n0, 4) ((x6 + (-1)) - 1).toNatClampNeg (f_X3_joined x15 (μ8 (6, n0, 4) ((x6 + (-1)) - 1).toNatClampNeg) (μ8 (6, n0, 4) (x6 + (-1)).toNatClampNeg))) (fun (μ23 : ZMem) => some ((x6 + (-1)), μ23)))) else if 32 ≤ x6 then some (x6, μ8) else bd (f_X3_partOf s1 a2 x15 a4 μ8) (fun (x29 : Int32) => gd (zin x6 32) (zlt (mset μ8 (6, n0, 4) x6.toNatClampNeg x29) (fun (μ31 : ZMem) => some ((x6 + 1), μ31))))) (fun (x17 : Int32) (μ18 : ZMem) => some (.inl (x17, (x7 + 1), μ18)))))))) FU (0, x5, μ)) (fun (x9 : Int32) (μ10 : ZMem) => bd (α := Int32) (jk (some 1) (fun k34 => if x9 < 1 then k34 else if (μ10 (6, n0, 4) 0) = 0 then some 0 else k34)) (fun (x33 : Int32) => gd (zbo x33) (some (x33, μ10)))))) else k2)
set_option maxRecDepth 100000 in
set_option maxHeartbeats 4000000 in
theorem M_X3_holds {l : Launch} {D : va_G} {y : ZLay} {n0 : Nat} {s1 : Nat} {a2 : Int32} {a3 : Int32} {a4 : Int32} (hn0 : n0 < znl y) (hs1 : s1 < 15) {μ : ZMem} {r : Int32} {μ0 : ZMem} (h : f_X3_holds y n0 s1 a2 a3 a4 μ = some (r, μ0)) : MI l yX3_holds wb_X3_holds rm_X3_holds D y [.ref (zad y (5, n0, 0)), .ref (zad y (1, s1, 0)), .int a2, .int a3, .int a4] μ r μ0 := by
  unfold f_X3_holds at h
  refine MI_of RX3 [(0, .ref (zad y (5, n0, 0))), (1, .ref (zad y (1, s1, 0))), (2, .int a2), (3, .int a3), (4, .int a4)] (by decide) rfl rfl (Nat.le_of_ble_eq_true rfl) rfl ?_
  intro p e s m args below meth c A X
  refine V_iload_n X 3 dX3_holds_0 rfl rfl ?_
  refine jk0_el (P := V X μ 15 [] []) h (fun h => ?_) (fun k2 hk2 h => ?_)
  · refine V_iconst X 0 dX3_holds_15 (by decide) ?_
    exact V_zretW X h (by decide) dX3_holds_16
  · refine V_if_lt X (tgt := 15) dX3_holds_1 (by decide) (fun b1 => ?_) (fun b1 => ?_)
    · replace h := (if_pos b1).symm.trans h
      refine V_sub X [] (lv' := []) rfl ?_
      exact hk2 h
    · replace h := (if_neg b1).symm.trans h
      refine V_iload_n X 3 dX3_holds_4 rfl rfl ?_
      refine V_iconst X 1 dX3_holds_5 (by decide) ?_
      refine V_iadd X dX3_holds_6 ?_
      refine V_aload_n X 0 dX3_holds_7 rfl rfl ?_
      refine V_getr X (o := (5, n0, 0)) (i := (6, n0, 2)) (ci := 3) (k := 3) (N := 6) (T := TX3) (C := RX3) ⟨hn0, rfl⟩ rfl rfl rfl (by decide) (mBa inB_X3) (mB wl_RX3_25) dX3_holds_8 ?_
      refine V_alen X (Int32.ofNat (zlen y (6, n0, 2))) (o := (6, n0, 2)) (n := (zlen y (6, n0, 2))) ⟨hn0, by decide⟩ rfl rfl rfl dX3_holds_11 ?_
      refine V_icmp_lt X (tgt := 17) dX3_holds_12 (by decide) (fun b3 => ?_) (fun b3 => ?_)
      · replace h := (if_pos b3).symm.trans h
        refine V_iconst X 0 dX3_holds_17 (by decide) ?_
        refine V_istore X [(5, .int 0), (0, .ref (zad y (5, n0, 0))), (1, .ref (zad y (1, s1, 0))), (2, .int a2), (3, .int a3), (4, .int a4)] dX3_holds_18 (by decide) rfl ?_
        refine V_iconst X 0 dX3_holds_20 (by decide) ?_
        refine V_aload_n X 1 dX3_holds_21 rfl rfl ?_
        refine V_getr X (o := (5, n0, 0)) (i := (6, n0, 2)) (ci := 3) (k := 3) (N := 6) (T := TX3) (C := RX3) ⟨hn0, rfl⟩ rfl rfl rfl (by decide) (mBa inB_X3) (mB wl_RX3_25) dX3_holds_22 ?_
        refine V_iload_n X 4 dX3_holds_25 rfl rfl ?_
        obtain ⟨g4, h⟩ := gd_some h
        refine V_iald X a3.toNatClampNeg rfl (o := (6, n0, 2)) (n := (zlen y (6, n0, 2))) ⟨hn0, by decide⟩ rfl rfl g4 dX3_holds_26 ?_
        refine V_zmax X (ix := 44) (mB wm_RX3_44) (mB wst_Math_max) (mB win_Math) (mB wc_Math_max) (Nat.le_of_ble_eq_true rfl) (Nat.le_of_ble_eq_true rfl) dX3_holds_27 ?_
        refine V_istore X [(6, .int (zmax 0 (μ (6, n0, 2) a3.toNatClampNeg))), (5, .int 0), (0, .ref (zad y (5, n0, 0))), (1, .ref (zad y (1, s1, 0))), (2, .int a2), (3, .int a3), (4, .int a4)] dX3_holds_30 (by decide) rfl ?_
        refine zlt_el (P := fun (x5 : Int32) => V X μ 32 [(6, .int x5), (5, .int 0), (0, .ref (zad y (5, n0, 0))), (1, .ref (zad y (1, s1, 0))), (2, .int a2), (3, .int a3), (4, .int a4)] []) h (fun x5 h => ?_)
        refine V_sub X [2, 3, 4, 5, 6, 1, 0] (lv' := [(0, .ref (zad y (5, n0, 0))), (1, .ref (zad y (1, s1, 0))), (2, .int a2), (3, .int a3), (4, .int a4), (5, .int 0), (6, .int x5)]) rfl ?_
        obtain ⟨x9, μ10, hl, h⟩ := bd2_some h
        have hk : V X μ10 186 [(0, .ref (zad y (5, n0, 0))), (5, .int x9)] [] := by
          clear hl
          refine V_iload X 1 dX3_holds_186 rfl ?_
          refine V_iconst X 1 dX3_holds_188 (by decide) ?_
          obtain ⟨x33, h1, h⟩ := bd_some h
          have hk : V X μ10 206 [] [.int x33] := by
            clear h1
            obtain ⟨hzb, h⟩ := gd_some h
            exact V_zretW X h hzb dX3_holds_206
          replace h := h1
          clear h1
          refine jk0_el (P := V X μ10 201 [] []) h (fun h => ?_) (fun k34 hk34 h => ?_)
          · refine V_iconst X 1 dX3_holds_201 (by decide) ?_
            refine V_goto X (tgt := 206) dX3_holds_202 (by decide) ?_
            obtain rfl := so1 h
            exact hk
          · refine V_icmp_lt X (tgt := 201) dX3_holds_189 (by decide) (fun b32 => ?_) (fun b32 => ?_)
            · replace h := (if_pos b32).symm.trans h
              refine V_sub X [] (lv' := []) rfl ?_
              exact hk34 h
            · replace h := (if_neg b32).symm.trans h
              refine V_aload_n X 0 dX3_holds_192 rfl rfl ?_
              refine V_getr X (o := (5, n0, 0)) (i := (6, n0, 4)) (ci := 3) (k := 5) (N := 6) (T := TX3) (C := RX3) ⟨hn0, rfl⟩ rfl rfl rfl (by decide) (mBa inB_X3) (mB wl_RX3_9) dX3_holds_193 ?_
              refine V_iconst X 0 dX3_holds_196 (by decide) ?_
              refine V_iald X 0 (by decide) (o := (6, n0, 4)) (n := 32) ⟨hn0, by decide⟩ rfl rfl (by decide) dX3_holds_197 ?_
              refine V_if_eq X (tgt := 205) dX3_holds_198 (by decide) (fun b35 => ?_) (fun b35 => ?_)
              · replace h := (if_pos b35).symm.trans h
                refine V_iconst X 0 dX3_holds_205 (by decide) ?_
                refine V_sub X [] (lv' := []) rfl ?_
                obtain rfl := so1 h
                exact hk
              · replace h := (if_neg b35).symm.trans h
                refine V_sub X [] (lv' := []) rfl ?_
                exact hk34 h
        refine lp_ind (P := fun q => V X q.2.2 32 [(0, .ref (zad y (5, n0, 0))), (1, .ref (zad y (1, s1, 0))), (2, .int a2), (3, .int a3), (4, .int a4), (5, .int q.1), (6, .int q.2.1)] []) (fun q z h hz => ?_) hl
        obtain ⟨x6, x7, μ8⟩ := q
        replace h := un3_eq h
        show V X μ8 32 [(0, .ref (zad y (5, n0, 0))), (1, .ref (zad y (1, s1, 0))), (2, .int a2), (3, .int a3), (4, .int a4), (5, .int x6), (6, .int x7)] []
        refine V_iload X 6 dX3_holds_32 rfl ?_
        refine V_aload_n X 0 dX3_holds_34 rfl rfl ?_
        refine V_getr X (o := (5, n0, 0)) (i := (6, n0, 2)) (ci := 3) (k := 3) (N := 6) (T := TX3) (C := RX3) ⟨hn0, rfl⟩ rfl rfl rfl (by decide) (mBa inB_X3) (mB wl_RX3_25) dX3_holds_35 ?_
        refine V_iload_n X 3 dX3_holds_38 rfl rfl ?_
        refine V_iconst X 1 dX3_holds_39 (by decide) ?_
        refine V_iadd X dX3_holds_40 ?_
        obtain ⟨g11, h⟩ := gd_some h
        refine V_iald X (a3 + 1).toNatClampNeg rfl (o := (6, n0, 2)) (n := (zlen y (6, n0, 2))) ⟨hn0, by decide⟩ rfl rfl g11 dX3_holds_41 ?_
        refine V_icmp_ge X (tgt := 186) dX3_holds_42 (by decide) (fun b12 => ?_) (fun b12 => ?_)
        · replace h := (if_pos b12).symm.trans h
          refine V_sub X [0, 5] (lv' := [(0, .ref (zad y (5, n0, 0))), (5, .int x6)]) rfl ?_
          cases h
          obtain ⟨rfl, rfl⟩ := pr2 hz
          exact hk
        · replace h := (if_neg b12).symm.trans h
          refine V_iload X 6 dX3_holds_45 rfl ?_
          refine V_aload_n X 0 dX3_holds_47 rfl rfl ?_
          refine V_getr X (o := (5, n0, 0)) (i := (6, n0, 3)) (ci := 3) (k := 4) (N := 6) (T := TX3) (C := RX3) ⟨hn0, rfl⟩ rfl rfl rfl (by decide) (mBa inB_X3) (mB wl_RX3_28) dX3_holds_48 ?_
          refine V_alen X (Int32.ofNat (zlen y (6, n0, 3))) (o := (6, n0, 3)) (n := (zlen y (6, n0, 3))) ⟨hn0, by decide⟩ rfl rfl rfl dX3_holds_51 ?_
          refine V_icmp_ge X (tgt := 186) dX3_holds_52 (by decide) (fun b13 => ?_) (fun b13 => ?_)
          · replace h := (if_pos b13).symm.trans h
            refine V_sub X [0, 5] (lv' := [(0, .ref (zad y (5, n0, 0))), (5, .int x6)]) rfl ?_
            cases h
            obtain ⟨rfl, rfl⟩ := pr2 hz
            exact hk
          · replace h := (if_neg b13).symm.trans h
            refine V_aload_n X 0 dX3_holds_55 rfl rfl ?_
            refine V_getr X (o := (5, n0, 0)) (i := (6, n0, 3)) (ci := 3) (k := 4) (N := 6) (T := TX3) (C := RX3) ⟨hn0, rfl⟩ rfl rfl rfl (by decide) (mBa inB_X3) (mB wl_RX3_28) dX3_holds_56 ?_
            refine V_iload X 6 dX3_holds_59 rfl ?_
            obtain ⟨g14, h⟩ := gd_some h
            refine V_iald X x7.toNatClampNeg rfl (o := (6, n0, 3)) (n := (zlen y (6, n0, 3))) ⟨hn0, by decide⟩ rfl rfl g14 dX3_holds_61 ?_
            refine V_istore X [(7, .int (μ8 (6, n0, 3) x7.toNatClampNeg)), (0, .ref (zad y (5, n0, 0))), (1, .ref (zad y (1, s1, 0))), (2, .int a2), (3, .int a3), (4, .int a4), (5, .int x6), (6, .int x7)] dX3_holds_62 (by decide) rfl ?_
            refine zlt_el (P := fun (x15 : Int32) => V X μ8 64 [(7, .int x15), (0, .ref (zad y (5, n0, 0))), (1, .ref (zad y (1, s1, 0))), (2, .int a2), (3, .int a3), (4, .int a4), (5, .int x6), (6, .int x7)] []) h (fun x15 h => ?_)
            refine V_iload X 0 dX3_holds_64 rfl ?_
            refine V_sipush X 1009 dX3_holds_66 (by decide) ?_
            obtain ⟨x17, μ18, h1, h⟩ := bd2_some h
            have hk : V X μ18 180 [(0, .ref (zad y (5, n0, 0))), (1, .ref (zad y (1, s1, 0))), (2, .int a2), (3, .int a3), (4, .int a4), (5, .int x17), (6, .int x7)] [] := by
              clear h1
              refine V_inc X 6 1 [(6, .int (x7 + 1)), (0, .ref (zad y (5, n0, 0))), (1, .ref (zad y (1, s1, 0))), (2, .int a2), (3, .int a3), (4, .int a4), (5, .int x17)] dX3_holds_180 rfl (by decide) (by decide) rfl ?_
              refine V_goto X (tgt := 32) dX3_holds_183 (by decide) ?_
              refine V_sub X [1, 2, 3, 4, 5, 6, 0] (lv' := [(0, .ref (zad y (5, n0, 0))), (1, .ref (zad y (1, s1, 0))), (2, .int a2), (3, .int a3), (4, .int a4), (5, .int x17), (6, .int (x7 + 1))]) rfl ?_
              cases h
              exact hz
            replace h := h1
            clear h1
            refine V_icmp_gt X (tgt := 104) dX3_holds_69 (by decide) (fun b16 => ?_) (fun b16 => ?_)
            · replace h := (if_pos b16).symm.trans h
              refine V_iload X 0 dX3_holds_104 rfl ?_
              refine V_sipush X 1016 dX3_holds_106 (by decide) ?_
              refine V_icmp_ne X (tgt := 141) dX3_holds_109 (by decide) (fun b19 => ?_) (fun b19 => ?_)
              · replace h := (if_neg b19).symm.trans h
                refine V_iload X 6 dX3_holds_141 rfl ?_
                refine V_iconst X 2 dX3_holds_143 (by decide) ?_
                refine V_icmp_lt X (tgt := 180) dX3_holds_144 (by decide) (fun b20 => ?_) (fun b20 => ?_)
                · replace h := (if_pos b20).symm.trans h
                  refine V_sub X [1, 2, 3, 4, 5, 6, 7] (lv' := [(0, .ref (zad y (5, n0, 0))), (1, .ref (zad y (1, s1, 0))), (2, .int a2), (3, .int a3), (4, .int a4), (5, .int x6), (6, .int x7)]) rfl ?_
                  obtain ⟨rfl, rfl⟩ := so2 h
                  exact hk
                · replace h := (if_neg b20).symm.trans h
                  refine V_inc X 6 (-1) [(5, .int (x6 + (-1))), (7, .int x15), (0, .ref (zad y (5, n0, 0))), (1, .ref (zad y (1, s1, 0))), (2, .int a2), (3, .int a3), (4, .int a4), (6, .int x7)] dX3_holds_147 rfl (by decide) (by decide) rfl ?_
                  refine V_aload_n X 2 dX3_holds_150 rfl rfl ?_
                  refine V_getr X (o := (5, n0, 0)) (i := (6, n0, 4)) (ci := 3) (k := 5) (N := 6) (T := TX3) (C := RX3) ⟨hn0, rfl⟩ rfl rfl rfl (by decide) (mBa inB_X3) (mB wl_RX3_9) dX3_holds_151 ?_
                  refine V_iload X 0 dX3_holds_154 rfl ?_
                  refine V_iconst X 1 dX3_holds_156 (by decide) ?_
                  refine V_isub X dX3_holds_157 ?_
                  refine V_iload X 1 dX3_holds_158 rfl ?_
                  refine V_aload_n X 2 dX3_holds_160 rfl rfl ?_
                  refine V_getr X (o := (5, n0, 0)) (i := (6, n0, 4)) (ci := 3) (k := 5) (N := 6) (T := TX3) (C := RX3) ⟨hn0, rfl⟩ rfl rfl rfl (by decide) (mBa inB_X3) (mB wl_RX3_9) dX3_holds_161 ?_
                  refine V_iload X 0 dX3_holds_164 rfl ?_
                  refine V_iconst X 1 dX3_holds_166 (by decide) ?_
                  refine V_isub X dX3_holds_167 ?_
                  obtain ⟨g21, h⟩ := gd_some h
                  refine V_iald X ((x6 + (-1)) - 1).toNatClampNeg rfl (o := (6, n0, 4)) (n := 32) ⟨hn0, by decide⟩ rfl rfl g21 dX3_holds_168 ?_
                  refine V_aload_n X 2 dX3_holds_169 rfl rfl ?_
                  refine V_getr X (o := (5, n0, 0)) (i := (6, n0, 4)) (ci := 3) (k := 5) (N := 6) (T := TX3) (C := RX3) ⟨hn0, rfl⟩ rfl rfl rfl (by decide) (mBa inB_X3) (mB wl_RX3_9) dX3_holds_170 ?_
                  refine V_iload X 0 dX3_holds_173 rfl ?_
                  obtain ⟨g22, h⟩ := gd_some h
                  refine V_iald X (x6 + (-1)).toNatClampNeg rfl (o := (6, n0, 4)) (n := 32) ⟨hn0, by decide⟩ rfl rfl g22 dX3_holds_175 ?_
                  refine V_callSi X (As := [.int x15, .int (μ8 (6, n0, 4) ((x6 + (-1)) - 1).toNatClampNeg), .int (μ8 (6, n0, 4) (x6 + (-1)).toNatClampNeg)]) (M_X3_joined) (va_cwS 3 X.2.2.2.2.2.2.1 (gS wm_RX3_54 wst_X3_joined win_RX3 wc_X3_joined) rfl rfl rfl hd_X3_joined.2 ⟨Nat.le_of_ble_eq_true rfl, Nat.le_of_ble_eq_true rfl⟩) rfl (Nat.le_of_ble_eq_true rfl) dX3_holds_176 rfl ?_
                  refine V_iast X ((x6 + (-1)) - 1).toNatClampNeg rfl (o := (6, n0, 4)) (n := 32) ⟨hn0, by decide⟩ rfl rfl g21 dX3_holds_179 ?_
                  refine zlt_el (P := fun (μ23 : ZMem) => V X μ23 180 [(5, .int (x6 + (-1))), (7, .int x15), (0, .ref (zad y (5, n0, 0))), (1, .ref (zad y (1, s1, 0))), (2, .int a2), (3, .int a3), (4, .int a4), (6, .int x7)] []) h (fun μ23 h => ?_)
                  refine V_sub X [2, 3, 4, 5, 6, 0, 7] (lv' := [(0, .ref (zad y (5, n0, 0))), (1, .ref (zad y (1, s1, 0))), (2, .int a2), (3, .int a3), (4, .int a4), (5, .int (x6 + (-1))), (6, .int x7)]) rfl ?_
                  obtain ⟨rfl, rfl⟩ := so2 h
                  exact hk
              · replace h := (if_pos b19).symm.trans h
                refine V_iload X 6 dX3_holds_112 rfl ?_
                refine V_iconst X 1 dX3_holds_114 (by decide) ?_
                refine V_icmp_lt X (tgt := 180) dX3_holds_115 (by decide) (fun b24 => ?_) (fun b24 => ?_)
                · replace h := (if_pos b24).symm.trans h
                  refine V_sub X [1, 2, 3, 4, 5, 6, 7] (lv' := [(0, .ref (zad y (5, n0, 0))), (1, .ref (zad y (1, s1, 0))), (2, .int a2), (3, .int a3), (4, .int a4), (5, .int x6), (6, .int x7)]) rfl ?_
                  obtain ⟨rfl, rfl⟩ := so2 h
                  exact hk
                · replace h := (if_neg b24).symm.trans h
                  refine V_aload_n X 1 dX3_holds_118 rfl rfl ?_
                  refine V_getr X (o := (5, n0, 0)) (i := (6, n0, 4)) (ci := 3) (k := 5) (N := 6) (T := TX3) (C := RX3) ⟨hn0, rfl⟩ rfl rfl rfl (by decide) (mBa inB_X3) (mB wl_RX3_9) dX3_holds_119 ?_
                  refine V_iload X 6 dX3_holds_122 rfl ?_
                  refine V_iconst X 1 dX3_holds_124 (by decide) ?_
                  refine V_isub X dX3_holds_125 ?_
                  refine V_iconst X 1 dX3_holds_126 (by decide) ?_
                  refine V_aload_n X 1 dX3_holds_127 rfl rfl ?_
                  refine V_getr X (o := (5, n0, 0)) (i := (6, n0, 4)) (ci := 3) (k := 5) (N := 6) (T := TX3) (C := RX3) ⟨hn0, rfl⟩ rfl rfl rfl (by decide) (mBa inB_X3) (mB wl_RX3_9) dX3_holds_128 ?_
                  refine V_iload X 6 dX3_holds_131 rfl ?_
                  refine V_iconst X 1 dX3_holds_133 (by decide) ?_
                  refine V_isub X dX3_holds_134 ?_
                  obtain ⟨g25, h⟩ := gd_some h
                  refine V_iald X (x6 - 1).toNatClampNeg rfl (o := (6, n0, 4)) (n := 32) ⟨hn0, by decide⟩ rfl rfl g25 dX3_holds_135 ?_
                  refine V_isub X dX3_holds_136 ?_
                  refine V_iast X (x6 - 1).toNatClampNeg rfl (o := (6, n0, 4)) (n := 32) ⟨hn0, by decide⟩ rfl rfl g25 dX3_holds_137 ?_
                  refine zlt_el (P := fun (μ26 : ZMem) => V X μ26 138 [(7, .int x15), (0, .ref (zad y (5, n0, 0))), (1, .ref (zad y (1, s1, 0))), (2, .int a2), (3, .int a3), (4, .int a4), (5, .int x6), (6, .int x7)] []) h (fun μ26 h => ?_)
                  refine V_goto X (tgt := 180) dX3_holds_138 (by decide) ?_
                  refine V_sub X [1, 2, 3, 4, 5, 6, 7] (lv' := [(0, .ref (zad y (5, n0, 0))), (1, .ref (zad y (1, s1, 0))), (2, .int a2), (3, .int a3), (4, .int a4), (5, .int x6), (6, .int x7)]) rfl ?_
                  obtain ⟨rfl, rfl⟩ := so2 h
                  exact hk
            · replace h := (if_neg b16).symm.trans h
              refine V_iload X 6 dX3_holds_72 rfl ?_
              refine V_aload_n X 1 dX3_holds_74 rfl rfl ?_
              refine V_getr X (o := (5, n0, 0)) (i := (6, n0, 4)) (ci := 3) (k := 5) (N := 6) (T := TX3) (C := RX3) ⟨hn0, rfl⟩ rfl rfl rfl (by decide) (mBa inB_X3) (mB wl_RX3_9) dX3_holds_75 ?_
              refine V_alen X 32 (o := (6, n0, 4)) (n := 32) ⟨hn0, by decide⟩ rfl rfl (by decide) dX3_holds_78 ?_
              refine V_icmp_ge X (tgt := 180) dX3_holds_79 (by decide) (fun b27 => ?_) (fun b27 => ?_)
              · replace h := (if_pos b27).symm.trans h
                refine V_sub X [1, 2, 3, 4, 5, 6, 7] (lv' := [(0, .ref (zad y (5, n0, 0))), (1, .ref (zad y (1, s1, 0))), (2, .int a2), (3, .int a3), (4, .int a4), (5, .int x6), (6, .int x7)]) rfl ?_
                obtain ⟨rfl, rfl⟩ := so2 h
                exact hk
              · replace h := (if_neg b27).symm.trans h
                refine V_aload_n X 1 dX3_holds_82 rfl rfl ?_
                refine V_getr X (o := (5, n0, 0)) (i := (6, n0, 4)) (ci := 3) (k := 5) (N := 6) (T := TX3) (C := RX3) ⟨hn0, rfl⟩ rfl rfl rfl (by decide) (mBa inB_X3) (mB wl_RX3_9) dX3_holds_83 ?_
                refine V_iload X 6 dX3_holds_86 rfl ?_
                refine V_aload_n X 2 dX3_holds_88 rfl rfl ?_
                refine V_iload_n X 3 dX3_holds_89 rfl rfl ?_
                refine V_iload X 0 dX3_holds_90 rfl ?_
                refine V_iload X 5 dX3_holds_92 rfl ?_
                obtain ⟨x29, c28, h⟩ := bd_some h
                refine V_callSi X (As := [.ref (zad y (1, s1, 0)), .int a2, .int x15, .int a4]) (M_X3_partOf hs1 c28) (va_cwS 4 X.2.2.2.2.2.2.1 (gS wm_RX3_50 wst_X3_partOf win_RX3 wc_X3_partOf) rfl rfl rfl hd_X3_partOf.2 ⟨Nat.le_of_ble_eq_true rfl, Nat.le_of_ble_eq_true rfl⟩) rfl (Nat.le_of_ble_eq_true rfl) dX3_holds_94 rfl ?_
                obtain ⟨g30, h⟩ := gd_some h
                refine V_iast X x6.toNatClampNeg rfl (o := (6, n0, 4)) (n := 32) ⟨hn0, by decide⟩ rfl rfl g30 dX3_holds_97 ?_
                refine zlt_el (P := fun (μ31 : ZMem) => V X μ31 98 [(7, .int x15), (0, .ref (zad y (5, n0, 0))), (1, .ref (zad y (1, s1, 0))), (2, .int a2), (3, .int a3), (4, .int a4), (5, .int x6), (6, .int x7)] []) h (fun μ31 h => ?_)
                refine V_inc X 6 1 [(5, .int (x6 + 1)), (7, .int x15), (0, .ref (zad y (5, n0, 0))), (1, .ref (zad y (1, s1, 0))), (2, .int a2), (3, .int a3), (4, .int a4), (6, .int x7)] dX3_holds_98 rfl (by decide) (by decide) rfl ?_
                refine V_goto X (tgt := 180) dX3_holds_101 (by decide) ?_
                refine V_sub X [2, 3, 4, 5, 6, 0, 7] (lv' := [(0, .ref (zad y (5, n0, 0))), (1, .ref (zad y (1, s1, 0))), (2, .int a2), (3, .int a3), (4, .int a4), (5, .int (x6 + 1)), (6, .int x7)]) rfl ?_
                obtain ⟨rfl, rfl⟩ := so2 h
                exact hk
      · replace h := (if_neg b3).symm.trans h
        refine V_sub X [] (lv' := []) rfl ?_
        exact hk2 h

def f_X3_sum (y : ZLay) (n0 : Nat) (s1 : Nat) (a2 : Int32) (a3 : Int32) (μ : ZMem) : Option (Int32 × ZMem) := bd (f_X7_inState s1 2 μ) (fun (x2 : Int32) => zlt (α := Int32) (if (x2 &&& ((f_X11_bit a2) ^^^ (-1))) = 0 then 1 else 0) (fun (x4 : Int32) => bd2 (lp (σ := Int32 × Int32 × ZMem) (fun q => un3 q (fun (x5 : Int32) (x6 : Int32) (μ7 : ZMem) => if (μ7 (5, n0, 0) 0) ≤ x6 then some (.inr (x5, μ7)) else if (Int32.ofNat (zlen y (6, n0, 0))) ≤ x6 then some (.inr (x5, μ7)) else if (Int32.ofNat (zlen y (6, n0, 1))) ≤ x6 then some (.inr (x5, μ7)) else gd (zin x6 (zlen y (6, n0, 0))) (bd2 (α := Int32) (β := ZMem) (if (μ7 (6, n0, 0) x6.toNatClampNeg) = a3 then bd2 (f_X3_holds y n0 s1 a2 x6 x4 μ7) (fun (x18 : Int32) (μ19 : ZMem) => if x18 = 0 then some (x5, μ19) else gd (zin x6 (zlen y (6, n0, 1))) (zlt (x5 + (μ19 (6, n0, 1) x6.toNatClampNeg)) (fun (x22 : Int32) => some (x22, μ19)))) else some (x5, μ7)) (fun (x15 : Int32) (μ16 : ZMem) => some (.inl (x15, (x6 + 1), μ16)))))) FU (0, 0, μ)) (fun (x8 : Int32) (μ9 : ZMem) => some (x8, μ9))))
set_option maxRecDepth 100000 in
set_option maxHeartbeats 4000000 in
theorem M_X3_sum {l : Launch} {D : va_G} {y : ZLay} {n0 : Nat} {s1 : Nat} {a2 : Int32} {a3 : Int32} (hn0 : n0 < znl y) (hs1 : s1 < 15) {μ : ZMem} {r : Int32} {μ0 : ZMem} (h : f_X3_sum y n0 s1 a2 a3 μ = some (r, μ0)) : MI l yX3_sum wb_X3_sum rm_X3_sum D y [.ref (zad y (5, n0, 0)), .ref (zad y (1, s1, 0)), .int a2, .int a3] μ r μ0 := by
  unfold f_X3_sum at h
  refine MI_of RX3 [(0, .ref (zad y (5, n0, 0))), (1, .ref (zad y (1, s1, 0))), (2, .int a2), (3, .int a3)] (by decide) rfl rfl (Nat.le_of_ble_eq_true rfl) rfl ?_
  intro p e s m args below meth c A X
  refine V_iconst X 0 dX3_sum_0 (by decide) ?_
  refine V_istore X [(4, .int 0), (0, .ref (zad y (5, n0, 0))), (1, .ref (zad y (1, s1, 0))), (2, .int a2), (3, .int a3)] dX3_sum_1 (by decide) rfl ?_
  refine V_aload_n X 2 dX3_sum_3 rfl rfl ?_
  refine V_iconst X 2 dX3_sum_4 (by decide) ?_
  obtain ⟨x2, c1, h⟩ := bd_some h
  refine V_callVi X (As := [.int 2]) (M_X7_inState hs1 c1) (cwV 1 X.2.2.2.2.2.2.1 (gV wm_RX3_31 wi_X7_inState wse_X7_inState win_RX7 wc_X7_inState) rfl rfl rfl hd_X7_inState ⟨Nat.le_of_ble_eq_true rfl, Nat.le_of_ble_eq_true rfl⟩) (b := (1, s1, 0)) ⟨hs1, rfl⟩ rfl rfl rfl rfl (Nat.le_of_ble_eq_true rfl) dX3_sum_5 rfl ?_
  refine V_iload_n X 3 dX3_sum_8 rfl rfl ?_
  refine V_callSNi X (As := [.int a2]) (M_X11_bit) ⟨va_cnB (host := "SlotCluster") 1 X.2.2.2.2.2.2.1 (gN wc_X11_bit) rfl rfl rfl (X.2.2.2.2.2.2.2.2.1 _ (List.mem_of_getElem? wn_RX3_37)) (X.2.2.2.2.2.2.1 (.initialized RX11) (mB win_RX11)) hd_X11_bit.2 ⟨Nat.le_of_ble_eq_true rfl, Nat.le_of_ble_eq_true rfl⟩, X.2.2.2.2.2.2.1 (.static yX11_bit) (mB wst_X11_bit), trivial⟩ rfl (Nat.le_of_ble_eq_true rfl) dX3_sum_9 rfl ?_
  refine V_iconst X (-1) dX3_sum_12 (by decide) ?_
  refine V_ixor X dX3_sum_13 ?_
  refine V_iand X dX3_sum_14 ?_
  obtain ⟨x4, h1, h⟩ := zl1_some h
  have hk : V X μ 23 [(0, .ref (zad y (5, n0, 0))), (1, .ref (zad y (1, s1, 0))), (2, .int a2), (3, .int a3), (4, .int 0)] [.int x4] := by
    clear h1
    refine V_istore X [(5, .int x4), (0, .ref (zad y (5, n0, 0))), (1, .ref (zad y (1, s1, 0))), (2, .int a2), (3, .int a3), (4, .int 0)] dX3_sum_23 (by decide) rfl ?_
    refine V_iconst X 0 dX3_sum_25 (by decide) ?_
    refine V_istore X [(6, .int 0), (5, .int x4), (0, .ref (zad y (5, n0, 0))), (1, .ref (zad y (1, s1, 0))), (2, .int a2), (3, .int a3), (4, .int 0)] dX3_sum_26 (by decide) rfl ?_
    refine V_sub X [2, 3, 4, 5, 6, 1, 0] (lv' := [(0, .ref (zad y (5, n0, 0))), (1, .ref (zad y (1, s1, 0))), (2, .int a2), (3, .int a3), (4, .int 0), (5, .int x4), (6, .int 0)]) rfl ?_
    obtain ⟨x8, μ9, hl, h⟩ := bd2_some h
    have hk : V X μ9 99 [(4, .int x8)] [] := by
      clear hl
      refine V_iload X 0 dX3_sum_99 rfl ?_
      exact V_iretW X h dX3_sum_101
    refine lp_ind (P := fun q => V X q.2.2 28 [(0, .ref (zad y (5, n0, 0))), (1, .ref (zad y (1, s1, 0))), (2, .int a2), (3, .int a3), (4, .int q.1), (5, .int x4), (6, .int q.2.1)] []) (fun q z h hz => ?_) hl
    obtain ⟨x5, x6, μ7⟩ := q
    replace h := un3_eq h
    show V X μ7 28 [(0, .ref (zad y (5, n0, 0))), (1, .ref (zad y (1, s1, 0))), (2, .int a2), (3, .int a3), (4, .int x5), (5, .int x4), (6, .int x6)] []
    refine V_iload X 6 dX3_sum_28 rfl ?_
    refine V_aload_n X 0 dX3_sum_30 rfl rfl ?_
    refine V_geti X (o := (5, n0, 0)) (ci := 3) (k := 0) (N := 6) (T := TX3) (C := RX3) ⟨hn0, rfl⟩ rfl rfl rfl (by decide) (mBa inB_X3) (mB wl_RX3_15) dX3_sum_31 ?_
    refine V_icmp_ge X (tgt := 99) dX3_sum_34 (by decide) (fun b10 => ?_) (fun b10 => ?_)
    · replace h := (if_pos b10).symm.trans h
      refine V_sub X [4] (lv' := [(4, .int x5)]) rfl ?_
      cases h
      obtain ⟨rfl, rfl⟩ := pr2 hz
      exact hk
    · replace h := (if_neg b10).symm.trans h
      refine V_iload X 6 dX3_sum_37 rfl ?_
      refine V_aload_n X 0 dX3_sum_39 rfl rfl ?_
      refine V_getr X (o := (5, n0, 0)) (i := (6, n0, 0)) (ci := 3) (k := 1) (N := 6) (T := TX3) (C := RX3) ⟨hn0, rfl⟩ rfl rfl rfl (by decide) (mBa inB_X3) (mB wl_RX3_19) dX3_sum_40 ?_
      refine V_alen X (Int32.ofNat (zlen y (6, n0, 0))) (o := (6, n0, 0)) (n := (zlen y (6, n0, 0))) ⟨hn0, by decide⟩ rfl rfl rfl dX3_sum_43 ?_
      refine V_icmp_ge X (tgt := 99) dX3_sum_44 (by decide) (fun b11 => ?_) (fun b11 => ?_)
      · replace h := (if_pos b11).symm.trans h
        refine V_sub X [4] (lv' := [(4, .int x5)]) rfl ?_
        cases h
        obtain ⟨rfl, rfl⟩ := pr2 hz
        exact hk
      · replace h := (if_neg b11).symm.trans h
        refine V_iload X 6 dX3_sum_47 rfl ?_
        refine V_aload_n X 0 dX3_sum_49 rfl rfl ?_
        refine V_getr X (o := (5, n0, 0)) (i := (6, n0, 1)) (ci := 3) (k := 2) (N := 6) (T := TX3) (C := RX3) ⟨hn0, rfl⟩ rfl rfl rfl (by decide) (mBa inB_X3) (mB wl_RX3_22) dX3_sum_50 ?_
        refine V_alen X (Int32.ofNat (zlen y (6, n0, 1))) (o := (6, n0, 1)) (n := (zlen y (6, n0, 1))) ⟨hn0, by decide⟩ rfl rfl rfl dX3_sum_53 ?_
        refine V_icmp_ge X (tgt := 99) dX3_sum_54 (by decide) (fun b12 => ?_) (fun b12 => ?_)
        · replace h := (if_pos b12).symm.trans h
          refine V_sub X [4] (lv' := [(4, .int x5)]) rfl ?_
          cases h
          obtain ⟨rfl, rfl⟩ := pr2 hz
          exact hk
        · replace h := (if_neg b12).symm.trans h
          refine V_aload_n X 0 dX3_sum_57 rfl rfl ?_
          refine V_getr X (o := (5, n0, 0)) (i := (6, n0, 0)) (ci := 3) (k := 1) (N := 6) (T := TX3) (C := RX3) ⟨hn0, rfl⟩ rfl rfl rfl (by decide) (mBa inB_X3) (mB wl_RX3_19) dX3_sum_58 ?_
          refine V_iload X 6 dX3_sum_61 rfl ?_
          obtain ⟨g13, h⟩ := gd_some h
          refine V_iald X x6.toNatClampNeg rfl (o := (6, n0, 0)) (n := (zlen y (6, n0, 0))) ⟨hn0, by decide⟩ rfl rfl g13 dX3_sum_63 ?_
          refine V_iload_n X 3 dX3_sum_64 rfl rfl ?_
          obtain ⟨x15, μ16, h1, h⟩ := bd2_some h
          have hk : V X μ16 93 [(0, .ref (zad y (5, n0, 0))), (1, .ref (zad y (1, s1, 0))), (2, .int a2), (3, .int a3), (4, .int x15), (5, .int x4), (6, .int x6)] [] := by
            clear h1
            refine V_inc X 6 1 [(6, .int (x6 + 1)), (0, .ref (zad y (5, n0, 0))), (1, .ref (zad y (1, s1, 0))), (2, .int a2), (3, .int a3), (4, .int x15), (5, .int x4)] dX3_sum_93 rfl (by decide) (by decide) rfl ?_
            refine V_goto X (tgt := 28) dX3_sum_96 (by decide) ?_
            refine V_sub X [1, 2, 3, 4, 5, 6, 0] (lv' := [(0, .ref (zad y (5, n0, 0))), (1, .ref (zad y (1, s1, 0))), (2, .int a2), (3, .int a3), (4, .int x15), (5, .int x4), (6, .int (x6 + 1))]) rfl ?_
            cases h
            exact hz
          replace h := h1
          clear h1
          refine V_icmp_ne X (tgt := 93) dX3_sum_65 (by decide) (fun b14 => ?_) (fun b14 => ?_)
          · replace h := (if_neg b14).symm.trans h
            obtain ⟨rfl, rfl⟩ := so2 h
            exact hk
          · replace h := (if_pos b14).symm.trans h
            refine V_aload_n X 0 dX3_sum_68 rfl rfl ?_
            refine V_aload_n X 1 dX3_sum_69 rfl rfl ?_
            refine V_iload_n X 2 dX3_sum_70 rfl rfl ?_
            refine V_iload X 6 dX3_sum_71 rfl ?_
            refine V_iload X 5 dX3_sum_73 rfl ?_
            obtain ⟨x18, μ19, c17, h⟩ := bd2_some h
            refine V_callVi X (As := [.ref (zad y (1, s1, 0)), .int a2, .int x6, .int x4]) (M_X3_holds hn0 hs1 c17) (cwV 4 X.2.2.2.2.2.2.1 (gV wm_RX3_40 wi_X3_holds wse_X3_holds win_RX3 wc_X3_holds) rfl rfl rfl hd_X3_holds ⟨Nat.le_of_ble_eq_true rfl, Nat.le_of_ble_eq_true rfl⟩) (b := (5, n0, 0)) ⟨hn0, rfl⟩ rfl rfl rfl rfl (Nat.le_of_ble_eq_true rfl) dX3_sum_75 rfl ?_
            refine V_if_eq X (tgt := 93) dX3_sum_78 (by decide) (fun b20 => ?_) (fun b20 => ?_)
            · replace h := (if_pos b20).symm.trans h
              obtain ⟨rfl, rfl⟩ := so2 h
              exact hk
            · replace h := (if_neg b20).symm.trans h
              refine V_iload X 4 dX3_sum_81 rfl ?_
              refine V_aload_n X 0 dX3_sum_83 rfl rfl ?_
              refine V_getr X (o := (5, n0, 0)) (i := (6, n0, 1)) (ci := 3) (k := 2) (N := 6) (T := TX3) (C := RX3) ⟨hn0, rfl⟩ rfl rfl rfl (by decide) (mBa inB_X3) (mB wl_RX3_22) dX3_sum_84 ?_
              refine V_iload X 6 dX3_sum_87 rfl ?_
              obtain ⟨g21, h⟩ := gd_some h
              refine V_iald X x6.toNatClampNeg rfl (o := (6, n0, 1)) (n := (zlen y (6, n0, 1))) ⟨hn0, by decide⟩ rfl rfl g21 dX3_sum_89 ?_
              refine V_iadd X dX3_sum_90 ?_
              refine V_istore X [(4, .int (x5 + (μ19 (6, n0, 1) x6.toNatClampNeg))), (0, .ref (zad y (5, n0, 0))), (1, .ref (zad y (1, s1, 0))), (2, .int a2), (3, .int a3), (5, .int x4), (6, .int x6)] dX3_sum_91 (by decide) rfl ?_
              refine zlt_el (P := fun (x22 : Int32) => V X μ19 93 [(4, .int x22), (0, .ref (zad y (5, n0, 0))), (1, .ref (zad y (1, s1, 0))), (2, .int a2), (3, .int a3), (5, .int x4), (6, .int x6)] []) h (fun x22 h => ?_)
              refine V_sub X [1, 2, 3, 4, 0, 5, 6] (lv' := [(0, .ref (zad y (5, n0, 0))), (1, .ref (zad y (1, s1, 0))), (2, .int a2), (3, .int a3), (4, .int x22), (5, .int x4), (6, .int x6)]) rfl ?_
              obtain ⟨rfl, rfl⟩ := so2 h
              exact hk
  replace h := h1
  clear h1
  refine V_if_ne X (tgt := 22) dX3_sum_15 (by decide) (fun b3 => ?_) (fun b3 => ?_)
  · replace h := (if_neg b3).symm.trans h
    refine V_iconst X 0 dX3_sum_22 (by decide) ?_
    refine V_sub X [1, 2, 3, 4, 0] (lv' := [(0, .ref (zad y (5, n0, 0))), (1, .ref (zad y (1, s1, 0))), (2, .int a2), (3, .int a3), (4, .int 0)]) rfl ?_
    obtain rfl := pr1 h
    exact hk
  · replace h := (if_pos b3).symm.trans h
    refine V_iconst X 1 dX3_sum_18 (by decide) ?_
    refine V_goto X (tgt := 23) dX3_sum_19 (by decide) ?_
    refine V_sub X [1, 2, 3, 4, 0] (lv' := [(0, .ref (zad y (5, n0, 0))), (1, .ref (zad y (1, s1, 0))), (2, .int a2), (3, .int a3), (4, .int 0)]) rfl ?_
    obtain rfl := pr1 h
    exact hk

def f_X8_takeAny (a1 : Int32) (a2 : Int32) (μ : ZMem) : Option (Int32 × ZMem) := bd (α := Int32) (jk (some (-1)) (fun k3 => if (μ (0, 20, 0) 0) = (-1) then if (μ (0, 20, 0) 3) ≤ (μ (0, 20, 0) 4) then k3 else gd (zin (μ (0, 20, 0) 4) 401) (some (μ (0, 21, 0) (μ (0, 20, 0) 4).toNatClampNeg)) else k3)) (fun (x2 : Int32) => jk (some ((-1), μ)) (fun k7 => if x2 < a1 then k7 else if x2 ≤ a2 then zlt (α := Int32) (if (μ (0, 20, 0) 3) ≤ ((μ (0, 20, 0) 4) + 1) then 0 else 1) (fun (x10 : Int32) => zlt (mset μ (0, 20, 0) 4 ((μ (0, 20, 0) 4) + x10)) (fun (μ11 : ZMem) => some (x2, μ11))) else k7))
set_option maxRecDepth 100000 in
set_option maxHeartbeats 4000000 in
theorem M_X8_takeAny {l : Launch} {D : va_G} {y : ZLay} {a1 : Int32} {a2 : Int32}  {μ : ZMem} {r : Int32} {μ0 : ZMem} (h : f_X8_takeAny a1 a2 μ = some (r, μ0)) : MI l yX8_takeAny wb_X8_takeAny rm_X8_takeAny D y [.ref (zad y (0, 20, 0)), .int a1, .int a2] μ r μ0 := by
  unfold f_X8_takeAny at h
  refine MI_of RX8 [(0, .ref (zad y (0, 20, 0))), (1, .int a1), (2, .int a2)] (by decide) rfl rfl (Nat.le_of_ble_eq_true rfl) rfl ?_
  intro p e s m args below meth c A X
  refine V_aload_n X 0 dX8_takeAny_0 rfl rfl ?_
  refine V_geti X (o := (0, 20, 0)) (ci := 8) (k := 0) (N := 5) (T := TX8) (C := RX8) ⟨by decide, rfl⟩ rfl rfl rfl (by decide) (mBa inB_X8) (mB wl_RX8_9) dX8_takeAny_1 ?_
  refine V_iconst X (-1) dX8_takeAny_4 (by decide) ?_
  obtain ⟨x2, h1, h⟩ := bd_some h
  have hk : V X μ 32 [(0, .ref (zad y (0, 20, 0))), (1, .int a1), (2, .int a2)] [.int x2] := by
    clear h1
    refine V_istore_n X [(3, .int x2), (0, .ref (zad y (0, 20, 0))), (1, .int a1), (2, .int a2)] dX8_takeAny_32 rfl (by decide) rfl ?_
    refine V_iload_n X 0 dX8_takeAny_33 rfl rfl ?_
    refine V_iload_n X 2 dX8_takeAny_34 rfl rfl ?_
    refine jk0_el (P := V X μ 43 [] []) h (fun h => ?_) (fun k7 hk7 h => ?_)
    · refine V_iconst X (-1) dX8_takeAny_43 (by decide) ?_
      exact V_iretW X h dX8_takeAny_44
    · refine V_icmp_lt X (tgt := 43) dX8_takeAny_35 (by decide) (fun b6 => ?_) (fun b6 => ?_)
      · replace h := (if_pos b6).symm.trans h
        refine V_sub X [] (lv' := []) rfl ?_
        exact hk7 h
      · replace h := (if_neg b6).symm.trans h
        refine V_iload_n X 0 dX8_takeAny_38 rfl rfl ?_
        refine V_iload_n X 3 dX8_takeAny_39 rfl rfl ?_
        refine V_icmp_le X (tgt := 45) dX8_takeAny_40 (by decide) (fun b8 => ?_) (fun b8 => ?_)
        · replace h := (if_pos b8).symm.trans h
          refine V_aload_n X 1 dX8_takeAny_45 rfl rfl ?_
          refine V_dup X dX8_takeAny_46 rfl ?_
          refine V_geti X (o := (0, 20, 0)) (ci := 8) (k := 4) (N := 5) (T := TX8) (C := RX8) ⟨by decide, rfl⟩ rfl rfl rfl (by decide) (mBa inB_X8) (mB wl_RX8_25) dX8_takeAny_47 ?_
          refine V_aload_n X 1 dX8_takeAny_50 rfl rfl ?_
          refine V_geti X (o := (0, 20, 0)) (ci := 8) (k := 4) (N := 5) (T := TX8) (C := RX8) ⟨by decide, rfl⟩ rfl rfl rfl (by decide) (mBa inB_X8) (mB wl_RX8_25) dX8_takeAny_51 ?_
          refine V_iconst X 1 dX8_takeAny_54 (by decide) ?_
          refine V_iadd X dX8_takeAny_55 ?_
          refine V_aload_n X 1 dX8_takeAny_56 rfl rfl ?_
          refine V_geti X (o := (0, 20, 0)) (ci := 8) (k := 3) (N := 5) (T := TX8) (C := RX8) ⟨by decide, rfl⟩ rfl rfl rfl (by decide) (mBa inB_X8) (mB wl_RX8_22) dX8_takeAny_57 ?_
          obtain ⟨x10, h1, h⟩ := zl1_some h
          have hk : V X μ 68 [(3, .int x2)] [.int x10, .int (μ (0, 20, 0) 4), .ref (zad y (0, 20, 0))] := by
            clear h1
            refine V_iadd X dX8_takeAny_68 ?_
            refine V_puti X tyX8 .int (o := (0, 20, 0)) (ci := 8) (k := 4) (N := 5) (T := TX8) (C := RX8) ⟨by decide, rfl⟩ rfl rfl rfl (by decide) (mBa inB_X8) tyX8_ok nmX8 (mB wl_RX8_25) rfl rfl rfl rfl dX8_takeAny_69 ?_
            refine zlt_el (P := fun (μ11 : ZMem) => V X μ11 72 [(3, .int x2)] []) h (fun μ11 h => ?_)
            refine V_iload_n X 0 dX8_takeAny_72 rfl rfl ?_
            exact V_iretW X h dX8_takeAny_73
          replace h := h1
          clear h1
          refine V_icmp_ge X (tgt := 67) dX8_takeAny_60 (by decide) (fun b9 => ?_) (fun b9 => ?_)
          · replace h := (if_pos b9).symm.trans h
            refine V_iconst X 0 dX8_takeAny_67 (by decide) ?_
            refine V_sub X [0] (lv' := [(3, .int x2)]) rfl ?_
            obtain rfl := pr1 h
            exact hk
          · replace h := (if_neg b9).symm.trans h
            refine V_iconst X 1 dX8_takeAny_63 (by decide) ?_
            refine V_goto X (tgt := 68) dX8_takeAny_64 (by decide) ?_
            refine V_sub X [0] (lv' := [(3, .int x2)]) rfl ?_
            obtain rfl := pr1 h
            exact hk
        · replace h := (if_neg b8).symm.trans h
          refine V_sub X [] (lv' := []) rfl ?_
          exact hk7 h
  replace h := h1
  clear h1
  refine jk0_el (P := V X μ 31 [(0, .ref (zad y (0, 20, 0))), (1, .int a1), (2, .int a2)] []) h (fun h => ?_) (fun k3 hk3 h => ?_)
  · refine V_iconst X (-1) dX8_takeAny_31 (by decide) ?_
    obtain rfl := so1 h
    exact hk
  · refine V_icmp_ne X (tgt := 31) dX8_takeAny_5 (by decide) (fun b1 => ?_) (fun b1 => ?_)
    · replace h := (if_neg b1).symm.trans h
      exact hk3 h
    · replace h := (if_pos b1).symm.trans h
      refine V_aload_n X 0 dX8_takeAny_8 rfl rfl ?_
      refine V_geti X (o := (0, 20, 0)) (ci := 8) (k := 4) (N := 5) (T := TX8) (C := RX8) ⟨by decide, rfl⟩ rfl rfl rfl (by decide) (mBa inB_X8) (mB wl_RX8_25) dX8_takeAny_9 ?_
      refine V_aload_n X 0 dX8_takeAny_12 rfl rfl ?_
      refine V_geti X (o := (0, 20, 0)) (ci := 8) (k := 3) (N := 5) (T := TX8) (C := RX8) ⟨by decide, rfl⟩ rfl rfl rfl (by decide) (mBa inB_X8) (mB wl_RX8_22) dX8_takeAny_13 ?_
      refine V_icmp_ge X (tgt := 31) dX8_takeAny_16 (by decide) (fun b4 => ?_) (fun b4 => ?_)
      · replace h := (if_pos b4).symm.trans h
        exact hk3 h
      · replace h := (if_neg b4).symm.trans h
        refine V_aload_n X 0 dX8_takeAny_19 rfl rfl ?_
        refine V_getr X (o := (0, 20, 0)) (i := (0, 21, 0)) (ci := 8) (k := 1) (N := 5) (T := TX8) (C := RX8) ⟨by decide, rfl⟩ rfl rfl rfl (by decide) (mBa inB_X8) (mB wl_RX8_15) dX8_takeAny_20 ?_
        refine V_aload_n X 0 dX8_takeAny_23 rfl rfl ?_
        refine V_geti X (o := (0, 20, 0)) (ci := 8) (k := 4) (N := 5) (T := TX8) (C := RX8) ⟨by decide, rfl⟩ rfl rfl rfl (by decide) (mBa inB_X8) (mB wl_RX8_25) dX8_takeAny_24 ?_
        obtain ⟨g5, h⟩ := gd_some h
        refine V_iald X (μ (0, 20, 0) 4).toNatClampNeg rfl (o := (0, 21, 0)) (n := 401) ⟨by decide, rfl⟩ rfl rfl g5 dX8_takeAny_27 ?_
        refine V_goto X (tgt := 32) dX8_takeAny_28 (by decide) ?_
        obtain rfl := so1 h
        exact hk

def f_X4_emit (a1 : Int32) (μ : ZMem) : Option (ZMem) := bd (α := ZMem) (if 400 ≤ (μ (0, 24, 0) 6) then some μ else gd (zin (μ (0, 24, 0) 6) 400) (zlt (mset μ (0, 28, 0) (μ (0, 24, 0) 6).toNatClampNeg a1) (fun (μ4 : ZMem) => zlt (mset μ4 (0, 24, 0) 6 ((μ4 (0, 24, 0) 6) + 1)) (fun (μ5 : ZMem) => some μ5)))) (fun (μ2 : ZMem) => some μ2)
set_option maxRecDepth 100000 in
set_option maxHeartbeats 4000000 in
theorem M_X4_emit {l : Launch} {D : va_G} {y : ZLay} {a1 : Int32}  {μ : ZMem} {μ0 : ZMem} (h : f_X4_emit a1 μ = some μ0) : MV l yX4_emit wb_X4_emit rm_X4_emit D y [.ref (zad y (0, 24, 0)), .int a1] μ μ0 := by
  unfold f_X4_emit at h
  refine MV_of RX4 [(0, .ref (zad y (0, 24, 0))), (1, .int a1)] (by decide) rfl rfl (Nat.le_of_ble_eq_true rfl) rfl ?_
  intro p e s m args below meth c A X
  refine V_aload_n X 0 dX4_emit_0 rfl rfl ?_
  refine V_geti X (o := (0, 24, 0)) (ci := 4) (k := 6) (N := 7) (T := TX4) (C := RX4) ⟨by decide, rfl⟩ rfl rfl rfl (by decide) (mBa inB_X4) (mB wl_RX4_38) dX4_emit_1 ?_
  refine V_aload_n X 0 dX4_emit_4 rfl rfl ?_
  refine V_getr X (o := (0, 24, 0)) (i := (0, 28, 0)) (ci := 4) (k := 4) (N := 7) (T := TX4) (C := RX4) ⟨by decide, rfl⟩ rfl rfl rfl (by decide) (mBa inB_X4) (mB wl_RX4_21) dX4_emit_5 ?_
  refine V_alen X 400 (o := (0, 28, 0)) (n := 400) ⟨by decide, rfl⟩ rfl rfl (by decide) dX4_emit_8 ?_
  obtain ⟨μ2, h1, h⟩ := bd_some h
  have hk : V X μ2 32 [] [] := by
    clear h1
    exact V_vretW X h dX4_emit_32
  replace h := h1
  clear h1
  refine V_icmp_ge X (tgt := 32) dX4_emit_9 (by decide) (fun b1 => ?_) (fun b1 => ?_)
  · replace h := (if_pos b1).symm.trans h
    refine V_sub X [] (lv' := []) rfl ?_
    obtain rfl := so1 h
    exact hk
  · replace h := (if_neg b1).symm.trans h
    refine V_aload_n X 0 dX4_emit_12 rfl rfl ?_
    refine V_getr X (o := (0, 24, 0)) (i := (0, 28, 0)) (ci := 4) (k := 4) (N := 7) (T := TX4) (C := RX4) ⟨by decide, rfl⟩ rfl rfl rfl (by decide) (mBa inB_X4) (mB wl_RX4_21) dX4_emit_13 ?_
    refine V_aload_n X 0 dX4_emit_16 rfl rfl ?_
    refine V_geti X (o := (0, 24, 0)) (ci := 4) (k := 6) (N := 7) (T := TX4) (C := RX4) ⟨by decide, rfl⟩ rfl rfl rfl (by decide) (mBa inB_X4) (mB wl_RX4_38) dX4_emit_17 ?_
    refine V_iload_n X 1 dX4_emit_20 rfl rfl ?_
    obtain ⟨g3, h⟩ := gd_some h
    refine V_iast X (μ (0, 24, 0) 6).toNatClampNeg rfl (o := (0, 28, 0)) (n := 400) ⟨by decide, rfl⟩ rfl rfl g3 dX4_emit_21 ?_
    refine zlt_el (P := fun (μ4 : ZMem) => V X μ4 22 [(0, .ref (zad y (0, 24, 0))), (1, .int a1)] []) h (fun μ4 h => ?_)
    refine V_aload_n X 0 dX4_emit_22 rfl rfl ?_
    refine V_dup X dX4_emit_23 rfl ?_
    refine V_geti X (o := (0, 24, 0)) (ci := 4) (k := 6) (N := 7) (T := TX4) (C := RX4) ⟨by decide, rfl⟩ rfl rfl rfl (by decide) (mBa inB_X4) (mB wl_RX4_38) dX4_emit_24 ?_
    refine V_iconst X 1 dX4_emit_27 (by decide) ?_
    refine V_iadd X dX4_emit_28 ?_
    refine V_puti X tyX4 .int (o := (0, 24, 0)) (ci := 4) (k := 6) (N := 7) (T := TX4) (C := RX4) ⟨by decide, rfl⟩ rfl rfl rfl (by decide) (mBa inB_X4) tyX4_ok nmX4 (mB wl_RX4_38) rfl rfl rfl rfl dX4_emit_29 ?_
    refine zlt_el (P := fun (μ5 : ZMem) => V X μ5 32 [(0, .ref (zad y (0, 24, 0))), (1, .int a1)] []) h (fun μ5 h => ?_)
    refine V_sub X [] (lv' := []) rfl ?_
    obtain rfl := so1 h
    exact hk

def f_X4_readSum (μ : ZMem) : Option (ZMem) := bd (lp (σ := Int32 × Int32 × ZMem) (fun q => un3 q (fun (x1 : Int32) (x2 : Int32) (μ3 : ZMem) => if 400 ≤ x2 then some (.inr (.inl μ3)) else if x1 = 0 then some (.inr (.inl μ3)) else bd2 (f_X8_takeAny 0 1006 μ3) (fun (x8 : Int32) (μ9 : ZMem) => if x8 = (-1) then bd (f_X8_fail μ9) (fun (μ21 : ZMem) => some (.inr (.inr μ21))) else bd (f_X4_emit x8 μ9) (fun (μ12 : ZMem) => bd (α := ZMem) (if x2 ≤ 0 then some μ12 else bd (f_X4_emit 2043 μ12) (fun (μ16 : ZMem) => some μ16)) (fun (μ14 : ZMem) => bd2 (f_X8_takes 2043 μ14) (fun (x18 : Int32) (μ19 : ZMem) => some (.inl (x18, (x2 + 1), μ19)))))))) FU (1, 0, μ)) (fun z => sm z (fun (μ4 : ZMem) => some μ4) (fun r0 => some r0))
set_option maxRecDepth 100000 in
set_option maxHeartbeats 4000000 in
theorem M_X4_readSum {l : Launch} {D : va_G} {y : ZLay}   {μ : ZMem} {μ0 : ZMem} (h : f_X4_readSum μ = some μ0) : MV l yX4_readSum wb_X4_readSum rm_X4_readSum D y [.ref (zad y (0, 24, 0))] μ μ0 := by
  unfold f_X4_readSum at h
  refine MV_of RX4 [(0, .ref (zad y (0, 24, 0)))] (by decide) rfl rfl (Nat.le_of_ble_eq_true rfl) rfl ?_
  intro p e s m args below meth c A X
  refine V_iconst X 1 dX4_readSum_0 (by decide) ?_
  refine V_istore_n X [(1, .int 1), (0, .ref (zad y (0, 24, 0)))] dX4_readSum_1 rfl (by decide) rfl ?_
  refine V_iconst X 0 dX4_readSum_2 (by decide) ?_
  refine V_istore_n X [(2, .int 0), (1, .int 1), (0, .ref (zad y (0, 24, 0)))] dX4_readSum_3 rfl (by decide) rfl ?_
  refine V_sub X [2, 1, 0] (lv' := [(0, .ref (zad y (0, 24, 0))), (1, .int 1), (2, .int 0)]) rfl ?_
  obtain ⟨zz, hl, h⟩ := bd_some h
  have hk : ∀ (μ4 : ZMem), .inl μ4 = zz → V X μ4 73 [] [] := by
    intro μ4 hzz
    subst hzz
    clear hl
    replace h := sm_l h
    exact V_vretW X h dX4_readSum_73
  have hr : ∀ r0, .inr r0 = zz → some r0 = some μ0 := by
    intro r0 hzz
    subst hzz
    exact h
  refine lp_ind (P := fun q => V X q.2.2 4 [(0, .ref (zad y (0, 24, 0))), (1, .int q.1), (2, .int q.2.1)] []) (fun q z h hz => ?_) hl
  obtain ⟨x1, x2, μ3⟩ := q
  replace h := un3_eq h
  show V X μ3 4 [(0, .ref (zad y (0, 24, 0))), (1, .int x1), (2, .int x2)] []
  refine V_iload_n X 2 dX4_readSum_4 rfl rfl ?_
  refine V_sipush X 400 dX4_readSum_5 (by decide) ?_
  refine V_icmp_ge X (tgt := 73) dX4_readSum_8 (by decide) (fun b5 => ?_) (fun b5 => ?_)
  · replace h := (if_pos b5).symm.trans h
    refine V_sub X [] (lv' := []) rfl ?_
    cases h
    exact hk _ hz
  · replace h := (if_neg b5).symm.trans h
    refine V_iload_n X 1 dX4_readSum_11 rfl rfl ?_
    refine V_if_eq X (tgt := 73) dX4_readSum_12 (by decide) (fun b6 => ?_) (fun b6 => ?_)
    · replace h := (if_pos b6).symm.trans h
      refine V_sub X [] (lv' := []) rfl ?_
      cases h
      exact hk _ hz
    · replace h := (if_neg b6).symm.trans h
      refine V_aload_n X 0 dX4_readSum_15 rfl rfl ?_
      refine V_getr X (o := (0, 24, 0)) (i := (0, 20, 0)) (ci := 4) (k := 0) (N := 7) (T := TX4) (C := RX4) ⟨by decide, rfl⟩ rfl rfl rfl (by decide) (mBa inB_X4) (mB wl_RX4_24) dX4_readSum_16 ?_
      refine V_iconst X 0 dX4_readSum_19 (by decide) ?_
      refine V_sipush X 1006 dX4_readSum_20 (by decide) ?_
      obtain ⟨x8, μ9, c7, h⟩ := bd2_some h
      refine V_callVi X (As := [.int 0, .int 1006]) (M_X8_takeAny c7) (cwV 2 X.2.2.2.2.2.2.1 (gV wm_RX4_75 wi_X8_takeAny wse_X8_takeAny win_RX8 wc_X8_takeAny) rfl rfl rfl hd_X8_takeAny ⟨Nat.le_of_ble_eq_true rfl, Nat.le_of_ble_eq_true rfl⟩) (b := (0, 20, 0)) ⟨by decide, rfl⟩ rfl rfl rfl rfl (Nat.le_of_ble_eq_true rfl) dX4_readSum_23 rfl ?_
      refine V_istore_n X [(3, .int x8), (0, .ref (zad y (0, 24, 0))), (1, .int x1), (2, .int x2)] dX4_readSum_26 rfl (by decide) rfl ?_
      refine V_iload_n X 0 dX4_readSum_27 rfl rfl ?_
      refine V_iconst X (-1) dX4_readSum_28 (by decide) ?_
      refine V_icmp_ne X (tgt := 40) dX4_readSum_29 (by decide) (fun b10 => ?_) (fun b10 => ?_)
      · replace h := (if_neg b10).symm.trans h
        refine V_aload_n X 1 dX4_readSum_40 rfl rfl ?_
        refine V_iload_n X 0 dX4_readSum_41 rfl rfl ?_
        obtain ⟨μ12, c11, h⟩ := bd_some h
        refine V_callVv X (As := [.int x8]) (M_X4_emit c11) (cwV 1 X.2.2.2.2.2.2.1 (gV wm_RX4_87 wi_X4_emit wse_X4_emit win_RX4 wc_X4_emit) rfl rfl rfl hd_X4_emit ⟨Nat.le_of_ble_eq_true rfl, Nat.le_of_ble_eq_true rfl⟩) (b := (0, 24, 0)) ⟨by decide, rfl⟩ rfl rfl rfl rfl (Nat.le_of_ble_eq_true rfl) dX4_readSum_42 rfl ?_
        refine V_iload_n X 3 dX4_readSum_45 rfl rfl ?_
        obtain ⟨μ14, h1, h⟩ := bd_some h
        have hk : V X μ14 56 [(0, .ref (zad y (0, 24, 0))), (2, .int x2)] [] := by
          clear h1
          refine V_aload_n X 0 dX4_readSum_56 rfl rfl ?_
          refine V_getr X (o := (0, 24, 0)) (i := (0, 20, 0)) (ci := 4) (k := 0) (N := 7) (T := TX4) (C := RX4) ⟨by decide, rfl⟩ rfl rfl rfl (by decide) (mBa inB_X4) (mB wl_RX4_24) dX4_readSum_57 ?_
          refine V_sipush X 2043 dX4_readSum_60 (by decide) ?_
          obtain ⟨x18, μ19, c17, h⟩ := bd2_some h
          refine V_callVi X (As := [.int 2043]) (M_X8_takes c17) (cwV 1 X.2.2.2.2.2.2.1 (gV wm_RX4_69 wi_X8_takes wse_X8_takes win_RX8 wc_X8_takes) rfl rfl rfl hd_X8_takes ⟨Nat.le_of_ble_eq_true rfl, Nat.le_of_ble_eq_true rfl⟩) (b := (0, 20, 0)) ⟨by decide, rfl⟩ rfl rfl rfl rfl (Nat.le_of_ble_eq_true rfl) dX4_readSum_63 rfl ?_
          refine V_istore_n X [(1, .int x18), (0, .ref (zad y (0, 24, 0))), (2, .int x2)] dX4_readSum_66 rfl (by decide) rfl ?_
          refine V_inc X 2 1 [(2, .int (x2 + 1)), (1, .int x18), (0, .ref (zad y (0, 24, 0)))] dX4_readSum_67 rfl (by decide) (by decide) rfl ?_
          refine V_goto X (tgt := 4) dX4_readSum_70 (by decide) ?_
          refine V_sub X [2, 1, 0] (lv' := [(0, .ref (zad y (0, 24, 0))), (1, .int x18), (2, .int (x2 + 1))]) rfl ?_
          cases h
          exact hz
        replace h := h1
        clear h1
        refine V_if_le X (tgt := 56) dX4_readSum_46 (by decide) (fun b13 => ?_) (fun b13 => ?_)
        · replace h := (if_pos b13).symm.trans h
          refine V_sub X [1, 3] (lv' := [(0, .ref (zad y (0, 24, 0))), (2, .int x2)]) rfl ?_
          obtain rfl := so1 h
          exact hk
        · replace h := (if_neg b13).symm.trans h
          refine V_aload_n X 1 dX4_readSum_49 rfl rfl ?_
          refine V_sipush X 2043 dX4_readSum_50 (by decide) ?_
          obtain ⟨μ16, c15, h⟩ := bd_some h
          refine V_callVv X (As := [.int 2043]) (M_X4_emit c15) (cwV 1 X.2.2.2.2.2.2.1 (gV wm_RX4_87 wi_X4_emit wse_X4_emit win_RX4 wc_X4_emit) rfl rfl rfl hd_X4_emit ⟨Nat.le_of_ble_eq_true rfl, Nat.le_of_ble_eq_true rfl⟩) (b := (0, 24, 0)) ⟨by decide, rfl⟩ rfl rfl rfl rfl (Nat.le_of_ble_eq_true rfl) dX4_readSum_53 rfl ?_
          refine V_sub X [1, 3] (lv' := [(0, .ref (zad y (0, 24, 0))), (2, .int x2)]) rfl ?_
          obtain rfl := so1 h
          exact hk
      · replace h := (if_pos b10).symm.trans h
        refine V_aload_n X 1 dX4_readSum_32 rfl rfl ?_
        refine V_getr X (o := (0, 24, 0)) (i := (0, 20, 0)) (ci := 4) (k := 0) (N := 7) (T := TX4) (C := RX4) ⟨by decide, rfl⟩ rfl rfl rfl (by decide) (mBa inB_X4) (mB wl_RX4_24) dX4_readSum_33 ?_
        obtain ⟨μ21, c20, h⟩ := bd_some h
        refine V_callVv X (As := []) (M_X8_fail c20) (cwV 0 X.2.2.2.2.2.2.1 (gV wm_RX4_72 wi_X8_fail wse_X8_fail win_RX8 wc_X8_fail) rfl rfl rfl hd_X8_fail ⟨Nat.le_of_ble_eq_true rfl, Nat.le_of_ble_eq_true rfl⟩) (b := (0, 20, 0)) ⟨by decide, rfl⟩ rfl rfl rfl rfl (Nat.le_of_ble_eq_true rfl) dX4_readSum_36 rfl ?_
        cases h
        have h := hr _ hz
        exact V_vretW X h dX4_readSum_39

def g_X4_readAtom (rec_X4_readAny : Int32 → ZMem → Option (ZMem)) (rec_X4_readAtom : Int32 → ZMem → Option (ZMem)) (a1 : Int32) (μ : ZMem) : Option (ZMem) := bd (f_X8_isAt 2040 μ) (fun (x2 : Int32) => bd (α := Int32) (jk (some 1) (fun k5 => if x2 = 0 then bd (f_X8_isAt 1016 μ) (fun (x7 : Int32) => if x7 = 0 then some 0 else k5) else k5)) (fun (x4 : Int32) => jk (bd2 (f_X8_takes 1016 μ) (fun (x15 : Int32) (μ16 : ZMem) => if x15 = 0 then bd2 (f_X8_takes 2040 μ16) (fun (x19 : Int32) (μ20 : ZMem) => if x19 = 0 then bd2 (f_X8_takeAny 1007 1009 μ20) (fun (x23 : Int32) (μ24 : ZMem) => if x23 = (-1) then bd (f_X4_readSum μ24) (fun (μ27 : ZMem) => bd2 (f_X8_takes 2060 μ27) (fun (x29 : Int32) (μ30 : ZMem) => zlt (α := Int32) (if x29 = 0 then 2062 else 2060) (fun (x32 : Int32) => jk (fun (μ34 : ZMem) => bd (f_X4_readSum μ34) (fun (μ43 : ZMem) => bd (f_X4_emit x32 μ43) (fun (μ45 : ZMem) => some μ45))) (fun k35 => if x32 = 2062 then bd2 (f_X8_takes 2062 μ30) (fun (x37 : Int32) (μ38 : ZMem) => if x37 = 0 then bd (f_X8_fail μ38) (fun (μ41 : ZMem) => some μ41) else k35 μ38) else k35 μ30)))) else bd (f_X4_emit x23 μ24) (fun (μ47 : ZMem) => some μ47)) else bd (rec_X4_readAny (a1 + 1) μ20) (fun (μ49 : ZMem) => bd2 (f_X8_takes 2041 μ49) (fun (x51 : Int32) (μ52 : ZMem) => bd (α := ZMem) (if x51 = 0 then bd (f_X8_fail μ52) (fun (μ56 : ZMem) => some μ56) else some μ52) (fun (μ54 : ZMem) => some μ54)))) else bd (rec_X4_readAtom (a1 + 1) μ16) (fun (μ58 : ZMem) => bd (f_X4_emit 1016 μ58) (fun (μ60 : ZMem) => some μ60)))) (fun k10 => if x4 = 0 then k10 else if a1 < 6 then k10 else bd (f_X8_fail μ) (fun (μ13 : ZMem) => some μ13))))
set_option maxRecDepth 100000 in
set_option maxHeartbeats 4000000 in
theorem MG_X4_readAtom {l : Launch} {D : va_G} {y : ZLay} {F : Nat} (hF : 20 ≤ F) {F_X4_readAny : Nat} (hF_X4_readAny : F_X4_readAny + 1 ≤ F) {rec_X4_readAny : Int32 → ZMem → Option (ZMem)} (hr_X4_readAny : ∀ {a1 : Int32} {μ μ0 : ZMem}, rec_X4_readAny a1 μ = some μ0 → MV l yX4_readAny wb_X4_readAny (rmq F_X4_readAny) D y [.ref (zad y (0, 24, 0)), .int a1] μ μ0) {F_X4_readAtom : Nat} (hF_X4_readAtom : F_X4_readAtom + 1 ≤ F) {rec_X4_readAtom : Int32 → ZMem → Option (ZMem)} (hr_X4_readAtom : ∀ {a1 : Int32} {μ μ0 : ZMem}, rec_X4_readAtom a1 μ = some μ0 → MV l yX4_readAtom wb_X4_readAtom (rmq F_X4_readAtom) D y [.ref (zad y (0, 24, 0)), .int a1] μ μ0) {a1 : Int32}  {μ : ZMem} {μ0 : ZMem} (h : g_X4_readAtom rec_X4_readAny rec_X4_readAtom a1 μ = some μ0) : MV l yX4_readAtom wb_X4_readAtom (rmq F) D y [.ref (zad y (0, 24, 0)), .int a1] μ μ0 := by
  unfold g_X4_readAtom at h
  refine MV_of RX4 [(0, .ref (zad y (0, 24, 0))), (1, .int a1)] (by decide) rfl rfl (Nat.le_of_ble_eq_true rfl) rfl ?_
  intro p e s m args below meth c A X
  refine V_aload_n X 0 dX4_readAtom_0 rfl rfl ?_
  refine V_getr X (o := (0, 24, 0)) (i := (0, 20, 0)) (ci := 4) (k := 0) (N := 7) (T := TX4) (C := RX4) ⟨by decide, rfl⟩ rfl rfl rfl (by decide) (mBa inB_X4) (mB wl_RX4_24) dX4_readAtom_1 ?_
  refine V_sipush X 2040 dX4_readAtom_4 (by decide) ?_
  obtain ⟨x2, c1, h⟩ := bd_some h
  refine V_callVi X (As := [.int 2040]) (M_X8_isAt c1) (cwV 1 X.2.2.2.2.2.2.1 (gV wm_RX4_59 wi_X8_isAt wse_X8_isAt win_RX8 wc_X8_isAt) rfl rfl rfl hd_X8_isAt ⟨Nat.le_trans (Nat.le_of_ble_eq_true rfl : (rm_X8_isAt).frames + 1 ≤ 20) hF, Nat.le_trans (Nat.le_of_ble_eq_true rfl : 8 + (2 + 11) + (rm_X8_isAt).locals ≤ 1000) (by show 1000 ≤ 40 * F + 200; omega)⟩) (b := (0, 20, 0)) ⟨by decide, rfl⟩ rfl rfl rfl rfl (Nat.le_of_ble_eq_true rfl) dX4_readAtom_7 rfl ?_
  obtain ⟨x4, h1, h⟩ := bd_some h
  have hk : V X μ 31 [(0, .ref (zad y (0, 24, 0))), (1, .int a1)] [.int x4] := by
    clear h1
    refine V_istore_n X [(2, .int x4), (0, .ref (zad y (0, 24, 0))), (1, .int a1)] dX4_readAtom_31 rfl (by decide) rfl ?_
    refine V_iload_n X 0 dX4_readAtom_32 rfl rfl ?_
    refine jk0_el (P := V X μ 50 [(0, .ref (zad y (0, 24, 0))), (1, .int a1)] []) h (fun h => ?_) (fun k10 hk10 h => ?_)
    · refine V_aload_n X 0 dX4_readAtom_50 rfl rfl ?_
      refine V_getr X (o := (0, 24, 0)) (i := (0, 20, 0)) (ci := 4) (k := 0) (N := 7) (T := TX4) (C := RX4) ⟨by decide, rfl⟩ rfl rfl rfl (by decide) (mBa inB_X4) (mB wl_RX4_24) dX4_readAtom_51 ?_
      refine V_sipush X 1016 dX4_readAtom_54 (by decide) ?_
      obtain ⟨x15, μ16, c14, h⟩ := bd2_some h
      refine V_callVi X (As := [.int 1016]) (M_X8_takes c14) (cwV 1 X.2.2.2.2.2.2.1 (gV wm_RX4_69 wi_X8_takes wse_X8_takes win_RX8 wc_X8_takes) rfl rfl rfl hd_X8_takes ⟨Nat.le_trans (Nat.le_of_ble_eq_true rfl : (rm_X8_takes).frames + 1 ≤ 20) hF, Nat.le_trans (Nat.le_of_ble_eq_true rfl : 8 + (3 + 11) + (rm_X8_takes).locals ≤ 1000) (by show 1000 ≤ 40 * F + 200; omega)⟩) (b := (0, 20, 0)) ⟨by decide, rfl⟩ rfl rfl rfl rfl (Nat.le_of_ble_eq_true rfl) dX4_readAtom_57 rfl ?_
      refine V_if_eq X (tgt := 78) dX4_readAtom_60 (by decide) (fun b17 => ?_) (fun b17 => ?_)
      · replace h := (if_pos b17).symm.trans h
        refine V_aload_n X 0 dX4_readAtom_78 rfl rfl ?_
        refine V_getr X (o := (0, 24, 0)) (i := (0, 20, 0)) (ci := 4) (k := 0) (N := 7) (T := TX4) (C := RX4) ⟨by decide, rfl⟩ rfl rfl rfl (by decide) (mBa inB_X4) (mB wl_RX4_24) dX4_readAtom_79 ?_
        refine V_sipush X 2040 dX4_readAtom_82 (by decide) ?_
        obtain ⟨x19, μ20, c18, h⟩ := bd2_some h
        refine V_callVi X (As := [.int 2040]) (M_X8_takes c18) (cwV 1 X.2.2.2.2.2.2.1 (gV wm_RX4_69 wi_X8_takes wse_X8_takes win_RX8 wc_X8_takes) rfl rfl rfl hd_X8_takes ⟨Nat.le_trans (Nat.le_of_ble_eq_true rfl : (rm_X8_takes).frames + 1 ≤ 20) hF, Nat.le_trans (Nat.le_of_ble_eq_true rfl : 8 + (3 + 11) + (rm_X8_takes).locals ≤ 1000) (by show 1000 ≤ 40 * F + 200; omega)⟩) (b := (0, 20, 0)) ⟨by decide, rfl⟩ rfl rfl rfl rfl (Nat.le_of_ble_eq_true rfl) dX4_readAtom_85 rfl ?_
        refine V_if_eq X (tgt := 119) dX4_readAtom_88 (by decide) (fun b21 => ?_) (fun b21 => ?_)
        · replace h := (if_pos b21).symm.trans h
          refine V_aload_n X 0 dX4_readAtom_119 rfl rfl ?_
          refine V_getr X (o := (0, 24, 0)) (i := (0, 20, 0)) (ci := 4) (k := 0) (N := 7) (T := TX4) (C := RX4) ⟨by decide, rfl⟩ rfl rfl rfl (by decide) (mBa inB_X4) (mB wl_RX4_24) dX4_readAtom_120 ?_
          refine V_sipush X 1007 dX4_readAtom_123 (by decide) ?_
          refine V_sipush X 1009 dX4_readAtom_126 (by decide) ?_
          obtain ⟨x23, μ24, c22, h⟩ := bd2_some h
          refine V_callVi X (As := [.int 1007, .int 1009]) (M_X8_takeAny c22) (cwV 2 X.2.2.2.2.2.2.1 (gV wm_RX4_75 wi_X8_takeAny wse_X8_takeAny win_RX8 wc_X8_takeAny) rfl rfl rfl hd_X8_takeAny ⟨Nat.le_trans (Nat.le_of_ble_eq_true rfl : (rm_X8_takeAny).frames + 1 ≤ 20) hF, Nat.le_trans (Nat.le_of_ble_eq_true rfl : 8 + (4 + 11) + (rm_X8_takeAny).locals ≤ 1000) (by show 1000 ≤ 40 * F + 200; omega)⟩) (b := (0, 20, 0)) ⟨by decide, rfl⟩ rfl rfl rfl rfl (Nat.le_of_ble_eq_true rfl) dX4_readAtom_129 rfl ?_
          refine V_istore_n X [(3, .int x23), (0, .ref (zad y (0, 24, 0))), (1, .int a1)] dX4_readAtom_132 rfl (by decide) rfl ?_
          refine V_iload_n X 0 dX4_readAtom_133 rfl rfl ?_
          refine V_iconst X (-1) dX4_readAtom_134 (by decide) ?_
          refine V_icmp_eq X (tgt := 144) dX4_readAtom_135 (by decide) (fun b25 => ?_) (fun b25 => ?_)
          · replace h := (if_pos b25).symm.trans h
            refine V_aload_n X 1 dX4_readAtom_144 rfl rfl ?_
            obtain ⟨μ27, c26, h⟩ := bd_some h
            refine V_callVv X (As := []) (M_X4_readSum c26) (cwV 0 X.2.2.2.2.2.2.1 (gV wm_RX4_93 wi_X4_readSum wse_X4_readSum win_RX4 wc_X4_readSum) rfl rfl rfl hd_X4_readSum ⟨Nat.le_trans (Nat.le_of_ble_eq_true rfl : (rm_X4_readSum).frames + 1 ≤ 20) hF, Nat.le_trans (Nat.le_of_ble_eq_true rfl : 8 + (4 + 11) + (rm_X4_readSum).locals ≤ 1000) (by show 1000 ≤ 40 * F + 200; omega)⟩) (b := (0, 24, 0)) ⟨by decide, rfl⟩ rfl rfl rfl rfl (Nat.le_of_ble_eq_true rfl) dX4_readAtom_145 rfl ?_
            refine V_aload_n X 1 dX4_readAtom_148 rfl rfl ?_
            refine V_getr X (o := (0, 24, 0)) (i := (0, 20, 0)) (ci := 4) (k := 0) (N := 7) (T := TX4) (C := RX4) ⟨by decide, rfl⟩ rfl rfl rfl (by decide) (mBa inB_X4) (mB wl_RX4_24) dX4_readAtom_149 ?_
            refine V_sipush X 2060 dX4_readAtom_152 (by decide) ?_
            obtain ⟨x29, μ30, c28, h⟩ := bd2_some h
            refine V_callVi X (As := [.int 2060]) (M_X8_takes c28) (cwV 1 X.2.2.2.2.2.2.1 (gV wm_RX4_69 wi_X8_takes wse_X8_takes win_RX8 wc_X8_takes) rfl rfl rfl hd_X8_takes ⟨Nat.le_trans (Nat.le_of_ble_eq_true rfl : (rm_X8_takes).frames + 1 ≤ 20) hF, Nat.le_trans (Nat.le_of_ble_eq_true rfl : 8 + (3 + 11) + (rm_X8_takes).locals ≤ 1000) (by show 1000 ≤ 40 * F + 200; omega)⟩) (b := (0, 20, 0)) ⟨by decide, rfl⟩ rfl rfl rfl rfl (Nat.le_of_ble_eq_true rfl) dX4_readAtom_155 rfl ?_
            obtain ⟨x32, h1, h⟩ := zl1_some h
            have hk : V X μ30 170 [(0, .ref (zad y (0, 24, 0)))] [.int x32] := by
              clear h1
              refine V_istore X [(4, .int x32), (0, .ref (zad y (0, 24, 0)))] dX4_readAtom_170 (by decide) rfl ?_
              refine V_iload X 0 dX4_readAtom_172 rfl ?_
              refine V_sipush X 2062 dX4_readAtom_174 (by decide) ?_
              refine jk1_el (P := fun (μ34 : ZMem) => V X μ34 201 [(0, .ref (zad y (0, 24, 0))), (4, .int x32)] []) h (fun μ34 h => ?_) (fun k35 hk35 h => ?_)
              · refine V_aload_n X 0 dX4_readAtom_201 rfl rfl ?_
                obtain ⟨μ43, c42, h⟩ := bd_some h
                refine V_callVv X (As := []) (M_X4_readSum c42) (cwV 0 X.2.2.2.2.2.2.1 (gV wm_RX4_93 wi_X4_readSum wse_X4_readSum win_RX4 wc_X4_readSum) rfl rfl rfl hd_X4_readSum ⟨Nat.le_trans (Nat.le_of_ble_eq_true rfl : (rm_X4_readSum).frames + 1 ≤ 20) hF, Nat.le_trans (Nat.le_of_ble_eq_true rfl : 8 + (4 + 11) + (rm_X4_readSum).locals ≤ 1000) (by show 1000 ≤ 40 * F + 200; omega)⟩) (b := (0, 24, 0)) ⟨by decide, rfl⟩ rfl rfl rfl rfl (Nat.le_of_ble_eq_true rfl) dX4_readAtom_202 rfl ?_
                refine V_aload_n X 0 dX4_readAtom_205 rfl rfl ?_
                refine V_iload X 1 dX4_readAtom_206 rfl ?_
                obtain ⟨μ45, c44, h⟩ := bd_some h
                refine V_callVv X (As := [.int x32]) (M_X4_emit c44) (cwV 1 X.2.2.2.2.2.2.1 (gV wm_RX4_87 wi_X4_emit wse_X4_emit win_RX4 wc_X4_emit) rfl rfl rfl hd_X4_emit ⟨Nat.le_trans (Nat.le_of_ble_eq_true rfl : (rm_X4_emit).frames + 1 ≤ 20) hF, Nat.le_trans (Nat.le_of_ble_eq_true rfl : 8 + (2 + 11) + (rm_X4_emit).locals ≤ 1000) (by show 1000 ≤ 40 * F + 200; omega)⟩) (b := (0, 24, 0)) ⟨by decide, rfl⟩ rfl rfl rfl rfl (Nat.le_of_ble_eq_true rfl) dX4_readAtom_208 rfl ?_
                exact V_vretW X h dX4_readAtom_211
              · refine V_icmp_ne X (tgt := 201) dX4_readAtom_177 (by decide) (fun b33 => ?_) (fun b33 => ?_)
                · replace h := (if_neg b33).symm.trans h
                  refine V_sub X [1, 0] (lv' := [(0, .ref (zad y (0, 24, 0))), (4, .int x32)]) rfl ?_
                  exact hk35 _ h
                · replace h := (if_pos b33).symm.trans h
                  refine V_aload_n X 1 dX4_readAtom_180 rfl rfl ?_
                  refine V_getr X (o := (0, 24, 0)) (i := (0, 20, 0)) (ci := 4) (k := 0) (N := 7) (T := TX4) (C := RX4) ⟨by decide, rfl⟩ rfl rfl rfl (by decide) (mBa inB_X4) (mB wl_RX4_24) dX4_readAtom_181 ?_
                  refine V_sipush X 2062 dX4_readAtom_184 (by decide) ?_
                  obtain ⟨x37, μ38, c36, h⟩ := bd2_some h
                  refine V_callVi X (As := [.int 2062]) (M_X8_takes c36) (cwV 1 X.2.2.2.2.2.2.1 (gV wm_RX4_69 wi_X8_takes wse_X8_takes win_RX8 wc_X8_takes) rfl rfl rfl hd_X8_takes ⟨Nat.le_trans (Nat.le_of_ble_eq_true rfl : (rm_X8_takes).frames + 1 ≤ 20) hF, Nat.le_trans (Nat.le_of_ble_eq_true rfl : 8 + (3 + 11) + (rm_X8_takes).locals ≤ 1000) (by show 1000 ≤ 40 * F + 200; omega)⟩) (b := (0, 20, 0)) ⟨by decide, rfl⟩ rfl rfl rfl rfl (Nat.le_of_ble_eq_true rfl) dX4_readAtom_187 rfl ?_
                  refine V_if_ne X (tgt := 201) dX4_readAtom_190 (by decide) (fun b39 => ?_) (fun b39 => ?_)
                  · replace h := (if_neg b39).symm.trans h
                    refine V_sub X [1, 0] (lv' := [(0, .ref (zad y (0, 24, 0))), (4, .int x32)]) rfl ?_
                    exact hk35 _ h
                  · replace h := (if_pos b39).symm.trans h
                    refine V_aload_n X 1 dX4_readAtom_193 rfl rfl ?_
                    refine V_getr X (o := (0, 24, 0)) (i := (0, 20, 0)) (ci := 4) (k := 0) (N := 7) (T := TX4) (C := RX4) ⟨by decide, rfl⟩ rfl rfl rfl (by decide) (mBa inB_X4) (mB wl_RX4_24) dX4_readAtom_194 ?_
                    obtain ⟨μ41, c40, h⟩ := bd_some h
                    refine V_callVv X (As := []) (M_X8_fail c40) (cwV 0 X.2.2.2.2.2.2.1 (gV wm_RX4_72 wi_X8_fail wse_X8_fail win_RX8 wc_X8_fail) rfl rfl rfl hd_X8_fail ⟨Nat.le_trans (Nat.le_of_ble_eq_true rfl : (rm_X8_fail).frames + 1 ≤ 20) hF, Nat.le_trans (Nat.le_of_ble_eq_true rfl : 8 + (1 + 11) + (rm_X8_fail).locals ≤ 1000) (by show 1000 ≤ 40 * F + 200; omega)⟩) (b := (0, 20, 0)) ⟨by decide, rfl⟩ rfl rfl rfl rfl (Nat.le_of_ble_eq_true rfl) dX4_readAtom_197 rfl ?_
                    exact V_vretW X h dX4_readAtom_200
            replace h := h1
            clear h1
            refine V_if_eq X (tgt := 167) dX4_readAtom_158 (by decide) (fun b31 => ?_) (fun b31 => ?_)
            · replace h := (if_pos b31).symm.trans h
              refine V_sipush X 2062 dX4_readAtom_167 (by decide) ?_
              refine V_sub X [1] (lv' := [(0, .ref (zad y (0, 24, 0)))]) rfl ?_
              obtain rfl := pr1 h
              exact hk
            · replace h := (if_neg b31).symm.trans h
              refine V_sipush X 2060 dX4_readAtom_161 (by decide) ?_
              refine V_goto X (tgt := 170) dX4_readAtom_164 (by decide) ?_
              refine V_sub X [1] (lv' := [(0, .ref (zad y (0, 24, 0)))]) rfl ?_
              obtain rfl := pr1 h
              exact hk
          · replace h := (if_neg b25).symm.trans h
            refine V_aload_n X 1 dX4_readAtom_138 rfl rfl ?_
            refine V_iload_n X 0 dX4_readAtom_139 rfl rfl ?_
            obtain ⟨μ47, c46, h⟩ := bd_some h
            refine V_callVv X (As := [.int x23]) (M_X4_emit c46) (cwV 1 X.2.2.2.2.2.2.1 (gV wm_RX4_87 wi_X4_emit wse_X4_emit win_RX4 wc_X4_emit) rfl rfl rfl hd_X4_emit ⟨Nat.le_trans (Nat.le_of_ble_eq_true rfl : (rm_X4_emit).frames + 1 ≤ 20) hF, Nat.le_trans (Nat.le_of_ble_eq_true rfl : 8 + (2 + 11) + (rm_X4_emit).locals ≤ 1000) (by show 1000 ≤ 40 * F + 200; omega)⟩) (b := (0, 24, 0)) ⟨by decide, rfl⟩ rfl rfl rfl rfl (Nat.le_of_ble_eq_true rfl) dX4_readAtom_140 rfl ?_
            exact V_vretW X h dX4_readAtom_143
        · replace h := (if_neg b21).symm.trans h
          refine V_aload_n X 0 dX4_readAtom_91 rfl rfl ?_
          refine V_iload_n X 1 dX4_readAtom_92 rfl rfl ?_
          refine V_iconst X 1 dX4_readAtom_93 (by decide) ?_
          refine V_iadd X dX4_readAtom_94 ?_
          obtain ⟨μ49, c48, h⟩ := bd_some h
          refine V_callVv X (As := [.int (a1 + 1)]) (hr_X4_readAny c48) (cwV 1 X.2.2.2.2.2.2.1 (gV wm_RX4_81 wi_X4_readAny wse_X4_readAny win_RX4 wc_X4_readAny) rfl rfl rfl hd_X4_readAny ⟨hF_X4_readAny, by show 8 + (3 + 11) + (40 * F_X4_readAny + 200) ≤ 40 * F + 200; have := hF_X4_readAny; omega⟩) (b := (0, 24, 0)) ⟨by decide, rfl⟩ rfl rfl rfl rfl (Nat.le_of_ble_eq_true rfl) dX4_readAtom_95 rfl ?_
          refine V_aload_n X 0 dX4_readAtom_98 rfl rfl ?_
          refine V_getr X (o := (0, 24, 0)) (i := (0, 20, 0)) (ci := 4) (k := 0) (N := 7) (T := TX4) (C := RX4) ⟨by decide, rfl⟩ rfl rfl rfl (by decide) (mBa inB_X4) (mB wl_RX4_24) dX4_readAtom_99 ?_
          refine V_sipush X 2041 dX4_readAtom_102 (by decide) ?_
          obtain ⟨x51, μ52, c50, h⟩ := bd2_some h
          refine V_callVi X (As := [.int 2041]) (M_X8_takes c50) (cwV 1 X.2.2.2.2.2.2.1 (gV wm_RX4_69 wi_X8_takes wse_X8_takes win_RX8 wc_X8_takes) rfl rfl rfl hd_X8_takes ⟨Nat.le_trans (Nat.le_of_ble_eq_true rfl : (rm_X8_takes).frames + 1 ≤ 20) hF, Nat.le_trans (Nat.le_of_ble_eq_true rfl : 8 + (3 + 11) + (rm_X8_takes).locals ≤ 1000) (by show 1000 ≤ 40 * F + 200; omega)⟩) (b := (0, 20, 0)) ⟨by decide, rfl⟩ rfl rfl rfl rfl (Nat.le_of_ble_eq_true rfl) dX4_readAtom_105 rfl ?_
          obtain ⟨μ54, h1, h⟩ := bd_some h
          have hk : V X μ54 118 [] [] := by
            clear h1
            exact V_vretW X h dX4_readAtom_118
          replace h := h1
          clear h1
          refine V_if_ne X (tgt := 118) dX4_readAtom_108 (by decide) (fun b53 => ?_) (fun b53 => ?_)
          · replace h := (if_neg b53).symm.trans h
            refine V_sub X [] (lv' := []) rfl ?_
            obtain rfl := so1 h
            exact hk
          · replace h := (if_pos b53).symm.trans h
            refine V_aload_n X 0 dX4_readAtom_111 rfl rfl ?_
            refine V_getr X (o := (0, 24, 0)) (i := (0, 20, 0)) (ci := 4) (k := 0) (N := 7) (T := TX4) (C := RX4) ⟨by decide, rfl⟩ rfl rfl rfl (by decide) (mBa inB_X4) (mB wl_RX4_24) dX4_readAtom_112 ?_
            obtain ⟨μ56, c55, h⟩ := bd_some h
            refine V_callVv X (As := []) (M_X8_fail c55) (cwV 0 X.2.2.2.2.2.2.1 (gV wm_RX4_72 wi_X8_fail wse_X8_fail win_RX8 wc_X8_fail) rfl rfl rfl hd_X8_fail ⟨Nat.le_trans (Nat.le_of_ble_eq_true rfl : (rm_X8_fail).frames + 1 ≤ 20) hF, Nat.le_trans (Nat.le_of_ble_eq_true rfl : 8 + (1 + 11) + (rm_X8_fail).locals ≤ 1000) (by show 1000 ≤ 40 * F + 200; omega)⟩) (b := (0, 20, 0)) ⟨by decide, rfl⟩ rfl rfl rfl rfl (Nat.le_of_ble_eq_true rfl) dX4_readAtom_115 rfl ?_
            refine V_sub X [] (lv' := []) rfl ?_
            obtain rfl := so1 h
            exact hk
      · replace h := (if_neg b17).symm.trans h
        refine V_aload_n X 0 dX4_readAtom_63 rfl rfl ?_
        refine V_iload_n X 1 dX4_readAtom_64 rfl rfl ?_
        refine V_iconst X 1 dX4_readAtom_65 (by decide) ?_
        refine V_iadd X dX4_readAtom_66 ?_
        obtain ⟨μ58, c57, h⟩ := bd_some h
        refine V_callVv X (As := [.int (a1 + 1)]) (hr_X4_readAtom c57) (cwV 1 X.2.2.2.2.2.2.1 (gV wm_RX4_90 wi_X4_readAtom wse_X4_readAtom win_RX4 wc_X4_readAtom) rfl rfl rfl hd_X4_readAtom ⟨hF_X4_readAtom, by show 8 + (5 + 11) + (40 * F_X4_readAtom + 200) ≤ 40 * F + 200; have := hF_X4_readAtom; omega⟩) (b := (0, 24, 0)) ⟨by decide, rfl⟩ rfl rfl rfl rfl (Nat.le_of_ble_eq_true rfl) dX4_readAtom_67 rfl ?_
        refine V_aload_n X 0 dX4_readAtom_70 rfl rfl ?_
        refine V_sipush X 1016 dX4_readAtom_71 (by decide) ?_
        obtain ⟨μ60, c59, h⟩ := bd_some h
        refine V_callVv X (As := [.int 1016]) (M_X4_emit c59) (cwV 1 X.2.2.2.2.2.2.1 (gV wm_RX4_87 wi_X4_emit wse_X4_emit win_RX4 wc_X4_emit) rfl rfl rfl hd_X4_emit ⟨Nat.le_trans (Nat.le_of_ble_eq_true rfl : (rm_X4_emit).frames + 1 ≤ 20) hF, Nat.le_trans (Nat.le_of_ble_eq_true rfl : 8 + (2 + 11) + (rm_X4_emit).locals ≤ 1000) (by show 1000 ≤ 40 * F + 200; omega)⟩) (b := (0, 24, 0)) ⟨by decide, rfl⟩ rfl rfl rfl rfl (Nat.le_of_ble_eq_true rfl) dX4_readAtom_74 rfl ?_
        exact V_vretW X h dX4_readAtom_77
    · refine V_if_eq X (tgt := 50) dX4_readAtom_33 (by decide) (fun b9 => ?_) (fun b9 => ?_)
      · replace h := (if_pos b9).symm.trans h
        refine V_sub X [1, 2] (lv' := [(0, .ref (zad y (0, 24, 0))), (1, .int a1)]) rfl ?_
        exact hk10 h
      · replace h := (if_neg b9).symm.trans h
        refine V_iload_n X 2 dX4_readAtom_36 rfl rfl ?_
        refine V_bipush X 6 dX4_readAtom_37 (by decide) ?_
        refine V_icmp_lt X (tgt := 50) dX4_readAtom_39 (by decide) (fun b11 => ?_) (fun b11 => ?_)
        · replace h := (if_pos b11).symm.trans h
          refine V_sub X [1, 2] (lv' := [(0, .ref (zad y (0, 24, 0))), (1, .int a1)]) rfl ?_
          exact hk10 h
        · replace h := (if_neg b11).symm.trans h
          refine V_aload_n X 1 dX4_readAtom_42 rfl rfl ?_
          refine V_getr X (o := (0, 24, 0)) (i := (0, 20, 0)) (ci := 4) (k := 0) (N := 7) (T := TX4) (C := RX4) ⟨by decide, rfl⟩ rfl rfl rfl (by decide) (mBa inB_X4) (mB wl_RX4_24) dX4_readAtom_43 ?_
          obtain ⟨μ13, c12, h⟩ := bd_some h
          refine V_callVv X (As := []) (M_X8_fail c12) (cwV 0 X.2.2.2.2.2.2.1 (gV wm_RX4_72 wi_X8_fail wse_X8_fail win_RX8 wc_X8_fail) rfl rfl rfl hd_X8_fail ⟨Nat.le_trans (Nat.le_of_ble_eq_true rfl : (rm_X8_fail).frames + 1 ≤ 20) hF, Nat.le_trans (Nat.le_of_ble_eq_true rfl : 8 + (1 + 11) + (rm_X8_fail).locals ≤ 1000) (by show 1000 ≤ 40 * F + 200; omega)⟩) (b := (0, 20, 0)) ⟨by decide, rfl⟩ rfl rfl rfl rfl (Nat.le_of_ble_eq_true rfl) dX4_readAtom_46 rfl ?_
          exact V_vretW X h dX4_readAtom_49
  replace h := h1
  clear h1
  refine jk0_el (P := V X μ 26 [(0, .ref (zad y (0, 24, 0))), (1, .int a1)] []) h (fun h => ?_) (fun k5 hk5 h => ?_)
  · refine V_iconst X 1 dX4_readAtom_26 (by decide) ?_
    refine V_goto X (tgt := 31) dX4_readAtom_27 (by decide) ?_
    obtain rfl := so1 h
    exact hk
  · refine V_if_ne X (tgt := 26) dX4_readAtom_10 (by decide) (fun b3 => ?_) (fun b3 => ?_)
    · replace h := (if_neg b3).symm.trans h
      exact hk5 h
    · replace h := (if_pos b3).symm.trans h
      refine V_aload_n X 0 dX4_readAtom_13 rfl rfl ?_
      refine V_getr X (o := (0, 24, 0)) (i := (0, 20, 0)) (ci := 4) (k := 0) (N := 7) (T := TX4) (C := RX4) ⟨by decide, rfl⟩ rfl rfl rfl (by decide) (mBa inB_X4) (mB wl_RX4_24) dX4_readAtom_14 ?_
      refine V_sipush X 1016 dX4_readAtom_17 (by decide) ?_
      obtain ⟨x7, c6, h⟩ := bd_some h
      refine V_callVi X (As := [.int 1016]) (M_X8_isAt c6) (cwV 1 X.2.2.2.2.2.2.1 (gV wm_RX4_59 wi_X8_isAt wse_X8_isAt win_RX8 wc_X8_isAt) rfl rfl rfl hd_X8_isAt ⟨Nat.le_trans (Nat.le_of_ble_eq_true rfl : (rm_X8_isAt).frames + 1 ≤ 20) hF, Nat.le_trans (Nat.le_of_ble_eq_true rfl : 8 + (2 + 11) + (rm_X8_isAt).locals ≤ 1000) (by show 1000 ≤ 40 * F + 200; omega)⟩) (b := (0, 20, 0)) ⟨by decide, rfl⟩ rfl rfl rfl rfl (Nat.le_of_ble_eq_true rfl) dX4_readAtom_20 rfl ?_
      refine V_if_eq X (tgt := 30) dX4_readAtom_23 (by decide) (fun b8 => ?_) (fun b8 => ?_)
      · replace h := (if_pos b8).symm.trans h
        refine V_iconst X 0 dX4_readAtom_30 (by decide) ?_
        obtain rfl := so1 h
        exact hk
      · replace h := (if_neg b8).symm.trans h
        exact hk5 h

def g_X4_readEach (rec_X4_readAtom : Int32 → ZMem → Option (ZMem)) (a1 : Int32) (μ : ZMem) : Option (ZMem) := bd (rec_X4_readAtom a1 μ) (fun (μ2 : ZMem) => bd (lp (σ := Int32 × ZMem) (fun q => un2 q (fun (x3 : Int32) (μ4 : ZMem) => if 400 ≤ x3 then some (.inr μ4) else bd2 (f_X8_takes 1015 μ4) (fun (x8 : Int32) (μ9 : ZMem) => if x8 = 0 then some (.inr μ9) else bd (rec_X4_readAtom a1 μ9) (fun (μ12 : ZMem) => bd (f_X4_emit 1015 μ12) (fun (μ14 : ZMem) => some (.inl ((x3 + 1), μ14))))))) FU (0, μ2)) (fun (μ5 : ZMem) => some μ5))
set_option maxRecDepth 100000 in
set_option maxHeartbeats 4000000 in
theorem MG_X4_readEach {l : Launch} {D : va_G} {y : ZLay} {F : Nat} (hF : 20 ≤ F) {F_X4_readAtom : Nat} (hF_X4_readAtom : F_X4_readAtom + 1 ≤ F) {rec_X4_readAtom : Int32 → ZMem → Option (ZMem)} (hr_X4_readAtom : ∀ {a1 : Int32} {μ μ0 : ZMem}, rec_X4_readAtom a1 μ = some μ0 → MV l yX4_readAtom wb_X4_readAtom (rmq F_X4_readAtom) D y [.ref (zad y (0, 24, 0)), .int a1] μ μ0) {a1 : Int32}  {μ : ZMem} {μ0 : ZMem} (h : g_X4_readEach rec_X4_readAtom a1 μ = some μ0) : MV l yX4_readEach wb_X4_readEach (rmq F) D y [.ref (zad y (0, 24, 0)), .int a1] μ μ0 := by
  unfold g_X4_readEach at h
  refine MV_of RX4 [(0, .ref (zad y (0, 24, 0))), (1, .int a1)] (by decide) rfl rfl (Nat.le_of_ble_eq_true rfl) rfl ?_
  intro p e s m args below meth c A X
  refine V_aload_n X 0 dX4_readEach_0 rfl rfl ?_
  refine V_iload_n X 1 dX4_readEach_1 rfl rfl ?_
  obtain ⟨μ2, c1, h⟩ := bd_some h
  refine V_callVv X (As := [.int a1]) (hr_X4_readAtom c1) (cwV 1 X.2.2.2.2.2.2.1 (gV wm_RX4_90 wi_X4_readAtom wse_X4_readAtom win_RX4 wc_X4_readAtom) rfl rfl rfl hd_X4_readAtom ⟨hF_X4_readAtom, by show 8 + (5 + 11) + (40 * F_X4_readAtom + 200) ≤ 40 * F + 200; have := hF_X4_readAtom; omega⟩) (b := (0, 24, 0)) ⟨by decide, rfl⟩ rfl rfl rfl rfl (Nat.le_of_ble_eq_true rfl) dX4_readEach_2 rfl ?_
  refine V_iconst X 0 dX4_readEach_5 (by decide) ?_
  refine V_istore_n X [(2, .int 0), (0, .ref (zad y (0, 24, 0))), (1, .int a1)] dX4_readEach_6 rfl (by decide) rfl ?_
  refine V_sub X [1, 2, 0] (lv' := [(0, .ref (zad y (0, 24, 0))), (1, .int a1), (2, .int 0)]) rfl ?_
  obtain ⟨μ5, hl, h⟩ := bd_some h
  have hk : V X μ5 45 [] [] := by
    clear hl
    exact V_vretW X h dX4_readEach_45
  refine lp_ind (P := fun q => V X q.2 7 [(0, .ref (zad y (0, 24, 0))), (1, .int a1), (2, .int q.1)] []) (fun q z h hz => ?_) hl
  obtain ⟨x3, μ4⟩ := q
  replace h := un2_eq h
  show V X μ4 7 [(0, .ref (zad y (0, 24, 0))), (1, .int a1), (2, .int x3)] []
  refine V_iload_n X 2 dX4_readEach_7 rfl rfl ?_
  refine V_sipush X 400 dX4_readEach_8 (by decide) ?_
  refine V_icmp_ge X (tgt := 45) dX4_readEach_11 (by decide) (fun b6 => ?_) (fun b6 => ?_)
  · replace h := (if_pos b6).symm.trans h
    refine V_sub X [] (lv' := []) rfl ?_
    cases h
    obtain rfl := pr1 hz
    exact hk
  · replace h := (if_neg b6).symm.trans h
    refine V_aload_n X 0 dX4_readEach_14 rfl rfl ?_
    refine V_getr X (o := (0, 24, 0)) (i := (0, 20, 0)) (ci := 4) (k := 0) (N := 7) (T := TX4) (C := RX4) ⟨by decide, rfl⟩ rfl rfl rfl (by decide) (mBa inB_X4) (mB wl_RX4_24) dX4_readEach_15 ?_
    refine V_sipush X 1015 dX4_readEach_18 (by decide) ?_
    obtain ⟨x8, μ9, c7, h⟩ := bd2_some h
    refine V_callVi X (As := [.int 1015]) (M_X8_takes c7) (cwV 1 X.2.2.2.2.2.2.1 (gV wm_RX4_69 wi_X8_takes wse_X8_takes win_RX8 wc_X8_takes) rfl rfl rfl hd_X8_takes ⟨Nat.le_trans (Nat.le_of_ble_eq_true rfl : (rm_X8_takes).frames + 1 ≤ 20) hF, Nat.le_trans (Nat.le_of_ble_eq_true rfl : 8 + (3 + 11) + (rm_X8_takes).locals ≤ 1000) (by show 1000 ≤ 40 * F + 200; omega)⟩) (b := (0, 20, 0)) ⟨by decide, rfl⟩ rfl rfl rfl rfl (Nat.le_of_ble_eq_true rfl) dX4_readEach_21 rfl ?_
    refine V_if_eq X (tgt := 45) dX4_readEach_24 (by decide) (fun b10 => ?_) (fun b10 => ?_)
    · replace h := (if_pos b10).symm.trans h
      refine V_sub X [] (lv' := []) rfl ?_
      cases h
      obtain rfl := pr1 hz
      exact hk
    · replace h := (if_neg b10).symm.trans h
      refine V_aload_n X 0 dX4_readEach_27 rfl rfl ?_
      refine V_iload_n X 1 dX4_readEach_28 rfl rfl ?_
      obtain ⟨μ12, c11, h⟩ := bd_some h
      refine V_callVv X (As := [.int a1]) (hr_X4_readAtom c11) (cwV 1 X.2.2.2.2.2.2.1 (gV wm_RX4_90 wi_X4_readAtom wse_X4_readAtom win_RX4 wc_X4_readAtom) rfl rfl rfl hd_X4_readAtom ⟨hF_X4_readAtom, by show 8 + (5 + 11) + (40 * F_X4_readAtom + 200) ≤ 40 * F + 200; have := hF_X4_readAtom; omega⟩) (b := (0, 24, 0)) ⟨by decide, rfl⟩ rfl rfl rfl rfl (Nat.le_of_ble_eq_true rfl) dX4_readEach_29 rfl ?_
      refine V_aload_n X 0 dX4_readEach_32 rfl rfl ?_
      refine V_sipush X 1015 dX4_readEach_33 (by decide) ?_
      obtain ⟨μ14, c13, h⟩ := bd_some h
      refine V_callVv X (As := [.int 1015]) (M_X4_emit c13) (cwV 1 X.2.2.2.2.2.2.1 (gV wm_RX4_87 wi_X4_emit wse_X4_emit win_RX4 wc_X4_emit) rfl rfl rfl hd_X4_emit ⟨Nat.le_trans (Nat.le_of_ble_eq_true rfl : (rm_X4_emit).frames + 1 ≤ 20) hF, Nat.le_trans (Nat.le_of_ble_eq_true rfl : 8 + (2 + 11) + (rm_X4_emit).locals ≤ 1000) (by show 1000 ≤ 40 * F + 200; omega)⟩) (b := (0, 24, 0)) ⟨by decide, rfl⟩ rfl rfl rfl rfl (Nat.le_of_ble_eq_true rfl) dX4_readEach_36 rfl ?_
      refine V_inc X 2 1 [(2, .int (x3 + 1)), (0, .ref (zad y (0, 24, 0))), (1, .int a1)] dX4_readEach_39 rfl (by decide) (by decide) rfl ?_
      refine V_goto X (tgt := 7) dX4_readEach_42 (by decide) ?_
      refine V_sub X [1, 2, 0] (lv' := [(0, .ref (zad y (0, 24, 0))), (1, .int a1), (2, .int (x3 + 1))]) rfl ?_
      cases h
      exact hz

def g_X4_readAny (rec_X4_readEach : Int32 → ZMem → Option (ZMem)) (a1 : Int32) (μ : ZMem) : Option (ZMem) := bd (rec_X4_readEach a1 μ) (fun (μ2 : ZMem) => bd (lp (σ := Int32 × ZMem) (fun q => un2 q (fun (x3 : Int32) (μ4 : ZMem) => if 400 ≤ x3 then some (.inr μ4) else bd2 (f_X8_takes 1014 μ4) (fun (x8 : Int32) (μ9 : ZMem) => if x8 = 0 then some (.inr μ9) else bd (rec_X4_readEach a1 μ9) (fun (μ12 : ZMem) => bd (f_X4_emit 1014 μ12) (fun (μ14 : ZMem) => some (.inl ((x3 + 1), μ14))))))) FU (0, μ2)) (fun (μ5 : ZMem) => some μ5))
set_option maxRecDepth 100000 in
set_option maxHeartbeats 4000000 in
theorem MG_X4_readAny {l : Launch} {D : va_G} {y : ZLay} {F : Nat} (hF : 20 ≤ F) {F_X4_readEach : Nat} (hF_X4_readEach : F_X4_readEach + 1 ≤ F) {rec_X4_readEach : Int32 → ZMem → Option (ZMem)} (hr_X4_readEach : ∀ {a1 : Int32} {μ μ0 : ZMem}, rec_X4_readEach a1 μ = some μ0 → MV l yX4_readEach wb_X4_readEach (rmq F_X4_readEach) D y [.ref (zad y (0, 24, 0)), .int a1] μ μ0) {a1 : Int32}  {μ : ZMem} {μ0 : ZMem} (h : g_X4_readAny rec_X4_readEach a1 μ = some μ0) : MV l yX4_readAny wb_X4_readAny (rmq F) D y [.ref (zad y (0, 24, 0)), .int a1] μ μ0 := by
  unfold g_X4_readAny at h
  refine MV_of RX4 [(0, .ref (zad y (0, 24, 0))), (1, .int a1)] (by decide) rfl rfl (Nat.le_of_ble_eq_true rfl) rfl ?_
  intro p e s m args below meth c A X
  refine V_aload_n X 0 dX4_readAny_0 rfl rfl ?_
  refine V_iload_n X 1 dX4_readAny_1 rfl rfl ?_
  obtain ⟨μ2, c1, h⟩ := bd_some h
  refine V_callVv X (As := [.int a1]) (hr_X4_readEach c1) (cwV 1 X.2.2.2.2.2.2.1 (gV wm_RX4_84 wi_X4_readEach wse_X4_readEach win_RX4 wc_X4_readEach) rfl rfl rfl hd_X4_readEach ⟨hF_X4_readEach, by show 8 + (3 + 11) + (40 * F_X4_readEach + 200) ≤ 40 * F + 200; have := hF_X4_readEach; omega⟩) (b := (0, 24, 0)) ⟨by decide, rfl⟩ rfl rfl rfl rfl (Nat.le_of_ble_eq_true rfl) dX4_readAny_2 rfl ?_
  refine V_iconst X 0 dX4_readAny_5 (by decide) ?_
  refine V_istore_n X [(2, .int 0), (0, .ref (zad y (0, 24, 0))), (1, .int a1)] dX4_readAny_6 rfl (by decide) rfl ?_
  refine V_sub X [1, 2, 0] (lv' := [(0, .ref (zad y (0, 24, 0))), (1, .int a1), (2, .int 0)]) rfl ?_
  obtain ⟨μ5, hl, h⟩ := bd_some h
  have hk : V X μ5 45 [] [] := by
    clear hl
    exact V_vretW X h dX4_readAny_45
  refine lp_ind (P := fun q => V X q.2 7 [(0, .ref (zad y (0, 24, 0))), (1, .int a1), (2, .int q.1)] []) (fun q z h hz => ?_) hl
  obtain ⟨x3, μ4⟩ := q
  replace h := un2_eq h
  show V X μ4 7 [(0, .ref (zad y (0, 24, 0))), (1, .int a1), (2, .int x3)] []
  refine V_iload_n X 2 dX4_readAny_7 rfl rfl ?_
  refine V_sipush X 400 dX4_readAny_8 (by decide) ?_
  refine V_icmp_ge X (tgt := 45) dX4_readAny_11 (by decide) (fun b6 => ?_) (fun b6 => ?_)
  · replace h := (if_pos b6).symm.trans h
    refine V_sub X [] (lv' := []) rfl ?_
    cases h
    obtain rfl := pr1 hz
    exact hk
  · replace h := (if_neg b6).symm.trans h
    refine V_aload_n X 0 dX4_readAny_14 rfl rfl ?_
    refine V_getr X (o := (0, 24, 0)) (i := (0, 20, 0)) (ci := 4) (k := 0) (N := 7) (T := TX4) (C := RX4) ⟨by decide, rfl⟩ rfl rfl rfl (by decide) (mBa inB_X4) (mB wl_RX4_24) dX4_readAny_15 ?_
    refine V_sipush X 1014 dX4_readAny_18 (by decide) ?_
    obtain ⟨x8, μ9, c7, h⟩ := bd2_some h
    refine V_callVi X (As := [.int 1014]) (M_X8_takes c7) (cwV 1 X.2.2.2.2.2.2.1 (gV wm_RX4_69 wi_X8_takes wse_X8_takes win_RX8 wc_X8_takes) rfl rfl rfl hd_X8_takes ⟨Nat.le_trans (Nat.le_of_ble_eq_true rfl : (rm_X8_takes).frames + 1 ≤ 20) hF, Nat.le_trans (Nat.le_of_ble_eq_true rfl : 8 + (3 + 11) + (rm_X8_takes).locals ≤ 1000) (by show 1000 ≤ 40 * F + 200; omega)⟩) (b := (0, 20, 0)) ⟨by decide, rfl⟩ rfl rfl rfl rfl (Nat.le_of_ble_eq_true rfl) dX4_readAny_21 rfl ?_
    refine V_if_eq X (tgt := 45) dX4_readAny_24 (by decide) (fun b10 => ?_) (fun b10 => ?_)
    · replace h := (if_pos b10).symm.trans h
      refine V_sub X [] (lv' := []) rfl ?_
      cases h
      obtain rfl := pr1 hz
      exact hk
    · replace h := (if_neg b10).symm.trans h
      refine V_aload_n X 0 dX4_readAny_27 rfl rfl ?_
      refine V_iload_n X 1 dX4_readAny_28 rfl rfl ?_
      obtain ⟨μ12, c11, h⟩ := bd_some h
      refine V_callVv X (As := [.int a1]) (hr_X4_readEach c11) (cwV 1 X.2.2.2.2.2.2.1 (gV wm_RX4_84 wi_X4_readEach wse_X4_readEach win_RX4 wc_X4_readEach) rfl rfl rfl hd_X4_readEach ⟨hF_X4_readEach, by show 8 + (3 + 11) + (40 * F_X4_readEach + 200) ≤ 40 * F + 200; have := hF_X4_readEach; omega⟩) (b := (0, 24, 0)) ⟨by decide, rfl⟩ rfl rfl rfl rfl (Nat.le_of_ble_eq_true rfl) dX4_readAny_29 rfl ?_
      refine V_aload_n X 0 dX4_readAny_32 rfl rfl ?_
      refine V_sipush X 1014 dX4_readAny_33 (by decide) ?_
      obtain ⟨μ14, c13, h⟩ := bd_some h
      refine V_callVv X (As := [.int 1014]) (M_X4_emit c13) (cwV 1 X.2.2.2.2.2.2.1 (gV wm_RX4_87 wi_X4_emit wse_X4_emit win_RX4 wc_X4_emit) rfl rfl rfl hd_X4_emit ⟨Nat.le_trans (Nat.le_of_ble_eq_true rfl : (rm_X4_emit).frames + 1 ≤ 20) hF, Nat.le_trans (Nat.le_of_ble_eq_true rfl : 8 + (2 + 11) + (rm_X4_emit).locals ≤ 1000) (by show 1000 ≤ 40 * F + 200; omega)⟩) (b := (0, 24, 0)) ⟨by decide, rfl⟩ rfl rfl rfl rfl (Nat.le_of_ble_eq_true rfl) dX4_readAny_36 rfl ?_
      refine V_inc X 2 1 [(2, .int (x3 + 1)), (0, .ref (zad y (0, 24, 0))), (1, .int a1)] dX4_readAny_39 rfl (by decide) (by decide) rfl ?_
      refine V_goto X (tgt := 7) dX4_readAny_42 (by decide) ?_
      refine V_sub X [1, 2, 0] (lv' := [(0, .ref (zad y (0, 24, 0))), (1, .int a1), (2, .int (x3 + 1))]) rfl ?_
      cases h
      exact hz

def f_X4_atomN : Nat → Int32 → ZMem → Option ZMem
  | 0, _, _ => none
  | n + 1, d, μ => g_X4_readAtom (g_X4_readAny (g_X4_readEach (f_X4_atomN n))) (f_X4_atomN n) d μ
def f_X4_readAny (a1 : Int32) (μ : ZMem) : Option ZMem := g_X4_readAny (g_X4_readEach (f_X4_atomN 8)) a1 μ
abbrev rm_X4_readAny : Room := rmq 53
theorem M_X4_atomN {l : Launch} {D : va_G} {y : ZLay} : ∀ (n : Nat) {a1 : Int32} {μ μ0 : ZMem}, f_X4_atomN n a1 μ = some μ0 → MV l yX4_readAtom wb_X4_readAtom (rmq (3 * n + 27)) D y [.ref (zad y (0, 24, 0)), .int a1] μ μ0
  | 0, _, _, _, h => by cases h
  | n + 1, _, _, _, h => MG_X4_readAtom (F := 3 * n + 30) (by omega) (F_X4_readAny := 3 * n + 29) (by omega) (fun h => MG_X4_readAny (F := 3 * n + 29) (by omega) (F_X4_readEach := 3 * n + 28) (by omega) (fun h => MG_X4_readEach (F := 3 * n + 28) (by omega) (F_X4_readAtom := 3 * n + 27) (by omega) (fun h => M_X4_atomN n h) h) h) (F_X4_readAtom := 3 * n + 27) (by omega) (fun h => M_X4_atomN n h) h
theorem M_X4_readAny {l : Launch} {D : va_G} {y : ZLay} {a1 : Int32} {μ μ0 : ZMem} (h : f_X4_readAny a1 μ = some μ0) : MV l yX4_readAny wb_X4_readAny rm_X4_readAny D y [.ref (zad y (0, 24, 0)), .int a1] μ μ0 :=
  MG_X4_readAny (F := 53) (by omega) (F_X4_readEach := 52) (by omega) (fun h => MG_X4_readEach (F := 52) (by omega) (F_X4_readAtom := 51) (by omega) (fun h => M_X4_atomN 8 h) h) h

def f_X4_readLine (a1 : Int32) (μ : ZMem) : Option (ZMem) := bd2 (f_X8_takeAny 1010 1012 μ) (fun (x2 : Int32) (μ3 : ZMem) => jk (bd (f_X8_fail μ3) (fun (μ27 : ZMem) => some μ27)) (fun k5 => if x2 = (-1) then k5 else if a1 < 0 then k5 else if a1 < 12 then gd (zin a1 12) (zlt (mset μ3 (0, 25, 0) a1.toNatClampNeg x2) (fun (μ9 : ZMem) => bd2 (f_X8_takeNumber 0 99 μ9) (fun (x11 : Int32) (μ12 : ZMem) => zlt (mset μ12 (0, 26, 0) a1.toNatClampNeg x11) (fun (μ13 : ZMem) => gd (zin a1 13) (zlt (mset μ13 (0, 27, 0) a1.toNatClampNeg (μ13 (0, 24, 0) 6)) (fun (μ15 : ZMem) => bd2 (f_X8_takes 1013 μ15) (fun (x17 : Int32) (μ18 : ZMem) => bd (α := ZMem) (if x17 = 0 then some μ18 else bd (f_X4_readAny 0 μ18) (fun (μ22 : ZMem) => some μ22)) (fun (μ20 : ZMem) => gd (zin (a1 + 1) 13) (zlt (mset μ20 (0, 27, 0) (a1 + 1).toNatClampNeg (μ20 (0, 24, 0) 6)) (fun (μ24 : ZMem) => zlt (mset μ24 (0, 24, 0) 5 (a1 + 1)) (fun (μ25 : ZMem) => some μ25))))))))))) else k5))
set_option maxRecDepth 100000 in
set_option maxHeartbeats 4000000 in
theorem M_X4_readLine {l : Launch} {D : va_G} {y : ZLay} {a1 : Int32}  {μ : ZMem} {μ0 : ZMem} (h : f_X4_readLine a1 μ = some μ0) : MV l yX4_readLine wb_X4_readLine rm_X4_readLine D y [.ref (zad y (0, 24, 0)), .int a1] μ μ0 := by
  unfold f_X4_readLine at h
  refine MV_of RX4 [(0, .ref (zad y (0, 24, 0))), (1, .int a1)] (by decide) rfl rfl (Nat.le_of_ble_eq_true rfl) rfl ?_
  intro p e s m args below meth c A X
  refine V_aload_n X 0 dX4_readLine_0 rfl rfl ?_
  refine V_getr X (o := (0, 24, 0)) (i := (0, 20, 0)) (ci := 4) (k := 0) (N := 7) (T := TX4) (C := RX4) ⟨by decide, rfl⟩ rfl rfl rfl (by decide) (mBa inB_X4) (mB wl_RX4_24) dX4_readLine_1 ?_
  refine V_sipush X 1010 dX4_readLine_4 (by decide) ?_
  refine V_sipush X 1012 dX4_readLine_7 (by decide) ?_
  obtain ⟨x2, μ3, c1, h⟩ := bd2_some h
  refine V_callVi X (As := [.int 1010, .int 1012]) (M_X8_takeAny c1) (cwV 2 X.2.2.2.2.2.2.1 (gV wm_RX4_75 wi_X8_takeAny wse_X8_takeAny win_RX8 wc_X8_takeAny) rfl rfl rfl hd_X8_takeAny ⟨Nat.le_of_ble_eq_true rfl, Nat.le_of_ble_eq_true rfl⟩) (b := (0, 20, 0)) ⟨by decide, rfl⟩ rfl rfl rfl rfl (Nat.le_of_ble_eq_true rfl) dX4_readLine_10 rfl ?_
  refine V_istore_n X [(2, .int x2), (0, .ref (zad y (0, 24, 0))), (1, .int a1)] dX4_readLine_13 rfl (by decide) rfl ?_
  refine V_iload_n X 0 dX4_readLine_14 rfl rfl ?_
  refine V_iconst X (-1) dX4_readLine_15 (by decide) ?_
  refine jk0_el (P := V X μ3 29 [(0, .ref (zad y (0, 24, 0)))] []) h (fun h => ?_) (fun k5 hk5 h => ?_)
  · refine V_aload_n X 0 dX4_readLine_29 rfl rfl ?_
    refine V_getr X (o := (0, 24, 0)) (i := (0, 20, 0)) (ci := 4) (k := 0) (N := 7) (T := TX4) (C := RX4) ⟨by decide, rfl⟩ rfl rfl rfl (by decide) (mBa inB_X4) (mB wl_RX4_24) dX4_readLine_30 ?_
    obtain ⟨μ27, c26, h⟩ := bd_some h
    refine V_callVv X (As := []) (M_X8_fail c26) (cwV 0 X.2.2.2.2.2.2.1 (gV wm_RX4_72 wi_X8_fail wse_X8_fail win_RX8 wc_X8_fail) rfl rfl rfl hd_X8_fail ⟨Nat.le_of_ble_eq_true rfl, Nat.le_of_ble_eq_true rfl⟩) (b := (0, 20, 0)) ⟨by decide, rfl⟩ rfl rfl rfl rfl (Nat.le_of_ble_eq_true rfl) dX4_readLine_33 rfl ?_
    exact V_vretW X h dX4_readLine_36
  · refine V_icmp_eq X (tgt := 29) dX4_readLine_16 (by decide) (fun b4 => ?_) (fun b4 => ?_)
    · replace h := (if_pos b4).symm.trans h
      refine V_sub X [1] (lv' := [(0, .ref (zad y (0, 24, 0)))]) rfl ?_
      exact hk5 h
    · replace h := (if_neg b4).symm.trans h
      refine V_iload_n X 2 dX4_readLine_19 rfl rfl ?_
      refine V_if_lt X (tgt := 29) dX4_readLine_20 (by decide) (fun b6 => ?_) (fun b6 => ?_)
      · replace h := (if_pos b6).symm.trans h
        refine V_sub X [1] (lv' := [(0, .ref (zad y (0, 24, 0)))]) rfl ?_
        exact hk5 h
      · replace h := (if_neg b6).symm.trans h
        refine V_iload_n X 2 dX4_readLine_23 rfl rfl ?_
        refine V_bipush X 12 dX4_readLine_24 (by decide) ?_
        refine V_icmp_lt X (tgt := 37) dX4_readLine_26 (by decide) (fun b7 => ?_) (fun b7 => ?_)
        · replace h := (if_pos b7).symm.trans h
          refine V_aload_n X 1 dX4_readLine_37 rfl rfl ?_
          refine V_getr X (o := (0, 24, 0)) (i := (0, 25, 0)) (ci := 4) (k := 1) (N := 7) (T := TX4) (C := RX4) ⟨by decide, rfl⟩ rfl rfl rfl (by decide) (mBa inB_X4) (mB wl_RX4_9) dX4_readLine_38 ?_
          refine V_iload_n X 2 dX4_readLine_41 rfl rfl ?_
          refine V_iload_n X 0 dX4_readLine_42 rfl rfl ?_
          obtain ⟨g8, h⟩ := gd_some h
          refine V_iast X a1.toNatClampNeg rfl (o := (0, 25, 0)) (n := 12) ⟨by decide, rfl⟩ rfl rfl g8 dX4_readLine_43 ?_
          refine zlt_el (P := fun (μ9 : ZMem) => V X μ9 44 [(2, .int x2), (0, .ref (zad y (0, 24, 0))), (1, .int a1)] []) h (fun μ9 h => ?_)
          refine V_aload_n X 1 dX4_readLine_44 rfl rfl ?_
          refine V_getr X (o := (0, 24, 0)) (i := (0, 26, 0)) (ci := 4) (k := 2) (N := 7) (T := TX4) (C := RX4) ⟨by decide, rfl⟩ rfl rfl rfl (by decide) (mBa inB_X4) (mB wl_RX4_15) dX4_readLine_45 ?_
          refine V_iload_n X 2 dX4_readLine_48 rfl rfl ?_
          refine V_aload_n X 1 dX4_readLine_49 rfl rfl ?_
          refine V_getr X (o := (0, 24, 0)) (i := (0, 20, 0)) (ci := 4) (k := 0) (N := 7) (T := TX4) (C := RX4) ⟨by decide, rfl⟩ rfl rfl rfl (by decide) (mBa inB_X4) (mB wl_RX4_24) dX4_readLine_50 ?_
          refine V_iconst X 0 dX4_readLine_53 (by decide) ?_
          refine V_bipush X 99 dX4_readLine_54 (by decide) ?_
          obtain ⟨x11, μ12, c10, h⟩ := bd2_some h
          refine V_callVi X (As := [.int 0, .int 99]) (M_X8_takeNumber c10) (cwV 2 X.2.2.2.2.2.2.1 (gV wm_RX4_78 wi_X8_takeNumber wse_X8_takeNumber win_RX8 wc_X8_takeNumber) rfl rfl rfl hd_X8_takeNumber ⟨Nat.le_of_ble_eq_true rfl, Nat.le_of_ble_eq_true rfl⟩) (b := (0, 20, 0)) ⟨by decide, rfl⟩ rfl rfl rfl rfl (Nat.le_of_ble_eq_true rfl) dX4_readLine_56 rfl ?_
          refine V_iast X a1.toNatClampNeg rfl (o := (0, 26, 0)) (n := 12) ⟨by decide, rfl⟩ rfl rfl g8 dX4_readLine_59 ?_
          refine zlt_el (P := fun (μ13 : ZMem) => V X μ13 60 [(2, .int x2), (0, .ref (zad y (0, 24, 0))), (1, .int a1)] []) h (fun μ13 h => ?_)
          refine V_aload_n X 1 dX4_readLine_60 rfl rfl ?_
          refine V_getr X (o := (0, 24, 0)) (i := (0, 27, 0)) (ci := 4) (k := 3) (N := 7) (T := TX4) (C := RX4) ⟨by decide, rfl⟩ rfl rfl rfl (by decide) (mBa inB_X4) (mB wl_RX4_18) dX4_readLine_61 ?_
          refine V_iload_n X 2 dX4_readLine_64 rfl rfl ?_
          refine V_aload_n X 1 dX4_readLine_65 rfl rfl ?_
          refine V_geti X (o := (0, 24, 0)) (ci := 4) (k := 6) (N := 7) (T := TX4) (C := RX4) ⟨by decide, rfl⟩ rfl rfl rfl (by decide) (mBa inB_X4) (mB wl_RX4_38) dX4_readLine_66 ?_
          obtain ⟨g14, h⟩ := gd_some h
          refine V_iast X a1.toNatClampNeg rfl (o := (0, 27, 0)) (n := 13) ⟨by decide, rfl⟩ rfl rfl g14 dX4_readLine_69 ?_
          refine zlt_el (P := fun (μ15 : ZMem) => V X μ15 70 [(2, .int x2), (0, .ref (zad y (0, 24, 0))), (1, .int a1)] []) h (fun μ15 h => ?_)
          refine V_aload_n X 1 dX4_readLine_70 rfl rfl ?_
          refine V_getr X (o := (0, 24, 0)) (i := (0, 20, 0)) (ci := 4) (k := 0) (N := 7) (T := TX4) (C := RX4) ⟨by decide, rfl⟩ rfl rfl rfl (by decide) (mBa inB_X4) (mB wl_RX4_24) dX4_readLine_71 ?_
          refine V_sipush X 1013 dX4_readLine_74 (by decide) ?_
          obtain ⟨x17, μ18, c16, h⟩ := bd2_some h
          refine V_callVi X (As := [.int 1013]) (M_X8_takes c16) (cwV 1 X.2.2.2.2.2.2.1 (gV wm_RX4_69 wi_X8_takes wse_X8_takes win_RX8 wc_X8_takes) rfl rfl rfl hd_X8_takes ⟨Nat.le_of_ble_eq_true rfl, Nat.le_of_ble_eq_true rfl⟩) (b := (0, 20, 0)) ⟨by decide, rfl⟩ rfl rfl rfl rfl (Nat.le_of_ble_eq_true rfl) dX4_readLine_77 rfl ?_
          obtain ⟨μ20, h1, h⟩ := bd_some h
          have hk : V X μ20 88 [(0, .ref (zad y (0, 24, 0))), (1, .int a1)] [] := by
            clear h1
            refine V_aload_n X 0 dX4_readLine_88 rfl rfl ?_
            refine V_getr X (o := (0, 24, 0)) (i := (0, 27, 0)) (ci := 4) (k := 3) (N := 7) (T := TX4) (C := RX4) ⟨by decide, rfl⟩ rfl rfl rfl (by decide) (mBa inB_X4) (mB wl_RX4_18) dX4_readLine_89 ?_
            refine V_iload_n X 1 dX4_readLine_92 rfl rfl ?_
            refine V_iconst X 1 dX4_readLine_93 (by decide) ?_
            refine V_iadd X dX4_readLine_94 ?_
            refine V_aload_n X 0 dX4_readLine_95 rfl rfl ?_
            refine V_geti X (o := (0, 24, 0)) (ci := 4) (k := 6) (N := 7) (T := TX4) (C := RX4) ⟨by decide, rfl⟩ rfl rfl rfl (by decide) (mBa inB_X4) (mB wl_RX4_38) dX4_readLine_96 ?_
            obtain ⟨g23, h⟩ := gd_some h
            refine V_iast X (a1 + 1).toNatClampNeg rfl (o := (0, 27, 0)) (n := 13) ⟨by decide, rfl⟩ rfl rfl g23 dX4_readLine_99 ?_
            refine zlt_el (P := fun (μ24 : ZMem) => V X μ24 100 [(0, .ref (zad y (0, 24, 0))), (1, .int a1)] []) h (fun μ24 h => ?_)
            refine V_aload_n X 0 dX4_readLine_100 rfl rfl ?_
            refine V_iload_n X 1 dX4_readLine_101 rfl rfl ?_
            refine V_iconst X 1 dX4_readLine_102 (by decide) ?_
            refine V_iadd X dX4_readLine_103 ?_
            refine V_puti X tyX4 .int (o := (0, 24, 0)) (ci := 4) (k := 5) (N := 7) (T := TX4) (C := RX4) ⟨by decide, rfl⟩ rfl rfl rfl (by decide) (mBa inB_X4) tyX4_ok nmX4 (mB wl_RX4_30) rfl rfl rfl rfl dX4_readLine_104 ?_
            refine zlt_el (P := fun (μ25 : ZMem) => V X μ25 107 [(0, .ref (zad y (0, 24, 0))), (1, .int a1)] []) h (fun μ25 h => ?_)
            exact V_vretW X h dX4_readLine_107
          replace h := h1
          clear h1
          refine V_if_eq X (tgt := 88) dX4_readLine_80 (by decide) (fun b19 => ?_) (fun b19 => ?_)
          · replace h := (if_pos b19).symm.trans h
            refine V_sub X [1, 2] (lv' := [(0, .ref (zad y (0, 24, 0))), (1, .int a1)]) rfl ?_
            obtain rfl := so1 h
            exact hk
          · replace h := (if_neg b19).symm.trans h
            refine V_aload_n X 1 dX4_readLine_83 rfl rfl ?_
            refine V_iconst X 0 dX4_readLine_84 (by decide) ?_
            obtain ⟨μ22, c21, h⟩ := bd_some h
            refine V_callVv X (As := [.int 0]) (M_X4_readAny c21) (cwV 1 X.2.2.2.2.2.2.1 (gV wm_RX4_81 wi_X4_readAny wse_X4_readAny win_RX4 wc_X4_readAny) rfl rfl rfl hd_X4_readAny ⟨Nat.le_of_ble_eq_true rfl, Nat.le_of_ble_eq_true rfl⟩) (b := (0, 24, 0)) ⟨by decide, rfl⟩ rfl rfl rfl rfl (Nat.le_of_ble_eq_true rfl) dX4_readLine_85 rfl ?_
            refine V_sub X [1, 2] (lv' := [(0, .ref (zad y (0, 24, 0))), (1, .int a1)]) rfl ?_
            obtain rfl := so1 h
            exact hk
        · replace h := (if_neg b7).symm.trans h
          refine V_sub X [1] (lv' := [(0, .ref (zad y (0, 24, 0)))]) rfl ?_
          exact hk5 h

