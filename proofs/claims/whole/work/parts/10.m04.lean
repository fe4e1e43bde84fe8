def f_X10_look (y : ZLay) (s1 : Nat) (μ : ZMem) : Option (ZMem) := bd (f_X7_inState s1 2 μ) (fun (x2 : Int32) => zlt (mset μ (0, 5, 0) 4 x2) (fun (μ3 : ZMem) => zlt (mset μ3 (0, 5, 0) 5 0) (fun (μ4 : ZMem) => bd (lp (σ := Int32 × ZMem) (fun q => un2 q (fun (x5 : Int32) (μ6 : ZMem) => if (μ6 (1, s1, 0) 4) ≤ x5 then some (.inr μ6) else gd (zin x5 8) (bd2 (f_X3_sum y ((μ6 (1, s1, 0) 10).toNatClampNeg) s1 x5 1010 μ6) (fun (x12 : Int32) (μ13 : ZMem) => zlt (α := Int32) (if (μ13 (3, s1, x5.toNatClampNeg) 9) = 1 then (μ13 (3, s1, x5.toNatClampNeg) 10) else 0) (fun (x15 : Int32) => zlt (mset μ13 (0, 8, 0) x5.toNatClampNeg (x12 + x15)) (fun (μ16 : ZMem) => bd2 (α := Int32) (β := ZMem) (if (μ16 (3, s1, x5.toNatClampNeg) 9) = 2 then some (100, μ16) else bd2 (f_X3_sum y ((μ16 (1, s1, 0) 10).toNatClampNeg) s1 x5 1011 μ16) (fun (x22 : Int32) (μ23 : ZMem) => some ((zmin 100 ((μ16 (3, s1, x5.toNatClampNeg) 8) + x22)), μ23))) (fun (x18 : Int32) (μ19 : ZMem) => zlt (mset μ19 (0, 9, 0) x5.toNatClampNeg x18) (fun (μ24 : ZMem) => zlt ((μ24 (3, s1, x5.toNatClampNeg) 0) + (μ24 (0, 8, 0) x5.toNatClampNeg)) (fun (x25 : Int32) => bd (lp (σ := Int32 × ZMem) (fun q => un2 q (fun (x26 : Int32) (μ27 : ZMem) => if (μ27 (1, s1, 0) 4) ≤ x26 then some (.inr μ27) else bd (α := Int32) (jk (some 0) (fun k32 => if (μ27 (3, s1, x5.toNatClampNeg) 9) = 3 then if (zrem x26 2) = 1 then some (μ27 (3, s1, x5.toNatClampNeg) 10) else k32 else k32)) (fun (x31 : Int32) => gd (zin x26 8) (zlt (mset μ27 (7, x5.toNatClampNeg, 0) x26.toNatClampNeg (x25 + x31)) (fun (μ35 : ZMem) => some (.inl ((x26 + 1), μ35))))))) FU (0, μ24)) (fun (μ28 : ZMem) => zlt (α := ZMem) (if (μ28 (3, s1, x5.toNatClampNeg) 3) = 2 then if (μ28 (3, s1, x5.toNatClampNeg) 9) = 2 then μ28 else if (μ28 (1, s1, 0) 5) < (zabs x25) then μ28 else zlt (mset μ28 (0, 5, 0) 5 ((μ28 (0, 5, 0) 5) ||| (f_X11_bit x5))) (fun (μ40 : ZMem) => μ40) else μ28) (fun (μ37 : ZMem) => some (.inl ((x5 + 1), μ37))))))))))))) FU (0, μ4)) (fun (μ7 : ZMem) => bd (lp (σ := Int32 × ZMem) (fun q => un2 q (fun (x41 : Int32) (μ42 : ZMem) => if (μ42 (1, s1, 0) 4) ≤ x41 then some (.inr μ42) else gd (zin x41 8) (zlt (mset μ42 (0, 7, 0) x41.toNatClampNeg 0) (fun (μ46 : ZMem) => bd (lp (σ := Int32 × ZMem) (fun q => un2 q (fun (x47 : Int32) (μ48 : ZMem) => if (μ48 (1, s1, 0) 4) ≤ x47 then some (.inr μ48) else bd (α := ZMem) (if x41 = x47 then some μ48 else gd (zin x47 8) (if (μ48 (1, s1, 0) 6) < (zabs ((μ48 (7, x47.toNatClampNeg, 0) x41.toNatClampNeg) - (μ48 (3, s1, x41.toNatClampNeg) 0))) then some μ48 else zlt (mset μ48 (0, 7, 0) x41.toNatClampNeg ((μ48 (0, 7, 0) x41.toNatClampNeg) ||| (f_X11_bit x47))) (fun (μ55 : ZMem) => some μ55))) (fun (μ52 : ZMem) => some (.inl ((x47 + 1), μ52))))) FU (0, μ46)) (fun (μ49 : ZMem) => some (.inl ((x41 + 1), μ49))))))) FU (0, μ7)) (fun (μ43 : ZMem) => some μ43)))))
set_option maxRecDepth 100000 in
set_option maxHeartbeats 4000000 in
theorem M_X10_look {l : Launch} {D : va_G} {y : ZLay} {s1 : Nat} (hs1 : s1 < 15) {μ : ZMem} {μ0 : ZMem} (h : f_X10_look y s1 μ = some μ0) : MV l yX10_look wb_X10_look rm_X10_look D y [.ref (zad y (0, 5, 0)), .ref (zad y (1, s1, 0))] μ μ0 := by
  unfold f_X10_look at h
  refine MV_of RX10 [(0, .ref (zad y (0, 5, 0))), (1, .ref (zad y (1, s1, 0)))] (by decide) rfl rfl (Nat.le_of_ble_eq_true rfl) rfl ?_
  intro p e s m args below meth c A X
  refine V_aload_n X 0 dX10_look_0 rfl rfl ?_
  refine V_aload_n X 1 dX10_look_1 rfl rfl ?_
  refine V_iconst X 2 dX10_look_2 (by decide) ?_
  obtain ⟨x2, c1, h⟩ := bd_some h
  refine V_callVi X (As := [.int 2]) (M_X7_inState hs1 c1) (cwV 1 X.2.2.2.2.2.2.1 (gV wm_RX10_29 wi_X7_inState wse_X7_inState win_RX7 wc_X7_inState) rfl rfl rfl hd_X7_inState ⟨Nat.le_of_ble_eq_true rfl, Nat.le_of_ble_eq_true rfl⟩) (b := (1, s1, 0)) ⟨hs1, rfl⟩ rfl rfl rfl rfl (Nat.le_of_ble_eq_true rfl) dX10_look_3 rfl ?_
  refine V_puti X tyX10 .int (o := (0, 5, 0)) (ci := 10) (k := 4) (N := 7) (T := TX10) (C := RX10) ⟨by decide, rfl⟩ rfl rfl rfl (by decide) (mBa inB_X10) tyX10_ok nmX10 (mB wl_RX10_35) rfl rfl rfl rfl dX10_look_6 ?_
  refine zlt_el (P := fun (μ3 : ZMem) => V X μ3 9 [(0, .ref (zad y (0, 5, 0))), (1, .ref (zad y (1, s1, 0)))] []) h (fun μ3 h => ?_)
  refine V_aload_n X 0 dX10_look_9 rfl rfl ?_
  refine V_iconst X 0 dX10_look_10 (by decide) ?_
  refine V_puti X tyX10 .int (o := (0, 5, 0)) (ci := 10) (k := 5) (N := 7) (T := TX10) (C := RX10) ⟨by decide, rfl⟩ rfl rfl rfl (by decide) (mBa inB_X10) tyX10_ok nmX10 (mB wl_RX10_39) rfl rfl rfl rfl dX10_look_11 ?_
  refine zlt_el (P := fun (μ4 : ZMem) => V X μ4 14 [(0, .ref (zad y (0, 5, 0))), (1, .ref (zad y (1, s1, 0)))] []) h (fun μ4 h => ?_)
  refine V_iconst X 0 dX10_look_14 (by decide) ?_
  refine V_istore_n X [(2, .int 0), (0, .ref (zad y (0, 5, 0))), (1, .ref (zad y (1, s1, 0)))] dX10_look_15 rfl (by decide) rfl ?_
  refine V_sub X [1, 2, 0] (lv' := [(0, .ref (zad y (0, 5, 0))), (1, .ref (zad y (1, s1, 0))), (2, .int 0)]) rfl ?_
  obtain ⟨μ7, hl, h⟩ := bd_some h
  have hk : V X μ7 221 [(0, .ref (zad y (0, 5, 0))), (1, .ref (zad y (1, s1, 0)))] [] := by
    clear hl
    refine V_iconst X 0 dX10_look_221 (by decide) ?_
    refine V_istore_n X [(2, .int 0), (0, .ref (zad y (0, 5, 0))), (1, .ref (zad y (1, s1, 0)))] dX10_look_222 rfl (by decide) rfl ?_
    refine V_sub X [1, 2, 0] (lv' := [(0, .ref (zad y (0, 5, 0))), (1, .ref (zad y (1, s1, 0))), (2, .int 0)]) rfl ?_
    obtain ⟨μ43, hl, h⟩ := bd_some h
    have hk : V X μ43 306 [] [] := by
      clear hl
      exact V_vretW X h dX10_look_306
    refine lp_ind (P := fun q => V X q.2 223 [(0, .ref (zad y (0, 5, 0))), (1, .ref (zad y (1, s1, 0))), (2, .int q.1)] []) (fun q z h hz => ?_) hl
    obtain ⟨x41, μ42⟩ := q
    replace h := un2_eq h
    show V X μ42 223 [(0, .ref (zad y (0, 5, 0))), (1, .ref (zad y (1, s1, 0))), (2, .int x41)] []
    refine V_iload_n X 2 dX10_look_223 rfl rfl ?_
    refine V_aload_n X 1 dX10_look_224 rfl rfl ?_
    refine V_geti X (o := (1, s1, 0)) (ci := 7) (k := 4) (N := 11) (T := TX7) (C := RX7) ⟨hs1, rfl⟩ rfl rfl rfl (by decide) (mBa inB_X7) (mB wl_RX10_42) dX10_look_225 ?_
    refine V_icmp_ge X (tgt := 306) dX10_look_228 (by decide) (fun b44 => ?_) (fun b44 => ?_)
    · replace h := (if_pos b44).symm.trans h
      refine V_sub X [] (lv' := []) rfl ?_
      cases h
      obtain rfl := pr1 hz
      exact hk
    · replace h := (if_neg b44).symm.trans h
      refine V_aload_n X 0 dX10_look_231 rfl rfl ?_
      refine V_getr X (o := (0, 5, 0)) (i := (0, 7, 0)) (ci := 10) (k := 1) (N := 7) (T := TX10) (C := RX10) ⟨by decide, rfl⟩ rfl rfl rfl (by decide) (mBa inB_X10) (mB wl_RX10_16) dX10_look_232 ?_
      refine V_iload_n X 2 dX10_look_235 rfl rfl ?_
      refine V_iconst X 0 dX10_look_236 (by decide) ?_
      obtain ⟨g45, h⟩ := gd_some h
      refine V_iast X x41.toNatClampNeg rfl (o := (0, 7, 0)) (n := 8) ⟨by decide, rfl⟩ rfl rfl g45 dX10_look_237 ?_
      refine zlt_el (P := fun (μ46 : ZMem) => V X μ46 238 [(0, .ref (zad y (0, 5, 0))), (1, .ref (zad y (1, s1, 0))), (2, .int x41)] []) h (fun μ46 h => ?_)
      refine V_iconst X 0 dX10_look_238 (by decide) ?_
      refine V_istore_n X [(3, .int 0), (0, .ref (zad y (0, 5, 0))), (1, .ref (zad y (1, s1, 0))), (2, .int x41)] dX10_look_239 rfl (by decide) rfl ?_
      refine V_sub X [1, 2, 3, 0] (lv' := [(0, .ref (zad y (0, 5, 0))), (1, .ref (zad y (1, s1, 0))), (2, .int x41), (3, .int 0)]) rfl ?_
      obtain ⟨μ49, hl, h⟩ := bd_some h
      have hk : V X μ49 300 [(0, .ref (zad y (0, 5, 0))), (1, .ref (zad y (1, s1, 0))), (2, .int x41)] [] := by
        clear hl
        refine V_inc X 2 1 [(2, .int (x41 + 1)), (0, .ref (zad y (0, 5, 0))), (1, .ref (zad y (1, s1, 0)))] dX10_look_300 rfl (by decide) (by decide) rfl ?_
        refine V_goto X (tgt := 223) dX10_look_303 (by decide) ?_
        refine V_sub X [1, 2, 0] (lv' := [(0, .ref (zad y (0, 5, 0))), (1, .ref (zad y (1, s1, 0))), (2, .int (x41 + 1))]) rfl ?_
        cases h
        exact hz
      refine lp_ind (P := fun q => V X q.2 240 [(0, .ref (zad y (0, 5, 0))), (1, .ref (zad y (1, s1, 0))), (2, .int x41), (3, .int q.1)] []) (fun q z h hz => ?_) hl
      obtain ⟨x47, μ48⟩ := q
      replace h := un2_eq h
      show V X μ48 240 [(0, .ref (zad y (0, 5, 0))), (1, .ref (zad y (1, s1, 0))), (2, .int x41), (3, .int x47)] []
      refine V_iload_n X 3 dX10_look_240 rfl rfl ?_
      refine V_aload_n X 1 dX10_look_241 rfl rfl ?_
      refine V_geti X (o := (1, s1, 0)) (ci := 7) (k := 4) (N := 11) (T := TX7) (C := RX7) ⟨hs1, rfl⟩ rfl rfl rfl (by decide) (mBa inB_X7) (mB wl_RX10_42) dX10_look_242 ?_
      refine V_icmp_ge X (tgt := 300) dX10_look_245 (by decide) (fun b50 => ?_) (fun b50 => ?_)
      · replace h := (if_pos b50).symm.trans h
        refine V_sub X [0, 1, 2] (lv' := [(0, .ref (zad y (0, 5, 0))), (1, .ref (zad y (1, s1, 0))), (2, .int x41)]) rfl ?_
        cases h
        obtain rfl := pr1 hz
        exact hk
      · replace h := (if_neg b50).symm.trans h
        refine V_iload_n X 2 dX10_look_248 rfl rfl ?_
        refine V_iload_n X 3 dX10_look_249 rfl rfl ?_
        obtain ⟨μ52, h1, h⟩ := bd_some h
        have hk : V X μ52 294 [(0, .ref (zad y (0, 5, 0))), (1, .ref (zad y (1, s1, 0))), (2, .int x41), (3, .int x47)] [] := by
          clear h1
          refine V_inc X 3 1 [(3, .int (x47 + 1)), (0, .ref (zad y (0, 5, 0))), (1, .ref (zad y (1, s1, 0))), (2, .int x41)] dX10_look_294 rfl (by decide) (by decide) rfl ?_
          refine V_goto X (tgt := 240) dX10_look_297 (by decide) ?_
          refine V_sub X [1, 2, 3, 0] (lv' := [(0, .ref (zad y (0, 5, 0))), (1, .ref (zad y (1, s1, 0))), (2, .int x41), (3, .int (x47 + 1))]) rfl ?_
          cases h
          exact hz
        replace h := h1
        clear h1
        refine V_icmp_eq X (tgt := 294) dX10_look_250 (by decide) (fun b51 => ?_) (fun b51 => ?_)
        · replace h := (if_pos b51).symm.trans h
          obtain rfl := so1 h
          exact hk
        · replace h := (if_neg b51).symm.trans h
          refine V_aload_n X 0 dX10_look_253 rfl rfl ?_
          refine V_getr X (o := (0, 5, 0)) (i := (0, 6, 0)) (ci := 10) (k := 0) (N := 7) (T := TX10) (C := RX10) ⟨by decide, rfl⟩ rfl rfl rfl (by decide) (mBa inB_X10) (mB wl_RX10_11) dX10_look_254 ?_
          refine V_iload_n X 3 dX10_look_257 rfl rfl ?_
          obtain ⟨g53, h⟩ := gd_some h
          refine V_aald X x47.toNatClampNeg rfl (o := (0, 6, 0)) ⟨by decide, rfl⟩ rfl rfl rfl rfl g53 dX10_look_258 ?_
          refine V_iload_n X 2 dX10_look_259 rfl rfl ?_
          refine V_iald X x41.toNatClampNeg rfl (o := (7, x47.toNatClampNeg, 0)) (n := 8) ⟨zin_lt g53, rfl⟩ rfl rfl g45 dX10_look_260 ?_
          refine V_aload_n X 1 dX10_look_261 rfl rfl ?_
          refine V_getr X (o := (1, s1, 0)) (i := (2, s1, 0)) (ci := 7) (k := 0) (N := 11) (T := TX7) (C := RX7) ⟨hs1, rfl⟩ rfl rfl rfl (by decide) (mBa inB_X7) (mB wl_RX10_45) dX10_look_262 ?_
          refine V_iload_n X 2 dX10_look_265 rfl rfl ?_
          refine V_aald X x41.toNatClampNeg rfl (o := (2, s1, 0)) ⟨hs1, rfl⟩ rfl rfl rfl rfl g45 dX10_look_266 ?_
          refine V_geti X (o := (3, s1, x41.toNatClampNeg)) (ci := 5) (k := 0) (N := 11) (T := TX5) (C := RX5) ⟨hs1, zin_lt g45⟩ rfl rfl rfl (by decide) (mBa inB_X5) (mB wl_RX10_76) dX10_look_267 ?_
          refine V_isub X dX10_look_270 ?_
          refine V_zabs X (ix := 82) (mB wm_RX10_82) (mB wst_Math_abs) (mB win_Math) (mB wc_Math_abs) (Nat.le_of_ble_eq_true rfl) (Nat.le_of_ble_eq_true rfl) dX10_look_271 ?_
          refine V_aload_n X 1 dX10_look_274 rfl rfl ?_
          refine V_geti X (o := (1, s1, 0)) (ci := 7) (k := 6) (N := 11) (T := TX7) (C := RX7) ⟨hs1, rfl⟩ rfl rfl rfl (by decide) (mBa inB_X7) (mB wl_RX10_91) dX10_look_275 ?_
          refine V_icmp_gt X (tgt := 294) dX10_look_278 (by decide) (fun b54 => ?_) (fun b54 => ?_)
          · replace h := (if_pos b54).symm.trans h
            obtain rfl := so1 h
            exact hk
          · replace h := (if_neg b54).symm.trans h
            refine V_aload_n X 0 dX10_look_281 rfl rfl ?_
            refine V_getr X (o := (0, 5, 0)) (i := (0, 7, 0)) (ci := 10) (k := 1) (N := 7) (T := TX10) (C := RX10) ⟨by decide, rfl⟩ rfl rfl rfl (by decide) (mBa inB_X10) (mB wl_RX10_16) dX10_look_282 ?_
            refine V_iload_n X 2 dX10_look_285 rfl rfl ?_
            refine V_dup2 X dX10_look_286 rfl rfl ?_
            refine V_iald X x41.toNatClampNeg rfl (o := (0, 7, 0)) (n := 8) ⟨by decide, rfl⟩ rfl rfl g45 dX10_look_287 ?_
            refine V_iload_n X 3 dX10_look_288 rfl rfl ?_
            refine V_callSNi X (As := [.int x47]) (M_X11_bit) ⟨va_cnB (host := "SlotCluster") 1 X.2.2.2.2.2.2.1 (gN wc_X11_bit) rfl rfl rfl (X.2.2.2.2.2.2.2.2.1 _ (List.mem_of_getElem? wn_RX10_88)) (X.2.2.2.2.2.2.1 (.initialized RX11) (mB win_RX11)) hd_X11_bit.2 ⟨Nat.le_of_ble_eq_true rfl, Nat.le_of_ble_eq_true rfl⟩, X.2.2.2.2.2.2.1 (.static yX11_bit) (mB wst_X11_bit), trivial⟩ rfl (Nat.le_of_ble_eq_true rfl) dX10_look_289 rfl ?_
            refine V_ior X dX10_look_292 ?_
            refine V_iast X x41.toNatClampNeg rfl (o := (0, 7, 0)) (n := 8) ⟨by decide, rfl⟩ rfl rfl g45 dX10_look_293 ?_
            refine zlt_el (P := fun (μ55 : ZMem) => V X μ55 294 [(0, .ref (zad y (0, 5, 0))), (1, .ref (zad y (1, s1, 0))), (2, .int x41), (3, .int x47)] []) h (fun μ55 h => ?_)
            obtain rfl := so1 h
            exact hk
  refine lp_ind (P := fun q => V X q.2 16 [(0, .ref (zad y (0, 5, 0))), (1, .ref (zad y (1, s1, 0))), (2, .int q.1)] []) (fun q z h hz => ?_) hl
  obtain ⟨x5, μ6⟩ := q
  replace h := un2_eq h
  show V X μ6 16 [(0, .ref (zad y (0, 5, 0))), (1, .ref (zad y (1, s1, 0))), (2, .int x5)] []
  refine V_iload_n X 2 dX10_look_16 rfl rfl ?_
  refine V_aload_n X 1 dX10_look_17 rfl rfl ?_
  refine V_geti X (o := (1, s1, 0)) (ci := 7) (k := 4) (N := 11) (T := TX7) (C := RX7) ⟨hs1, rfl⟩ rfl rfl rfl (by decide) (mBa inB_X7) (mB wl_RX10_42) dX10_look_18 ?_
  refine V_icmp_ge X (tgt := 221) dX10_look_21 (by decide) (fun b8 => ?_) (fun b8 => ?_)
  · replace h := (if_pos b8).symm.trans h
    refine V_sub X [0, 1] (lv' := [(0, .ref (zad y (0, 5, 0))), (1, .ref (zad y (1, s1, 0)))]) rfl ?_
    cases h
    obtain rfl := pr1 hz
    exact hk
  · replace h := (if_neg b8).symm.trans h
    refine V_aload_n X 1 dX10_look_24 rfl rfl ?_
    refine V_getr X (o := (1, s1, 0)) (i := (2, s1, 0)) (ci := 7) (k := 0) (N := 11) (T := TX7) (C := RX7) ⟨hs1, rfl⟩ rfl rfl rfl (by decide) (mBa inB_X7) (mB wl_RX10_45) dX10_look_25 ?_
    refine V_iload_n X 2 dX10_look_28 rfl rfl ?_
    obtain ⟨g9, h⟩ := gd_some h
    refine V_aald X x5.toNatClampNeg rfl (o := (2, s1, 0)) ⟨hs1, rfl⟩ rfl rfl rfl rfl g9 dX10_look_29 ?_
    refine V_astore_n X [(3, .ref (zad y (3, s1, x5.toNatClampNeg))), (0, .ref (zad y (0, 5, 0))), (1, .ref (zad y (1, s1, 0))), (2, .int x5)] dX10_look_30 rfl (by decide) rfl ?_
    refine V_aload_n X 1 dX10_look_31 rfl rfl ?_
    refine V_getr X (o := (0, 5, 0)) (i := (0, 8, 0)) (ci := 10) (k := 2) (N := 7) (T := TX10) (C := RX10) ⟨by decide, rfl⟩ rfl rfl rfl (by decide) (mBa inB_X10) (mB wl_RX10_20) dX10_look_32 ?_
    refine V_iload_n X 3 dX10_look_35 rfl rfl ?_
    refine V_aload_n X 2 dX10_look_36 rfl rfl ?_
    refine V_getl X hs1 (mBa inB_X7) (mB wl_RX10_49) dX10_look_37 (fun hn10 => ?_)
    refine V_aload_n X 2 dX10_look_40 rfl rfl ?_
    refine V_iload_n X 3 dX10_look_41 rfl rfl ?_
    refine V_sipush X 1010 dX10_look_42 (by decide) ?_
    obtain ⟨x12, μ13, c11, h⟩ := bd2_some h
    refine V_callVi X (As := [.ref (zad y (1, s1, 0)), .int x5, .int 1010]) (M_X3_sum hn10 hs1 c11) (cwV 3 X.2.2.2.2.2.2.1 (gV wm_RX10_53 wi_X3_sum wse_X3_sum win_RX3 wc_X3_sum) rfl rfl rfl hd_X3_sum ⟨Nat.le_of_ble_eq_true rfl, Nat.le_of_ble_eq_true rfl⟩) (b := (5, (μ6 (1, s1, 0) 10).toNatClampNeg, 0)) ⟨hn10, rfl⟩ rfl rfl rfl rfl (Nat.le_of_ble_eq_true rfl) dX10_look_45 rfl ?_
    refine V_aload_n X 0 dX10_look_48 rfl rfl ?_
    refine V_geti X (o := (3, s1, x5.toNatClampNeg)) (ci := 5) (k := 9) (N := 11) (T := TX5) (C := RX5) ⟨hs1, zin_lt g9⟩ rfl rfl rfl (by decide) (mBa inB_X5) (mB wl_RX10_59) dX10_look_49 ?_
    refine V_iconst X 1 dX10_look_52 (by decide) ?_
    obtain ⟨x15, h1, h⟩ := zl1_some h
    have hk : V X μ13 64 [(0, .ref (zad y (0, 5, 0))), (1, .ref (zad y (1, s1, 0))), (2, .int x5), (3, .ref (zad y (3, s1, x5.toNatClampNeg)))] [.int x15, .int x12, .int x5, .ref (zad y (0, 8, 0))] := by
      clear h1
      refine V_iadd X dX10_look_64 ?_
      refine V_iast X x5.toNatClampNeg rfl (o := (0, 8, 0)) (n := 8) ⟨by decide, rfl⟩ rfl rfl g9 dX10_look_65 ?_
      refine zlt_el (P := fun (μ16 : ZMem) => V X μ16 66 [(0, .ref (zad y (0, 5, 0))), (1, .ref (zad y (1, s1, 0))), (2, .int x5), (3, .ref (zad y (3, s1, x5.toNatClampNeg)))] []) h (fun μ16 h => ?_)
      refine V_aload_n X 0 dX10_look_66 rfl rfl ?_
      refine V_getr X (o := (0, 5, 0)) (i := (0, 9, 0)) (ci := 10) (k := 3) (N := 7) (T := TX10) (C := RX10) ⟨by decide, rfl⟩ rfl rfl rfl (by decide) (mBa inB_X10) (mB wl_RX10_23) dX10_look_67 ?_
      refine V_iload_n X 2 dX10_look_70 rfl rfl ?_
      refine V_aload_n X 3 dX10_look_71 rfl rfl ?_
      refine V_geti X (o := (3, s1, x5.toNatClampNeg)) (ci := 5) (k := 9) (N := 11) (T := TX5) (C := RX5) ⟨hs1, zin_lt g9⟩ rfl rfl rfl (by decide) (mBa inB_X5) (mB wl_RX10_59) dX10_look_72 ?_
      refine V_iconst X 2 dX10_look_75 (by decide) ?_
      obtain ⟨x18, μ19, h1, h⟩ := bd2_some h
      have hk : V X μ19 106 [(0, .ref (zad y (0, 5, 0))), (1, .ref (zad y (1, s1, 0))), (2, .int x5), (3, .ref (zad y (3, s1, x5.toNatClampNeg)))] [.int x18, .int x5, .ref (zad y (0, 9, 0))] := by
        clear h1
        refine V_iast X x5.toNatClampNeg rfl (o := (0, 9, 0)) (n := 8) ⟨by decide, rfl⟩ rfl rfl g9 dX10_look_106 ?_
        refine zlt_el (P := fun (μ24 : ZMem) => V X μ24 107 [(0, .ref (zad y (0, 5, 0))), (1, .ref (zad y (1, s1, 0))), (2, .int x5), (3, .ref (zad y (3, s1, x5.toNatClampNeg)))] []) h (fun μ24 h => ?_)
        refine V_aload_n X 3 dX10_look_107 rfl rfl ?_
        refine V_geti X (o := (3, s1, x5.toNatClampNeg)) (ci := 5) (k := 0) (N := 11) (T := TX5) (C := RX5) ⟨hs1, zin_lt g9⟩ rfl rfl rfl (by decide) (mBa inB_X5) (mB wl_RX10_76) dX10_look_108 ?_
        refine V_aload_n X 0 dX10_look_111 rfl rfl ?_
        refine V_getr X (o := (0, 5, 0)) (i := (0, 8, 0)) (ci := 10) (k := 2) (N := 7) (T := TX10) (C := RX10) ⟨by decide, rfl⟩ rfl rfl rfl (by decide) (mBa inB_X10) (mB wl_RX10_20) dX10_look_112 ?_
        refine V_iload_n X 2 dX10_look_115 rfl rfl ?_
        refine V_iald X x5.toNatClampNeg rfl (o := (0, 8, 0)) (n := 8) ⟨by decide, rfl⟩ rfl rfl g9 dX10_look_116 ?_
        refine V_iadd X dX10_look_117 ?_
        refine V_istore X [(4, .int ((μ24 (3, s1, x5.toNatClampNeg) 0) + (μ24 (0, 8, 0) x5.toNatClampNeg))), (0, .ref (zad y (0, 5, 0))), (1, .ref (zad y (1, s1, 0))), (2, .int x5), (3, .ref (zad y (3, s1, x5.toNatClampNeg)))] dX10_look_118 (by decide) rfl ?_
        refine zlt_el (P := fun (x25 : Int32) => V X μ24 120 [(4, .int x25), (0, .ref (zad y (0, 5, 0))), (1, .ref (zad y (1, s1, 0))), (2, .int x5), (3, .ref (zad y (3, s1, x5.toNatClampNeg)))] []) h (fun x25 h => ?_)
        refine V_iconst X 0 dX10_look_120 (by decide) ?_
        refine V_istore X [(5, .int 0), (4, .int x25), (0, .ref (zad y (0, 5, 0))), (1, .ref (zad y (1, s1, 0))), (2, .int x5), (3, .ref (zad y (3, s1, x5.toNatClampNeg)))] dX10_look_121 (by decide) rfl ?_
        refine V_sub X [2, 3, 4, 5, 1, 0] (lv' := [(0, .ref (zad y (0, 5, 0))), (1, .ref (zad y (1, s1, 0))), (2, .int x5), (3, .ref (zad y (3, s1, x5.toNatClampNeg))), (4, .int x25), (5, .int 0)]) rfl ?_
        obtain ⟨μ28, hl, h⟩ := bd_some h
        have hk : V X μ28 174 [(0, .ref (zad y (0, 5, 0))), (1, .ref (zad y (1, s1, 0))), (2, .int x5), (3, .ref (zad y (3, s1, x5.toNatClampNeg))), (4, .int x25)] [] := by
          clear hl
          refine V_aload_n X 3 dX10_look_174 rfl rfl ?_
          refine V_geti X (o := (3, s1, x5.toNatClampNeg)) (ci := 5) (k := 3) (N := 11) (T := TX5) (C := RX5) ⟨hs1, zin_lt g9⟩ rfl rfl rfl (by decide) (mBa inB_X5) (mB wl_RX10_79) dX10_look_175 ?_
          refine V_iconst X 2 dX10_look_178 (by decide) ?_
          obtain ⟨μ37, h1, h⟩ := zl1_some h
          have hk : V X μ37 215 [(0, .ref (zad y (0, 5, 0))), (1, .ref (zad y (1, s1, 0))), (2, .int x5)] [] := by
            clear h1
            refine V_inc X 2 1 [(2, .int (x5 + 1)), (0, .ref (zad y (0, 5, 0))), (1, .ref (zad y (1, s1, 0)))] dX10_look_215 rfl (by decide) (by decide) rfl ?_
            refine V_goto X (tgt := 16) dX10_look_218 (by decide) ?_
            refine V_sub X [1, 2, 0] (lv' := [(0, .ref (zad y (0, 5, 0))), (1, .ref (zad y (1, s1, 0))), (2, .int (x5 + 1))]) rfl ?_
            cases h
            exact hz
          replace h := h1
          clear h1
          refine V_icmp_ne X (tgt := 215) dX10_look_179 (by decide) (fun b36 => ?_) (fun b36 => ?_)
          · replace h := (if_neg b36).symm.trans h
            refine V_sub X [0, 1, 2] (lv' := [(0, .ref (zad y (0, 5, 0))), (1, .ref (zad y (1, s1, 0))), (2, .int x5)]) rfl ?_
            obtain rfl := pr1 h
            exact hk
          · replace h := (if_pos b36).symm.trans h
            refine V_aload_n X 3 dX10_look_182 rfl rfl ?_
            refine V_geti X (o := (3, s1, x5.toNatClampNeg)) (ci := 5) (k := 9) (N := 11) (T := TX5) (C := RX5) ⟨hs1, zin_lt g9⟩ rfl rfl rfl (by decide) (mBa inB_X5) (mB wl_RX10_59) dX10_look_183 ?_
            refine V_iconst X 2 dX10_look_186 (by decide) ?_
            refine V_icmp_eq X (tgt := 215) dX10_look_187 (by decide) (fun b38 => ?_) (fun b38 => ?_)
            · replace h := (if_pos b38).symm.trans h
              refine V_sub X [0, 1, 2] (lv' := [(0, .ref (zad y (0, 5, 0))), (1, .ref (zad y (1, s1, 0))), (2, .int x5)]) rfl ?_
              obtain rfl := pr1 h
              exact hk
            · replace h := (if_neg b38).symm.trans h
              refine V_iload X 4 dX10_look_190 rfl ?_
              refine V_zabs X (ix := 82) (mB wm_RX10_82) (mB wst_Math_abs) (mB win_Math) (mB wc_Math_abs) (Nat.le_of_ble_eq_true rfl) (Nat.le_of_ble_eq_true rfl) dX10_look_192 ?_
              refine V_aload_n X 1 dX10_look_195 rfl rfl ?_
              refine V_geti X (o := (1, s1, 0)) (ci := 7) (k := 5) (N := 11) (T := TX7) (C := RX7) ⟨hs1, rfl⟩ rfl rfl rfl (by decide) (mBa inB_X7) (mB wl_RX10_85) dX10_look_196 ?_
              refine V_icmp_gt X (tgt := 215) dX10_look_199 (by decide) (fun b39 => ?_) (fun b39 => ?_)
              · replace h := (if_pos b39).symm.trans h
                refine V_sub X [0, 1, 2] (lv' := [(0, .ref (zad y (0, 5, 0))), (1, .ref (zad y (1, s1, 0))), (2, .int x5)]) rfl ?_
                obtain rfl := pr1 h
                exact hk
              · replace h := (if_neg b39).symm.trans h
                refine V_aload_n X 0 dX10_look_202 rfl rfl ?_
                refine V_dup X dX10_look_203 rfl ?_
                refine V_geti X (o := (0, 5, 0)) (ci := 10) (k := 5) (N := 7) (T := TX10) (C := RX10) ⟨by decide, rfl⟩ rfl rfl rfl (by decide) (mBa inB_X10) (mB wl_RX10_39) dX10_look_204 ?_
                refine V_iload_n X 2 dX10_look_207 rfl rfl ?_
                refine V_callSNi X (As := [.int x5]) (M_X11_bit) ⟨va_cnB (host := "SlotCluster") 1 X.2.2.2.2.2.2.1 (gN wc_X11_bit) rfl rfl rfl (X.2.2.2.2.2.2.2.2.1 _ (List.mem_of_getElem? wn_RX10_88)) (X.2.2.2.2.2.2.1 (.initialized RX11) (mB win_RX11)) hd_X11_bit.2 ⟨Nat.le_of_ble_eq_true rfl, Nat.le_of_ble_eq_true rfl⟩, X.2.2.2.2.2.2.1 (.static yX11_bit) (mB wst_X11_bit), trivial⟩ rfl (Nat.le_of_ble_eq_true rfl) dX10_look_208 rfl ?_
                refine V_ior X dX10_look_211 ?_
                refine V_puti X tyX10 .int (o := (0, 5, 0)) (ci := 10) (k := 5) (N := 7) (T := TX10) (C := RX10) ⟨by decide, rfl⟩ rfl rfl rfl (by decide) (mBa inB_X10) tyX10_ok nmX10 (mB wl_RX10_39) rfl rfl rfl rfl dX10_look_212 ?_
                refine zlt_el (P := fun (μ40 : ZMem) => V X μ40 215 [(0, .ref (zad y (0, 5, 0))), (1, .ref (zad y (1, s1, 0))), (2, .int x5), (3, .ref (zad y (3, s1, x5.toNatClampNeg))), (4, .int x25)] []) h (fun μ40 h => ?_)
                refine V_sub X [0, 1, 2] (lv' := [(0, .ref (zad y (0, 5, 0))), (1, .ref (zad y (1, s1, 0))), (2, .int x5)]) rfl ?_
                obtain rfl := pr1 h
                exact hk
        refine lp_ind (P := fun q => V X q.2 123 [(0, .ref (zad y (0, 5, 0))), (1, .ref (zad y (1, s1, 0))), (2, .int x5), (3, .ref (zad y (3, s1, x5.toNatClampNeg))), (4, .int x25), (5, .int q.1)] []) (fun q z h hz => ?_) hl
        obtain ⟨x26, μ27⟩ := q
        replace h := un2_eq h
        show V X μ27 123 [(0, .ref (zad y (0, 5, 0))), (1, .ref (zad y (1, s1, 0))), (2, .int x5), (3, .ref (zad y (3, s1, x5.toNatClampNeg))), (4, .int x25), (5, .int x26)] []
        refine V_iload X 5 dX10_look_123 rfl ?_
        refine V_aload_n X 1 dX10_look_125 rfl rfl ?_
        refine V_geti X (o := (1, s1, 0)) (ci := 7) (k := 4) (N := 11) (T := TX7) (C := RX7) ⟨hs1, rfl⟩ rfl rfl rfl (by decide) (mBa inB_X7) (mB wl_RX10_42) dX10_look_126 ?_
        refine V_icmp_ge X (tgt := 174) dX10_look_129 (by decide) (fun b29 => ?_) (fun b29 => ?_)
        · replace h := (if_pos b29).symm.trans h
          refine V_sub X [0, 1, 2, 3, 4] (lv' := [(0, .ref (zad y (0, 5, 0))), (1, .ref (zad y (1, s1, 0))), (2, .int x5), (3, .ref (zad y (3, s1, x5.toNatClampNeg))), (4, .int x25)]) rfl ?_
          cases h
          obtain rfl := pr1 hz
          exact hk
        · replace h := (if_neg b29).symm.trans h
          refine V_aload_n X 0 dX10_look_132 rfl rfl ?_
          refine V_getr X (o := (0, 5, 0)) (i := (0, 6, 0)) (ci := 10) (k := 0) (N := 7) (T := TX10) (C := RX10) ⟨by decide, rfl⟩ rfl rfl rfl (by decide) (mBa inB_X10) (mB wl_RX10_11) dX10_look_133 ?_
          refine V_iload_n X 2 dX10_look_136 rfl rfl ?_
          refine V_aald X x5.toNatClampNeg rfl (o := (0, 6, 0)) ⟨by decide, rfl⟩ rfl rfl rfl rfl g9 dX10_look_137 ?_
          refine V_iload X 5 dX10_look_138 rfl ?_
          refine V_iload X 4 dX10_look_140 rfl ?_
          refine V_aload_n X 3 dX10_look_142 rfl rfl ?_
          refine V_geti X (o := (3, s1, x5.toNatClampNeg)) (ci := 5) (k := 9) (N := 11) (T := TX5) (C := RX5) ⟨hs1, zin_lt g9⟩ rfl rfl rfl (by decide) (mBa inB_X5) (mB wl_RX10_59) dX10_look_143 ?_
          refine V_iconst X 3 dX10_look_146 (by decide) ?_
          obtain ⟨x31, h1, h⟩ := bd_some h
          have hk : V X μ27 166 [(0, .ref (zad y (0, 5, 0))), (1, .ref (zad y (1, s1, 0))), (2, .int x5), (3, .ref (zad y (3, s1, x5.toNatClampNeg))), (4, .int x25), (5, .int x26)] [.int x31, .int x25, .int x26, .ref (zad y (7, x5.toNatClampNeg, 0))] := by
            clear h1
            refine V_iadd X dX10_look_166 ?_
            obtain ⟨g34, h⟩ := gd_some h
            refine V_iast X x26.toNatClampNeg rfl (o := (7, x5.toNatClampNeg, 0)) (n := 8) ⟨zin_lt g9, rfl⟩ rfl rfl g34 dX10_look_167 ?_
            refine zlt_el (P := fun (μ35 : ZMem) => V X μ35 168 [(0, .ref (zad y (0, 5, 0))), (1, .ref (zad y (1, s1, 0))), (2, .int x5), (3, .ref (zad y (3, s1, x5.toNatClampNeg))), (4, .int x25), (5, .int x26)] []) h (fun μ35 h => ?_)
            refine V_inc X 5 1 [(5, .int (x26 + 1)), (0, .ref (zad y (0, 5, 0))), (1, .ref (zad y (1, s1, 0))), (2, .int x5), (3, .ref (zad y (3, s1, x5.toNatClampNeg))), (4, .int x25)] dX10_look_168 rfl (by decide) (by decide) rfl ?_
            refine V_goto X (tgt := 123) dX10_look_171 (by decide) ?_
            refine V_sub X [1, 2, 3, 4, 5, 0] (lv' := [(0, .ref (zad y (0, 5, 0))), (1, .ref (zad y (1, s1, 0))), (2, .int x5), (3, .ref (zad y (3, s1, x5.toNatClampNeg))), (4, .int x25), (5, .int (x26 + 1))]) rfl ?_
            cases h
            exact hz
          replace h := h1
          clear h1
          refine jk0_el (P := V X μ27 165 [(0, .ref (zad y (0, 5, 0))), (1, .ref (zad y (1, s1, 0))), (2, .int x5), (3, .ref (zad y (3, s1, x5.toNatClampNeg))), (4, .int x25), (5, .int x26)] [.int x25, .int x26, .ref (zad y (7, x5.toNatClampNeg, 0))]) h (fun h => ?_) (fun k32 hk32 h => ?_)
          · refine V_iconst X 0 dX10_look_165 (by decide) ?_
            obtain rfl := so1 h
            exact hk
          · refine V_icmp_ne X (tgt := 165) dX10_look_147 (by decide) (fun b30 => ?_) (fun b30 => ?_)
            · replace h := (if_neg b30).symm.trans h
              exact hk32 h
            · replace h := (if_pos b30).symm.trans h
              refine V_iload X 5 dX10_look_150 rfl ?_
              refine V_iconst X 2 dX10_look_152 (by decide) ?_
              refine V_rem X dX10_look_153 (by decide) ?_
              refine V_iconst X 1 dX10_look_154 (by decide) ?_
              refine V_icmp_ne X (tgt := 165) dX10_look_155 (by decide) (fun b33 => ?_) (fun b33 => ?_)
              · replace h := (if_neg b33).symm.trans h
                exact hk32 h
              · replace h := (if_pos b33).symm.trans h
                refine V_aload_n X 3 dX10_look_158 rfl rfl ?_
                refine V_geti X (o := (3, s1, x5.toNatClampNeg)) (ci := 5) (k := 10) (N := 11) (T := TX5) (C := RX5) ⟨hs1, zin_lt g9⟩ rfl rfl rfl (by decide) (mBa inB_X5) (mB wl_RX10_64) dX10_look_159 ?_
                refine V_goto X (tgt := 166) dX10_look_162 (by decide) ?_
                obtain rfl := so1 h
                exact hk
      replace h := h1
      clear h1
      refine V_icmp_ne X (tgt := 84) dX10_look_76 (by decide) (fun b17 => ?_) (fun b17 => ?_)
      · replace h := (if_neg b17).symm.trans h
        refine V_bipush X 100 dX10_look_84 (by decide) ?_
        refine V_aload_n X 3 dX10_look_86 rfl rfl ?_
        refine V_geti X (o := (3, s1, x5.toNatClampNeg)) (ci := 5) (k := 8) (N := 11) (T := TX5) (C := RX5) ⟨hs1, zin_lt g9⟩ rfl rfl rfl (by decide) (mBa inB_X5) (mB wl_RX10_67) dX10_look_87 ?_
        refine V_aload_n X 1 dX10_look_90 rfl rfl ?_
        refine V_getl X hs1 (mBa inB_X7) (mB wl_RX10_49) dX10_look_91 (fun hn20 => ?_)
        refine V_aload_n X 1 dX10_look_94 rfl rfl ?_
        refine V_iload_n X 2 dX10_look_95 rfl rfl ?_
        refine V_sipush X 1011 dX10_look_96 (by decide) ?_
        obtain ⟨x22, μ23, c21, h⟩ := bd2_some h
        refine V_callVi X (As := [.ref (zad y (1, s1, 0)), .int x5, .int 1011]) (M_X3_sum hn20 hs1 c21) (cwV 3 X.2.2.2.2.2.2.1 (gV wm_RX10_53 wi_X3_sum wse_X3_sum win_RX3 wc_X3_sum) rfl rfl rfl hd_X3_sum ⟨Nat.le_of_ble_eq_true rfl, Nat.le_of_ble_eq_true rfl⟩) (b := (5, (μ16 (1, s1, 0) 10).toNatClampNeg, 0)) ⟨hn20, rfl⟩ rfl rfl rfl rfl (Nat.le_of_ble_eq_true rfl) dX10_look_99 rfl ?_
        refine V_iadd X dX10_look_102 ?_
        refine V_zmin X (ix := 70) (mB wm_RX10_70) (mB wst_Math_min) (mB win_Math) (mB wc_Math_min) (Nat.le_of_ble_eq_true rfl) (Nat.le_of_ble_eq_true rfl) dX10_look_103 ?_
        obtain ⟨rfl, rfl⟩ := so2 h
        exact hk
      · replace h := (if_pos b17).symm.trans h
        refine V_bipush X 100 dX10_look_79 (by decide) ?_
        refine V_goto X (tgt := 106) dX10_look_81 (by decide) ?_
        obtain ⟨rfl, rfl⟩ := so2 h
        exact hk
    replace h := h1
    clear h1
    refine V_icmp_ne X (tgt := 63) dX10_look_53 (by decide) (fun b14 => ?_) (fun b14 => ?_)
    · replace h := (if_neg b14).symm.trans h
      refine V_iconst X 0 dX10_look_63 (by decide) ?_
      refine V_sub X [1, 2, 3, 0] (lv' := [(0, .ref (zad y (0, 5, 0))), (1, .ref (zad y (1, s1, 0))), (2, .int x5), (3, .ref (zad y (3, s1, x5.toNatClampNeg)))]) rfl ?_
      obtain rfl := pr1 h
      exact hk
    · replace h := (if_pos b14).symm.trans h
      refine V_aload_n X 0 dX10_look_56 rfl rfl ?_
      refine V_geti X (o := (3, s1, x5.toNatClampNeg)) (ci := 5) (k := 10) (N := 11) (T := TX5) (C := RX5) ⟨hs1, zin_lt g9⟩ rfl rfl rfl (by decide) (mBa inB_X5) (mB wl_RX10_64) dX10_look_57 ?_
      refine V_goto X (tgt := 64) dX10_look_60 (by decide) ?_
      refine V_sub X [1, 2, 3, 0] (lv' := [(0, .ref (zad y (0, 5, 0))), (1, .ref (zad y (1, s1, 0))), (2, .int x5), (3, .ref (zad y (3, s1, x5.toNatClampNeg)))]) rfl ?_
      obtain rfl := pr1 h
      exact hk

def f_X9_sendersOf (s1 : Nat) (a2 : Int32) (a3 : Int32) (μ : ZMem) : Option (Int32 × ZMem) := bd2 (lp (σ := Int32 × Int32 × ZMem) (fun q => un3 q (fun (x1 : Int32) (x2 : Int32) (μ3 : ZMem) => if (μ3 (1, s1, 0) 4) ≤ x2 then some (.inr (x1, μ3)) else bd (f_X11_isIn a2 x2) (fun (x8 : Int32) => bd2 (α := Int32) (β := ZMem) (if x8 = 0 then some (x1, μ3) else bd2 (α := Int32) (β := ZMem) (if a3 = 0 then gd (zin x2 8) (if (μ3 (0, 9, 0) x2.toNatClampNeg) < 100 then some (0, μ3) else some (1, μ3)) else bd2 (f_X7_draw s1 μ3) (fun (x18 : Int32) (μ19 : ZMem) => gd (zin x2 8) (if (μ19 (0, 9, 0) x2.toNatClampNeg) ≤ (zrem x18 100) then some (0, μ19) else some (1, μ19)))) (fun (x13 : Int32) (μ14 : ZMem) => if x13 = 0 then bd (f_X11_isIn (μ14 (0, 5, 0) 5) x2) (fun (x24 : Int32) => if x24 = 0 then some (x1, μ14) else zlt (x1 ||| (f_X11_bit x2)) (fun (x26 : Int32) => some (x26, μ14))) else some (x1, μ14))) (fun (x10 : Int32) (μ11 : ZMem) => some (.inl (x10, (x2 + 1), μ11)))))) FU (0, 0, μ)) (fun (x4 : Int32) (μ5 : ZMem) => some (x4, μ5))
set_option maxRecDepth 100000 in
set_option maxHeartbeats 4000000 in
theorem M_X9_sendersOf {l : Launch} {D : va_G} {y : ZLay} {s1 : Nat} {a2 : Int32} {a3 : Int32} (hs1 : s1 < 15) {μ : ZMem} {r : Int32} {μ0 : ZMem} (h : f_X9_sendersOf s1 a2 a3 μ = some (r, μ0)) : MI l yX9_sendersOf wb_X9_sendersOf rm_X9_sendersOf D y [.ref (zad y (0, 4, 0)), .ref (zad y (1, s1, 0)), .int a2, .int a3] μ r μ0 := by
  unfold f_X9_sendersOf at h
  refine MI_of RX9 [(0, .ref (zad y (0, 4, 0))), (1, .ref (zad y (1, s1, 0))), (2, .int a2), (3, .int a3)] (by decide) rfl rfl (Nat.le_of_ble_eq_true rfl) rfl ?_
  intro p e s m args below meth c A X
  refine V_iconst X 0 dX9_sendersOf_0 (by decide) ?_
  refine V_istore X [(4, .int 0), (0, .ref (zad y (0, 4, 0))), (1, .ref (zad y (1, s1, 0))), (2, .int a2), (3, .int a3)] dX9_sendersOf_1 (by decide) rfl ?_
  refine V_iconst X 0 dX9_sendersOf_3 (by decide) ?_
  refine V_istore X [(5, .int 0), (4, .int 0), (0, .ref (zad y (0, 4, 0))), (1, .ref (zad y (1, s1, 0))), (2, .int a2), (3, .int a3)] dX9_sendersOf_4 (by decide) rfl ?_
  refine V_sub X [2, 3, 4, 5, 1, 0] (lv' := [(0, .ref (zad y (0, 4, 0))), (1, .ref (zad y (1, s1, 0))), (2, .int a2), (3, .int a3), (4, .int 0), (5, .int 0)]) rfl ?_
  obtain ⟨x4, μ5, hl, h⟩ := bd2_some h
  have hk : V X μ5 114 [(4, .int x4)] [] := by
    clear hl
    refine V_iload X 0 dX9_sendersOf_114 rfl ?_
    exact V_iretW X h dX9_sendersOf_116
  refine lp_ind (P := fun q => V X q.2.2 6 [(0, .ref (zad y (0, 4, 0))), (1, .ref (zad y (1, s1, 0))), (2, .int a2), (3, .int a3), (4, .int q.1), (5, .int q.2.1)] []) (fun q z h hz => ?_) hl
  obtain ⟨x1, x2, μ3⟩ := q
  replace h := un3_eq h
  show V X μ3 6 [(0, .ref (zad y (0, 4, 0))), (1, .ref (zad y (1, s1, 0))), (2, .int a2), (3, .int a3), (4, .int x1), (5, .int x2)] []
  refine V_iload X 5 dX9_sendersOf_6 rfl ?_
  refine V_aload_n X 1 dX9_sendersOf_8 rfl rfl ?_
  refine V_geti X (o := (1, s1, 0)) (ci := 7) (k := 4) (N := 11) (T := TX7) (C := RX7) ⟨hs1, rfl⟩ rfl rfl rfl (by decide) (mBa inB_X7) (mB wl_RX9_75) dX9_sendersOf_9 ?_
  refine V_icmp_ge X (tgt := 114) dX9_sendersOf_12 (by decide) (fun b6 => ?_) (fun b6 => ?_)
  · replace h := (if_pos b6).symm.trans h
    refine V_sub X [4] (lv' := [(4, .int x1)]) rfl ?_
    cases h
    obtain ⟨rfl, rfl⟩ := pr2 hz
    exact hk
  · replace h := (if_neg b6).symm.trans h
    refine V_iload_n X 2 dX9_sendersOf_15 rfl rfl ?_
    refine V_iload X 5 dX9_sendersOf_16 rfl ?_
    obtain ⟨x8, c7, h⟩ := bd_some h
    refine V_callSNi X (As := [.int a2, .int x2]) (M_X11_isIn c7) ⟨va_cnB (host := "SlotCluster") 2 X.2.2.2.2.2.2.1 (gN wc_X11_isIn) rfl rfl rfl (X.2.2.2.2.2.2.2.2.1 _ (List.mem_of_getElem? wn_RX9_78)) (X.2.2.2.2.2.2.1 (.initialized RX11) (mB win_RX11)) hd_X11_isIn.2 ⟨Nat.le_of_ble_eq_true rfl, Nat.le_of_ble_eq_true rfl⟩, X.2.2.2.2.2.2.1 (.static yX11_isIn) (mB wst_X11_isIn), trivial⟩ rfl (Nat.le_of_ble_eq_true rfl) dX9_sendersOf_18 rfl ?_
    obtain ⟨x10, μ11, h1, h⟩ := bd2_some h
    have hk : V X μ11 108 [(0, .ref (zad y (0, 4, 0))), (1, .ref (zad y (1, s1, 0))), (2, .int a2), (3, .int a3), (4, .int x10), (5, .int x2)] [] := by
      clear h1
      refine V_inc X 5 1 [(5, .int (x2 + 1)), (0, .ref (zad y (0, 4, 0))), (1, .ref (zad y (1, s1, 0))), (2, .int a2), (3, .int a3), (4, .int x10)] dX9_sendersOf_108 rfl (by decide) (by decide) rfl ?_
      refine V_goto X (tgt := 6) dX9_sendersOf_111 (by decide) ?_
      refine V_sub X [1, 2, 3, 4, 5, 0] (lv' := [(0, .ref (zad y (0, 4, 0))), (1, .ref (zad y (1, s1, 0))), (2, .int a2), (3, .int a3), (4, .int x10), (5, .int (x2 + 1))]) rfl ?_
      cases h
      exact hz
    replace h := h1
    clear h1
    refine V_if_eq X (tgt := 108) dX9_sendersOf_21 (by decide) (fun b9 => ?_) (fun b9 => ?_)
    · replace h := (if_pos b9).symm.trans h
      obtain ⟨rfl, rfl⟩ := so2 h
      exact hk
    · replace h := (if_neg b9).symm.trans h
      refine V_iload_n X 3 dX9_sendersOf_24 rfl rfl ?_
      obtain ⟨x13, μ14, h1, h⟩ := bd2_some h
      have hk : V X μ14 76 [(0, .ref (zad y (0, 4, 0))), (1, .ref (zad y (1, s1, 0))), (2, .int a2), (3, .int a3), (4, .int x1), (5, .int x2)] [.int x13] := by
        clear h1
        refine V_istore X [(6, .int x13), (0, .ref (zad y (0, 4, 0))), (1, .ref (zad y (1, s1, 0))), (2, .int a2), (3, .int a3), (4, .int x1), (5, .int x2)] dX9_sendersOf_76 (by decide) rfl ?_
        refine V_iload X 0 dX9_sendersOf_78 rfl ?_
        refine V_if_ne X (tgt := 108) dX9_sendersOf_80 (by decide) (fun b22 => ?_) (fun b22 => ?_)
        · replace h := (if_neg b22).symm.trans h
          refine V_sub X [1, 2, 3, 4, 5, 6] (lv' := [(0, .ref (zad y (0, 4, 0))), (1, .ref (zad y (1, s1, 0))), (2, .int a2), (3, .int a3), (4, .int x1), (5, .int x2)]) rfl ?_
          obtain ⟨rfl, rfl⟩ := so2 h
          exact hk
        · replace h := (if_pos b22).symm.trans h
          refine V_aload_n X 1 dX9_sendersOf_83 rfl rfl ?_
          refine V_getr X (o := (0, 4, 0)) (i := (0, 5, 0)) (ci := 9) (k := 0) (N := 2) (T := TX9) (C := RX9) ⟨by decide, rfl⟩ rfl rfl rfl (by decide) (mBa inB_X9) (mB wl_RX9_12) dX9_sendersOf_84 ?_
          refine V_geti X (o := (0, 5, 0)) (ci := 10) (k := 5) (N := 7) (T := TX10) (C := RX10) ⟨by decide, rfl⟩ rfl rfl rfl (by decide) (mBa inB_X10) (mB wl_RX9_89) dX9_sendersOf_87 ?_
          refine V_iload X 6 dX9_sendersOf_90 rfl ?_
          obtain ⟨x24, c23, h⟩ := bd_some h
          refine V_callSNi X (As := [.int (μ14 (0, 5, 0) 5), .int x2]) (M_X11_isIn c23) ⟨va_cnB (host := "SlotCluster") 2 X.2.2.2.2.2.2.1 (gN wc_X11_isIn) rfl rfl rfl (X.2.2.2.2.2.2.2.2.1 _ (List.mem_of_getElem? wn_RX9_78)) (X.2.2.2.2.2.2.1 (.initialized RX11) (mB win_RX11)) hd_X11_isIn.2 ⟨Nat.le_of_ble_eq_true rfl, Nat.le_of_ble_eq_true rfl⟩, X.2.2.2.2.2.2.1 (.static yX11_isIn) (mB wst_X11_isIn), trivial⟩ rfl (Nat.le_of_ble_eq_true rfl) dX9_sendersOf_92 rfl ?_
          refine V_if_eq X (tgt := 108) dX9_sendersOf_95 (by decide) (fun b25 => ?_) (fun b25 => ?_)
          · replace h := (if_pos b25).symm.trans h
            refine V_sub X [1, 2, 3, 4, 5, 6] (lv' := [(0, .ref (zad y (0, 4, 0))), (1, .ref (zad y (1, s1, 0))), (2, .int a2), (3, .int a3), (4, .int x1), (5, .int x2)]) rfl ?_
            obtain ⟨rfl, rfl⟩ := so2 h
            exact hk
          · replace h := (if_neg b25).symm.trans h
            refine V_iload X 5 dX9_sendersOf_98 rfl ?_
            refine V_iload X 6 dX9_sendersOf_100 rfl ?_
            refine V_callSNi X (As := [.int x2]) (M_X11_bit) ⟨va_cnB (host := "SlotCluster") 1 X.2.2.2.2.2.2.1 (gN wc_X11_bit) rfl rfl rfl (X.2.2.2.2.2.2.2.2.1 _ (List.mem_of_getElem? wn_RX9_92)) (X.2.2.2.2.2.2.1 (.initialized RX11) (mB win_RX11)) hd_X11_bit.2 ⟨Nat.le_of_ble_eq_true rfl, Nat.le_of_ble_eq_true rfl⟩, X.2.2.2.2.2.2.1 (.static yX11_bit) (mB wst_X11_bit), trivial⟩ rfl (Nat.le_of_ble_eq_true rfl) dX9_sendersOf_102 rfl ?_
            refine V_ior X dX9_sendersOf_105 ?_
            refine V_istore X [(4, .int (x1 ||| (f_X11_bit x2))), (6, .int x13), (0, .ref (zad y (0, 4, 0))), (1, .ref (zad y (1, s1, 0))), (2, .int a2), (3, .int a3), (5, .int x2)] dX9_sendersOf_106 (by decide) rfl ?_
            refine zlt_el (P := fun (x26 : Int32) => V X μ14 108 [(4, .int x26), (6, .int x13), (0, .ref (zad y (0, 4, 0))), (1, .ref (zad y (1, s1, 0))), (2, .int a2), (3, .int a3), (5, .int x2)] []) h (fun x26 h => ?_)
            refine V_sub X [2, 3, 4, 5, 0, 6] (lv' := [(0, .ref (zad y (0, 4, 0))), (1, .ref (zad y (1, s1, 0))), (2, .int a2), (3, .int a3), (4, .int x26), (5, .int x2)]) rfl ?_
            obtain ⟨rfl, rfl⟩ := so2 h
            exact hk
      replace h := h1
      clear h1
      refine V_if_eq X (tgt := 56) dX9_sendersOf_25 (by decide) (fun b12 => ?_) (fun b12 => ?_)
      · replace h := (if_pos b12).symm.trans h
        refine V_aload_n X 0 dX9_sendersOf_56 rfl rfl ?_
        refine V_getr X (o := (0, 4, 0)) (i := (0, 5, 0)) (ci := 9) (k := 0) (N := 2) (T := TX9) (C := RX9) ⟨by decide, rfl⟩ rfl rfl rfl (by decide) (mBa inB_X9) (mB wl_RX9_12) dX9_sendersOf_57 ?_
        refine V_getr X (o := (0, 5, 0)) (i := (0, 9, 0)) (ci := 10) (k := 3) (N := 7) (T := TX10) (C := RX10) ⟨by decide, rfl⟩ rfl rfl rfl (by decide) (mBa inB_X10) (mB wl_RX9_86) dX9_sendersOf_60 ?_
        refine V_iload X 5 dX9_sendersOf_63 rfl ?_
        obtain ⟨g15, h⟩ := gd_some h
        refine V_iald X x2.toNatClampNeg rfl (o := (0, 9, 0)) (n := 8) ⟨by decide, rfl⟩ rfl rfl g15 dX9_sendersOf_65 ?_
        refine V_bipush X 100 dX9_sendersOf_66 (by decide) ?_
        refine V_icmp_lt X (tgt := 75) dX9_sendersOf_68 (by decide) (fun b16 => ?_) (fun b16 => ?_)
        · replace h := (if_pos b16).symm.trans h
          refine V_iconst X 0 dX9_sendersOf_75 (by decide) ?_
          obtain ⟨rfl, rfl⟩ := so2 h
          exact hk
        · replace h := (if_neg b16).symm.trans h
          refine V_iconst X 1 dX9_sendersOf_71 (by decide) ?_
          refine V_goto X (tgt := 76) dX9_sendersOf_72 (by decide) ?_
          obtain ⟨rfl, rfl⟩ := so2 h
          exact hk
      · replace h := (if_neg b12).symm.trans h
        refine V_aload_n X 1 dX9_sendersOf_28 rfl rfl ?_
        obtain ⟨x18, μ19, c17, h⟩ := bd2_some h
        refine V_callVi X (As := []) (M_X7_draw hs1 c17) (cwV 0 X.2.2.2.2.2.2.1 (gV wm_RX9_82 wi_X7_draw wse_X7_draw win_RX7 wc_X7_draw) rfl rfl rfl hd_X7_draw ⟨Nat.le_of_ble_eq_true rfl, Nat.le_of_ble_eq_true rfl⟩) (b := (1, s1, 0)) ⟨hs1, rfl⟩ rfl rfl rfl rfl (Nat.le_of_ble_eq_true rfl) dX9_sendersOf_29 rfl ?_
        refine V_bipush X 100 dX9_sendersOf_32 (by decide) ?_
        refine V_rem X dX9_sendersOf_34 (by decide) ?_
        refine V_aload_n X 0 dX9_sendersOf_35 rfl rfl ?_
        refine V_getr X (o := (0, 4, 0)) (i := (0, 5, 0)) (ci := 9) (k := 0) (N := 2) (T := TX9) (C := RX9) ⟨by decide, rfl⟩ rfl rfl rfl (by decide) (mBa inB_X9) (mB wl_RX9_12) dX9_sendersOf_36 ?_
        refine V_getr X (o := (0, 5, 0)) (i := (0, 9, 0)) (ci := 10) (k := 3) (N := 7) (T := TX10) (C := RX10) ⟨by decide, rfl⟩ rfl rfl rfl (by decide) (mBa inB_X10) (mB wl_RX9_86) dX9_sendersOf_39 ?_
        refine V_iload X 5 dX9_sendersOf_42 rfl ?_
        obtain ⟨g20, h⟩ := gd_some h
        refine V_iald X x2.toNatClampNeg rfl (o := (0, 9, 0)) (n := 8) ⟨by decide, rfl⟩ rfl rfl g20 dX9_sendersOf_44 ?_
        refine V_icmp_ge X (tgt := 52) dX9_sendersOf_45 (by decide) (fun b21 => ?_) (fun b21 => ?_)
        · replace h := (if_pos b21).symm.trans h
          refine V_iconst X 0 dX9_sendersOf_52 (by decide) ?_
          refine V_goto X (tgt := 76) dX9_sendersOf_53 (by decide) ?_
          obtain ⟨rfl, rfl⟩ := so2 h
          exact hk
        · replace h := (if_neg b21).symm.trans h
          refine V_iconst X 1 dX9_sendersOf_48 (by decide) ?_
          refine V_goto X (tgt := 76) dX9_sendersOf_49 (by decide) ?_
          obtain ⟨rfl, rfl⟩ := so2 h
          exact hk

def f_X9_callOrWait (y : ZLay) (s0 : Nat) (μ : ZMem) : Option (ZMem) := bd2 (lp (σ := Int32 × Int32 × ZMem) (fun q => un3 q (fun (x1 : Int32) (x2 : Int32) (μ3 : ZMem) => if (μ3 (1, s0, 0) 4) ≤ x2 then some (.inr (x1, μ3)) else gd (zin x2 8) (zl2 (α := Int32) (β := ZMem) (if (μ3 (3, s0, x2.toNatClampNeg) 3) = 1 then zlt (mset μ3 (3, s0, x2.toNatClampNeg) 4 (zmax 0 ((μ3 (3, s0, x2.toNatClampNeg) 4) - 1))) (fun (μ11 : ZMem) => zlt (α := Int32) (if (μ11 (3, s0, x2.toNatClampNeg) 4) = 0 then (f_X11_bit x2) else 0) (fun (x13 : Int32) => zlt (x1 ||| x13) (fun (x14 : Int32) => (x14, μ11)))) else (x1, μ3)) (fun (x9 : Int32) (μ10 : ZMem) => some (.inl (x9, (x2 + 1), μ10)))))) FU (0, 0, μ)) (fun (x4 : Int32) (μ5 : ZMem) => zlt (α := Int32) (if (f_J6_bitCount_0f7a4 x4) ≤ 1 then 0 else 1) (fun (x16 : Int32) => bd (lp (σ := Int32 × ZMem) (fun q => un2 q (fun (x17 : Int32) (μ18 : ZMem) => if (μ18 (1, s0, 0) 4) ≤ x17 then some (.inr μ18) else gd (zin x17 8) (bd (f_X11_isIn x4 x17) (fun (x23 : Int32) => bd (α := ZMem) (jk (bd (f_X11_isIn x4 x17) (fun (x36 : Int32) => if x36 = 0 then some μ18 else zlt (mset μ18 (3, s0, x17.toNatClampNeg) 3 2) (fun (μ38 : ZMem) => zlt (mset μ38 (3, s0, x17.toNatClampNeg) 5 (f_X11_bit x17)) (fun (μ39 : ZMem) => zlt (mset μ39 (3, s0, x17.toNatClampNeg) 2 0) (fun (μ40 : ZMem) => bd (f_X7_note s0 x17 0 0 μ40) (fun (μ42 : ZMem) => some μ42)))))) (fun k26 => if x23 = 0 then k26 else if x16 = 0 then k26 else bd2 (f_X3_sum y ((μ18 (1, s0, 0) 10).toNatClampNeg) s0 x17 1012 μ18) (fun (x30 : Int32) (μ31 : ZMem) => zlt (mset μ31 (3, s0, x17.toNatClampNeg) 4 (zmin 99 ((3 + x17) + x30))) (fun (μ32 : ZMem) => bd (f_X7_note s0 x17 1 (μ32 (3, s0, x17.toNatClampNeg) 4) μ32) (fun (μ34 : ZMem) => some μ34))))) (fun (μ25 : ZMem) => some (.inl ((x17 + 1), μ25))))))) FU (0, μ5)) (fun (μ19 : ZMem) => some μ19)))
set_option maxRecDepth 100000 in
set_option maxHeartbeats 4000000 in
theorem M_X9_callOrWait {l : Launch} {D : va_G} {y : ZLay} {s0 : Nat} (hs0 : s0 < 15) {μ : ZMem} {μ0 : ZMem} (h : f_X9_callOrWait y s0 μ = some μ0) : MV l yX9_callOrWait wb_X9_callOrWait rm_X9_callOrWait D y [.ref (zad y (1, s0, 0))] μ μ0 := by
  unfold f_X9_callOrWait at h
  refine MV_of RX9 [(0, .ref (zad y (1, s0, 0)))] (by decide) rfl rfl (Nat.le_of_ble_eq_true rfl) rfl ?_
  intro p e s m args below meth c A X
  refine V_iconst X 0 dX9_callOrWait_0 (by decide) ?_
  refine V_istore_n X [(1, .int 0), (0, .ref (zad y (1, s0, 0)))] dX9_callOrWait_1 rfl (by decide) rfl ?_
  refine V_iconst X 0 dX9_callOrWait_2 (by decide) ?_
  refine V_istore_n X [(2, .int 0), (1, .int 0), (0, .ref (zad y (1, s0, 0)))] dX9_callOrWait_3 rfl (by decide) rfl ?_
  refine V_sub X [2, 1, 0] (lv' := [(0, .ref (zad y (1, s0, 0))), (1, .int 0), (2, .int 0)]) rfl ?_
  obtain ⟨x4, μ5, hl, h⟩ := bd2_some h
  have hk : V X μ5 65 [(0, .ref (zad y (1, s0, 0))), (1, .int x4)] [] := by
    clear hl
    refine V_iload_n X 1 dX9_callOrWait_65 rfl rfl ?_
    refine V_callSi X (As := [.int x4]) (M_J6_bitCount_0f7a4) (va_cwS 1 X.2.2.2.2.2.2.1 (gS wm_RX9_69 wst_J6_bitCount_0f7a4 win_RJ6 wc_J6_bitCount_0f7a4) rfl rfl rfl hd_J6_bitCount_0f7a4.2 ⟨Nat.le_of_ble_eq_true rfl, Nat.le_of_ble_eq_true rfl⟩) rfl (Nat.le_of_ble_eq_true rfl) dX9_callOrWait_66 rfl ?_
    refine V_iconst X 1 dX9_callOrWait_69 (by decide) ?_
    obtain ⟨x16, h1, h⟩ := zl1_some h
    have hk : V X μ5 78 [(0, .ref (zad y (1, s0, 0))), (1, .int x4)] [.int x16] := by
      clear h1
      refine V_istore_n X [(2, .int x16), (0, .ref (zad y (1, s0, 0))), (1, .int x4)] dX9_callOrWait_78 rfl (by decide) rfl ?_
      refine V_iconst X 0 dX9_callOrWait_79 (by decide) ?_
      refine V_istore_n X [(3, .int 0), (2, .int x16), (0, .ref (zad y (1, s0, 0))), (1, .int x4)] dX9_callOrWait_80 rfl (by decide) rfl ?_
      refine V_sub X [2, 3, 1, 0] (lv' := [(0, .ref (zad y (1, s0, 0))), (1, .int x4), (2, .int x16), (3, .int 0)]) rfl ?_
      obtain ⟨μ19, hl, h⟩ := bd_some h
      have hk : V X μ19 191 [] [] := by
        clear hl
        exact V_vretW X h dX9_callOrWait_191
      refine lp_ind (P := fun q => V X q.2 81 [(0, .ref (zad y (1, s0, 0))), (1, .int x4), (2, .int x16), (3, .int q.1)] []) (fun q z h hz => ?_) hl
      obtain ⟨x17, μ18⟩ := q
      replace h := un2_eq h
      show V X μ18 81 [(0, .ref (zad y (1, s0, 0))), (1, .int x4), (2, .int x16), (3, .int x17)] []
      refine V_iload_n X 3 dX9_callOrWait_81 rfl rfl ?_
      refine V_aload_n X 0 dX9_callOrWait_82 rfl rfl ?_
      refine V_geti X (o := (1, s0, 0)) (ci := 7) (k := 4) (N := 11) (T := TX7) (C := RX7) ⟨hs0, rfl⟩ rfl rfl rfl (by decide) (mBa inB_X7) (mB wl_RX9_75) dX9_callOrWait_83 ?_
      refine V_icmp_ge X (tgt := 191) dX9_callOrWait_86 (by decide) (fun b20 => ?_) (fun b20 => ?_)
      · replace h := (if_pos b20).symm.trans h
        refine V_sub X [] (lv' := []) rfl ?_
        cases h
        obtain rfl := pr1 hz
        exact hk
      · replace h := (if_neg b20).symm.trans h
        refine V_aload_n X 0 dX9_callOrWait_89 rfl rfl ?_
        refine V_getr X (o := (1, s0, 0)) (i := (2, s0, 0)) (ci := 7) (k := 0) (N := 11) (T := TX7) (C := RX7) ⟨hs0, rfl⟩ rfl rfl rfl (by decide) (mBa inB_X7) (mB wl_RX9_95) dX9_callOrWait_90 ?_
        refine V_iload_n X 3 dX9_callOrWait_93 rfl rfl ?_
        obtain ⟨g21, h⟩ := gd_some h
        refine V_aald X x17.toNatClampNeg rfl (o := (2, s0, 0)) ⟨hs0, rfl⟩ rfl rfl rfl rfl g21 dX9_callOrWait_94 ?_
        refine V_astore X [(4, .ref (zad y (3, s0, x17.toNatClampNeg))), (0, .ref (zad y (1, s0, 0))), (1, .int x4), (2, .int x16), (3, .int x17)] dX9_callOrWait_95 (by decide) rfl ?_
        refine V_iload_n X 2 dX9_callOrWait_97 rfl rfl ?_
        refine V_iload_n X 4 dX9_callOrWait_98 rfl rfl ?_
        obtain ⟨x23, c22, h⟩ := bd_some h
        refine V_callSNi X (As := [.int x4, .int x17]) (M_X11_isIn c22) ⟨va_cnB (host := "SlotCluster") 2 X.2.2.2.2.2.2.1 (gN wc_X11_isIn) rfl rfl rfl (X.2.2.2.2.2.2.2.2.1 _ (List.mem_of_getElem? wn_RX9_78)) (X.2.2.2.2.2.2.1 (.initialized RX11) (mB win_RX11)) hd_X11_isIn.2 ⟨Nat.le_of_ble_eq_true rfl, Nat.le_of_ble_eq_true rfl⟩, X.2.2.2.2.2.2.1 (.static yX11_isIn) (mB wst_X11_isIn), trivial⟩ rfl (Nat.le_of_ble_eq_true rfl) dX9_callOrWait_99 rfl ?_
        obtain ⟨μ25, h1, h⟩ := bd_some h
        have hk : V X μ25 185 [(0, .ref (zad y (1, s0, 0))), (1, .int x4), (2, .int x16), (3, .int x17)] [] := by
          clear h1
          refine V_inc X 3 1 [(3, .int (x17 + 1)), (0, .ref (zad y (1, s0, 0))), (1, .int x4), (2, .int x16)] dX9_callOrWait_185 rfl (by decide) (by decide) rfl ?_
          refine V_goto X (tgt := 81) dX9_callOrWait_188 (by decide) ?_
          refine V_sub X [1, 2, 3, 0] (lv' := [(0, .ref (zad y (1, s0, 0))), (1, .int x4), (2, .int x16), (3, .int (x17 + 1))]) rfl ?_
          cases h
          exact hz
        replace h := h1
        clear h1
        refine jk0_el (P := V X μ18 149 [(0, .ref (zad y (1, s0, 0))), (1, .int x4), (2, .int x16), (3, .int x17), (4, .ref (zad y (3, s0, x17.toNatClampNeg)))] []) h (fun h => ?_) (fun k26 hk26 h => ?_)
        · refine V_iload_n X 1 dX9_callOrWait_149 rfl rfl ?_
          refine V_iload_n X 3 dX9_callOrWait_150 rfl rfl ?_
          obtain ⟨x36, c35, h⟩ := bd_some h
          refine V_callSNi X (As := [.int x4, .int x17]) (M_X11_isIn c35) ⟨va_cnB (host := "SlotCluster") 2 X.2.2.2.2.2.2.1 (gN wc_X11_isIn) rfl rfl rfl (X.2.2.2.2.2.2.2.2.1 _ (List.mem_of_getElem? wn_RX9_78)) (X.2.2.2.2.2.2.1 (.initialized RX11) (mB win_RX11)) hd_X11_isIn.2 ⟨Nat.le_of_ble_eq_true rfl, Nat.le_of_ble_eq_true rfl⟩, X.2.2.2.2.2.2.1 (.static yX11_isIn) (mB wst_X11_isIn), trivial⟩ rfl (Nat.le_of_ble_eq_true rfl) dX9_callOrWait_151 rfl ?_
          refine V_if_eq X (tgt := 185) dX9_callOrWait_154 (by decide) (fun b37 => ?_) (fun b37 => ?_)
          · replace h := (if_pos b37).symm.trans h
            refine V_sub X [0, 1, 2, 3] (lv' := [(0, .ref (zad y (1, s0, 0))), (1, .int x4), (2, .int x16), (3, .int x17)]) rfl ?_
            obtain rfl := so1 h
            exact hk
          · replace h := (if_neg b37).symm.trans h
            refine V_aload X 4 dX9_callOrWait_157 rfl ?_
            refine V_iconst X 2 dX9_callOrWait_159 (by decide) ?_
            refine V_puti X tyX5 .int (o := (3, s0, x17.toNatClampNeg)) (ci := 5) (k := 3) (N := 11) (T := TX5) (C := RX5) ⟨hs0, zin_lt g21⟩ rfl rfl rfl (by decide) (mBa inB_X5) tyX5_ok nmX5 (mB wl_RX9_99) rfl rfl rfl rfl dX9_callOrWait_160 ?_
            refine zlt_el (P := fun (μ38 : ZMem) => V X μ38 163 [(0, .ref (zad y (1, s0, 0))), (1, .int x4), (2, .int x16), (3, .int x17), (4, .ref (zad y (3, s0, x17.toNatClampNeg)))] []) h (fun μ38 h => ?_)
            refine V_aload X 4 dX9_callOrWait_163 rfl ?_
            refine V_iload_n X 3 dX9_callOrWait_165 rfl rfl ?_
            refine V_callSNi X (As := [.int x17]) (M_X11_bit) ⟨va_cnB (host := "SlotCluster") 1 X.2.2.2.2.2.2.1 (gN wc_X11_bit) rfl rfl rfl (X.2.2.2.2.2.2.2.2.1 _ (List.mem_of_getElem? wn_RX9_92)) (X.2.2.2.2.2.2.1 (.initialized RX11) (mB win_RX11)) hd_X11_bit.2 ⟨Nat.le_of_ble_eq_true rfl, Nat.le_of_ble_eq_true rfl⟩, X.2.2.2.2.2.2.1 (.static yX11_bit) (mB wst_X11_bit), trivial⟩ rfl (Nat.le_of_ble_eq_true rfl) dX9_callOrWait_166 rfl ?_
            refine V_puti X tyX5 .int (o := (3, s0, x17.toNatClampNeg)) (ci := 5) (k := 5) (N := 11) (T := TX5) (C := RX5) ⟨hs0, zin_lt g21⟩ rfl rfl rfl (by decide) (mBa inB_X5) tyX5_ok nmX5 (mB wl_RX9_124) rfl rfl rfl rfl dX9_callOrWait_169 ?_
            refine zlt_el (P := fun (μ39 : ZMem) => V X μ39 172 [(0, .ref (zad y (1, s0, 0))), (1, .int x4), (2, .int x16), (3, .int x17), (4, .ref (zad y (3, s0, x17.toNatClampNeg)))] []) h (fun μ39 h => ?_)
            refine V_aload X 4 dX9_callOrWait_172 rfl ?_
            refine V_iconst X 0 dX9_callOrWait_174 (by decide) ?_
            refine V_puti X tyX5 .int (o := (3, s0, x17.toNatClampNeg)) (ci := 5) (k := 2) (N := 11) (T := TX5) (C := RX5) ⟨hs0, zin_lt g21⟩ rfl rfl rfl (by decide) (mBa inB_X5) tyX5_ok nmX5 (mB wl_RX9_127) rfl rfl rfl rfl dX9_callOrWait_175 ?_
            refine zlt_el (P := fun (μ40 : ZMem) => V X μ40 178 [(0, .ref (zad y (1, s0, 0))), (1, .int x4), (2, .int x16), (3, .int x17), (4, .ref (zad y (3, s0, x17.toNatClampNeg)))] []) h (fun μ40 h => ?_)
            refine V_aload_n X 0 dX9_callOrWait_178 rfl rfl ?_
            refine V_iload_n X 3 dX9_callOrWait_179 rfl rfl ?_
            refine V_iconst X 0 dX9_callOrWait_180 (by decide) ?_
            refine V_iconst X 0 dX9_callOrWait_181 (by decide) ?_
            obtain ⟨μ42, c41, h⟩ := bd_some h
            refine V_callVv X (As := [.int x17, .int 0, .int 0]) (M_X7_note hs0 c41) (cwV 3 X.2.2.2.2.2.2.1 (gV wm_RX9_120 wi_X7_note wse_X7_note win_RX7 wc_X7_note) rfl rfl rfl hd_X7_note ⟨Nat.le_of_ble_eq_true rfl, Nat.le_of_ble_eq_true rfl⟩) (b := (1, s0, 0)) ⟨hs0, rfl⟩ rfl rfl rfl rfl (Nat.le_of_ble_eq_true rfl) dX9_callOrWait_182 rfl ?_
            refine V_sub X [0, 1, 2, 3] (lv' := [(0, .ref (zad y (1, s0, 0))), (1, .int x4), (2, .int x16), (3, .int x17)]) rfl ?_
            obtain rfl := so1 h
            exact hk
        · refine V_if_eq X (tgt := 149) dX9_callOrWait_102 (by decide) (fun b24 => ?_) (fun b24 => ?_)
          · replace h := (if_pos b24).symm.trans h
            refine V_sub X [1, 2, 3, 4, 0] (lv' := [(0, .ref (zad y (1, s0, 0))), (1, .int x4), (2, .int x16), (3, .int x17), (4, .ref (zad y (3, s0, x17.toNatClampNeg)))]) rfl ?_
            exact hk26 h
          · replace h := (if_neg b24).symm.trans h
            refine V_iload_n X 3 dX9_callOrWait_105 rfl rfl ?_
            refine V_if_eq X (tgt := 149) dX9_callOrWait_106 (by decide) (fun b27 => ?_) (fun b27 => ?_)
            · replace h := (if_pos b27).symm.trans h
              refine V_sub X [1, 2, 3, 4, 0] (lv' := [(0, .ref (zad y (1, s0, 0))), (1, .int x4), (2, .int x16), (3, .int x17), (4, .ref (zad y (3, s0, x17.toNatClampNeg)))]) rfl ?_
              exact hk26 h
            · replace h := (if_neg b27).symm.trans h
              refine V_aload X 0 dX9_callOrWait_109 rfl ?_
              refine V_bipush X 99 dX9_callOrWait_111 (by decide) ?_
              refine V_iconst X 3 dX9_callOrWait_113 (by decide) ?_
              refine V_iload_n X 4 dX9_callOrWait_114 rfl rfl ?_
              refine V_iadd X dX9_callOrWait_115 ?_
              refine V_aload_n X 1 dX9_callOrWait_116 rfl rfl ?_
              refine V_getl X hs0 (mBa inB_X7) (mB wl_RX9_110) dX9_callOrWait_117 (fun hn28 => ?_)
              refine V_aload_n X 1 dX9_callOrWait_120 rfl rfl ?_
              refine V_iload_n X 4 dX9_callOrWait_121 rfl rfl ?_
              refine V_sipush X 1012 dX9_callOrWait_122 (by decide) ?_
              obtain ⟨x30, μ31, c29, h⟩ := bd2_some h
              refine V_callVi X (As := [.ref (zad y (1, s0, 0)), .int x17, .int 1012]) (M_X3_sum hn28 hs0 c29) (cwV 3 X.2.2.2.2.2.2.1 (gV wm_RX9_114 wi_X3_sum wse_X3_sum win_RX3 wc_X3_sum) rfl rfl rfl hd_X3_sum ⟨Nat.le_of_ble_eq_true rfl, Nat.le_of_ble_eq_true rfl⟩) (b := (5, (μ18 (1, s0, 0) 10).toNatClampNeg, 0)) ⟨hn28, rfl⟩ rfl rfl rfl rfl (Nat.le_of_ble_eq_true rfl) dX9_callOrWait_125 rfl ?_
              refine V_iadd X dX9_callOrWait_128 ?_
              refine V_zmin X (ix := 63) (mB wm_RX9_63) (mB wst_Math_min) (mB win_Math) (mB wc_Math_min) (Nat.le_of_ble_eq_true rfl) (Nat.le_of_ble_eq_true rfl) dX9_callOrWait_129 ?_
              refine V_puti X tyX5 .int (o := (3, s0, x17.toNatClampNeg)) (ci := 5) (k := 4) (N := 11) (T := TX5) (C := RX5) ⟨hs0, zin_lt g21⟩ rfl rfl rfl (by decide) (mBa inB_X5) tyX5_ok nmX5 (mB wl_RX9_104) rfl rfl rfl rfl dX9_callOrWait_132 ?_
              refine zlt_el (P := fun (μ32 : ZMem) => V X μ32 135 [(4, .ref (zad y (3, s0, x17.toNatClampNeg))), (0, .ref (zad y (1, s0, 0))), (1, .int x4), (2, .int x16), (3, .int x17)] []) h (fun μ32 h => ?_)
              refine V_aload_n X 1 dX9_callOrWait_135 rfl rfl ?_
              refine V_iload_n X 4 dX9_callOrWait_136 rfl rfl ?_
              refine V_iconst X 1 dX9_callOrWait_137 (by decide) ?_
              refine V_aload X 0 dX9_callOrWait_138 rfl ?_
              refine V_geti X (o := (3, s0, x17.toNatClampNeg)) (ci := 5) (k := 4) (N := 11) (T := TX5) (C := RX5) ⟨hs0, zin_lt g21⟩ rfl rfl rfl (by decide) (mBa inB_X5) (mB wl_RX9_104) dX9_callOrWait_140 ?_
              obtain ⟨μ34, c33, h⟩ := bd_some h
              refine V_callVv X (As := [.int x17, .int 1, .int (μ32 (3, s0, x17.toNatClampNeg) 4)]) (M_X7_note hs0 c33) (cwV 3 X.2.2.2.2.2.2.1 (gV wm_RX9_120 wi_X7_note wse_X7_note win_RX7 wc_X7_note) rfl rfl rfl hd_X7_note ⟨Nat.le_of_ble_eq_true rfl, Nat.le_of_ble_eq_true rfl⟩) (b := (1, s0, 0)) ⟨hs0, rfl⟩ rfl rfl rfl rfl (Nat.le_of_ble_eq_true rfl) dX9_callOrWait_143 rfl ?_
              refine V_goto X (tgt := 185) dX9_callOrWait_146 (by decide) ?_
              refine V_sub X [1, 2, 3, 4] (lv' := [(0, .ref (zad y (1, s0, 0))), (1, .int x4), (2, .int x16), (3, .int x17)]) rfl ?_
              obtain rfl := so1 h
              exact hk
    replace h := h1
    clear h1
    refine V_icmp_le X (tgt := 77) dX9_callOrWait_70 (by decide) (fun b15 => ?_) (fun b15 => ?_)
    · replace h := (if_pos b15).symm.trans h
      refine V_iconst X 0 dX9_callOrWait_77 (by decide) ?_
      obtain rfl := pr1 h
      exact hk
    · replace h := (if_neg b15).symm.trans h
      refine V_iconst X 1 dX9_callOrWait_73 (by decide) ?_
      refine V_goto X (tgt := 78) dX9_callOrWait_74 (by decide) ?_
      obtain rfl := pr1 h
      exact hk
  refine lp_ind (P := fun q => V X q.2.2 4 [(0, .ref (zad y (1, s0, 0))), (1, .int q.1), (2, .int q.2.1)] []) (fun q z h hz => ?_) hl
  obtain ⟨x1, x2, μ3⟩ := q
  replace h := un3_eq h
  show V X μ3 4 [(0, .ref (zad y (1, s0, 0))), (1, .int x1), (2, .int x2)] []
  refine V_iload_n X 2 dX9_callOrWait_4 rfl rfl ?_
  refine V_aload_n X 0 dX9_callOrWait_5 rfl rfl ?_
  refine V_geti X (o := (1, s0, 0)) (ci := 7) (k := 4) (N := 11) (T := TX7) (C := RX7) ⟨hs0, rfl⟩ rfl rfl rfl (by decide) (mBa inB_X7) (mB wl_RX9_75) dX9_callOrWait_6 ?_
  refine V_icmp_ge X (tgt := 65) dX9_callOrWait_9 (by decide) (fun b6 => ?_) (fun b6 => ?_)
  · replace h := (if_pos b6).symm.trans h
    refine V_sub X [0, 1] (lv' := [(0, .ref (zad y (1, s0, 0))), (1, .int x1)]) rfl ?_
    cases h
    obtain ⟨rfl, rfl⟩ := pr2 hz
    exact hk
  · replace h := (if_neg b6).symm.trans h
    refine V_aload_n X 0 dX9_callOrWait_12 rfl rfl ?_
    refine V_getr X (o := (1, s0, 0)) (i := (2, s0, 0)) (ci := 7) (k := 0) (N := 11) (T := TX7) (C := RX7) ⟨hs0, rfl⟩ rfl rfl rfl (by decide) (mBa inB_X7) (mB wl_RX9_95) dX9_callOrWait_13 ?_
    refine V_iload_n X 2 dX9_callOrWait_16 rfl rfl ?_
    obtain ⟨g7, h⟩ := gd_some h
    refine V_aald X x2.toNatClampNeg rfl (o := (2, s0, 0)) ⟨hs0, rfl⟩ rfl rfl rfl rfl g7 dX9_callOrWait_17 ?_
    refine V_astore_n X [(3, .ref (zad y (3, s0, x2.toNatClampNeg))), (0, .ref (zad y (1, s0, 0))), (1, .int x1), (2, .int x2)] dX9_callOrWait_18 rfl (by decide) rfl ?_
    refine V_aload_n X 0 dX9_callOrWait_19 rfl rfl ?_
    refine V_geti X (o := (3, s0, x2.toNatClampNeg)) (ci := 5) (k := 3) (N := 11) (T := TX5) (C := RX5) ⟨hs0, zin_lt g7⟩ rfl rfl rfl (by decide) (mBa inB_X5) (mB wl_RX9_99) dX9_callOrWait_20 ?_
    refine V_iconst X 1 dX9_callOrWait_23 (by decide) ?_
    obtain ⟨x9, μ10, h1, h⟩ := zl2_some h
    have hk : V X μ10 59 [(0, .ref (zad y (1, s0, 0))), (1, .int x9), (2, .int x2)] [] := by
      clear h1
      refine V_inc X 2 1 [(2, .int (x2 + 1)), (0, .ref (zad y (1, s0, 0))), (1, .int x9)] dX9_callOrWait_59 rfl (by decide) (by decide) rfl ?_
      refine V_goto X (tgt := 4) dX9_callOrWait_62 (by decide) ?_
      refine V_sub X [1, 2, 0] (lv' := [(0, .ref (zad y (1, s0, 0))), (1, .int x9), (2, .int (x2 + 1))]) rfl ?_
      cases h
      exact hz
    replace h := h1
    clear h1
    refine V_icmp_ne X (tgt := 59) dX9_callOrWait_24 (by decide) (fun b8 => ?_) (fun b8 => ?_)
    · replace h := (if_neg b8).symm.trans h
      refine V_sub X [1, 2, 3] (lv' := [(0, .ref (zad y (1, s0, 0))), (1, .int x1), (2, .int x2)]) rfl ?_
      obtain ⟨rfl, rfl⟩ := pr2 h
      exact hk
    · replace h := (if_pos b8).symm.trans h
      refine V_aload_n X 0 dX9_callOrWait_27 rfl rfl ?_
      refine V_iconst X 0 dX9_callOrWait_28 (by decide) ?_
      refine V_aload_n X 0 dX9_callOrWait_29 rfl rfl ?_
      refine V_geti X (o := (3, s0, x2.toNatClampNeg)) (ci := 5) (k := 4) (N := 11) (T := TX5) (C := RX5) ⟨hs0, zin_lt g7⟩ rfl rfl rfl (by decide) (mBa inB_X5) (mB wl_RX9_104) dX9_callOrWait_30 ?_
      refine V_iconst X 1 dX9_callOrWait_33 (by decide) ?_
      refine V_isub X dX9_callOrWait_34 ?_
      refine V_zmax X (ix := 107) (mB wm_RX9_107) (mB wst_Math_max) (mB win_Math) (mB wc_Math_max) (Nat.le_of_ble_eq_true rfl) (Nat.le_of_ble_eq_true rfl) dX9_callOrWait_35 ?_
      refine V_puti X tyX5 .int (o := (3, s0, x2.toNatClampNeg)) (ci := 5) (k := 4) (N := 11) (T := TX5) (C := RX5) ⟨hs0, zin_lt g7⟩ rfl rfl rfl (by decide) (mBa inB_X5) tyX5_ok nmX5 (mB wl_RX9_104) rfl rfl rfl rfl dX9_callOrWait_38 ?_
      refine zlt_el (P := fun (μ11 : ZMem) => V X μ11 41 [(3, .ref (zad y (3, s0, x2.toNatClampNeg))), (0, .ref (zad y (1, s0, 0))), (1, .int x1), (2, .int x2)] []) h (fun μ11 h => ?_)
      refine V_iload_n X 2 dX9_callOrWait_41 rfl rfl ?_
      refine V_aload_n X 0 dX9_callOrWait_42 rfl rfl ?_
      refine V_geti X (o := (3, s0, x2.toNatClampNeg)) (ci := 5) (k := 4) (N := 11) (T := TX5) (C := RX5) ⟨hs0, zin_lt g7⟩ rfl rfl rfl (by decide) (mBa inB_X5) (mB wl_RX9_104) dX9_callOrWait_43 ?_
      obtain ⟨x13, h1, h⟩ := zl1_some h
      have hk : V X μ11 57 [(0, .ref (zad y (1, s0, 0))), (2, .int x2)] [.int x13, .int x1] := by
        clear h1
        refine V_ior X dX9_callOrWait_57 ?_
        refine V_istore_n X [(1, .int (x1 ||| x13)), (0, .ref (zad y (1, s0, 0))), (2, .int x2)] dX9_callOrWait_58 rfl (by decide) rfl ?_
        refine zlt_el (P := fun (x14 : Int32) => V X μ11 59 [(1, .int x14), (0, .ref (zad y (1, s0, 0))), (2, .int x2)] []) h (fun x14 h => ?_)
        refine V_sub X [1, 0, 2] (lv' := [(0, .ref (zad y (1, s0, 0))), (1, .int x14), (2, .int x2)]) rfl ?_
        obtain ⟨rfl, rfl⟩ := pr2 h
        exact hk
      replace h := h1
      clear h1
      refine V_if_ne X (tgt := 56) dX9_callOrWait_46 (by decide) (fun b12 => ?_) (fun b12 => ?_)
      · replace h := (if_neg b12).symm.trans h
        refine V_iconst X 0 dX9_callOrWait_56 (by decide) ?_
        refine V_sub X [1, 3] (lv' := [(0, .ref (zad y (1, s0, 0))), (2, .int x2)]) rfl ?_
        obtain rfl := pr1 h
        exact hk
      · replace h := (if_pos b12).symm.trans h
        refine V_iload_n X 3 dX9_callOrWait_49 rfl rfl ?_
        refine V_callSNi X (As := [.int x2]) (M_X11_bit) ⟨va_cnB (host := "SlotCluster") 1 X.2.2.2.2.2.2.1 (gN wc_X11_bit) rfl rfl rfl (X.2.2.2.2.2.2.2.2.1 _ (List.mem_of_getElem? wn_RX9_92)) (X.2.2.2.2.2.2.1 (.initialized RX11) (mB win_RX11)) hd_X11_bit.2 ⟨Nat.le_of_ble_eq_true rfl, Nat.le_of_ble_eq_true rfl⟩, X.2.2.2.2.2.2.1 (.static yX11_bit) (mB wst_X11_bit), trivial⟩ rfl (Nat.le_of_ble_eq_true rfl) dX9_callOrWait_50 rfl ?_
        refine V_goto X (tgt := 57) dX9_callOrWait_53 (by decide) ?_
        refine V_sub X [1, 3] (lv' := [(0, .ref (zad y (1, s0, 0))), (2, .int x2)]) rfl ?_
        obtain rfl := pr1 h
        exact hk

def f_X11_keepWithin (a0 : Int32) (a1 : Int32) : Int32 := (zmax (-a1) (zmin a1 a0))
set_option maxRecDepth 100000 in
set_option maxHeartbeats 4000000 in
theorem M_X11_keepWithin {l : Launch} {D : va_G} {y : ZLay} {a0 : Int32} {a1 : Int32}  {μ : ZMem} : MI l yX11_keepWithin wb_X11_keepWithin rm_X11_keepWithin D y [.int a0, .int a1] μ (f_X11_keepWithin a0 a1) μ := by
  obtain ⟨r, h⟩ : ∃ r, f_X11_keepWithin a0 a1 = r := ⟨_, rfl⟩
  rw [h]
  unfold f_X11_keepWithin at h
  refine MI_of RX11 [(0, .int a0), (1, .int a1)] (by decide) rfl rfl (Nat.le_of_ble_eq_true rfl) rfl ?_
  intro p e s m args below meth c A X
  refine V_iload_n X 1 dX11_keepWithin_0 rfl rfl ?_
  refine V_ineg X dX11_keepWithin_1 ?_
  refine V_iload_n X 1 dX11_keepWithin_2 rfl rfl ?_
  refine V_iload_n X 0 dX11_keepWithin_3 rfl rfl ?_
  refine V_zmin X (ix := 229) (mB wm_RX11_229) (mB wst_Math_min) (mB win_Math) (mB wc_Math_min) (Nat.le_of_ble_eq_true rfl) (Nat.le_of_ble_eq_true rfl) dX11_keepWithin_4 ?_
  refine V_zmax X (ix := 283) (mB wm_RX11_283) (mB wst_Math_max) (mB win_Math) (mB wc_Math_max) (Nat.le_of_ble_eq_true rfl) (Nat.le_of_ble_eq_true rfl) dX11_keepWithin_7 ?_
  exact V_iretT X h dX11_keepWithin_10

def f_X9_joinAll (s1 : Nat) (a2 : Int32) (μ : ZMem) : Option (ZMem) := bd (f_X11_lowest a2) (fun (x2 : Int32) => jk (some μ) (fun k4 => if x2 < 0 then k4 else if x2 < (μ (1, s1, 0) 4) then bd (lp (σ := Int32 × ZMem) (fun q => un2 q (fun (x6 : Int32) (μ7 : ZMem) => if (μ7 (1, s1, 0) 4) ≤ x6 then some (.inr μ7) else gd (zin x6 8) (bd (α := ZMem) (if (μ7 (3, s1, x6.toNatClampNeg) 3) = 1 then gd (zin x2 8) (zlt (mset μ7 (3, s1, x6.toNatClampNeg) 0 (f_X11_keepWithin (μ7 (7, x2.toNatClampNeg, 0) x6.toNatClampNeg) 999)) (fun (μ14 : ZMem) => zlt (mset μ14 (3, s1, x6.toNatClampNeg) 5 ((μ14 (3, s1, x2.toNatClampNeg) 5) ||| (f_X11_bit x6))) (fun (μ15 : ZMem) => zlt (mset μ15 (3, s1, x6.toNatClampNeg) 3 2) (fun (μ16 : ZMem) => bd (f_X7_note s1 x6 2 x2 μ16) (fun (μ18 : ZMem) => some μ18))))) else some μ7) (fun (μ12 : ZMem) => some (.inl ((x6 + 1), μ12)))))) FU (0, μ)) (fun (μ8 : ZMem) => some μ8) else k4))
set_option maxRecDepth 100000 in
set_option maxHeartbeats 4000000 in
theorem M_X9_joinAll {l : Launch} {D : va_G} {y : ZLay} {s1 : Nat} {a2 : Int32} (hs1 : s1 < 15) {μ : ZMem} {μ0 : ZMem} (h : f_X9_joinAll s1 a2 μ = some μ0) : MV l yX9_joinAll wb_X9_joinAll rm_X9_joinAll D y [.ref (zad y (0, 4, 0)), .ref (zad y (1, s1, 0)), .int a2] μ μ0 := by
  unfold f_X9_joinAll at h
  refine MV_of RX9 [(0, .ref (zad y (0, 4, 0))), (1, .ref (zad y (1, s1, 0))), (2, .int a2)] (by decide) rfl rfl (Nat.le_of_ble_eq_true rfl) rfl ?_
  intro p e s m args below meth c A X
  refine V_iload_n X 2 dX9_joinAll_0 rfl rfl ?_
  obtain ⟨x2, c1, h⟩ := bd_some h
  refine V_callSNi X (As := [.int a2]) (M_X11_lowest c1) ⟨va_cnB (host := "SlotCluster") 1 X.2.2.2.2.2.2.1 (gN wc_X11_lowest) rfl rfl rfl (X.2.2.2.2.2.2.2.2.1 _ (List.mem_of_getElem? wn_RX9_130)) (X.2.2.2.2.2.2.1 (.initialized RX11) (mB win_RX11)) hd_X11_lowest.2 ⟨Nat.le_of_ble_eq_true rfl, Nat.le_of_ble_eq_true rfl⟩, X.2.2.2.2.2.2.1 (.static yX11_lowest) (mB wst_X11_lowest), trivial⟩ rfl (Nat.le_of_ble_eq_true rfl) dX9_joinAll_1 rfl ?_
  refine V_istore_n X [(3, .int x2), (0, .ref (zad y (0, 4, 0))), (1, .ref (zad y (1, s1, 0))), (2, .int a2)] dX9_joinAll_4 rfl (by decide) rfl ?_
  refine V_iload_n X 0 dX9_joinAll_5 rfl rfl ?_
  refine jk0_el (P := V X μ 17 [] []) h (fun h => ?_) (fun k4 hk4 h => ?_)
  · exact V_vretW X h dX9_joinAll_17
  · refine V_if_lt X (tgt := 17) dX9_joinAll_6 (by decide) (fun b3 => ?_) (fun b3 => ?_)
    · replace h := (if_pos b3).symm.trans h
      refine V_sub X [] (lv' := []) rfl ?_
      exact hk4 h
    · replace h := (if_neg b3).symm.trans h
      refine V_iload_n X 0 dX9_joinAll_9 rfl rfl ?_
      refine V_aload_n X 2 dX9_joinAll_10 rfl rfl ?_
      refine V_geti X (o := (1, s1, 0)) (ci := 7) (k := 4) (N := 11) (T := TX7) (C := RX7) ⟨hs1, rfl⟩ rfl rfl rfl (by decide) (mBa inB_X7) (mB wl_RX9_75) dX9_joinAll_11 ?_
      refine V_icmp_lt X (tgt := 18) dX9_joinAll_14 (by decide) (fun b5 => ?_) (fun b5 => ?_)
      · replace h := (if_pos b5).symm.trans h
        refine V_iconst X 0 dX9_joinAll_18 (by decide) ?_
        refine V_istore X [(4, .int 0), (3, .int x2), (0, .ref (zad y (0, 4, 0))), (1, .ref (zad y (1, s1, 0))), (2, .int a2)] dX9_joinAll_19 (by decide) rfl ?_
        refine V_sub X [2, 3, 1, 0] (lv' := [(0, .ref (zad y (0, 4, 0))), (1, .ref (zad y (1, s1, 0))), (3, .int x2), (4, .int 0)]) rfl ?_
        obtain ⟨μ8, hl, h⟩ := bd_some h
        have hk : V X μ8 111 [] [] := by
          clear hl
          exact V_vretW X h dX9_joinAll_111
        refine lp_ind (P := fun q => V X q.2 21 [(0, .ref (zad y (0, 4, 0))), (1, .ref (zad y (1, s1, 0))), (3, .int x2), (4, .int q.1)] []) (fun q z h hz => ?_) hl
        obtain ⟨x6, μ7⟩ := q
        replace h := un2_eq h
        show V X μ7 21 [(0, .ref (zad y (0, 4, 0))), (1, .ref (zad y (1, s1, 0))), (3, .int x2), (4, .int x6)] []
        refine V_iload X 3 dX9_joinAll_21 rfl ?_
        refine V_aload_n X 1 dX9_joinAll_23 rfl rfl ?_
        refine V_geti X (o := (1, s1, 0)) (ci := 7) (k := 4) (N := 11) (T := TX7) (C := RX7) ⟨hs1, rfl⟩ rfl rfl rfl (by decide) (mBa inB_X7) (mB wl_RX9_75) dX9_joinAll_24 ?_
        refine V_icmp_ge X (tgt := 111) dX9_joinAll_27 (by decide) (fun b9 => ?_) (fun b9 => ?_)
        · replace h := (if_pos b9).symm.trans h
          refine V_sub X [] (lv' := []) rfl ?_
          cases h
          obtain rfl := pr1 hz
          exact hk
        · replace h := (if_neg b9).symm.trans h
          refine V_aload_n X 1 dX9_joinAll_30 rfl rfl ?_
          refine V_getr X (o := (1, s1, 0)) (i := (2, s1, 0)) (ci := 7) (k := 0) (N := 11) (T := TX7) (C := RX7) ⟨hs1, rfl⟩ rfl rfl rfl (by decide) (mBa inB_X7) (mB wl_RX9_95) dX9_joinAll_31 ?_
          refine V_iload X 3 dX9_joinAll_34 rfl ?_
          obtain ⟨g10, h⟩ := gd_some h
          refine V_aald X x6.toNatClampNeg rfl (o := (2, s1, 0)) ⟨hs1, rfl⟩ rfl rfl rfl rfl g10 dX9_joinAll_36 ?_
          refine V_astore X [(5, .ref (zad y (3, s1, x6.toNatClampNeg))), (0, .ref (zad y (0, 4, 0))), (1, .ref (zad y (1, s1, 0))), (3, .int x2), (4, .int x6)] dX9_joinAll_37 (by decide) rfl ?_
          refine V_aload X 0 dX9_joinAll_39 rfl ?_
          refine V_geti X (o := (3, s1, x6.toNatClampNeg)) (ci := 5) (k := 3) (N := 11) (T := TX5) (C := RX5) ⟨hs1, zin_lt g10⟩ rfl rfl rfl (by decide) (mBa inB_X5) (mB wl_RX9_99) dX9_joinAll_41 ?_
          refine V_iconst X 1 dX9_joinAll_44 (by decide) ?_
          obtain ⟨μ12, h1, h⟩ := bd_some h
          have hk : V X μ12 105 [(0, .ref (zad y (0, 4, 0))), (1, .ref (zad y (1, s1, 0))), (3, .int x2), (4, .int x6)] [] := by
            clear h1
            refine V_inc X 3 1 [(4, .int (x6 + 1)), (0, .ref (zad y (0, 4, 0))), (1, .ref (zad y (1, s1, 0))), (3, .int x2)] dX9_joinAll_105 rfl (by decide) (by decide) rfl ?_
            refine V_goto X (tgt := 21) dX9_joinAll_108 (by decide) ?_
            refine V_sub X [1, 2, 3, 0] (lv' := [(0, .ref (zad y (0, 4, 0))), (1, .ref (zad y (1, s1, 0))), (3, .int x2), (4, .int (x6 + 1))]) rfl ?_
            cases h
            exact hz
          replace h := h1
          clear h1
          refine V_icmp_ne X (tgt := 105) dX9_joinAll_45 (by decide) (fun b11 => ?_) (fun b11 => ?_)
          · replace h := (if_neg b11).symm.trans h
            refine V_sub X [1, 2, 3, 4] (lv' := [(0, .ref (zad y (0, 4, 0))), (1, .ref (zad y (1, s1, 0))), (3, .int x2), (4, .int x6)]) rfl ?_
            obtain rfl := so1 h
            exact hk
          · replace h := (if_pos b11).symm.trans h
            refine V_aload X 0 dX9_joinAll_48 rfl ?_
            refine V_aload_n X 1 dX9_joinAll_50 rfl rfl ?_
            refine V_getr X (o := (0, 4, 0)) (i := (0, 5, 0)) (ci := 9) (k := 0) (N := 2) (T := TX9) (C := RX9) ⟨by decide, rfl⟩ rfl rfl rfl (by decide) (mBa inB_X9) (mB wl_RX9_12) dX9_joinAll_51 ?_
            refine V_getr X (o := (0, 5, 0)) (i := (0, 6, 0)) (ci := 10) (k := 0) (N := 7) (T := TX10) (C := RX10) ⟨by decide, rfl⟩ rfl rfl rfl (by decide) (mBa inB_X10) (mB wl_RX9_133) dX9_joinAll_54 ?_
            refine V_iload_n X 3 dX9_joinAll_57 rfl rfl ?_
            obtain ⟨g13, h⟩ := gd_some h
            refine V_aald X x2.toNatClampNeg rfl (o := (0, 6, 0)) ⟨by decide, rfl⟩ rfl rfl rfl rfl g13 dX9_joinAll_58 ?_
            refine V_iload X 4 dX9_joinAll_59 rfl ?_
            refine V_iald X x6.toNatClampNeg rfl (o := (7, x2.toNatClampNeg, 0)) (n := 8) ⟨zin_lt g13, rfl⟩ rfl rfl g10 dX9_joinAll_61 ?_
            refine V_sipush X 999 dX9_joinAll_62 (by decide) ?_
            refine V_callSNi X (As := [.int (μ7 (7, x2.toNatClampNeg, 0) x6.toNatClampNeg), .int 999]) (M_X11_keepWithin) ⟨va_cnB (host := "SlotCluster") 2 X.2.2.2.2.2.2.1 (gN wc_X11_keepWithin) rfl rfl rfl (X.2.2.2.2.2.2.2.2.1 _ (List.mem_of_getElem? wn_RX9_137)) (X.2.2.2.2.2.2.1 (.initialized RX11) (mB win_RX11)) hd_X11_keepWithin.2 ⟨Nat.le_of_ble_eq_true rfl, Nat.le_of_ble_eq_true rfl⟩, X.2.2.2.2.2.2.1 (.static yX11_keepWithin) (mB wst_X11_keepWithin), trivial⟩ rfl (Nat.le_of_ble_eq_true rfl) dX9_joinAll_65 rfl ?_
            refine V_puti X tyX5 .int (o := (3, s1, x6.toNatClampNeg)) (ci := 5) (k := 0) (N := 11) (T := TX5) (C := RX5) ⟨hs1, zin_lt g10⟩ rfl rfl rfl (by decide) (mBa inB_X5) tyX5_ok nmX5 (mB wl_RX9_140) rfl rfl rfl rfl dX9_joinAll_68 ?_
            refine zlt_el (P := fun (μ14 : ZMem) => V X μ14 71 [(5, .ref (zad y (3, s1, x6.toNatClampNeg))), (0, .ref (zad y (0, 4, 0))), (1, .ref (zad y (1, s1, 0))), (3, .int x2), (4, .int x6)] []) h (fun μ14 h => ?_)
            refine V_aload X 0 dX9_joinAll_71 rfl ?_
            refine V_aload_n X 2 dX9_joinAll_73 rfl rfl ?_
            refine V_getr X (o := (1, s1, 0)) (i := (2, s1, 0)) (ci := 7) (k := 0) (N := 11) (T := TX7) (C := RX7) ⟨hs1, rfl⟩ rfl rfl rfl (by decide) (mBa inB_X7) (mB wl_RX9_95) dX9_joinAll_74 ?_
            refine V_iload_n X 3 dX9_joinAll_77 rfl rfl ?_
            refine V_aald X x2.toNatClampNeg rfl (o := (2, s1, 0)) ⟨hs1, rfl⟩ rfl rfl rfl rfl g13 dX9_joinAll_78 ?_
            refine V_geti X (o := (3, s1, x2.toNatClampNeg)) (ci := 5) (k := 5) (N := 11) (T := TX5) (C := RX5) ⟨hs1, zin_lt g13⟩ rfl rfl rfl (by decide) (mBa inB_X5) (mB wl_RX9_124) dX9_joinAll_79 ?_
            refine V_iload X 4 dX9_joinAll_82 rfl ?_
            refine V_callSNi X (As := [.int x6]) (M_X11_bit) ⟨va_cnB (host := "SlotCluster") 1 X.2.2.2.2.2.2.1 (gN wc_X11_bit) rfl rfl rfl (X.2.2.2.2.2.2.2.2.1 _ (List.mem_of_getElem? wn_RX9_92)) (X.2.2.2.2.2.2.1 (.initialized RX11) (mB win_RX11)) hd_X11_bit.2 ⟨Nat.le_of_ble_eq_true rfl, Nat.le_of_ble_eq_true rfl⟩, X.2.2.2.2.2.2.1 (.static yX11_bit) (mB wst_X11_bit), trivial⟩ rfl (Nat.le_of_ble_eq_true rfl) dX9_joinAll_84 rfl ?_
            refine V_ior X dX9_joinAll_87 ?_
            refine V_puti X tyX5 .int (o := (3, s1, x6.toNatClampNeg)) (ci := 5) (k := 5) (N := 11) (T := TX5) (C := RX5) ⟨hs1, zin_lt g10⟩ rfl rfl rfl (by decide) (mBa inB_X5) tyX5_ok nmX5 (mB wl_RX9_124) rfl rfl rfl rfl dX9_joinAll_88 ?_
            refine zlt_el (P := fun (μ15 : ZMem) => V X μ15 91 [(5, .ref (zad y (3, s1, x6.toNatClampNeg))), (0, .ref (zad y (0, 4, 0))), (1, .ref (zad y (1, s1, 0))), (3, .int x2), (4, .int x6)] []) h (fun μ15 h => ?_)
            refine V_aload X 0 dX9_joinAll_91 rfl ?_
            refine V_iconst X 2 dX9_joinAll_93 (by decide) ?_
            refine V_puti X tyX5 .int (o := (3, s1, x6.toNatClampNeg)) (ci := 5) (k := 3) (N := 11) (T := TX5) (C := RX5) ⟨hs1, zin_lt g10⟩ rfl rfl rfl (by decide) (mBa inB_X5) tyX5_ok nmX5 (mB wl_RX9_99) rfl rfl rfl rfl dX9_joinAll_94 ?_
            refine zlt_el (P := fun (μ16 : ZMem) => V X μ16 97 [(5, .ref (zad y (3, s1, x6.toNatClampNeg))), (0, .ref (zad y (0, 4, 0))), (1, .ref (zad y (1, s1, 0))), (3, .int x2), (4, .int x6)] []) h (fun μ16 h => ?_)
            refine V_aload_n X 2 dX9_joinAll_97 rfl rfl ?_
            refine V_iload X 4 dX9_joinAll_98 rfl ?_
            refine V_iconst X 2 dX9_joinAll_100 (by decide) ?_
            refine V_iload_n X 3 dX9_joinAll_101 rfl rfl ?_
            obtain ⟨μ18, c17, h⟩ := bd_some h
            refine V_callVv X (As := [.int x6, .int 2, .int x2]) (M_X7_note hs1 c17) (cwV 3 X.2.2.2.2.2.2.1 (gV wm_RX9_120 wi_X7_note wse_X7_note win_RX7 wc_X7_note) rfl rfl rfl hd_X7_note ⟨Nat.le_of_ble_eq_true rfl, Nat.le_of_ble_eq_true rfl⟩) (b := (1, s1, 0)) ⟨hs1, rfl⟩ rfl rfl rfl rfl (Nat.le_of_ble_eq_true rfl) dX9_joinAll_102 rfl ?_
            refine V_sub X [1, 2, 3, 4] (lv' := [(0, .ref (zad y (0, 4, 0))), (1, .ref (zad y (1, s1, 0))), (3, .int x2), (4, .int x6)]) rfl ?_
            obtain rfl := so1 h
            exact hk
      · replace h := (if_neg b5).symm.trans h
        refine V_sub X [] (lv' := []) rfl ?_
        exact hk4 h

def f_X9_judge (s1 : Nat) (a2 : Int32) (a3 : Int32) (μ : ZMem) : Option (ZMem) := bd (lp (σ := Int32 × ZMem) (fun q => un2 q (fun (x1 : Int32) (μ2 : ZMem) => if (μ2 (1, s1, 0) 4) ≤ x1 then some (.inr μ2) else bd (f_X11_isIn a2 x1) (fun (x6 : Int32) => bd (α := ZMem) (if x6 = 0 then some μ2 else gd (zin x1 8) (zlt (a3 &&& ((f_X11_bit x1) ^^^ (-1))) (fun (x10 : Int32) => zlt (mset μ2 (3, s1, x1.toNatClampNeg) 5 ((x10 &&& (μ2 (0, 7, 0) x1.toNatClampNeg)) ||| (a3 &&& (f_X11_bit x1)))) (fun (μ11 : ZMem) => zlt (mset μ11 (3, s1, x1.toNatClampNeg) 6 (f_J6_bitCount_0f7a4 (μ11 (3, s1, x1.toNatClampNeg) 5))) (fun (μ12 : ZMem) => zlt (mset μ12 (3, s1, x1.toNatClampNeg) 7 (f_J6_bitCount_0f7a4 (x10 &&& ((μ12 (0, 7, 0) x1.toNatClampNeg) ^^^ (-1))))) (fun (μ13 : ZMem) => some μ13)))))) (fun (μ8 : ZMem) => some (.inl ((x1 + 1), μ8)))))) FU (0, μ)) (fun (μ3 : ZMem) => some μ3)
set_option maxRecDepth 100000 in
set_option maxHeartbeats 4000000 in
theorem M_X9_judge {l : Launch} {D : va_G} {y : ZLay} {s1 : Nat} {a2 : Int32} {a3 : Int32} (hs1 : s1 < 15) {μ : ZMem} {μ0 : ZMem} (h : f_X9_judge s1 a2 a3 μ = some μ0) : MV l yX9_judge wb_X9_judge rm_X9_judge D y [.ref (zad y (0, 4, 0)), .ref (zad y (1, s1, 0)), .int a2, .int a3] μ μ0 := by
  unfold f_X9_judge at h
  refine MV_of RX9 [(0, .ref (zad y (0, 4, 0))), (1, .ref (zad y (1, s1, 0))), (2, .int a2), (3, .int a3)] (by decide) rfl rfl (Nat.le_of_ble_eq_true rfl) rfl ?_
  intro p e s m args below meth c A X
  refine V_iconst X 0 dX9_judge_0 (by decide) ?_
  refine V_istore X [(4, .int 0), (0, .ref (zad y (0, 4, 0))), (1, .ref (zad y (1, s1, 0))), (2, .int a2), (3, .int a3)] dX9_judge_1 (by decide) rfl ?_
  refine V_sub X [1, 2, 3, 4, 0] (lv' := [(0, .ref (zad y (0, 4, 0))), (1, .ref (zad y (1, s1, 0))), (2, .int a2), (3, .int a3), (4, .int 0)]) rfl ?_
  obtain ⟨μ3, hl, h⟩ := bd_some h
  have hk : V X μ3 109 [] [] := by
    clear hl
    exact V_vretW X h dX9_judge_109
  refine lp_ind (P := fun q => V X q.2 3 [(0, .ref (zad y (0, 4, 0))), (1, .ref (zad y (1, s1, 0))), (2, .int a2), (3, .int a3), (4, .int q.1)] []) (fun q z h hz => ?_) hl
  obtain ⟨x1, μ2⟩ := q
  replace h := un2_eq h
  show V X μ2 3 [(0, .ref (zad y (0, 4, 0))), (1, .ref (zad y (1, s1, 0))), (2, .int a2), (3, .int a3), (4, .int x1)] []
  refine V_iload X 4 dX9_judge_3 rfl ?_
  refine V_aload_n X 1 dX9_judge_5 rfl rfl ?_
  refine V_geti X (o := (1, s1, 0)) (ci := 7) (k := 4) (N := 11) (T := TX7) (C := RX7) ⟨hs1, rfl⟩ rfl rfl rfl (by decide) (mBa inB_X7) (mB wl_RX9_75) dX9_judge_6 ?_
  refine V_icmp_ge X (tgt := 109) dX9_judge_9 (by decide) (fun b4 => ?_) (fun b4 => ?_)
  · replace h := (if_pos b4).symm.trans h
    refine V_sub X [] (lv' := []) rfl ?_
    cases h
    obtain rfl := pr1 hz
    exact hk
  · replace h := (if_neg b4).symm.trans h
    refine V_iload_n X 2 dX9_judge_12 rfl rfl ?_
    refine V_iload X 4 dX9_judge_13 rfl ?_
    obtain ⟨x6, c5, h⟩ := bd_some h
    refine V_callSNi X (As := [.int a2, .int x1]) (M_X11_isIn c5) ⟨va_cnB (host := "SlotCluster") 2 X.2.2.2.2.2.2.1 (gN wc_X11_isIn) rfl rfl rfl (X.2.2.2.2.2.2.2.2.1 _ (List.mem_of_getElem? wn_RX9_78)) (X.2.2.2.2.2.2.1 (.initialized RX11) (mB win_RX11)) hd_X11_isIn.2 ⟨Nat.le_of_ble_eq_true rfl, Nat.le_of_ble_eq_true rfl⟩, X.2.2.2.2.2.2.1 (.static yX11_isIn) (mB wst_X11_isIn), trivial⟩ rfl (Nat.le_of_ble_eq_true rfl) dX9_judge_15 rfl ?_
    obtain ⟨μ8, h1, h⟩ := bd_some h
    have hk : V X μ8 103 [(0, .ref (zad y (0, 4, 0))), (1, .ref (zad y (1, s1, 0))), (2, .int a2), (3, .int a3), (4, .int x1)] [] := by
      clear h1
      refine V_inc X 4 1 [(4, .int (x1 + 1)), (0, .ref (zad y (0, 4, 0))), (1, .ref (zad y (1, s1, 0))), (2, .int a2), (3, .int a3)] dX9_judge_103 rfl (by decide) (by decide) rfl ?_
      refine V_goto X (tgt := 3) dX9_judge_106 (by decide) ?_
      refine V_sub X [1, 2, 3, 4, 0] (lv' := [(0, .ref (zad y (0, 4, 0))), (1, .ref (zad y (1, s1, 0))), (2, .int a2), (3, .int a3), (4, .int (x1 + 1))]) rfl ?_
      cases h
      exact hz
    replace h := h1
    clear h1
    refine V_if_eq X (tgt := 103) dX9_judge_18 (by decide) (fun b7 => ?_) (fun b7 => ?_)
    · replace h := (if_pos b7).symm.trans h
      obtain rfl := so1 h
      exact hk
    · replace h := (if_neg b7).symm.trans h
      refine V_aload_n X 1 dX9_judge_21 rfl rfl ?_
      refine V_getr X (o := (1, s1, 0)) (i := (2, s1, 0)) (ci := 7) (k := 0) (N := 11) (T := TX7) (C := RX7) ⟨hs1, rfl⟩ rfl rfl rfl (by decide) (mBa inB_X7) (mB wl_RX9_95) dX9_judge_22 ?_
      refine V_iload X 4 dX9_judge_25 rfl ?_
      obtain ⟨g9, h⟩ := gd_some h
      refine V_aald X x1.toNatClampNeg rfl (o := (2, s1, 0)) ⟨hs1, rfl⟩ rfl rfl rfl rfl g9 dX9_judge_27 ?_
      refine V_astore X [(5, .ref (zad y (3, s1, x1.toNatClampNeg))), (0, .ref (zad y (0, 4, 0))), (1, .ref (zad y (1, s1, 0))), (2, .int a2), (3, .int a3), (4, .int x1)] dX9_judge_28 (by decide) rfl ?_
      refine V_iload_n X 4 dX9_judge_30 rfl rfl ?_
      refine V_iload X 5 dX9_judge_31 rfl ?_
      refine V_callSNi X (As := [.int x1]) (M_X11_bit) ⟨va_cnB (host := "SlotCluster") 1 X.2.2.2.2.2.2.1 (gN wc_X11_bit) rfl rfl rfl (X.2.2.2.2.2.2.2.2.1 _ (List.mem_of_getElem? wn_RX9_92)) (X.2.2.2.2.2.2.1 (.initialized RX11) (mB win_RX11)) hd_X11_bit.2 ⟨Nat.le_of_ble_eq_true rfl, Nat.le_of_ble_eq_true rfl⟩, X.2.2.2.2.2.2.1 (.static yX11_bit) (mB wst_X11_bit), trivial⟩ rfl (Nat.le_of_ble_eq_true rfl) dX9_judge_33 rfl ?_
      refine V_iconst X (-1) dX9_judge_36 (by decide) ?_
      refine V_ixor X dX9_judge_37 ?_
      refine V_iand X dX9_judge_38 ?_
      refine V_istore X [(6, .int (a3 &&& ((f_X11_bit x1) ^^^ (-1)))), (5, .ref (zad y (3, s1, x1.toNatClampNeg))), (0, .ref (zad y (0, 4, 0))), (1, .ref (zad y (1, s1, 0))), (2, .int a2), (3, .int a3), (4, .int x1)] dX9_judge_39 (by decide) rfl ?_
      refine zlt_el (P := fun (x10 : Int32) => V X μ2 41 [(6, .int x10), (5, .ref (zad y (3, s1, x1.toNatClampNeg))), (0, .ref (zad y (0, 4, 0))), (1, .ref (zad y (1, s1, 0))), (2, .int a2), (3, .int a3), (4, .int x1)] []) h (fun x10 h => ?_)
      refine V_aload X 1 dX9_judge_41 rfl ?_
      refine V_iload X 0 dX9_judge_43 rfl ?_
      refine V_aload_n X 2 dX9_judge_45 rfl rfl ?_
      refine V_getr X (o := (0, 4, 0)) (i := (0, 5, 0)) (ci := 9) (k := 0) (N := 2) (T := TX9) (C := RX9) ⟨by decide, rfl⟩ rfl rfl rfl (by decide) (mBa inB_X9) (mB wl_RX9_12) dX9_judge_46 ?_
      refine V_getr X (o := (0, 5, 0)) (i := (0, 7, 0)) (ci := 10) (k := 1) (N := 7) (T := TX10) (C := RX10) ⟨by decide, rfl⟩ rfl rfl rfl (by decide) (mBa inB_X10) (mB wl_RX9_143) dX9_judge_49 ?_
      refine V_iload X 6 dX9_judge_52 rfl ?_
      refine V_iald X x1.toNatClampNeg rfl (o := (0, 7, 0)) (n := 8) ⟨by decide, rfl⟩ rfl rfl g9 dX9_judge_54 ?_
      refine V_iand X dX9_judge_55 ?_
      refine V_iload_n X 5 dX9_judge_56 rfl rfl ?_
      refine V_iload X 6 dX9_judge_57 rfl ?_
      refine V_callSNi X (As := [.int x1]) (M_X11_bit) ⟨va_cnB (host := "SlotCluster") 1 X.2.2.2.2.2.2.1 (gN wc_X11_bit) rfl rfl rfl (X.2.2.2.2.2.2.2.2.1 _ (List.mem_of_getElem? wn_RX9_92)) (X.2.2.2.2.2.2.1 (.initialized RX11) (mB win_RX11)) hd_X11_bit.2 ⟨Nat.le_of_ble_eq_true rfl, Nat.le_of_ble_eq_true rfl⟩, X.2.2.2.2.2.2.1 (.static yX11_bit) (mB wst_X11_bit), trivial⟩ rfl (Nat.le_of_ble_eq_true rfl) dX9_judge_59 rfl ?_
      refine V_iand X dX9_judge_62 ?_
      refine V_ior X dX9_judge_63 ?_
      refine V_puti X tyX5 .int (o := (3, s1, x1.toNatClampNeg)) (ci := 5) (k := 5) (N := 11) (T := TX5) (C := RX5) ⟨hs1, zin_lt g9⟩ rfl rfl rfl (by decide) (mBa inB_X5) tyX5_ok nmX5 (mB wl_RX9_124) rfl rfl rfl rfl dX9_judge_64 ?_
      refine zlt_el (P := fun (μ11 : ZMem) => V X μ11 67 [(6, .int x10), (5, .ref (zad y (3, s1, x1.toNatClampNeg))), (0, .ref (zad y (0, 4, 0))), (1, .ref (zad y (1, s1, 0))), (2, .int a2), (3, .int a3), (4, .int x1)] []) h (fun μ11 h => ?_)
      refine V_aload X 1 dX9_judge_67 rfl ?_
      refine V_aload X 1 dX9_judge_69 rfl ?_
      refine V_geti X (o := (3, s1, x1.toNatClampNeg)) (ci := 5) (k := 5) (N := 11) (T := TX5) (C := RX5) ⟨hs1, zin_lt g9⟩ rfl rfl rfl (by decide) (mBa inB_X5) (mB wl_RX9_124) dX9_judge_71 ?_
      refine V_callSi X (As := [.int (μ11 (3, s1, x1.toNatClampNeg) 5)]) (M_J6_bitCount_0f7a4) (va_cwS 1 X.2.2.2.2.2.2.1 (gS wm_RX9_69 wst_J6_bitCount_0f7a4 win_RJ6 wc_J6_bitCount_0f7a4) rfl rfl rfl hd_J6_bitCount_0f7a4.2 ⟨Nat.le_of_ble_eq_true rfl, Nat.le_of_ble_eq_true rfl⟩) rfl (Nat.le_of_ble_eq_true rfl) dX9_judge_74 rfl ?_
      refine V_puti X tyX5 .int (o := (3, s1, x1.toNatClampNeg)) (ci := 5) (k := 6) (N := 11) (T := TX5) (C := RX5) ⟨hs1, zin_lt g9⟩ rfl rfl rfl (by decide) (mBa inB_X5) tyX5_ok nmX5 (mB wl_RX9_146) rfl rfl rfl rfl dX9_judge_77 ?_
      refine zlt_el (P := fun (μ12 : ZMem) => V X μ12 80 [(6, .int x10), (5, .ref (zad y (3, s1, x1.toNatClampNeg))), (0, .ref (zad y (0, 4, 0))), (1, .ref (zad y (1, s1, 0))), (2, .int a2), (3, .int a3), (4, .int x1)] []) h (fun μ12 h => ?_)
      refine V_aload X 1 dX9_judge_80 rfl ?_
      refine V_iload X 0 dX9_judge_82 rfl ?_
      refine V_aload_n X 2 dX9_judge_84 rfl rfl ?_
      refine V_getr X (o := (0, 4, 0)) (i := (0, 5, 0)) (ci := 9) (k := 0) (N := 2) (T := TX9) (C := RX9) ⟨by decide, rfl⟩ rfl rfl rfl (by decide) (mBa inB_X9) (mB wl_RX9_12) dX9_judge_85 ?_
      refine V_getr X (o := (0, 5, 0)) (i := (0, 7, 0)) (ci := 10) (k := 1) (N := 7) (T := TX10) (C := RX10) ⟨by decide, rfl⟩ rfl rfl rfl (by decide) (mBa inB_X10) (mB wl_RX9_143) dX9_judge_88 ?_
      refine V_iload X 6 dX9_judge_91 rfl ?_
      refine V_iald X x1.toNatClampNeg rfl (o := (0, 7, 0)) (n := 8) ⟨by decide, rfl⟩ rfl rfl g9 dX9_judge_93 ?_
      refine V_iconst X (-1) dX9_judge_94 (by decide) ?_
      refine V_ixor X dX9_judge_95 ?_
      refine V_iand X dX9_judge_96 ?_
      refine V_callSi X (As := [.int (x10 &&& ((μ12 (0, 7, 0) x1.toNatClampNeg) ^^^ (-1)))]) (M_J6_bitCount_0f7a4) (va_cwS 1 X.2.2.2.2.2.2.1 (gS wm_RX9_69 wst_J6_bitCount_0f7a4 win_RJ6 wc_J6_bitCount_0f7a4) rfl rfl rfl hd_J6_bitCount_0f7a4.2 ⟨Nat.le_of_ble_eq_true rfl, Nat.le_of_ble_eq_true rfl⟩) rfl (Nat.le_of_ble_eq_true rfl) dX9_judge_97 rfl ?_
      refine V_puti X tyX5 .int (o := (3, s1, x1.toNatClampNeg)) (ci := 5) (k := 7) (N := 11) (T := TX5) (C := RX5) ⟨hs1, zin_lt g9⟩ rfl rfl rfl (by decide) (mBa inB_X5) tyX5_ok nmX5 (mB wl_RX9_149) rfl rfl rfl rfl dX9_judge_100 ?_
      refine zlt_el (P := fun (μ13 : ZMem) => V X μ13 103 [(6, .int x10), (5, .ref (zad y (3, s1, x1.toNatClampNeg))), (0, .ref (zad y (0, 4, 0))), (1, .ref (zad y (1, s1, 0))), (2, .int a2), (3, .int a3), (4, .int x1)] []) h (fun μ13 h => ?_)
      refine V_sub X [2, 3, 4, 5, 6] (lv' := [(0, .ref (zad y (0, 4, 0))), (1, .ref (zad y (1, s1, 0))), (2, .int a2), (3, .int a3), (4, .int x1)]) rfl ?_
      obtain rfl := so1 h
      exact hk

def f_X9_nextOf (a0 : Int32) (a1 : Int32) : Option (Int32) := bd (lp (σ := Int32) (fun (x1 : Int32) => if 8 ≤ x1 then some (.inr (.inl ())) else zlt ((a1 + x1) &&& 7) (fun (x3 : Int32) => bd (f_X11_isIn a0 x3) (fun (x5 : Int32) => if x5 = 0 then some (.inl (x1 + 1)) else some (.inr (.inr x3))))) FU 1) (fun z => sm z (fun (_ : Unit) => some a1) (fun r0 => some r0))
set_option maxRecDepth 100000 in
set_option maxHeartbeats 4000000 in
theorem M_X9_nextOf {l : Launch} {D : va_G} {y : ZLay} {a0 : Int32} {a1 : Int32}  {μ : ZMem} {r : Int32} (h : f_X9_nextOf a0 a1 = some r) : MI l yX9_nextOf wb_X9_nextOf rm_X9_nextOf D y [.int a0, .int a1] μ r μ := by
  unfold f_X9_nextOf at h
  refine MI_of RX9 [(0, .int a0), (1, .int a1)] (by decide) rfl rfl (Nat.le_of_ble_eq_true rfl) rfl ?_
  intro p e s m args below meth c A X
  refine V_iconst X 1 dX9_nextOf_0 (by decide) ?_
  refine V_istore_n X [(2, .int 1), (0, .int a0), (1, .int a1)] dX9_nextOf_1 rfl (by decide) rfl ?_
  refine V_sub X [1, 2, 0] (lv' := [(0, .int a0), (1, .int a1), (2, .int 1)]) rfl ?_
  obtain ⟨zz, hl, h⟩ := bd_some h
  have hk : ∀ (_ : Unit), .inl () = zz → V X μ 31 [(1, .int a1)] [] := by
    intro _ hzz
    subst hzz
    clear hl
    replace h := sm_l h
    refine V_iload_n X 0 dX9_nextOf_31 rfl rfl ?_
    exact V_iretR X h dX9_nextOf_32
  have hr : ∀ r0, .inr r0 = zz → some r0 = some r := by
    intro r0 hzz
    subst hzz
    exact h
  refine lp_ind (P := fun (x1 : Int32) => V X μ 2 [(0, .int a0), (1, .int a1), (2, .int x1)] []) (fun q z h hz => ?_) hl
  obtain ⟨x1, hq⟩ : ∃ x, x = q := ⟨q, rfl⟩
  subst hq
  show V X μ 2 [(0, .int a0), (1, .int a1), (2, .int x1)] []
  refine V_iload_n X 2 dX9_nextOf_2 rfl rfl ?_
  refine V_bipush X 8 dX9_nextOf_3 (by decide) ?_
  refine V_icmp_ge X (tgt := 31) dX9_nextOf_5 (by decide) (fun b2 => ?_) (fun b2 => ?_)
  · replace h := (if_pos b2).symm.trans h
    refine V_sub X [1] (lv' := [(1, .int a1)]) rfl ?_
    cases h
    exact hk () hz
  · replace h := (if_neg b2).symm.trans h
    refine V_iload_n X 1 dX9_nextOf_8 rfl rfl ?_
    refine V_iload_n X 2 dX9_nextOf_9 rfl rfl ?_
    refine V_iadd X dX9_nextOf_10 ?_
    refine V_bipush X 7 dX9_nextOf_11 (by decide) ?_
    refine V_iand X dX9_nextOf_13 ?_
    refine V_istore_n X [(3, .int ((a1 + x1) &&& 7)), (0, .int a0), (1, .int a1), (2, .int x1)] dX9_nextOf_14 rfl (by decide) rfl ?_
    refine zlt_el (P := fun (x3 : Int32) => V X μ 15 [(3, .int x3), (0, .int a0), (1, .int a1), (2, .int x1)] []) h (fun x3 h => ?_)
    refine V_iload_n X 1 dX9_nextOf_15 rfl rfl ?_
    refine V_iload_n X 0 dX9_nextOf_16 rfl rfl ?_
    obtain ⟨x5, c4, h⟩ := bd_some h
    refine V_callSNi X (As := [.int a0, .int x3]) (M_X11_isIn c4) ⟨va_cnB (host := "SlotCluster") 2 X.2.2.2.2.2.2.1 (gN wc_X11_isIn) rfl rfl rfl (X.2.2.2.2.2.2.2.2.1 _ (List.mem_of_getElem? wn_RX9_78)) (X.2.2.2.2.2.2.1 (.initialized RX11) (mB win_RX11)) hd_X11_isIn.2 ⟨Nat.le_of_ble_eq_true rfl, Nat.le_of_ble_eq_true rfl⟩, X.2.2.2.2.2.2.1 (.static yX11_isIn) (mB wst_X11_isIn), trivial⟩ rfl (Nat.le_of_ble_eq_true rfl) dX9_nextOf_17 rfl ?_
    refine V_if_eq X (tgt := 25) dX9_nextOf_20 (by decide) (fun b6 => ?_) (fun b6 => ?_)
    · replace h := (if_pos b6).symm.trans h
      refine V_inc X 3 1 [(2, .int (x1 + 1)), (3, .int x3), (0, .int a0), (1, .int a1)] dX9_nextOf_25 rfl (by decide) (by decide) rfl ?_
      refine V_goto X (tgt := 2) dX9_nextOf_28 (by decide) ?_
      refine V_sub X [2, 3, 0] (lv' := [(0, .int a0), (1, .int a1), (2, .int (x1 + 1))]) rfl ?_
      cases h
      exact hz
    · replace h := (if_neg b6).symm.trans h
      refine V_iload_n X 0 dX9_nextOf_23 rfl rfl ?_
      cases h
      have h := hr _ hz
      exact V_iretR X h dX9_nextOf_24

def f_X9_freeze (s0 : Nat) (a1 : Int32) (a2 : Int32) (μ : ZMem) : Option (ZMem) := gd (zin a1 8) (zlt (mset μ (3, s0, a1.toNatClampNeg) 3 3) (fun (μ2 : ZMem) => bd (f_X7_note s0 a1 a2 (μ2 (3, s0, a1.toNatClampNeg) 7) μ2) (fun (μ4 : ZMem) => some μ4)))
set_option maxRecDepth 100000 in
set_option maxHeartbeats 4000000 in
theorem M_X9_freeze {l : Launch} {D : va_G} {y : ZLay} {s0 : Nat} {a1 : Int32} {a2 : Int32} (hs0 : s0 < 15) {μ : ZMem} {μ0 : ZMem} (h : f_X9_freeze s0 a1 a2 μ = some μ0) : MV l yX9_freeze wb_X9_freeze rm_X9_freeze D y [.ref (zad y (1, s0, 0)), .int a1, .int a2] μ μ0 := by
  unfold f_X9_freeze at h
  refine MV_of RX9 [(0, .ref (zad y (1, s0, 0))), (1, .int a1), (2, .int a2)] (by decide) rfl rfl (Nat.le_of_ble_eq_true rfl) rfl ?_
  intro p e s m args below meth c A X
  refine V_aload_n X 0 dX9_freeze_0 rfl rfl ?_
  refine V_getr X (o := (1, s0, 0)) (i := (2, s0, 0)) (ci := 7) (k := 0) (N := 11) (T := TX7) (C := RX7) ⟨hs0, rfl⟩ rfl rfl rfl (by decide) (mBa inB_X7) (mB wl_RX9_95) dX9_freeze_1 ?_
  refine V_iload_n X 1 dX9_freeze_4 rfl rfl ?_
  obtain ⟨g1, h⟩ := gd_some h
  refine V_aald X a1.toNatClampNeg rfl (o := (2, s0, 0)) ⟨hs0, rfl⟩ rfl rfl rfl rfl g1 dX9_freeze_5 ?_
  refine V_iconst X 3 dX9_freeze_6 (by decide) ?_
  refine V_puti X tyX5 .int (o := (3, s0, a1.toNatClampNeg)) (ci := 5) (k := 3) (N := 11) (T := TX5) (C := RX5) ⟨hs0, zin_lt g1⟩ rfl rfl rfl (by decide) (mBa inB_X5) tyX5_ok nmX5 (mB wl_RX9_99) rfl rfl rfl rfl dX9_freeze_7 ?_
  refine zlt_el (P := fun (μ2 : ZMem) => V X μ2 10 [(0, .ref (zad y (1, s0, 0))), (1, .int a1), (2, .int a2)] []) h (fun μ2 h => ?_)
  refine V_aload_n X 0 dX9_freeze_10 rfl rfl ?_
  refine V_iload_n X 1 dX9_freeze_11 rfl rfl ?_
  refine V_iload_n X 2 dX9_freeze_12 rfl rfl ?_
  refine V_aload_n X 0 dX9_freeze_13 rfl rfl ?_
  refine V_getr X (o := (1, s0, 0)) (i := (2, s0, 0)) (ci := 7) (k := 0) (N := 11) (T := TX7) (C := RX7) ⟨hs0, rfl⟩ rfl rfl rfl (by decide) (mBa inB_X7) (mB wl_RX9_95) dX9_freeze_14 ?_
  refine V_iload_n X 1 dX9_freeze_17 rfl rfl ?_
  refine V_aald X a1.toNatClampNeg rfl (o := (2, s0, 0)) ⟨hs0, rfl⟩ rfl rfl rfl rfl g1 dX9_freeze_18 ?_
  refine V_geti X (o := (3, s0, a1.toNatClampNeg)) (ci := 5) (k := 7) (N := 11) (T := TX5) (C := RX5) ⟨hs0, zin_lt g1⟩ rfl rfl rfl (by decide) (mBa inB_X5) (mB wl_RX9_149) dX9_freeze_19 ?_
  obtain ⟨μ4, c3, h⟩ := bd_some h
  refine V_callVv X (As := [.int a1, .int a2, .int (μ2 (3, s0, a1.toNatClampNeg) 7)]) (M_X7_note hs0 c3) (cwV 3 X.2.2.2.2.2.2.1 (gV wm_RX9_120 wi_X7_note wse_X7_note win_RX7 wc_X7_note) rfl rfl rfl hd_X7_note ⟨Nat.le_of_ble_eq_true rfl, Nat.le_of_ble_eq_true rfl⟩) (b := (1, s0, 0)) ⟨hs0, rfl⟩ rfl rfl rfl rfl (Nat.le_of_ble_eq_true rfl) dX9_freeze_22 rfl ?_
  exact V_vretW X h dX9_freeze_25

def f_X9_acknowledge (s1 : Nat) (a2 : Int32) (μ : ZMem) : Option (Int32 × ZMem) := bd (lp (σ := Int32 × ZMem) (fun q => un2 q (fun (x1 : Int32) (μ2 : ZMem) => if (μ2 (1, s1, 0) 4) ≤ x1 then some (.inr μ2) else gd (zin x1 8) (zlt (mset μ2 (0, 11, 0) x1.toNatClampNeg (μ2 (3, s1, x1.toNatClampNeg) 5)) (fun (μ6 : ZMem) => some (.inl ((x1 + 1), μ6)))))) FU (0, μ)) (fun (μ3 : ZMem) => bd2 (lp (σ := Int32 × Int32 × ZMem) (fun q => un3 q (fun (x7 : Int32) (x8 : Int32) (μ9 : ZMem) => if (μ9 (1, s1, 0) 4) ≤ x8 then some (.inr (x7, μ9)) else bd (f_X9_nextOf a2 x8) (fun (x14 : Int32) => bd (f_X11_isIn a2 x8) (fun (x16 : Int32) => bd2 (α := Int32) (β := ZMem) (if x16 = 0 then some (x7, μ9) else if x14 = x8 then some (x7, μ9) else gd (zin x14 8) (bd (f_X11_isIn (μ9 (0, 11, 0) x14.toNatClampNeg) x8) (fun (x23 : Int32) => if x23 = 0 then bd (f_X9_nextOf a2 x14) (fun (x26 : Int32) => jk (bd (f_X9_freeze s1 x8 3 μ9) (fun (μ36 : ZMem) => zlt (x7 ||| (f_X11_bit x8)) (fun (x37 : Int32) => some (x37, μ36)))) (fun k28 => if x26 = x8 then k28 else gd (zin x26 8) (bd (f_X11_isIn (μ9 (0, 11, 0) x26.toNatClampNeg) x8) (fun (x31 : Int32) => if x31 = 0 then k28 else gd (zin x8 8) (zlt (mset μ9 (3, s1, x8.toNatClampNeg) 5 ((μ9 (3, s1, x8.toNatClampNeg) 5) &&& ((f_X11_bit x14) ^^^ (-1)))) (fun (μ34 : ZMem) => some (x7, μ34))))))) else some (x7, μ9)))) (fun (x18 : Int32) (μ19 : ZMem) => some (.inl (x18, (x8 + 1), μ19))))))) FU (0, 0, μ3)) (fun (x10 : Int32) (μ11 : ZMem) => some (x10, μ11)))
set_option maxRecDepth 100000 in
set_option maxHeartbeats 4000000 in
theorem M_X9_acknowledge {l : Launch} {D : va_G} {y : ZLay} {s1 : Nat} {a2 : Int32} (hs1 : s1 < 15) {μ : ZMem} {r : Int32} {μ0 : ZMem} (h : f_X9_acknowledge s1 a2 μ = some (r, μ0)) : MI l yX9_acknowledge wb_X9_acknowledge rm_X9_acknowledge D y [.ref (zad y (0, 4, 0)), .ref (zad y (1, s1, 0)), .int a2] μ r μ0 := by
  unfold f_X9_acknowledge at h
  refine MI_of RX9 [(0, .ref (zad y (0, 4, 0))), (1, .ref (zad y (1, s1, 0))), (2, .int a2)] (by decide) rfl rfl (Nat.le_of_ble_eq_true rfl) rfl ?_
  intro p e s m args below meth c A X
  refine V_iconst X 0 dX9_acknowledge_0 (by decide) ?_
  refine V_istore_n X [(3, .int 0), (0, .ref (zad y (0, 4, 0))), (1, .ref (zad y (1, s1, 0))), (2, .int a2)] dX9_acknowledge_1 rfl (by decide) rfl ?_
  refine V_iconst X 0 dX9_acknowledge_2 (by decide) ?_
  refine V_istore X [(4, .int 0), (3, .int 0), (0, .ref (zad y (0, 4, 0))), (1, .ref (zad y (1, s1, 0))), (2, .int a2)] dX9_acknowledge_3 (by decide) rfl ?_
  refine V_sub X [2, 3, 4, 1, 0] (lv' := [(0, .ref (zad y (0, 4, 0))), (1, .ref (zad y (1, s1, 0))), (2, .int a2), (3, .int 0), (4, .int 0)]) rfl ?_
  obtain ⟨μ3, hl, h⟩ := bd_some h
  have hk : V X μ3 37 [(0, .ref (zad y (0, 4, 0))), (1, .ref (zad y (1, s1, 0))), (2, .int a2), (3, .int 0)] [] := by
    clear hl
    refine V_iconst X 0 dX9_acknowledge_37 (by decide) ?_
    refine V_istore X [(4, .int 0), (0, .ref (zad y (0, 4, 0))), (1, .ref (zad y (1, s1, 0))), (2, .int a2), (3, .int 0)] dX9_acknowledge_38 (by decide) rfl ?_
    refine V_sub X [1, 2, 3, 4, 0] (lv' := [(0, .ref (zad y (0, 4, 0))), (1, .ref (zad y (1, s1, 0))), (2, .int a2), (3, .int 0), (4, .int 0)]) rfl ?_
    obtain ⟨x10, μ11, hl, h⟩ := bd2_some h
    have hk : V X μ11 164 [(3, .int x10)] [] := by
      clear hl
      refine V_iload_n X 0 dX9_acknowledge_164 rfl rfl ?_
      exact V_iretW X h dX9_acknowledge_165
    refine lp_ind (P := fun q => V X q.2.2 40 [(0, .ref (zad y (0, 4, 0))), (1, .ref (zad y (1, s1, 0))), (2, .int a2), (3, .int q.1), (4, .int q.2.1)] []) (fun q z h hz => ?_) hl
    obtain ⟨x7, x8, μ9⟩ := q
    replace h := un3_eq h
    show V X μ9 40 [(0, .ref (zad y (0, 4, 0))), (1, .ref (zad y (1, s1, 0))), (2, .int a2), (3, .int x7), (4, .int x8)] []
    refine V_iload X 4 dX9_acknowledge_40 rfl ?_
    refine V_aload_n X 1 dX9_acknowledge_42 rfl rfl ?_
    refine V_geti X (o := (1, s1, 0)) (ci := 7) (k := 4) (N := 11) (T := TX7) (C := RX7) ⟨hs1, rfl⟩ rfl rfl rfl (by decide) (mBa inB_X7) (mB wl_RX9_75) dX9_acknowledge_43 ?_
    refine V_icmp_ge X (tgt := 164) dX9_acknowledge_46 (by decide) (fun b12 => ?_) (fun b12 => ?_)
    · replace h := (if_pos b12).symm.trans h
      refine V_sub X [3] (lv' := [(3, .int x7)]) rfl ?_
      cases h
      obtain ⟨rfl, rfl⟩ := pr2 hz
      exact hk
    · replace h := (if_neg b12).symm.trans h
      refine V_iload_n X 2 dX9_acknowledge_49 rfl rfl ?_
      refine V_iload X 4 dX9_acknowledge_50 rfl ?_
      obtain ⟨x14, c13, h⟩ := bd_some h
      refine V_callSi X (As := [.int a2, .int x8]) (M_X9_nextOf c13) (va_cwS 2 X.2.2.2.2.2.2.1 (gS wm_RX9_152 wst_X9_nextOf win_RX9 wc_X9_nextOf) rfl rfl rfl hd_X9_nextOf.2 ⟨Nat.le_of_ble_eq_true rfl, Nat.le_of_ble_eq_true rfl⟩) rfl (Nat.le_of_ble_eq_true rfl) dX9_acknowledge_52 rfl ?_
      refine V_istore X [(5, .int x14), (0, .ref (zad y (0, 4, 0))), (1, .ref (zad y (1, s1, 0))), (2, .int a2), (3, .int x7), (4, .int x8)] dX9_acknowledge_55 (by decide) rfl ?_
      refine V_iload_n X 3 dX9_acknowledge_57 rfl rfl ?_
      refine V_iload X 5 dX9_acknowledge_58 rfl ?_
      obtain ⟨x16, c15, h⟩ := bd_some h
      refine V_callSNi X (As := [.int a2, .int x8]) (M_X11_isIn c15) ⟨va_cnB (host := "SlotCluster") 2 X.2.2.2.2.2.2.1 (gN wc_X11_isIn) rfl rfl rfl (X.2.2.2.2.2.2.2.2.1 _ (List.mem_of_getElem? wn_RX9_78)) (X.2.2.2.2.2.2.1 (.initialized RX11) (mB win_RX11)) hd_X11_isIn.2 ⟨Nat.le_of_ble_eq_true rfl, Nat.le_of_ble_eq_true rfl⟩, X.2.2.2.2.2.2.1 (.static yX11_isIn) (mB wst_X11_isIn), trivial⟩ rfl (Nat.le_of_ble_eq_true rfl) dX9_acknowledge_60 rfl ?_
      obtain ⟨x18, μ19, h1, h⟩ := bd2_some h
      have hk : V X μ19 158 [(0, .ref (zad y (0, 4, 0))), (1, .ref (zad y (1, s1, 0))), (2, .int a2), (3, .int x18), (4, .int x8)] [] := by
        clear h1
        refine V_inc X 4 1 [(4, .int (x8 + 1)), (0, .ref (zad y (0, 4, 0))), (1, .ref (zad y (1, s1, 0))), (2, .int a2), (3, .int x18)] dX9_acknowledge_158 rfl (by decide) (by decide) rfl ?_
        refine V_goto X (tgt := 40) dX9_acknowledge_161 (by decide) ?_
        refine V_sub X [1, 2, 3, 4, 0] (lv' := [(0, .ref (zad y (0, 4, 0))), (1, .ref (zad y (1, s1, 0))), (2, .int a2), (3, .int x18), (4, .int (x8 + 1))]) rfl ?_
        cases h
        exact hz
      replace h := h1
      clear h1
      refine V_if_eq X (tgt := 158) dX9_acknowledge_63 (by decide) (fun b17 => ?_) (fun b17 => ?_)
      · replace h := (if_pos b17).symm.trans h
        refine V_sub X [1, 2, 3, 4, 5] (lv' := [(0, .ref (zad y (0, 4, 0))), (1, .ref (zad y (1, s1, 0))), (2, .int a2), (3, .int x7), (4, .int x8)]) rfl ?_
        obtain ⟨rfl, rfl⟩ := so2 h
        exact hk
      · replace h := (if_neg b17).symm.trans h
        refine V_iload X 0 dX9_acknowledge_66 rfl ?_
        refine V_iload X 5 dX9_acknowledge_68 rfl ?_
        refine V_icmp_eq X (tgt := 158) dX9_acknowledge_70 (by decide) (fun b20 => ?_) (fun b20 => ?_)
        · replace h := (if_pos b20).symm.trans h
          refine V_sub X [1, 2, 3, 4, 5] (lv' := [(0, .ref (zad y (0, 4, 0))), (1, .ref (zad y (1, s1, 0))), (2, .int a2), (3, .int x7), (4, .int x8)]) rfl ?_
          obtain ⟨rfl, rfl⟩ := so2 h
          exact hk
        · replace h := (if_neg b20).symm.trans h
          refine V_aload_n X 1 dX9_acknowledge_73 rfl rfl ?_
          refine V_getr X (o := (0, 4, 0)) (i := (0, 11, 0)) (ci := 9) (k := 1) (N := 2) (T := TX9) (C := RX9) ⟨by decide, rfl⟩ rfl rfl rfl (by decide) (mBa inB_X9) (mB wl_RX9_18) dX9_acknowledge_74 ?_
          refine V_iload X 0 dX9_acknowledge_77 rfl ?_
          obtain ⟨g21, h⟩ := gd_some h
          refine V_iald X x14.toNatClampNeg rfl (o := (0, 11, 0)) (n := 8) ⟨by decide, rfl⟩ rfl rfl g21 dX9_acknowledge_79 ?_
          refine V_iload X 5 dX9_acknowledge_80 rfl ?_
          obtain ⟨x23, c22, h⟩ := bd_some h
          refine V_callSNi X (As := [.int (μ9 (0, 11, 0) x14.toNatClampNeg), .int x8]) (M_X11_isIn c22) ⟨va_cnB (host := "SlotCluster") 2 X.2.2.2.2.2.2.1 (gN wc_X11_isIn) rfl rfl rfl (X.2.2.2.2.2.2.2.2.1 _ (List.mem_of_getElem? wn_RX9_78)) (X.2.2.2.2.2.2.1 (.initialized RX11) (mB win_RX11)) hd_X11_isIn.2 ⟨Nat.le_of_ble_eq_true rfl, Nat.le_of_ble_eq_true rfl⟩, X.2.2.2.2.2.2.1 (.static yX11_isIn) (mB wst_X11_isIn), trivial⟩ rfl (Nat.le_of_ble_eq_true rfl) dX9_acknowledge_82 rfl ?_
          refine V_if_ne X (tgt := 158) dX9_acknowledge_85 (by decide) (fun b24 => ?_) (fun b24 => ?_)
          · replace h := (if_neg b24).symm.trans h
            refine V_sub X [1, 2, 3, 4, 5] (lv' := [(0, .ref (zad y (0, 4, 0))), (1, .ref (zad y (1, s1, 0))), (2, .int a2), (3, .int x7), (4, .int x8)]) rfl ?_
            obtain ⟨rfl, rfl⟩ := so2 h
            exact hk
          · replace h := (if_pos b24).symm.trans h
            refine V_iload_n X 3 dX9_acknowledge_88 rfl rfl ?_
            refine V_iload X 0 dX9_acknowledge_89 rfl ?_
            obtain ⟨x26, c25, h⟩ := bd_some h
            refine V_callSi X (As := [.int a2, .int x14]) (M_X9_nextOf c25) (va_cwS 2 X.2.2.2.2.2.2.1 (gS wm_RX9_152 wst_X9_nextOf win_RX9 wc_X9_nextOf) rfl rfl rfl hd_X9_nextOf.2 ⟨Nat.le_of_ble_eq_true rfl, Nat.le_of_ble_eq_true rfl⟩) rfl (Nat.le_of_ble_eq_true rfl) dX9_acknowledge_91 rfl ?_
            refine V_istore X [(6, .int x26), (5, .int x14), (0, .ref (zad y (0, 4, 0))), (1, .ref (zad y (1, s1, 0))), (2, .int a2), (3, .int x7), (4, .int x8)] dX9_acknowledge_94 (by decide) rfl ?_
            refine V_iload X 0 dX9_acknowledge_96 rfl ?_
            refine V_iload X 6 dX9_acknowledge_98 rfl ?_
            refine jk0_el (P := V X μ9 143 [(0, .ref (zad y (0, 4, 0))), (1, .ref (zad y (1, s1, 0))), (2, .int a2), (3, .int x7), (4, .int x8)] []) h (fun h => ?_) (fun k28 hk28 h => ?_)
            · refine V_aload_n X 1 dX9_acknowledge_143 rfl rfl ?_
              refine V_iload X 4 dX9_acknowledge_144 rfl ?_
              refine V_iconst X 3 dX9_acknowledge_146 (by decide) ?_
              obtain ⟨μ36, c35, h⟩ := bd_some h
              refine V_callSv X (As := [.ref (zad y (1, s1, 0)), .int x8, .int 3]) (M_X9_freeze hs1 c35) (va_cwS 3 X.2.2.2.2.2.2.1 (gS wm_RX9_155 wst_X9_freeze win_RX9 wc_X9_freeze) rfl rfl rfl hd_X9_freeze.2 ⟨Nat.le_of_ble_eq_true rfl, Nat.le_of_ble_eq_true rfl⟩) rfl (Nat.le_of_ble_eq_true rfl) dX9_acknowledge_147 rfl ?_
              refine V_iload_n X 3 dX9_acknowledge_150 rfl rfl ?_
              refine V_iload X 4 dX9_acknowledge_151 rfl ?_
              refine V_callSNi X (As := [.int x8]) (M_X11_bit) ⟨va_cnB (host := "SlotCluster") 1 X.2.2.2.2.2.2.1 (gN wc_X11_bit) rfl rfl rfl (X.2.2.2.2.2.2.2.2.1 _ (List.mem_of_getElem? wn_RX9_92)) (X.2.2.2.2.2.2.1 (.initialized RX11) (mB win_RX11)) hd_X11_bit.2 ⟨Nat.le_of_ble_eq_true rfl, Nat.le_of_ble_eq_true rfl⟩, X.2.2.2.2.2.2.1 (.static yX11_bit) (mB wst_X11_bit), trivial⟩ rfl (Nat.le_of_ble_eq_true rfl) dX9_acknowledge_153 rfl ?_
              refine V_ior X dX9_acknowledge_156 ?_
              refine V_istore_n X [(3, .int (x7 ||| (f_X11_bit x8))), (0, .ref (zad y (0, 4, 0))), (1, .ref (zad y (1, s1, 0))), (2, .int a2), (4, .int x8)] dX9_acknowledge_157 rfl (by decide) rfl ?_
              refine zlt_el (P := fun (x37 : Int32) => V X μ36 158 [(3, .int x37), (0, .ref (zad y (0, 4, 0))), (1, .ref (zad y (1, s1, 0))), (2, .int a2), (4, .int x8)] []) h (fun x37 h => ?_)
              refine V_sub X [1, 2, 3, 0, 4] (lv' := [(0, .ref (zad y (0, 4, 0))), (1, .ref (zad y (1, s1, 0))), (2, .int a2), (3, .int x37), (4, .int x8)]) rfl ?_
              obtain ⟨rfl, rfl⟩ := so2 h
              exact hk
            · refine V_icmp_eq X (tgt := 143) dX9_acknowledge_100 (by decide) (fun b27 => ?_) (fun b27 => ?_)
              · replace h := (if_pos b27).symm.trans h
                refine V_sub X [2, 3, 4, 5, 6] (lv' := [(0, .ref (zad y (0, 4, 0))), (1, .ref (zad y (1, s1, 0))), (2, .int a2), (3, .int x7), (4, .int x8)]) rfl ?_
                exact hk28 h
              · replace h := (if_neg b27).symm.trans h
                refine V_aload_n X 2 dX9_acknowledge_103 rfl rfl ?_
                refine V_getr X (o := (0, 4, 0)) (i := (0, 11, 0)) (ci := 9) (k := 1) (N := 2) (T := TX9) (C := RX9) ⟨by decide, rfl⟩ rfl rfl rfl (by decide) (mBa inB_X9) (mB wl_RX9_18) dX9_acknowledge_104 ?_
                refine V_iload X 0 dX9_acknowledge_107 rfl ?_
                obtain ⟨g29, h⟩ := gd_some h
                refine V_iald X x26.toNatClampNeg rfl (o := (0, 11, 0)) (n := 8) ⟨by decide, rfl⟩ rfl rfl g29 dX9_acknowledge_109 ?_
                refine V_iload X 6 dX9_acknowledge_110 rfl ?_
                obtain ⟨x31, c30, h⟩ := bd_some h
                refine V_callSNi X (As := [.int (μ9 (0, 11, 0) x26.toNatClampNeg), .int x8]) (M_X11_isIn c30) ⟨va_cnB (host := "SlotCluster") 2 X.2.2.2.2.2.2.1 (gN wc_X11_isIn) rfl rfl rfl (X.2.2.2.2.2.2.2.2.1 _ (List.mem_of_getElem? wn_RX9_78)) (X.2.2.2.2.2.2.1 (.initialized RX11) (mB win_RX11)) hd_X11_isIn.2 ⟨Nat.le_of_ble_eq_true rfl, Nat.le_of_ble_eq_true rfl⟩, X.2.2.2.2.2.2.1 (.static yX11_isIn) (mB wst_X11_isIn), trivial⟩ rfl (Nat.le_of_ble_eq_true rfl) dX9_acknowledge_112 rfl ?_
                refine V_if_eq X (tgt := 143) dX9_acknowledge_115 (by decide) (fun b32 => ?_) (fun b32 => ?_)
                · replace h := (if_pos b32).symm.trans h
                  refine V_sub X [2, 3, 4, 5, 6] (lv' := [(0, .ref (zad y (0, 4, 0))), (1, .ref (zad y (1, s1, 0))), (2, .int a2), (3, .int x7), (4, .int x8)]) rfl ?_
                  exact hk28 h
                · replace h := (if_neg b32).symm.trans h
                  refine V_aload_n X 3 dX9_acknowledge_118 rfl rfl ?_
                  refine V_getr X (o := (1, s1, 0)) (i := (2, s1, 0)) (ci := 7) (k := 0) (N := 11) (T := TX7) (C := RX7) ⟨hs1, rfl⟩ rfl rfl rfl (by decide) (mBa inB_X7) (mB wl_RX9_95) dX9_acknowledge_119 ?_
                  refine V_iload X 6 dX9_acknowledge_122 rfl ?_
                  obtain ⟨g33, h⟩ := gd_some h
                  refine V_aald X x8.toNatClampNeg rfl (o := (2, s1, 0)) ⟨hs1, rfl⟩ rfl rfl rfl rfl g33 dX9_acknowledge_124 ?_
                  refine V_dup X dX9_acknowledge_125 rfl ?_
                  refine V_geti X (o := (3, s1, x8.toNatClampNeg)) (ci := 5) (k := 5) (N := 11) (T := TX5) (C := RX5) ⟨hs1, zin_lt g33⟩ rfl rfl rfl (by decide) (mBa inB_X5) (mB wl_RX9_124) dX9_acknowledge_126 ?_
                  refine V_iload X 1 dX9_acknowledge_129 rfl ?_
                  refine V_callSNi X (As := [.int x14]) (M_X11_bit) ⟨va_cnB (host := "SlotCluster") 1 X.2.2.2.2.2.2.1 (gN wc_X11_bit) rfl rfl rfl (X.2.2.2.2.2.2.2.2.1 _ (List.mem_of_getElem? wn_RX9_92)) (X.2.2.2.2.2.2.1 (.initialized RX11) (mB win_RX11)) hd_X11_bit.2 ⟨Nat.le_of_ble_eq_true rfl, Nat.le_of_ble_eq_true rfl⟩, X.2.2.2.2.2.2.1 (.static yX11_bit) (mB wst_X11_bit), trivial⟩ rfl (Nat.le_of_ble_eq_true rfl) dX9_acknowledge_131 rfl ?_
                  refine V_iconst X (-1) dX9_acknowledge_134 (by decide) ?_
                  refine V_ixor X dX9_acknowledge_135 ?_
                  refine V_iand X dX9_acknowledge_136 ?_
                  refine V_puti X tyX5 .int (o := (3, s1, x8.toNatClampNeg)) (ci := 5) (k := 5) (N := 11) (T := TX5) (C := RX5) ⟨hs1, zin_lt g33⟩ rfl rfl rfl (by decide) (mBa inB_X5) tyX5_ok nmX5 (mB wl_RX9_124) rfl rfl rfl rfl dX9_acknowledge_137 ?_
                  refine zlt_el (P := fun (μ34 : ZMem) => V X μ34 140 [(6, .int x26), (5, .int x14), (0, .ref (zad y (0, 4, 0))), (1, .ref (zad y (1, s1, 0))), (2, .int a2), (3, .int x7), (4, .int x8)] []) h (fun μ34 h => ?_)
                  refine V_goto X (tgt := 158) dX9_acknowledge_140 (by decide) ?_
                  refine V_sub X [2, 3, 4, 5, 6] (lv' := [(0, .ref (zad y (0, 4, 0))), (1, .ref (zad y (1, s1, 0))), (2, .int a2), (3, .int x7), (4, .int x8)]) rfl ?_
                  obtain ⟨rfl, rfl⟩ := so2 h
                  exact hk
  refine lp_ind (P := fun q => V X q.2 5 [(0, .ref (zad y (0, 4, 0))), (1, .ref (zad y (1, s1, 0))), (2, .int a2), (3, .int 0), (4, .int q.1)] []) (fun q z h hz => ?_) hl
  obtain ⟨x1, μ2⟩ := q
  replace h := un2_eq h
  show V X μ2 5 [(0, .ref (zad y (0, 4, 0))), (1, .ref (zad y (1, s1, 0))), (2, .int a2), (3, .int 0), (4, .int x1)] []
  refine V_iload X 4 dX9_acknowledge_5 rfl ?_
  refine V_aload_n X 1 dX9_acknowledge_7 rfl rfl ?_
  refine V_geti X (o := (1, s1, 0)) (ci := 7) (k := 4) (N := 11) (T := TX7) (C := RX7) ⟨hs1, rfl⟩ rfl rfl rfl (by decide) (mBa inB_X7) (mB wl_RX9_75) dX9_acknowledge_8 ?_
  refine V_icmp_ge X (tgt := 37) dX9_acknowledge_11 (by decide) (fun b4 => ?_) (fun b4 => ?_)
  · replace h := (if_pos b4).symm.trans h
    refine V_sub X [0, 1, 2, 3] (lv' := [(0, .ref (zad y (0, 4, 0))), (1, .ref (zad y (1, s1, 0))), (2, .int a2), (3, .int 0)]) rfl ?_
    cases h
    obtain rfl := pr1 hz
    exact hk
  · replace h := (if_neg b4).symm.trans h
    refine V_aload_n X 0 dX9_acknowledge_14 rfl rfl ?_
    refine V_getr X (o := (0, 4, 0)) (i := (0, 11, 0)) (ci := 9) (k := 1) (N := 2) (T := TX9) (C := RX9) ⟨by decide, rfl⟩ rfl rfl rfl (by decide) (mBa inB_X9) (mB wl_RX9_18) dX9_acknowledge_15 ?_
    refine V_iload X 4 dX9_acknowledge_18 rfl ?_
    refine V_aload_n X 1 dX9_acknowledge_20 rfl rfl ?_
    refine V_getr X (o := (1, s1, 0)) (i := (2, s1, 0)) (ci := 7) (k := 0) (N := 11) (T := TX7) (C := RX7) ⟨hs1, rfl⟩ rfl rfl rfl (by decide) (mBa inB_X7) (mB wl_RX9_95) dX9_acknowledge_21 ?_
    refine V_iload X 4 dX9_acknowledge_24 rfl ?_
    obtain ⟨g5, h⟩ := gd_some h
    refine V_aald X x1.toNatClampNeg rfl (o := (2, s1, 0)) ⟨hs1, rfl⟩ rfl rfl rfl rfl g5 dX9_acknowledge_26 ?_
    refine V_geti X (o := (3, s1, x1.toNatClampNeg)) (ci := 5) (k := 5) (N := 11) (T := TX5) (C := RX5) ⟨hs1, zin_lt g5⟩ rfl rfl rfl (by decide) (mBa inB_X5) (mB wl_RX9_124) dX9_acknowledge_27 ?_
    refine V_iast X x1.toNatClampNeg rfl (o := (0, 11, 0)) (n := 8) ⟨by decide, rfl⟩ rfl rfl g5 dX9_acknowledge_30 ?_
    refine zlt_el (P := fun (μ6 : ZMem) => V X μ6 31 [(0, .ref (zad y (0, 4, 0))), (1, .ref (zad y (1, s1, 0))), (2, .int a2), (3, .int 0), (4, .int x1)] []) h (fun μ6 h => ?_)
    refine V_inc X 4 1 [(4, .int (x1 + 1)), (0, .ref (zad y (0, 4, 0))), (1, .ref (zad y (1, s1, 0))), (2, .int a2), (3, .int 0)] dX9_acknowledge_31 rfl (by decide) (by decide) rfl ?_
    refine V_goto X (tgt := 5) dX9_acknowledge_34 (by decide) ?_
    refine V_sub X [1, 2, 3, 4, 0] (lv' := [(0, .ref (zad y (0, 4, 0))), (1, .ref (zad y (1, s1, 0))), (2, .int a2), (3, .int 0), (4, .int (x1 + 1))]) rfl ?_
    cases h
    exact hz

def f_X9_outvote (s0 : Nat) (a1 : Int32) (μ : ZMem) : Option (Int32 × ZMem) := bd2 (lp (σ := Int32 × Int32 × ZMem) (fun q => un3 q (fun (x1 : Int32) (x2 : Int32) (μ3 : ZMem) => if (μ3 (1, s0, 0) 4) ≤ x2 then some (.inr (x1, μ3)) else gd (zin x2 8) (bd (f_X11_isIn a1 x2) (fun (x9 : Int32) => bd2 (α := Int32) (β := ZMem) (if x9 = 0 then some (x1, μ3) else if (μ3 (3, s0, x2.toNatClampNeg) 7) ≤ 0 then some (x1, μ3) else if (μ3 (3, s0, x2.toNatClampNeg) 7) < (μ3 (3, s0, x2.toNatClampNeg) 6) then some (x1, μ3) else bd (f_X9_freeze s0 x2 4 μ3) (fun (μ16 : ZMem) => zlt (x1 ||| (f_X11_bit x2)) (fun (x17 : Int32) => some (x17, μ16)))) (fun (x11 : Int32) (μ12 : ZMem) => some (.inl (x11, (x2 + 1), μ12))))))) FU (0, 0, μ)) (fun (x4 : Int32) (μ5 : ZMem) => some (x4, μ5))
set_option maxRecDepth 100000 in
set_option maxHeartbeats 4000000 in
theorem M_X9_outvote {l : Launch} {D : va_G} {y : ZLay} {s0 : Nat} {a1 : Int32} (hs0 : s0 < 15) {μ : ZMem} {r : Int32} {μ0 : ZMem} (h : f_X9_outvote s0 a1 μ = some (r, μ0)) : MI l yX9_outvote wb_X9_outvote rm_X9_outvote D y [.ref (zad y (1, s0, 0)), .int a1] μ r μ0 := by
  unfold f_X9_outvote at h
  refine MI_of RX9 [(0, .ref (zad y (1, s0, 0))), (1, .int a1)] (by decide) rfl rfl (Nat.le_of_ble_eq_true rfl) rfl ?_
  intro p e s m args below meth c A X
  refine V_iconst X 0 dX9_outvote_0 (by decide) ?_
  refine V_istore_n X [(2, .int 0), (0, .ref (zad y (1, s0, 0))), (1, .int a1)] dX9_outvote_1 rfl (by decide) rfl ?_
  refine V_iconst X 0 dX9_outvote_2 (by decide) ?_
  refine V_istore_n X [(3, .int 0), (2, .int 0), (0, .ref (zad y (1, s0, 0))), (1, .int a1)] dX9_outvote_3 rfl (by decide) rfl ?_
  refine V_sub X [2, 3, 1, 0] (lv' := [(0, .ref (zad y (1, s0, 0))), (1, .int a1), (2, .int 0), (3, .int 0)]) rfl ?_
  obtain ⟨x4, μ5, hl, h⟩ := bd2_some h
  have hk : V X μ5 68 [(2, .int x4)] [] := by
    clear hl
    refine V_iload_n X 0 dX9_outvote_68 rfl rfl ?_
    exact V_iretW X h dX9_outvote_69
  refine lp_ind (P := fun q => V X q.2.2 4 [(0, .ref (zad y (1, s0, 0))), (1, .int a1), (2, .int q.1), (3, .int q.2.1)] []) (fun q z h hz => ?_) hl
  obtain ⟨x1, x2, μ3⟩ := q
  replace h := un3_eq h
  show V X μ3 4 [(0, .ref (zad y (1, s0, 0))), (1, .int a1), (2, .int x1), (3, .int x2)] []
  refine V_iload_n X 3 dX9_outvote_4 rfl rfl ?_
  refine V_aload_n X 0 dX9_outvote_5 rfl rfl ?_
  refine V_geti X (o := (1, s0, 0)) (ci := 7) (k := 4) (N := 11) (T := TX7) (C := RX7) ⟨hs0, rfl⟩ rfl rfl rfl (by decide) (mBa inB_X7) (mB wl_RX9_75) dX9_outvote_6 ?_
  refine V_icmp_ge X (tgt := 68) dX9_outvote_9 (by decide) (fun b6 => ?_) (fun b6 => ?_)
  · replace h := (if_pos b6).symm.trans h
    refine V_sub X [2] (lv' := [(2, .int x1)]) rfl ?_
    cases h
    obtain ⟨rfl, rfl⟩ := pr2 hz
    exact hk
  · replace h := (if_neg b6).symm.trans h
    refine V_aload_n X 0 dX9_outvote_12 rfl rfl ?_
    refine V_getr X (o := (1, s0, 0)) (i := (2, s0, 0)) (ci := 7) (k := 0) (N := 11) (T := TX7) (C := RX7) ⟨hs0, rfl⟩ rfl rfl rfl (by decide) (mBa inB_X7) (mB wl_RX9_95) dX9_outvote_13 ?_
    refine V_iload_n X 3 dX9_outvote_16 rfl rfl ?_
    obtain ⟨g7, h⟩ := gd_some h
    refine V_aald X x2.toNatClampNeg rfl (o := (2, s0, 0)) ⟨hs0, rfl⟩ rfl rfl rfl rfl g7 dX9_outvote_17 ?_
    refine V_astore X [(4, .ref (zad y (3, s0, x2.toNatClampNeg))), (0, .ref (zad y (1, s0, 0))), (1, .int a1), (2, .int x1), (3, .int x2)] dX9_outvote_18 (by decide) rfl ?_
    refine V_iload_n X 2 dX9_outvote_20 rfl rfl ?_
    refine V_iload_n X 4 dX9_outvote_21 rfl rfl ?_
    obtain ⟨x9, c8, h⟩ := bd_some h
    refine V_callSNi X (As := [.int a1, .int x2]) (M_X11_isIn c8) ⟨va_cnB (host := "SlotCluster") 2 X.2.2.2.2.2.2.1 (gN wc_X11_isIn) rfl rfl rfl (X.2.2.2.2.2.2.2.2.1 _ (List.mem_of_getElem? wn_RX9_78)) (X.2.2.2.2.2.2.1 (.initialized RX11) (mB win_RX11)) hd_X11_isIn.2 ⟨Nat.le_of_ble_eq_true rfl, Nat.le_of_ble_eq_true rfl⟩, X.2.2.2.2.2.2.1 (.static yX11_isIn) (mB wst_X11_isIn), trivial⟩ rfl (Nat.le_of_ble_eq_true rfl) dX9_outvote_22 rfl ?_
    obtain ⟨x11, μ12, h1, h⟩ := bd2_some h
    have hk : V X μ12 62 [(0, .ref (zad y (1, s0, 0))), (1, .int a1), (2, .int x11), (3, .int x2)] [] := by
      clear h1
      refine V_inc X 3 1 [(3, .int (x2 + 1)), (0, .ref (zad y (1, s0, 0))), (1, .int a1), (2, .int x11)] dX9_outvote_62 rfl (by decide) (by decide) rfl ?_
      refine V_goto X (tgt := 4) dX9_outvote_65 (by decide) ?_
      refine V_sub X [1, 2, 3, 0] (lv' := [(0, .ref (zad y (1, s0, 0))), (1, .int a1), (2, .int x11), (3, .int (x2 + 1))]) rfl ?_
      cases h
      exact hz
    replace h := h1
    clear h1
    refine V_if_eq X (tgt := 62) dX9_outvote_25 (by decide) (fun b10 => ?_) (fun b10 => ?_)
    · replace h := (if_pos b10).symm.trans h
      refine V_sub X [1, 2, 3, 4] (lv' := [(0, .ref (zad y (1, s0, 0))), (1, .int a1), (2, .int x1), (3, .int x2)]) rfl ?_
      obtain ⟨rfl, rfl⟩ := so2 h
      exact hk
    · replace h := (if_neg b10).symm.trans h
      refine V_aload X 0 dX9_outvote_28 rfl ?_
      refine V_geti X (o := (3, s0, x2.toNatClampNeg)) (ci := 5) (k := 7) (N := 11) (T := TX5) (C := RX5) ⟨hs0, zin_lt g7⟩ rfl rfl rfl (by decide) (mBa inB_X5) (mB wl_RX9_149) dX9_outvote_30 ?_
      refine V_if_le X (tgt := 62) dX9_outvote_33 (by decide) (fun b13 => ?_) (fun b13 => ?_)
      · replace h := (if_pos b13).symm.trans h
        refine V_sub X [1, 2, 3, 4] (lv' := [(0, .ref (zad y (1, s0, 0))), (1, .int a1), (2, .int x1), (3, .int x2)]) rfl ?_
        obtain ⟨rfl, rfl⟩ := so2 h
        exact hk
      · replace h := (if_neg b13).symm.trans h
        refine V_aload X 0 dX9_outvote_36 rfl ?_
        refine V_geti X (o := (3, s0, x2.toNatClampNeg)) (ci := 5) (k := 6) (N := 11) (T := TX5) (C := RX5) ⟨hs0, zin_lt g7⟩ rfl rfl rfl (by decide) (mBa inB_X5) (mB wl_RX9_146) dX9_outvote_38 ?_
        refine V_aload X 0 dX9_outvote_41 rfl ?_
        refine V_geti X (o := (3, s0, x2.toNatClampNeg)) (ci := 5) (k := 7) (N := 11) (T := TX5) (C := RX5) ⟨hs0, zin_lt g7⟩ rfl rfl rfl (by decide) (mBa inB_X5) (mB wl_RX9_149) dX9_outvote_43 ?_
        refine V_icmp_gt X (tgt := 62) dX9_outvote_46 (by decide) (fun b14 => ?_) (fun b14 => ?_)
        · replace h := (if_pos b14).symm.trans h
          refine V_sub X [1, 2, 3, 4] (lv' := [(0, .ref (zad y (1, s0, 0))), (1, .int a1), (2, .int x1), (3, .int x2)]) rfl ?_
          obtain ⟨rfl, rfl⟩ := so2 h
          exact hk
        · replace h := (if_neg b14).symm.trans h
          refine V_aload_n X 1 dX9_outvote_49 rfl rfl ?_
          refine V_iload_n X 4 dX9_outvote_50 rfl rfl ?_
          refine V_iconst X 4 dX9_outvote_51 (by decide) ?_
          obtain ⟨μ16, c15, h⟩ := bd_some h
          refine V_callSv X (As := [.ref (zad y (1, s0, 0)), .int x2, .int 4]) (M_X9_freeze hs0 c15) (va_cwS 3 X.2.2.2.2.2.2.1 (gS wm_RX9_155 wst_X9_freeze win_RX9 wc_X9_freeze) rfl rfl rfl hd_X9_freeze.2 ⟨Nat.le_of_ble_eq_true rfl, Nat.le_of_ble_eq_true rfl⟩) rfl (Nat.le_of_ble_eq_true rfl) dX9_outvote_52 rfl ?_
          refine V_iload_n X 3 dX9_outvote_55 rfl rfl ?_
          refine V_iload_n X 4 dX9_outvote_56 rfl rfl ?_
          refine V_callSNi X (As := [.int x2]) (M_X11_bit) ⟨va_cnB (host := "SlotCluster") 1 X.2.2.2.2.2.2.1 (gN wc_X11_bit) rfl rfl rfl (X.2.2.2.2.2.2.2.2.1 _ (List.mem_of_getElem? wn_RX9_92)) (X.2.2.2.2.2.2.1 (.initialized RX11) (mB win_RX11)) hd_X11_bit.2 ⟨Nat.le_of_ble_eq_true rfl, Nat.le_of_ble_eq_true rfl⟩, X.2.2.2.2.2.2.1 (.static yX11_bit) (mB wst_X11_bit), trivial⟩ rfl (Nat.le_of_ble_eq_true rfl) dX9_outvote_57 rfl ?_
          refine V_ior X dX9_outvote_60 ?_
          refine V_istore_n X [(2, .int (x1 ||| (f_X11_bit x2))), (4, .ref (zad y (3, s0, x2.toNatClampNeg))), (0, .ref (zad y (1, s0, 0))), (1, .int a1), (3, .int x2)] dX9_outvote_61 rfl (by decide) rfl ?_
          refine zlt_el (P := fun (x17 : Int32) => V X μ16 62 [(2, .int x17), (4, .ref (zad y (3, s0, x2.toNatClampNeg))), (0, .ref (zad y (1, s0, 0))), (1, .int a1), (3, .int x2)] []) h (fun x17 h => ?_)
          refine V_sub X [2, 3, 0, 4] (lv' := [(0, .ref (zad y (1, s0, 0))), (1, .int a1), (2, .int x17), (3, .int x2)]) rfl ?_
          obtain ⟨rfl, rfl⟩ := so2 h
          exact hk

def f_X11_sort (y : ZLay) (o0 : ZId) (a1 : Int32) (μ : ZMem) : Option (ZMem) := bd (lp (σ := Int32 × ZMem) (fun q => un2 q (fun (x1 : Int32) (μ2 : ZMem) => if a1 ≤ x1 then some (.inr μ2) else if (Int32.ofNat (zlen y o0)) ≤ x1 then some (.inr μ2) else gd (zin x1 (zlen y o0)) (zlt (μ2 o0 x1.toNatClampNeg) (fun (x7 : Int32) => zlt (x1 - 1) (fun (x8 : Int32) => bd2 (lp (σ := Int32 × Int32 × ZMem) (fun q => un3 q (fun (x9 : Int32) (x10 : Int32) (μ11 : ZMem) => if x10 < 0 then some (.inr (x9, μ11)) else gd (zin x10 (zlen y o0)) (if (μ11 o0 x10.toNatClampNeg) ≤ x7 then some (.inr (x9, μ11)) else gd (zin (x10 + 1) (zlen y o0)) (zlt (mset μ11 o0 (x10 + 1).toNatClampNeg (μ11 o0 x10.toNatClampNeg)) (fun (μ18 : ZMem) => some (.inl (x10, (x10 + (-1)), μ18))))))) FU (x1, x8, μ2)) (fun (x12 : Int32) (μ13 : ZMem) => gd (zin x12 (zlen y o0)) (zlt (mset μ13 o0 x12.toNatClampNeg x7) (fun (μ20 : ZMem) => some (.inl ((x1 + 1), μ20)))))))))) FU (1, μ)) (fun (μ3 : ZMem) => some μ3)
set_option maxRecDepth 100000 in
set_option maxHeartbeats 4000000 in
theorem M_X11_sort {l : Launch} {D : va_G} {y : ZLay} {o0 : ZId} {a1 : Int32} (ho0 : okI y o0) (hz0 : zisI o0 = true) {μ : ZMem} {μ0 : ZMem} (h : f_X11_sort y o0 a1 μ = some μ0) : MV l yX11_sort wb_X11_sort rm_X11_sort D y [.ref (zad y o0), .int a1] μ μ0 := by
  unfold f_X11_sort at h
  refine MV_of RX11 [(0, .ref (zad y o0)), (1, .int a1)] (by decide) rfl rfl (Nat.le_of_ble_eq_true rfl) rfl ?_
  intro p e s m args below meth c A X
  refine V_iconst X 1 dX11_sort_0 (by decide) ?_
  refine V_istore_n X [(2, .int 1), (0, .ref (zad y o0)), (1, .int a1)] dX11_sort_1 rfl (by decide) rfl ?_
  refine V_sub X [1, 2, 0] (lv' := [(0, .ref (zad y o0)), (1, .int a1), (2, .int 1)]) rfl ?_
  obtain ⟨μ3, hl, h⟩ := bd_some h
  have hk : V X μ3 69 [] [] := by
    clear hl
    exact V_vretW X h dX11_sort_69
  refine lp_ind (P := fun q => V X q.2 2 [(0, .ref (zad y o0)), (1, .int a1), (2, .int q.1)] []) (fun q z h hz => ?_) hl
  obtain ⟨x1, μ2⟩ := q
  replace h := un2_eq h
  show V X μ2 2 [(0, .ref (zad y o0)), (1, .int a1), (2, .int x1)] []
  refine V_iload_n X 2 dX11_sort_2 rfl rfl ?_
  refine V_iload_n X 1 dX11_sort_3 rfl rfl ?_
  refine V_icmp_ge X (tgt := 69) dX11_sort_4 (by decide) (fun b4 => ?_) (fun b4 => ?_)
  · replace h := (if_pos b4).symm.trans h
    refine V_sub X [] (lv' := []) rfl ?_
    cases h
    obtain rfl := pr1 hz
    exact hk
  · replace h := (if_neg b4).symm.trans h
    refine V_iload_n X 2 dX11_sort_7 rfl rfl ?_
    refine V_aload_n X 0 dX11_sort_8 rfl rfl ?_
    refine V_alen X (Int32.ofNat (zlen y o0)) (o := o0) (n := (zlen y o0)) ho0 hz0 rfl rfl dX11_sort_9 ?_
    refine V_icmp_ge X (tgt := 69) dX11_sort_10 (by decide) (fun b5 => ?_) (fun b5 => ?_)
    · replace h := (if_pos b5).symm.trans h
      refine V_sub X [] (lv' := []) rfl ?_
      cases h
      obtain rfl := pr1 hz
      exact hk
    · replace h := (if_neg b5).symm.trans h
      refine V_aload_n X 0 dX11_sort_13 rfl rfl ?_
      refine V_iload_n X 2 dX11_sort_14 rfl rfl ?_
      obtain ⟨g6, h⟩ := gd_some h
      refine V_iald X x1.toNatClampNeg rfl (o := o0) (n := (zlen y o0)) ho0 hz0 rfl g6 dX11_sort_15 ?_
      refine V_istore_n X [(3, .int (μ2 o0 x1.toNatClampNeg)), (0, .ref (zad y o0)), (1, .int a1), (2, .int x1)] dX11_sort_16 rfl (by decide) rfl ?_
      refine zlt_el (P := fun (x7 : Int32) => V X μ2 17 [(3, .int x7), (0, .ref (zad y o0)), (1, .int a1), (2, .int x1)] []) h (fun x7 h => ?_)
      refine V_iload_n X 3 dX11_sort_17 rfl rfl ?_
      refine V_istore X [(4, .int x1), (3, .int x7), (0, .ref (zad y o0)), (1, .int a1), (2, .int x1)] dX11_sort_18 (by decide) rfl ?_
      refine V_iload_n X 4 dX11_sort_20 rfl rfl ?_
      refine V_iconst X 1 dX11_sort_21 (by decide) ?_
      refine V_isub X dX11_sort_22 ?_
      refine V_istore X [(5, .int (x1 - 1)), (4, .int x1), (3, .int x7), (0, .ref (zad y o0)), (1, .int a1), (2, .int x1)] dX11_sort_23 (by decide) rfl ?_
      refine zlt_el (P := fun (x8 : Int32) => V X μ2 25 [(5, .int x8), (4, .int x1), (3, .int x7), (0, .ref (zad y o0)), (1, .int a1), (2, .int x1)] []) h (fun x8 h => ?_)
      refine V_sub X [3, 4, 5, 2, 1, 0] (lv' := [(0, .ref (zad y o0)), (1, .int a1), (2, .int x1), (3, .int x7), (4, .int x1), (5, .int x8)]) rfl ?_
      obtain ⟨x12, μ13, hl, h⟩ := bd2_some h
      have hk : V X μ13 58 [(0, .ref (zad y o0)), (1, .int a1), (2, .int x1), (3, .int x7), (4, .int x12)] [] := by
        clear hl
        refine V_aload_n X 0 dX11_sort_58 rfl rfl ?_
        refine V_iload X 4 dX11_sort_59 rfl ?_
        refine V_iload_n X 3 dX11_sort_61 rfl rfl ?_
        obtain ⟨g19, h⟩ := gd_some h
        refine V_iast X x12.toNatClampNeg rfl (o := o0) (n := (zlen y o0)) ho0 hz0 rfl g19 dX11_sort_62 ?_
        refine zlt_el (P := fun (μ20 : ZMem) => V X μ20 63 [(0, .ref (zad y o0)), (1, .int a1), (2, .int x1), (3, .int x7), (4, .int x12)] []) h (fun μ20 h => ?_)
        refine V_inc X 2 1 [(2, .int (x1 + 1)), (0, .ref (zad y o0)), (1, .int a1), (3, .int x7), (4, .int x12)] dX11_sort_63 rfl (by decide) (by decide) rfl ?_
        refine V_goto X (tgt := 2) dX11_sort_66 (by decide) ?_
        refine V_sub X [1, 2, 0] (lv' := [(0, .ref (zad y o0)), (1, .int a1), (2, .int (x1 + 1))]) rfl ?_
        cases h
        exact hz
      refine lp_ind (P := fun q => V X q.2.2 25 [(0, .ref (zad y o0)), (1, .int a1), (2, .int x1), (3, .int x7), (4, .int q.1), (5, .int q.2.1)] []) (fun q z h hz => ?_) hl
      obtain ⟨x9, x10, μ11⟩ := q
      replace h := un3_eq h
      show V X μ11 25 [(0, .ref (zad y o0)), (1, .int a1), (2, .int x1), (3, .int x7), (4, .int x9), (5, .int x10)] []
      refine V_iload X 5 dX11_sort_25 rfl ?_
      refine V_if_lt X (tgt := 58) dX11_sort_27 (by decide) (fun b14 => ?_) (fun b14 => ?_)
      · replace h := (if_pos b14).symm.trans h
        refine V_sub X [0, 1, 2, 3, 4] (lv' := [(0, .ref (zad y o0)), (1, .int a1), (2, .int x1), (3, .int x7), (4, .int x9)]) rfl ?_
        cases h
        obtain ⟨rfl, rfl⟩ := pr2 hz
        exact hk
      · replace h := (if_neg b14).symm.trans h
        refine V_aload_n X 0 dX11_sort_30 rfl rfl ?_
        refine V_iload X 5 dX11_sort_31 rfl ?_
        obtain ⟨g15, h⟩ := gd_some h
        refine V_iald X x10.toNatClampNeg rfl (o := o0) (n := (zlen y o0)) ho0 hz0 rfl g15 dX11_sort_33 ?_
        refine V_iload_n X 3 dX11_sort_34 rfl rfl ?_
        refine V_icmp_le X (tgt := 58) dX11_sort_35 (by decide) (fun b16 => ?_) (fun b16 => ?_)
        · replace h := (if_pos b16).symm.trans h
          refine V_sub X [0, 1, 2, 3, 4] (lv' := [(0, .ref (zad y o0)), (1, .int a1), (2, .int x1), (3, .int x7), (4, .int x9)]) rfl ?_
          cases h
          obtain ⟨rfl, rfl⟩ := pr2 hz
          exact hk
        · replace h := (if_neg b16).symm.trans h
          refine V_aload_n X 0 dX11_sort_38 rfl rfl ?_
          refine V_iload X 5 dX11_sort_39 rfl ?_
          refine V_iconst X 1 dX11_sort_41 (by decide) ?_
          refine V_iadd X dX11_sort_42 ?_
          refine V_aload_n X 0 dX11_sort_43 rfl rfl ?_
          refine V_iload X 5 dX11_sort_44 rfl ?_
          refine V_iald X x10.toNatClampNeg rfl (o := o0) (n := (zlen y o0)) ho0 hz0 rfl g15 dX11_sort_46 ?_
          obtain ⟨g17, h⟩ := gd_some h
          refine V_iast X (x10 + 1).toNatClampNeg rfl (o := o0) (n := (zlen y o0)) ho0 hz0 rfl g17 dX11_sort_47 ?_
          refine zlt_el (P := fun (μ18 : ZMem) => V X μ18 48 [(0, .ref (zad y o0)), (1, .int a1), (2, .int x1), (3, .int x7), (4, .int x9), (5, .int x10)] []) h (fun μ18 h => ?_)
          refine V_iload X 5 dX11_sort_48 rfl ?_
          refine V_istore X [(4, .int x10), (0, .ref (zad y o0)), (1, .int a1), (2, .int x1), (3, .int x7), (5, .int x10)] dX11_sort_50 (by decide) rfl ?_
          refine V_inc X 5 (-1) [(5, .int (x10 + (-1))), (4, .int x10), (0, .ref (zad y o0)), (1, .int a1), (2, .int x1), (3, .int x7)] dX11_sort_52 rfl (by decide) (by decide) rfl ?_
          refine V_goto X (tgt := 25) dX11_sort_55 (by decide) ?_
          refine V_sub X [2, 3, 4, 5, 1, 0] (lv' := [(0, .ref (zad y o0)), (1, .int a1), (2, .int x1), (3, .int x7), (4, .int x10), (5, .int (x10 + (-1)))]) rfl ?_
          cases h
          exact hz

