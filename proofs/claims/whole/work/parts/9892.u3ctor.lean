/-! constructors, the straight ones -/
def WX5 (zc : Nat → ClassId) (t : Nat → Nat) : va_W := (((t 0), .inr (5, [.int 0, .int 0, .int 0, .int 1, .int 0, .int 0, .int 0, .int 0, .int 0, .int 0, .int 0])) :: [])
def rmU_X5_init : Room := { frames := 1, cells := 0, slots := 0, locals := 20 }
set_option maxRecDepth 100000 in
set_option maxHeartbeats 4000000 in
theorem K_X5_init {l : Launch} {D : va_G} {zc : Nat → ClassId} : KI l yX5_init wb_X5_init rmU_X5_init D zc [] 5 dfX5 (fun a w1 => ∃ t : Nat → Nat, t 0 = a ∧ w1 = WX5 zc t) 0 0 := by
  refine KI_of (cc := cX5_init) (maxL := 1) RX5 (fun a => [(0, .ref a)]) (by decide) rfl rfl rfl (fun a => Nat.le_of_ble_eq_true rfl) (fun a => rfl) ?_
  intro p e s m args below meth c A X hin2 a
  refine U_aload_n X 0 dX5_init_0 rfl rfl ?_
  refine U_obj X (mB wm_RX5_3_o) (mB wi_o) (mB wc_o) (Nat.le_of_ble_eq_true rfl) (Nat.le_of_ble_eq_true rfl) (Nat.le_of_ble_eq_true rfl) dX5_init_1 ?_
  refine U_aload_n X 0 dX5_init_4 rfl rfl ?_
  refine U_iconst X 1 dX5_init_5 (by decide) ?_
  refine U_putf X ((a, .inr (5, [.int 0, .int 0, .int 0, .int 1, .int 0, .int 0, .int 0, .int 0, .int 0, .int 0, .int 0])) :: []) tyX5 (.int) (q0 := 0) (ci := 5) (k := 3) (N := 11) (T := TX5) (C := RX5) rfl rfl (by decide) (mBa inB_X5) tyX5_ok nmX5 (mB wl_RX5_9) rfl rfl rfl rfl (Nat.le_of_ble_eq_true rfl) rfl dX5_init_6 ?_
  refine U_aload_n X 0 dX5_init_9 rfl rfl ?_
  refine U_iconst X 0 dX5_init_10 (by decide) ?_
  refine U_putf X ((a, .inr (5, [.int 0, .int 0, .int 0, .int 1, .int 0, .int 0, .int 0, .int 0, .int 0, .int 0, .int 0])) :: []) tyX5 (.int) (q0 := 0) (ci := 5) (k := 9) (N := 11) (T := TX5) (C := RX5) rfl rfl (by decide) (mBa inB_X5) tyX5_ok nmX5 (mB wl_RX5_15) rfl rfl rfl rfl (Nat.le_of_ble_eq_true rfl) rfl dX5_init_11 ?_
  exact U_vret X ⟨(fun i => [a].getD i 0), rfl, rfl⟩ dX5_init_14
def WX8 (zc : Nat → ClassId) (t : Nat → Nat) : va_W := (((t 0), .inr (8, [.int (-1), .ref (t 1), .ref (t 2), .int 0, .int 0])) :: [((t 1), .inl (zc 0, 401, .inl (fun _ => 0)))] ++ [((t 2), .inl (zc 0, 401, .inl (fun _ => 0)))])
def rmU_X8_init : Room := { frames := 1, cells := 2, slots := 802, locals := 20 }
set_option maxRecDepth 100000 in
set_option maxHeartbeats 4000000 in
theorem K_X8_init {l : Launch} {D : va_G} {zc : Nat → ClassId} : KI l yX8_init wb_X8_init rmU_X8_init D zc [] 8 dfX8 (fun a w1 => ∃ t : Nat → Nat, t 0 = a ∧ w1 = WX8 zc t) 2 802 := by
  refine KI_of (cc := cX8_init) (maxL := 1) RX8 (fun a => [(0, .ref a)]) (by decide) rfl rfl rfl (fun a => Nat.le_of_ble_eq_true rfl) (fun a => rfl) ?_
  intro p e s m args below meth c A X hin2 a
  refine U_aload_n X 0 dX8_init_0 rfl rfl ?_
  refine U_obj X (mB wm_RX8_3_o) (mB wi_o) (mB wc_o) (Nat.le_of_ble_eq_true rfl) (Nat.le_of_ble_eq_true rfl) (Nat.le_of_ble_eq_true rfl) dX8_init_1 ?_
  refine U_aload_n X 0 dX8_init_4 rfl rfl ?_
  refine U_iconst X (-1) dX8_init_5 (by decide) ?_
  refine U_putf X ((a, .inr (8, [.int (-1), .null, .null, .int 0, .int 0])) :: []) tyX8 (.int) (q0 := 0) (ci := 8) (k := 0) (N := 5) (T := TX8) (C := RX8) rfl rfl (by decide) (mBa inB_X8) tyX8_ok nmX8 (mB wl_RX8_9) rfl rfl rfl rfl (Nat.le_of_ble_eq_true rfl) rfl dX8_init_6 ?_
  refine U_aload_n X 0 dX8_init_9 rfl rfl ?_
  refine U_sipush X 401 dX8_init_10 (by decide) ?_
  refine U_newa X 401 (mB wac) (by decide) (by decide) (by decide) (Nat.le_of_ble_eq_true rfl) (Nat.le_of_ble_eq_true rfl) dX8_init_13 (fun q13 => ?_)
  refine U_eq X (ws' := ((a, .inr (8, [.int (-1), .null, .null, .int 0, .int 0])) :: [(q13, .inl (zc 0, 401, .inl (fun _ => 0)))])) rfl ?_
  refine U_putF X ((a, .inr (8, [.int (-1), .ref q13, .null, .int 0, .int 0])) :: [(q13, .inl (zc 0, 401, .inl (fun _ => 0)))]) tyX8 (.array .int) hin2 (q0 := 0) (ci := 8) (k := 1) (N := 5) (T := TX8) (C := RX8) rfl rfl (by decide) (mBa inB_X8) tyX8_ok nmX8 (mB wl_RX8_15) rfl rfl rfl rfl rfl (Nat.le_of_ble_eq_true rfl) rfl dX8_init_15 ?_
  refine U_aload_n X 0 dX8_init_18 rfl rfl ?_
  refine U_sipush X 401 dX8_init_19 (by decide) ?_
  refine U_newa X 401 (mB wac) (by decide) (by decide) (by decide) (Nat.le_of_ble_eq_true rfl) (Nat.le_of_ble_eq_true rfl) dX8_init_22 (fun q22 => ?_)
  refine U_eq X (ws' := ((a, .inr (8, [.int (-1), .ref q13, .null, .int 0, .int 0])) :: [(q13, .inl (zc 0, 401, .inl (fun _ => 0)))] ++ [(q22, .inl (zc 0, 401, .inl (fun _ => 0)))])) rfl ?_
  refine U_putF X ((a, .inr (8, [.int (-1), .ref q13, .ref q22, .int 0, .int 0])) :: [(q13, .inl (zc 0, 401, .inl (fun _ => 0)))] ++ [(q22, .inl (zc 0, 401, .inl (fun _ => 0)))]) tyX8 (.array .int) hin2 (q0 := 0) (ci := 8) (k := 2) (N := 5) (T := TX8) (C := RX8) rfl rfl (by decide) (mBa inB_X8) tyX8_ok nmX8 (mB wl_RX8_19) rfl rfl rfl rfl rfl (Nat.le_of_ble_eq_true rfl) rfl dX8_init_24 ?_
  exact U_vret X ⟨(fun i => [a, q13, q22].getD i 0), rfl, rfl⟩ dX8_init_27
def WX1 (zc : Nat → ClassId) (t : Nat → Nat) : va_W := (((t 0), .inr (1, [.int 0, .ref (t 1), .ref (t 2), .ref (t 3), .ref (t 4)])) :: [((t 1), .inl (zc 0, 8, .inl (fun _ => 0)))] ++ [((t 2), .inl (zc 0, 256, .inl (fun _ => 0)))] ++ [((t 3), .inl (zc 0, 64, .inl (fun _ => 0)))] ++ [((t 4), .inl (zc 0, 8, .inl (fun _ => 0)))])
def rmU_X1_init : Room := { frames := 1, cells := 4, slots := 336, locals := 20 }
set_option maxRecDepth 100000 in
set_option maxHeartbeats 4000000 in
theorem K_X1_init {l : Launch} {D : va_G} {zc : Nat → ClassId} : KI l yX1_init wb_X1_init rmU_X1_init D zc [] 1 dfX1 (fun a w1 => ∃ t : Nat → Nat, t 0 = a ∧ w1 = WX1 zc t) 4 336 := by
  refine KI_of (cc := cX1_init) (maxL := 1) RX1 (fun a => [(0, .ref a)]) (by decide) rfl rfl rfl (fun a => Nat.le_of_ble_eq_true rfl) (fun a => rfl) ?_
  intro p e s m args below meth c A X hin2 a
  refine U_aload_n X 0 dX1_init_0 rfl rfl ?_
  refine U_obj X (mB wm_RX1_3_o) (mB wi_o) (mB wc_o) (Nat.le_of_ble_eq_true rfl) (Nat.le_of_ble_eq_true rfl) (Nat.le_of_ble_eq_true rfl) dX1_init_1 ?_
  refine U_aload_n X 0 dX1_init_4 rfl rfl ?_
  refine U_bipush X 8 dX1_init_5 (by decide) ?_
  refine U_newa X 8 (mB wac) (by decide) (by decide) (by decide) (Nat.le_of_ble_eq_true rfl) (Nat.le_of_ble_eq_true rfl) dX1_init_7 (fun q7 => ?_)
  refine U_eq X (ws' := ((a, .inr (1, [.int 0, .null, .null, .null, .null])) :: [(q7, .inl (zc 0, 8, .inl (fun _ => 0)))])) rfl ?_
  refine U_putF X ((a, .inr (1, [.int 0, .ref q7, .null, .null, .null])) :: [(q7, .inl (zc 0, 8, .inl (fun _ => 0)))]) tyX1 (.array .int) hin2 (q0 := 0) (ci := 1) (k := 1) (N := 5) (T := TX1) (C := RX1) rfl rfl (by decide) (mBa inB_X1) tyX1_ok nmX1 (mB wl_RX1_9) rfl rfl rfl rfl rfl (Nat.le_of_ble_eq_true rfl) rfl dX1_init_9 ?_
  refine U_aload_n X 0 dX1_init_12 rfl rfl ?_
  refine U_sipush X 256 dX1_init_13 (by decide) ?_
  refine U_newa X 256 (mB wac) (by decide) (by decide) (by decide) (Nat.le_of_ble_eq_true rfl) (Nat.le_of_ble_eq_true rfl) dX1_init_16 (fun q16 => ?_)
  refine U_eq X (ws' := ((a, .inr (1, [.int 0, .ref q7, .null, .null, .null])) :: [(q7, .inl (zc 0, 8, .inl (fun _ => 0)))] ++ [(q16, .inl (zc 0, 256, .inl (fun _ => 0)))])) rfl ?_
  refine U_putF X ((a, .inr (1, [.int 0, .ref q7, .ref q16, .null, .null])) :: [(q7, .inl (zc 0, 8, .inl (fun _ => 0)))] ++ [(q16, .inl (zc 0, 256, .inl (fun _ => 0)))]) tyX1 (.array .int) hin2 (q0 := 0) (ci := 1) (k := 2) (N := 5) (T := TX1) (C := RX1) rfl rfl (by decide) (mBa inB_X1) tyX1_ok nmX1 (mB wl_RX1_15) rfl rfl rfl rfl rfl (Nat.le_of_ble_eq_true rfl) rfl dX1_init_18 ?_
  refine U_aload_n X 0 dX1_init_21 rfl rfl ?_
  refine U_bipush X 64 dX1_init_22 (by decide) ?_
  refine U_newa X 64 (mB wac) (by decide) (by decide) (by decide) (Nat.le_of_ble_eq_true rfl) (Nat.le_of_ble_eq_true rfl) dX1_init_24 (fun q24 => ?_)
  refine U_eq X (ws' := ((a, .inr (1, [.int 0, .ref q7, .ref q16, .null, .null])) :: [(q7, .inl (zc 0, 8, .inl (fun _ => 0)))] ++ [(q16, .inl (zc 0, 256, .inl (fun _ => 0)))] ++ [(q24, .inl (zc 0, 64, .inl (fun _ => 0)))])) rfl ?_
  refine U_putF X ((a, .inr (1, [.int 0, .ref q7, .ref q16, .ref q24, .null])) :: [(q7, .inl (zc 0, 8, .inl (fun _ => 0)))] ++ [(q16, .inl (zc 0, 256, .inl (fun _ => 0)))] ++ [(q24, .inl (zc 0, 64, .inl (fun _ => 0)))]) tyX1 (.array .int) hin2 (q0 := 0) (ci := 1) (k := 3) (N := 5) (T := TX1) (C := RX1) rfl rfl (by decide) (mBa inB_X1) tyX1_ok nmX1 (mB wl_RX1_18) rfl rfl rfl rfl rfl (Nat.le_of_ble_eq_true rfl) rfl dX1_init_26 ?_
  refine U_aload_n X 0 dX1_init_29 rfl rfl ?_
  refine U_bipush X 8 dX1_init_30 (by decide) ?_
  refine U_newa X 8 (mB wac) (by decide) (by decide) (by decide) (Nat.le_of_ble_eq_true rfl) (Nat.le_of_ble_eq_true rfl) dX1_init_32 (fun q32 => ?_)
  refine U_eq X (ws' := ((a, .inr (1, [.int 0, .ref q7, .ref q16, .ref q24, .null])) :: [(q7, .inl (zc 0, 8, .inl (fun _ => 0)))] ++ [(q16, .inl (zc 0, 256, .inl (fun _ => 0)))] ++ [(q24, .inl (zc 0, 64, .inl (fun _ => 0)))] ++ [(q32, .inl (zc 0, 8, .inl (fun _ => 0)))])) rfl ?_
  refine U_putF X ((a, .inr (1, [.int 0, .ref q7, .ref q16, .ref q24, .ref q32])) :: [(q7, .inl (zc 0, 8, .inl (fun _ => 0)))] ++ [(q16, .inl (zc 0, 256, .inl (fun _ => 0)))] ++ [(q24, .inl (zc 0, 64, .inl (fun _ => 0)))] ++ [(q32, .inl (zc 0, 8, .inl (fun _ => 0)))]) tyX1 (.array .int) hin2 (q0 := 0) (ci := 1) (k := 4) (N := 5) (T := TX1) (C := RX1) rfl rfl (by decide) (mBa inB_X1) tyX1_ok nmX1 (mB wl_RX1_21) rfl rfl rfl rfl rfl (Nat.le_of_ble_eq_true rfl) rfl dX1_init_34 ?_
  exact U_vret X ⟨(fun i => [a, q7, q16, q24, q32].getD i 0), rfl, rfl⟩ dX1_init_37
def WX2 (zc : Nat → ClassId) (t : Nat → Nat) : va_W := (((t 0), .inr (2, [.ref (t 1), .ref (t 2), .int 0])) :: [((t 1), .inl (zc 0, 1539, .inl (fun _ => 0)))] ++ [((t 2), .inl (zc 0, 243, .inl (fun _ => 0)))])
def rmU_X2_init : Room := { frames := 1, cells := 2, slots := 1782, locals := 20 }
set_option maxRecDepth 100000 in
set_option maxHeartbeats 4000000 in
theorem K_X2_init {l : Launch} {D : va_G} {zc : Nat → ClassId} : KI l yX2_init wb_X2_init rmU_X2_init D zc [] 2 dfX2 (fun a w1 => ∃ t : Nat → Nat, t 0 = a ∧ w1 = WX2 zc t) 2 1782 := by
  refine KI_of (cc := cX2_init) (maxL := 1) RX2 (fun a => [(0, .ref a)]) (by decide) rfl rfl rfl (fun a => Nat.le_of_ble_eq_true rfl) (fun a => rfl) ?_
  intro p e s m args below meth c A X hin2 a
  refine U_aload_n X 0 dX2_init_0 rfl rfl ?_
  refine U_obj X (mB wm_RX2_5_o) (mB wi_o) (mB wc_o) (Nat.le_of_ble_eq_true rfl) (Nat.le_of_ble_eq_true rfl) (Nat.le_of_ble_eq_true rfl) dX2_init_1 ?_
  refine U_aload_n X 0 dX2_init_4 rfl rfl ?_
  refine U_sipush X 1539 dX2_init_5 (by decide) ?_
  refine U_newa X 1539 (mB wac) (by decide) (by decide) (by decide) (Nat.le_of_ble_eq_true rfl) (Nat.le_of_ble_eq_true rfl) dX2_init_8 (fun q8 => ?_)
  refine U_eq X (ws' := ((a, .inr (2, [.null, .null, .int 0])) :: [(q8, .inl (zc 0, 1539, .inl (fun _ => 0)))])) rfl ?_
  refine U_putF X ((a, .inr (2, [.ref q8, .null, .int 0])) :: [(q8, .inl (zc 0, 1539, .inl (fun _ => 0)))]) tyX2 (.array .int) hin2 (q0 := 0) (ci := 2) (k := 0) (N := 3) (T := TX2) (C := RX2) rfl rfl (by decide) (mBa inB_X2) tyX2_ok nmX2 (mB wl_RX2_11) rfl rfl rfl rfl rfl (Nat.le_of_ble_eq_true rfl) rfl dX2_init_10 ?_
  refine U_aload_n X 0 dX2_init_13 rfl rfl ?_
  refine U_sipush X 243 dX2_init_14 (by decide) ?_
  refine U_newa X 243 (mB wac) (by decide) (by decide) (by decide) (Nat.le_of_ble_eq_true rfl) (Nat.le_of_ble_eq_true rfl) dX2_init_17 (fun q17 => ?_)
  refine U_eq X (ws' := ((a, .inr (2, [.ref q8, .null, .int 0])) :: [(q8, .inl (zc 0, 1539, .inl (fun _ => 0)))] ++ [(q17, .inl (zc 0, 243, .inl (fun _ => 0)))])) rfl ?_
  refine U_putF X ((a, .inr (2, [.ref q8, .ref q17, .int 0])) :: [(q8, .inl (zc 0, 1539, .inl (fun _ => 0)))] ++ [(q17, .inl (zc 0, 243, .inl (fun _ => 0)))]) tyX2 (.array .int) hin2 (q0 := 0) (ci := 2) (k := 1) (N := 3) (T := TX2) (C := RX2) rfl rfl (by decide) (mBa inB_X2) tyX2_ok nmX2 (mB wl_RX2_15) rfl rfl rfl rfl rfl (Nat.le_of_ble_eq_true rfl) rfl dX2_init_19 ?_
  exact U_vret X ⟨(fun i => [a, q8, q17].getD i 0), rfl, rfl⟩ dX2_init_22
def WX0 (zc : Nat → ClassId) (x1 : Nat) (t : Nat → Nat) : va_W := (((t 0), .inr (0, [.ref x1])) :: [])
def rmU_X0_init : Room := { frames := 1, cells := 0, slots := 0, locals := 20 }
set_option maxRecDepth 100000 in
set_option maxHeartbeats 4000000 in
theorem K_X0_init {l : Launch} {D : va_G} {zc : Nat → ClassId} {x1 : Nat} : KI l yX0_init wb_X0_init rmU_X0_init D zc [.ref x1] 0 dfX0 (fun a w1 => ∃ t : Nat → Nat, t 0 = a ∧ w1 = WX0 zc x1 t) 0 0 := by
  refine KI_of (cc := cX0_init) (maxL := 2) RX0 (fun a => [(0, .ref a), (1, .ref x1)]) (by decide) rfl rfl rfl (fun a => Nat.le_of_ble_eq_true rfl) (fun a => rfl) ?_
  intro p e s m args below meth c A X hin2 a
  refine U_aload_n X 0 dX0_init_0 rfl rfl ?_
  refine U_obj X (mB wm_RX0_3_o) (mB wi_o) (mB wc_o) (Nat.le_of_ble_eq_true rfl) (Nat.le_of_ble_eq_true rfl) (Nat.le_of_ble_eq_true rfl) dX0_init_1 ?_
  refine U_aload_n X 0 dX0_init_4 rfl rfl ?_
  refine U_aload_n X 1 dX0_init_5 rfl rfl ?_
  refine U_putF X ((a, .inr (0, [.ref x1])) :: []) tyX0 (.object "SlotCluster$Text") hin2 (q0 := 0) (ci := 0) (k := 0) (N := 1) (T := TX0) (C := RX0) rfl rfl (by decide) (mBa inB_X0) tyX0_ok nmX0 (mB wl_RX0_9) rfl rfl rfl rfl rfl (Nat.le_of_ble_eq_true rfl) rfl dX0_init_6 ?_
  exact U_vret X ⟨(fun i => [a].getD i 0), rfl, rfl⟩ dX0_init_9
def WX4 (zc : Nat → ClassId) (x1 : Nat) (t : Nat → Nat) : va_W := (((t 0), .inr (4, [.ref x1, .ref (t 1), .ref (t 2), .ref (t 3), .ref (t 4), .int 0, .int 0])) :: [((t 1), .inl (zc 0, 12, .inl (fun _ => 0)))] ++ [((t 2), .inl (zc 0, 12, .inl (fun _ => 0)))] ++ [((t 3), .inl (zc 0, 13, .inl (fun _ => 0)))] ++ [((t 4), .inl (zc 0, 400, .inl (fun _ => 0)))])
def rmU_X4_init : Room := { frames := 1, cells := 4, slots := 437, locals := 20 }
set_option maxRecDepth 100000 in
set_option maxHeartbeats 4000000 in
theorem K_X4_init {l : Launch} {D : va_G} {zc : Nat → ClassId} {x1 : Nat} : KI l yX4_init wb_X4_init rmU_X4_init D zc [.ref x1] 4 dfX4 (fun a w1 => ∃ t : Nat → Nat, t 0 = a ∧ w1 = WX4 zc x1 t) 4 437 := by
  refine KI_of (cc := cX4_init) (maxL := 2) RX4 (fun a => [(0, .ref a), (1, .ref x1)]) (by decide) rfl rfl rfl (fun a => Nat.le_of_ble_eq_true rfl) (fun a => rfl) ?_
  intro p e s m args below meth c A X hin2 a
  refine U_aload_n X 0 dX4_init_0 rfl rfl ?_
  refine U_obj X (mB wm_RX4_3_o) (mB wi_o) (mB wc_o) (Nat.le_of_ble_eq_true rfl) (Nat.le_of_ble_eq_true rfl) (Nat.le_of_ble_eq_true rfl) dX4_init_1 ?_
  refine U_aload_n X 0 dX4_init_4 rfl rfl ?_
  refine U_bipush X 12 dX4_init_5 (by decide) ?_
  refine U_newa X 12 (mB wac) (by decide) (by decide) (by decide) (Nat.le_of_ble_eq_true rfl) (Nat.le_of_ble_eq_true rfl) dX4_init_7 (fun q7 => ?_)
  refine U_eq X (ws' := ((a, .inr (4, [.null, .null, .null, .null, .null, .int 0, .int 0])) :: [(q7, .inl (zc 0, 12, .inl (fun _ => 0)))])) rfl ?_
  refine U_putF X ((a, .inr (4, [.null, .ref q7, .null, .null, .null, .int 0, .int 0])) :: [(q7, .inl (zc 0, 12, .inl (fun _ => 0)))]) tyX4 (.array .int) hin2 (q0 := 0) (ci := 4) (k := 1) (N := 7) (T := TX4) (C := RX4) rfl rfl (by decide) (mBa inB_X4) tyX4_ok nmX4 (mB wl_RX4_9) rfl rfl rfl rfl rfl (Nat.le_of_ble_eq_true rfl) rfl dX4_init_9 ?_
  refine U_aload_n X 0 dX4_init_12 rfl rfl ?_
  refine U_bipush X 12 dX4_init_13 (by decide) ?_
  refine U_newa X 12 (mB wac) (by decide) (by decide) (by decide) (Nat.le_of_ble_eq_true rfl) (Nat.le_of_ble_eq_true rfl) dX4_init_15 (fun q15 => ?_)
  refine U_eq X (ws' := ((a, .inr (4, [.null, .ref q7, .null, .null, .null, .int 0, .int 0])) :: [(q7, .inl (zc 0, 12, .inl (fun _ => 0)))] ++ [(q15, .inl (zc 0, 12, .inl (fun _ => 0)))])) rfl ?_
  refine U_putF X ((a, .inr (4, [.null, .ref q7, .ref q15, .null, .null, .int 0, .int 0])) :: [(q7, .inl (zc 0, 12, .inl (fun _ => 0)))] ++ [(q15, .inl (zc 0, 12, .inl (fun _ => 0)))]) tyX4 (.array .int) hin2 (q0 := 0) (ci := 4) (k := 2) (N := 7) (T := TX4) (C := RX4) rfl rfl (by decide) (mBa inB_X4) tyX4_ok nmX4 (mB wl_RX4_15) rfl rfl rfl rfl rfl (Nat.le_of_ble_eq_true rfl) rfl dX4_init_17 ?_
  refine U_aload_n X 0 dX4_init_20 rfl rfl ?_
  refine U_bipush X 13 dX4_init_21 (by decide) ?_
  refine U_newa X 13 (mB wac) (by decide) (by decide) (by decide) (Nat.le_of_ble_eq_true rfl) (Nat.le_of_ble_eq_true rfl) dX4_init_23 (fun q23 => ?_)
  refine U_eq X (ws' := ((a, .inr (4, [.null, .ref q7, .ref q15, .null, .null, .int 0, .int 0])) :: [(q7, .inl (zc 0, 12, .inl (fun _ => 0)))] ++ [(q15, .inl (zc 0, 12, .inl (fun _ => 0)))] ++ [(q23, .inl (zc 0, 13, .inl (fun _ => 0)))])) rfl ?_
  refine U_putF X ((a, .inr (4, [.null, .ref q7, .ref q15, .ref q23, .null, .int 0, .int 0])) :: [(q7, .inl (zc 0, 12, .inl (fun _ => 0)))] ++ [(q15, .inl (zc 0, 12, .inl (fun _ => 0)))] ++ [(q23, .inl (zc 0, 13, .inl (fun _ => 0)))]) tyX4 (.array .int) hin2 (q0 := 0) (ci := 4) (k := 3) (N := 7) (T := TX4) (C := RX4) rfl rfl (by decide) (mBa inB_X4) tyX4_ok nmX4 (mB wl_RX4_18) rfl rfl rfl rfl rfl (Nat.le_of_ble_eq_true rfl) rfl dX4_init_25 ?_
  refine U_aload_n X 0 dX4_init_28 rfl rfl ?_
  refine U_sipush X 400 dX4_init_29 (by decide) ?_
  refine U_newa X 400 (mB wac) (by decide) (by decide) (by decide) (Nat.le_of_ble_eq_true rfl) (Nat.le_of_ble_eq_true rfl) dX4_init_32 (fun q32 => ?_)
  refine U_eq X (ws' := ((a, .inr (4, [.null, .ref q7, .ref q15, .ref q23, .null, .int 0, .int 0])) :: [(q7, .inl (zc 0, 12, .inl (fun _ => 0)))] ++ [(q15, .inl (zc 0, 12, .inl (fun _ => 0)))] ++ [(q23, .inl (zc 0, 13, .inl (fun _ => 0)))] ++ [(q32, .inl (zc 0, 400, .inl (fun _ => 0)))])) rfl ?_
  refine U_putF X ((a, .inr (4, [.null, .ref q7, .ref q15, .ref q23, .ref q32, .int 0, .int 0])) :: [(q7, .inl (zc 0, 12, .inl (fun _ => 0)))] ++ [(q15, .inl (zc 0, 12, .inl (fun _ => 0)))] ++ [(q23, .inl (zc 0, 13, .inl (fun _ => 0)))] ++ [(q32, .inl (zc 0, 400, .inl (fun _ => 0)))]) tyX4 (.array .int) hin2 (q0 := 0) (ci := 4) (k := 4) (N := 7) (T := TX4) (C := RX4) rfl rfl (by decide) (mBa inB_X4) tyX4_ok nmX4 (mB wl_RX4_21) rfl rfl rfl rfl rfl (Nat.le_of_ble_eq_true rfl) rfl dX4_init_34 ?_
  refine U_aload_n X 0 dX4_init_37 rfl rfl ?_
  refine U_aload_n X 1 dX4_init_38 rfl rfl ?_
  refine U_putF X ((a, .inr (4, [.ref x1, .ref q7, .ref q15, .ref q23, .ref q32, .int 0, .int 0])) :: [(q7, .inl (zc 0, 12, .inl (fun _ => 0)))] ++ [(q15, .inl (zc 0, 12, .inl (fun _ => 0)))] ++ [(q23, .inl (zc 0, 13, .inl (fun _ => 0)))] ++ [(q32, .inl (zc 0, 400, .inl (fun _ => 0)))]) tyX4 (.object "SlotCluster$Text") hin2 (q0 := 0) (ci := 4) (k := 0) (N := 7) (T := TX4) (C := RX4) rfl rfl (by decide) (mBa inB_X4) tyX4_ok nmX4 (mB wl_RX4_24) rfl rfl rfl rfl rfl (Nat.le_of_ble_eq_true rfl) rfl dX4_init_39 ?_
  exact U_vret X ⟨(fun i => [a, q7, q15, q23, q32].getD i 0), rfl, rfl⟩ dX4_init_42
def WX3 (zc : Nat → ClassId) (x1 : Int32) (x2 x3 x4 x5 : Nat) (t : Nat → Nat) : va_W := (((t 0), .inr (3, [.int x1, .ref x2, .ref x3, .ref x4, .ref x5, .ref (t 1)])) :: [((t 1), .inl (zc 0, 32, .inl (fun _ => 0)))])
def rmU_X3_init : Room := { frames := 1, cells := 1, slots := 32, locals := 20 }
set_option maxRecDepth 100000 in
set_option maxHeartbeats 4000000 in
theorem K_X3_init {l : Launch} {D : va_G} {zc : Nat → ClassId} {x1 : Int32} {x2 x3 x4 x5 : Nat} : KI l yX3_init wb_X3_init rmU_X3_init D zc [.int x1, .ref x2, .ref x3, .ref x4, .ref x5] 3 dfX3 (fun a w1 => ∃ t : Nat → Nat, t 0 = a ∧ w1 = WX3 zc x1 x2 x3 x4 x5 t) 1 32 := by
  refine KI_of (cc := cX3_init) (maxL := 6) RX3 (fun a => [(0, .ref a), (1, .int x1), (2, .ref x2), (3, .ref x3), (4, .ref x4), (5, .ref x5)]) (by decide) rfl rfl rfl (fun a => Nat.le_of_ble_eq_true rfl) (fun a => rfl) ?_
  intro p e s m args below meth c A X hin2 a
  refine U_aload_n X 0 dX3_init_0 rfl rfl ?_
  refine U_obj X (mB wm_RX3_3_o) (mB wi_o) (mB wc_o) (Nat.le_of_ble_eq_true rfl) (Nat.le_of_ble_eq_true rfl) (Nat.le_of_ble_eq_true rfl) dX3_init_1 ?_
  refine U_aload_n X 0 dX3_init_4 rfl rfl ?_
  refine U_bipush X 32 dX3_init_5 (by decide) ?_
  refine U_newa X 32 (mB wac) (by decide) (by decide) (by decide) (Nat.le_of_ble_eq_true rfl) (Nat.le_of_ble_eq_true rfl) dX3_init_7 (fun q7 => ?_)
  refine U_eq X (ws' := ((a, .inr (3, [.int 0, .null, .null, .null, .null, .null])) :: [(q7, .inl (zc 0, 32, .inl (fun _ => 0)))])) rfl ?_
  refine U_putF X ((a, .inr (3, [.int 0, .null, .null, .null, .null, .ref q7])) :: [(q7, .inl (zc 0, 32, .inl (fun _ => 0)))]) tyX3 (.array .int) hin2 (q0 := 0) (ci := 3) (k := 5) (N := 6) (T := TX3) (C := RX3) rfl rfl (by decide) (mBa inB_X3) tyX3_ok nmX3 (mB wl_RX3_9) rfl rfl rfl rfl rfl (Nat.le_of_ble_eq_true rfl) rfl dX3_init_9 ?_
  refine U_aload_n X 0 dX3_init_12 rfl rfl ?_
  refine U_iload_n X 1 dX3_init_13 rfl rfl ?_
  refine U_putF X ((a, .inr (3, [.int x1, .null, .null, .null, .null, .ref q7])) :: [(q7, .inl (zc 0, 32, .inl (fun _ => 0)))]) tyX3 (.int) hin2 (q0 := 0) (ci := 3) (k := 0) (N := 6) (T := TX3) (C := RX3) rfl rfl (by decide) (mBa inB_X3) tyX3_ok nmX3 (mB wl_RX3_15) rfl rfl rfl rfl rfl (Nat.le_of_ble_eq_true rfl) rfl dX3_init_14 ?_
  refine U_aload_n X 0 dX3_init_17 rfl rfl ?_
  refine U_aload_n X 2 dX3_init_18 rfl rfl ?_
  refine U_putF X ((a, .inr (3, [.int x1, .ref x2, .null, .null, .null, .ref q7])) :: [(q7, .inl (zc 0, 32, .inl (fun _ => 0)))]) tyX3 (.array .int) hin2 (q0 := 0) (ci := 3) (k := 1) (N := 6) (T := TX3) (C := RX3) rfl rfl (by decide) (mBa inB_X3) tyX3_ok nmX3 (mB wl_RX3_19) rfl rfl rfl rfl rfl (Nat.le_of_ble_eq_true rfl) rfl dX3_init_19 ?_
  refine U_aload_n X 0 dX3_init_22 rfl rfl ?_
  refine U_aload_n X 3 dX3_init_23 rfl rfl ?_
  refine U_putF X ((a, .inr (3, [.int x1, .ref x2, .ref x3, .null, .null, .ref q7])) :: [(q7, .inl (zc 0, 32, .inl (fun _ => 0)))]) tyX3 (.array .int) hin2 (q0 := 0) (ci := 3) (k := 2) (N := 6) (T := TX3) (C := RX3) rfl rfl (by decide) (mBa inB_X3) tyX3_ok nmX3 (mB wl_RX3_22) rfl rfl rfl rfl rfl (Nat.le_of_ble_eq_true rfl) rfl dX3_init_24 ?_
  refine U_aload_n X 0 dX3_init_27 rfl rfl ?_
  refine U_aload X 4 dX3_init_28 rfl ?_
  refine U_putF X ((a, .inr (3, [.int x1, .ref x2, .ref x3, .ref x4, .null, .ref q7])) :: [(q7, .inl (zc 0, 32, .inl (fun _ => 0)))]) tyX3 (.array .int) hin2 (q0 := 0) (ci := 3) (k := 3) (N := 6) (T := TX3) (C := RX3) rfl rfl (by decide) (mBa inB_X3) tyX3_ok nmX3 (mB wl_RX3_25) rfl rfl rfl rfl rfl (Nat.le_of_ble_eq_true rfl) rfl dX3_init_30 ?_
  refine U_aload_n X 0 dX3_init_33 rfl rfl ?_
  refine U_aload X 5 dX3_init_34 rfl ?_
  refine U_putF X ((a, .inr (3, [.int x1, .ref x2, .ref x3, .ref x4, .ref x5, .ref q7])) :: [(q7, .inl (zc 0, 32, .inl (fun _ => 0)))]) tyX3 (.array .int) hin2 (q0 := 0) (ci := 3) (k := 4) (N := 6) (T := TX3) (C := RX3) rfl rfl (by decide) (mBa inB_X3) tyX3_ok nmX3 (mB wl_RX3_28) rfl rfl rfl rfl rfl (Nat.le_of_ble_eq_true rfl) rfl dX3_init_36 ?_
  exact U_vret X ⟨(fun i => [a, q7].getD i 0), rfl, rfl⟩ dX3_init_39
