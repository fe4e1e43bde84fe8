/-! constructors, with rows of rows -/
def WX10 (zc : Nat → ClassId) (t : Nat → Nat) (f9 : Nat → Nat) : va_W := (((t 0), .inr (10, [.ref (t 1), .ref (t 2), .ref (t 3), .ref (t 4), .int 0, .int 0, .ref (t 5)])) :: (WMul zc (t 1) f9 ++ (((t 2), .inl (zc 0, 8, .inl (fun _ => 0))) :: ((t 3), .inl (zc 0, 8, .inl (fun _ => 0))) :: ((t 4), .inl (zc 0, 8, .inl (fun _ => 0))) :: ((t 5), .inl (zc 0, 8, .inl (fun _ => 0))) :: [])))
def rmU_X10_init : Room := { frames := 1, cells := 13, slots := 104, locals := 20 }
set_option maxRecDepth 100000 in
set_option maxHeartbeats 4000000 in
theorem K_X10_init {l : Launch} {D : va_G} {zc : Nat → ClassId} : KI l yX10_init wb_X10_init rmU_X10_init D zc [] 10 dfX10 (fun a w1 => ∃ (t : Nat → Nat) (f9 : Nat → Nat), t 0 = a ∧ w1 = WX10 zc t f9) 13 104 := by
  refine KI_of (cc := cX10_init) (maxL := 1) RX10 (fun a => [(0, .ref a)]) (by decide) rfl rfl rfl (fun a => Nat.le_of_ble_eq_true rfl) (fun a => rfl) ?_
  intro p e s m args below meth c A X hin2 a
  refine U_eq X (ws' := ((a, .inr (10, [.null, .null, .null, .null, .int 0, .int 0, .null])) :: [])) rfl ?_
  refine U_aload_n X 0 dX10_init_0 rfl rfl ?_
  refine U_obj X (mB wm_RX10_3_o) (mB wi_o) (mB wc_o) (Nat.le_of_ble_eq_true rfl) (Nat.le_of_ble_eq_true rfl) (Nat.le_of_ble_eq_true rfl) dX10_init_1 ?_
  refine U_aload_n X 0 dX10_init_4 rfl rfl ?_
  refine U_bipush X 8 dX10_init_5 (by decide) ?_
  refine U_bipush X 8 dX10_init_7 (by decide) ?_
  refine U_multi X (mB wcn_RX10_9) (Nat.le_of_ble_eq_true rfl) (Nat.le_of_ble_eq_true rfl) dX10_init_9 (fun q9 f9 => ?_)
  refine U_eq X (ws' := ((a, .inr (10, [.null, .null, .null, .null, .int 0, .int 0, .null])) :: (WMul zc q9 f9 ++ ([])))) (by simp only [List.cons_append, List.nil_append, List.append_nil, List.append_assoc]) ?_
  refine U_putF X ((a, .inr (10, [.ref q9, .null, .null, .null, .int 0, .int 0, .null])) :: (WMul zc q9 f9 ++ ([]))) tyX10 (.array (.array .int)) hin2 (q0 := 0) (ci := 10) (k := 0) (N := 7) (T := TX10) (C := RX10) rfl rfl (by decide) (mBa inB_X10) tyX10_ok nmX10 (mB wl_RX10_11) rfl rfl rfl rfl rfl (Nat.le_of_ble_eq_true rfl) rfl dX10_init_13 ?_
  refine U_aload_n X 0 dX10_init_16 rfl rfl ?_
  refine U_bipush X 8 dX10_init_17 (by decide) ?_
  refine U_newa X 8 (mB wac) (by decide) (by decide) (by decide) (Nat.le_of_ble_eq_true rfl) (Nat.le_of_ble_eq_true rfl) dX10_init_19 (fun q19 => ?_)
  refine U_eq X (ws' := ((a, .inr (10, [.ref q9, .null, .null, .null, .int 0, .int 0, .null])) :: (WMul zc q9 f9 ++ ((q19, .inl (zc 0, 8, .inl (fun _ => 0))) :: [])))) (by simp only [List.cons_append, List.nil_append, List.append_nil, List.append_assoc]) ?_
  refine U_putF X ((a, .inr (10, [.ref q9, .ref q19, .null, .null, .int 0, .int 0, .null])) :: (WMul zc q9 f9 ++ ((q19, .inl (zc 0, 8, .inl (fun _ => 0))) :: []))) tyX10 (.array .int) hin2 (q0 := 0) (ci := 10) (k := 1) (N := 7) (T := TX10) (C := RX10) rfl rfl (by decide) (mBa inB_X10) tyX10_ok nmX10 (mB wl_RX10_16) rfl rfl rfl rfl rfl (Nat.le_of_ble_eq_true rfl) rfl dX10_init_21 ?_
  refine U_aload_n X 0 dX10_init_24 rfl rfl ?_
  refine U_bipush X 8 dX10_init_25 (by decide) ?_
  refine U_newa X 8 (mB wac) (by decide) (by decide) (by decide) (Nat.le_of_ble_eq_true rfl) (Nat.le_of_ble_eq_true rfl) dX10_init_27 (fun q27 => ?_)
  refine U_eq X (ws' := ((a, .inr (10, [.ref q9, .ref q19, .null, .null, .int 0, .int 0, .null])) :: (WMul zc q9 f9 ++ ((q19, .inl (zc 0, 8, .inl (fun _ => 0))) :: (q27, .inl (zc 0, 8, .inl (fun _ => 0))) :: [])))) (by simp only [List.cons_append, List.nil_append, List.append_nil, List.append_assoc]) ?_
  refine U_putF X ((a, .inr (10, [.ref q9, .ref q19, .ref q27, .null, .int 0, .int 0, .null])) :: (WMul zc q9 f9 ++ ((q19, .inl (zc 0, 8, .inl (fun _ => 0))) :: (q27, .inl (zc 0, 8, .inl (fun _ => 0))) :: []))) tyX10 (.array .int) hin2 (q0 := 0) (ci := 10) (k := 2) (N := 7) (T := TX10) (C := RX10) rfl rfl (by decide) (mBa inB_X10) tyX10_ok nmX10 (mB wl_RX10_20) rfl rfl rfl rfl rfl (Nat.le_of_ble_eq_true rfl) rfl dX10_init_29 ?_
  refine U_aload_n X 0 dX10_init_32 rfl rfl ?_
  refine U_bipush X 8 dX10_init_33 (by decide) ?_
  refine U_newa X 8 (mB wac) (by decide) (by decide) (by decide) (Nat.le_of_ble_eq_true rfl) (Nat.le_of_ble_eq_true rfl) dX10_init_35 (fun q35 => ?_)
  refine U_eq X (ws' := ((a, .inr (10, [.ref q9, .ref q19, .ref q27, .null, .int 0, .int 0, .null])) :: (WMul zc q9 f9 ++ ((q19, .inl (zc 0, 8, .inl (fun _ => 0))) :: (q27, .inl (zc 0, 8, .inl (fun _ => 0))) :: (q35, .inl (zc 0, 8, .inl (fun _ => 0))) :: [])))) (by simp only [List.cons_append, List.nil_append, List.append_nil, List.append_assoc]) ?_
  refine U_putF X ((a, .inr (10, [.ref q9, .ref q19, .ref q27, .ref q35, .int 0, .int 0, .null])) :: (WMul zc q9 f9 ++ ((q19, .inl (zc 0, 8, .inl (fun _ => 0))) :: (q27, .inl (zc 0, 8, .inl (fun _ => 0))) :: (q35, .inl (zc 0, 8, .inl (fun _ => 0))) :: []))) tyX10 (.array .int) hin2 (q0 := 0) (ci := 10) (k := 3) (N := 7) (T := TX10) (C := RX10) rfl rfl (by decide) (mBa inB_X10) tyX10_ok nmX10 (mB wl_RX10_23) rfl rfl rfl rfl rfl (Nat.le_of_ble_eq_true rfl) rfl dX10_init_37 ?_
  refine U_aload_n X 0 dX10_init_40 rfl rfl ?_
  refine U_bipush X 8 dX10_init_41 (by decide) ?_
  refine U_newa X 8 (mB wac) (by decide) (by decide) (by decide) (Nat.le_of_ble_eq_true rfl) (Nat.le_of_ble_eq_true rfl) dX10_init_43 (fun q43 => ?_)
  refine U_eq X (ws' := ((a, .inr (10, [.ref q9, .ref q19, .ref q27, .ref q35, .int 0, .int 0, .null])) :: (WMul zc q9 f9 ++ ((q19, .inl (zc 0, 8, .inl (fun _ => 0))) :: (q27, .inl (zc 0, 8, .inl (fun _ => 0))) :: (q35, .inl (zc 0, 8, .inl (fun _ => 0))) :: (q43, .inl (zc 0, 8, .inl (fun _ => 0))) :: [])))) (by simp only [List.cons_append, List.nil_append, List.append_nil, List.append_assoc]) ?_
  refine U_putF X ((a, .inr (10, [.ref q9, .ref q19, .ref q27, .ref q35, .int 0, .int 0, .ref q43])) :: (WMul zc q9 f9 ++ ((q19, .inl (zc 0, 8, .inl (fun _ => 0))) :: (q27, .inl (zc 0, 8, .inl (fun _ => 0))) :: (q35, .inl (zc 0, 8, .inl (fun _ => 0))) :: (q43, .inl (zc 0, 8, .inl (fun _ => 0))) :: []))) tyX10 (.array .int) hin2 (q0 := 0) (ci := 10) (k := 6) (N := 7) (T := TX10) (C := RX10) rfl rfl (by decide) (mBa inB_X10) tyX10_ok nmX10 (mB wl_RX10_26) rfl rfl rfl rfl rfl (Nat.le_of_ble_eq_true rfl) rfl dX10_init_45 ?_
  exact U_vret X ⟨(fun i => [a, q9, q19, q27, q35, q43].getD i 0), f9, rfl, rfl⟩ dX10_init_48
def WX9 (zc : Nat → ClassId) (t : Nat → Nat) (t9 : Nat → Nat) (t9_0 : Nat → Nat) : va_W := (((t 0), .inr (9, [.ref (t9 0), .ref (t 1)])) :: (WX10 zc t9 t9_0 ++ (((t 1), .inl (zc 0, 8, .inl (fun _ => 0))) :: [])))
def rmU_X9_init : Room := { frames := 2, cells := 15, slots := 119, locals := 40 }
set_option maxRecDepth 100000 in
set_option maxHeartbeats 4000000 in
theorem K_X9_init {l : Launch} {D : va_G} {zc : Nat → ClassId} : KI l yX9_init wb_X9_init rmU_X9_init D zc [] 9 dfX9 (fun a w1 => ∃ (t : Nat → Nat) (t9 : Nat → Nat) (t9_0 : Nat → Nat), t 0 = a ∧ w1 = WX9 zc t t9 t9_0) 15 119 := by
  refine KI_of (cc := cX9_init) (maxL := 1) RX9 (fun a => [(0, .ref a)]) (by decide) rfl rfl rfl (fun a => Nat.le_of_ble_eq_true rfl) (fun a => rfl) ?_
  intro p e s m args below meth c A X hin2 a
  refine U_eq X (ws' := ((a, .inr (9, [.null, .null])) :: [])) rfl ?_
  refine U_aload_n X 0 dX9_init_0 rfl rfl ?_
  refine U_obj X (mB wm_RX9_3_o) (mB wi_o) (mB wc_o) (Nat.le_of_ble_eq_true rfl) (Nat.le_of_ble_eq_true rfl) (Nat.le_of_ble_eq_true rfl) dX9_init_1 ?_
  refine U_aload_n X 0 dX9_init_4 rfl rfl ?_
  refine U_new X (ci := 10) (N := 7) (T := TX10) (C := RX10) (fs := dfX10) tyX10 tyX10_ok (mBa inB_X10) (mB wcn_RX9_9) (mB wit_X10) (mB win_RX10) rfl dfX10_ok (Nat.le_of_ble_eq_true rfl) (Nat.le_of_ble_eq_true rfl) dX9_init_5 (fun q5 => ?_)
  refine U_dup X dX9_init_8 rfl ?_
  refine U_callIN X (As := []) K_X10_init ⟨va_cnB (host := "SlotCluster") 0 X.2.2.2.2.2.2.1 (gN wc_X10_init) rfl rfl rfl (X.2.2.2.2.2.2.2.2.1 _ (List.mem_of_getElem? wn_RX9_11)) (X.2.2.2.2.2.2.1 (.initialized RX10) (mB win_RX10)) hd_X10_init.2 ⟨Nat.le_of_ble_eq_true rfl, Nat.le_of_ble_eq_true rfl⟩, rfl, X.2.2.2.2.2.2.1 (.instanceMethod yX10_init) (mB wi_X10_init)⟩ rfl (Nat.le_of_ble_eq_true rfl) ⟨Nat.le_of_ble_eq_true rfl, Nat.le_of_ble_eq_true rfl⟩ dX9_init_9 rfl (fun w1 hw1 => ?_)
  obtain ⟨t9, t9_0, ht9, rfl⟩ := hw1
  subst ht9
  refine U_eq X (ws' := ((a, .inr (9, [.null, .null])) :: (WX10 zc t9 t9_0 ++ ([])))) (by simp only [List.cons_append, List.nil_append, List.append_nil, List.append_assoc]) ?_
  refine U_putF X ((a, .inr (9, [.ref (t9 0), .null])) :: (WX10 zc t9 t9_0 ++ ([]))) tyX9 (.object "SlotCluster$View") hin2 (q0 := 0) (ci := 9) (k := 0) (N := 2) (T := TX9) (C := RX9) rfl rfl (by decide) (mBa inB_X9) tyX9_ok nmX9 (mB wl_RX9_12) rfl rfl rfl rfl rfl (Nat.le_of_ble_eq_true rfl) rfl dX9_init_12 ?_
  refine U_aload_n X 0 dX9_init_15 rfl rfl ?_
  refine U_bipush X 8 dX9_init_16 (by decide) ?_
  refine U_newa X 8 (mB wac) (by decide) (by decide) (by decide) (Nat.le_of_ble_eq_true rfl) (Nat.le_of_ble_eq_true rfl) dX9_init_18 (fun q18 => ?_)
  refine U_eq X (ws' := ((a, .inr (9, [.ref (t9 0), .null])) :: (WX10 zc t9 t9_0 ++ ((q18, .inl (zc 0, 8, .inl (fun _ => 0))) :: [])))) (by simp only [List.cons_append, List.nil_append, List.append_nil, List.append_assoc]) ?_
  refine U_putF X ((a, .inr (9, [.ref (t9 0), .ref q18])) :: (WX10 zc t9 t9_0 ++ ((q18, .inl (zc 0, 8, .inl (fun _ => 0))) :: []))) tyX9 (.array .int) hin2 (q0 := 0) (ci := 9) (k := 1) (N := 2) (T := TX9) (C := RX9) rfl rfl (by decide) (mBa inB_X9) tyX9_ok nmX9 (mB wl_RX9_18) rfl rfl rfl rfl rfl (Nat.le_of_ble_eq_true rfl) rfl dX9_init_20 ?_
  exact U_vret X ⟨(fun i => [a, q18].getD i 0), t9, t9_0, rfl, rfl⟩ dX9_init_23
