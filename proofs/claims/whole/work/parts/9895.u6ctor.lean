/-! constructors, State, Past -/
def WX7 (zc : Nat → ClassId) (x1 : Nat) (t f : Nat → Nat) : va_W := (t 0, .inr (7, [.ref (t 1), .ref (t 2), .int 0, .int 0, .int 0, .int 100, .int 50, .int 0, .int 1, .int 0, .ref x1])) :: (t 1, .inl (zc 2, 8, .inr (.inr (.inr (.inr (fun j => if j < 8 then some (f j) else none)))))) :: (t 2, .inl (zc 0, 240, .inl (fun _ => 0))) :: (List.range 8).map (fun j => (f j, .inr (5, [.int 0, .int 0, .int 0, .int 1, .int 0, .int 0, .int 0, .int 0, .int 0, .int 0, .int 0])))
theorem va_grow {f : Nat → Nat} {i q : Nat} : va_up (fun j => if j < i then some (f j) else none) i (some q) = fun j => if j < i + 1 then some (if j = i then q else f j) else none := by
  funext j
  unfold va_up
  by_cases e : j = i
  · subst e; simp
  · rw [if_neg e, if_neg e]
    dsimp only
    by_cases h : j < i
    · rw [if_pos h, if_pos (by omega)]
    · rw [if_neg h, if_neg (by omega)]
theorem map_grow {α : Type} {F : Nat → Nat → α} {f : Nat → Nat} {i q : Nat} : (List.range (i + 1)).map (fun j => F (if j = i then q else f j) j) = (List.range i).map (fun j => F (f j) j) ++ [F q i] := by
  rw [List.range_succ, List.map_append]
  congr 1
  · apply List.map_congr_left
    intro j hj
    have := List.mem_range.mp hj
    rw [if_neg (by omega)]
  · simp
def rmU_X7_init : Room := { frames := 2, cells := 10, slots := 336, locals := 40 }
set_option maxRecDepth 100000 in
set_option maxHeartbeats 4000000 in
theorem K_X7_init {l : Launch} {D : va_G} {zc : Nat → ClassId} {x1 : Nat} : KI l yX7_init wb_X7_init rmU_X7_init D zc [.ref x1] 7 dfX7 (fun a w1 => ∃ t f : Nat → Nat, t 0 = a ∧ w1 = WX7 zc x1 t f) 10 336 := by
  refine KI_of (cc := cX7_init) (maxL := 3) RX7 (fun a => [(0, .ref a), (1, .ref x1)]) (by decide) rfl rfl rfl (fun a => Nat.le_of_ble_eq_true rfl) (fun a => rfl) ?_
  intro p e s m args below meth c A X hin2 a
  refine U_eq X (ws' := ((a, .inr (7, [.null, .null, .int 0, .int 0, .int 0, .int 0, .int 0, .int 0, .int 0, .int 0, .null])) :: [])) rfl ?_
  refine U_aload_n X 0 dX7_init_0 rfl rfl ?_
  refine U_obj X (mB wm_RX7_3_o) (mB wi_o) (mB wc_o) (Nat.le_of_ble_eq_true rfl) (Nat.le_of_ble_eq_true rfl) (Nat.le_of_ble_eq_true rfl) dX7_init_1 ?_
  refine U_aload_n X 0 dX7_init_4 rfl rfl ?_
  refine U_bipush X 8 dX7_init_5 (by decide) ?_
  refine U_newq X (C := RX5) 8 2 X.2.2.2.2.2.2.2.2.2.1.1 rfl (mB wcn_RX7_9) (by decide) (by decide) (by decide) (Nat.le_of_ble_eq_true rfl) (Nat.le_of_ble_eq_true rfl) dX7_init_7 (fun q7 => ?_)
  refine U_eq X (ws' := ((a, .inr (7, [.null, .null, .int 0, .int 0, .int 0, .int 0, .int 0, .int 0, .int 0, .int 0, .null])) :: (q7, .inl (zc 2, 8, .inr (.inr (.inr (.inr (fun _ => none)))))) :: [])) (by simp only [List.cons_append, List.nil_append, List.append_nil, List.append_assoc]) ?_
  refine U_putF X ((a, .inr (7, [.ref q7, .null, .int 0, .int 0, .int 0, .int 0, .int 0, .int 0, .int 0, .int 0, .null])) :: (q7, .inl (zc 2, 8, .inr (.inr (.inr (.inr (fun _ => none)))))) :: []) tyX7 (.array (.object "SlotCluster$Node")) hin2 (q0 := 0) (ci := 7) (k := 0) (N := 11) (T := TX7) (C := RX7) rfl rfl (by decide) (mBa inB_X7) tyX7_ok nmX7 (mB wl_RX7_11) rfl rfl rfl rfl rfl (Nat.le_of_ble_eq_true rfl) rfl dX7_init_10 ?_
  refine U_aload_n X 0 dX7_init_13 rfl rfl ?_
  refine U_sipush X 240 dX7_init_14 (by decide) ?_
  refine U_newa X 240 (mB wac) (by decide) (by decide) (by decide) (Nat.le_of_ble_eq_true rfl) (Nat.le_of_ble_eq_true rfl) dX7_init_17 (fun q17 => ?_)
  refine U_eq X (ws' := ((a, .inr (7, [.ref q7, .null, .int 0, .int 0, .int 0, .int 0, .int 0, .int 0, .int 0, .int 0, .null])) :: (q7, .inl (zc 2, 8, .inr (.inr (.inr (.inr (fun _ => none)))))) :: (q17, .inl (zc 0, 240, .inl (fun _ => 0))) :: [])) (by simp only [List.cons_append, List.nil_append, List.append_nil, List.append_assoc]) ?_
  refine U_putF X ((a, .inr (7, [.ref q7, .ref q17, .int 0, .int 0, .int 0, .int 0, .int 0, .int 0, .int 0, .int 0, .null])) :: (q7, .inl (zc 2, 8, .inr (.inr (.inr (.inr (fun _ => none)))))) :: (q17, .inl (zc 0, 240, .inl (fun _ => 0))) :: []) tyX7 (.array .int) hin2 (q0 := 0) (ci := 7) (k := 1) (N := 11) (T := TX7) (C := RX7) rfl rfl (by decide) (mBa inB_X7) tyX7_ok nmX7 (mB wl_RX7_17) rfl rfl rfl rfl rfl (Nat.le_of_ble_eq_true rfl) rfl dX7_init_19 ?_
  refine U_aload_n X 0 dX7_init_22 rfl rfl ?_
  refine U_bipush X 100 dX7_init_23 (by decide) ?_
  refine U_putf X ((a, .inr (7, [.ref q7, .ref q17, .int 0, .int 0, .int 0, .int 100, .int 0, .int 0, .int 0, .int 0, .null])) :: (q7, .inl (zc 2, 8, .inr (.inr (.inr (.inr (fun _ => none)))))) :: (q17, .inl (zc 0, 240, .inl (fun _ => 0))) :: []) tyX7 (.int) (q0 := 0) (ci := 7) (k := 5) (N := 11) (T := TX7) (C := RX7) rfl rfl (by decide) (mBa inB_X7) tyX7_ok nmX7 (mB wl_RX7_21) rfl rfl rfl rfl (Nat.le_of_ble_eq_true rfl) rfl dX7_init_25 ?_
  refine U_aload_n X 0 dX7_init_28 rfl rfl ?_
  refine U_bipush X 50 dX7_init_29 (by decide) ?_
  refine U_putf X ((a, .inr (7, [.ref q7, .ref q17, .int 0, .int 0, .int 0, .int 100, .int 50, .int 0, .int 0, .int 0, .null])) :: (q7, .inl (zc 2, 8, .inr (.inr (.inr (.inr (fun _ => none)))))) :: (q17, .inl (zc 0, 240, .inl (fun _ => 0))) :: []) tyX7 (.int) (q0 := 0) (ci := 7) (k := 6) (N := 11) (T := TX7) (C := RX7) rfl rfl (by decide) (mBa inB_X7) tyX7_ok nmX7 (mB wl_RX7_25) rfl rfl rfl rfl (Nat.le_of_ble_eq_true rfl) rfl dX7_init_31 ?_
  refine U_aload_n X 0 dX7_init_34 rfl rfl ?_
  refine U_iconst X 1 dX7_init_35 (by decide) ?_
  refine U_putf X ((a, .inr (7, [.ref q7, .ref q17, .int 0, .int 0, .int 0, .int 100, .int 50, .int 0, .int 1, .int 0, .null])) :: (q7, .inl (zc 2, 8, .inr (.inr (.inr (.inr (fun _ => none)))))) :: (q17, .inl (zc 0, 240, .inl (fun _ => 0))) :: []) tyX7 (.int) (q0 := 0) (ci := 7) (k := 8) (N := 11) (T := TX7) (C := RX7) rfl rfl (by decide) (mBa inB_X7) tyX7_ok nmX7 (mB wl_RX7_28) rfl rfl rfl rfl (Nat.le_of_ble_eq_true rfl) rfl dX7_init_36 ?_
  refine U_aload_n X 0 dX7_init_39 rfl rfl ?_
  refine U_aload_n X 1 dX7_init_40 rfl rfl ?_
  refine U_putf X ((a, .inr (7, [.ref q7, .ref q17, .int 0, .int 0, .int 0, .int 100, .int 50, .int 0, .int 1, .int 0, .ref x1])) :: (q7, .inl (zc 2, 8, .inr (.inr (.inr (.inr (fun _ => none)))))) :: (q17, .inl (zc 0, 240, .inl (fun _ => 0))) :: []) tyX7 (.object "SlotCluster$Law") (q0 := 0) (ci := 7) (k := 10) (N := 11) (T := TX7) (C := RX7) rfl rfl (by decide) (mBa inB_X7) tyX7_ok nmX7 (mB wl_RX7_31) rfl rfl rfl rfl (Nat.le_of_ble_eq_true rfl) rfl dX7_init_41 ?_
  refine U_iconst X 0 dX7_init_44 (by decide) ?_
  refine U_istore_n X [(2, .int 0), (0, .ref a), (1, .ref x1)] dX7_init_45 rfl (by decide) rfl ?_
  have loop : ∀ (n i : Nat) (f : Nat → Nat), i + n = 8 → UW l e below (EndI below D A args s (fun w1 => ∃ t f : Nat → Nat, t 0 = a ∧ w1 = WX7 zc x1 t f) 10 336) X (2 + i) (248 + 11 * i) ((a, .inr (7, [.ref q7, .ref q17, .int 0, .int 0, .int 0, .int 100, .int 50, .int 0, .int 1, .int 0, .ref x1])) :: (q7, .inl (zc 2, 8, .inr (.inr (.inr (.inr (fun j => if j < i then some (f j) else none)))))) :: (q17, .inl (zc 0, 240, .inl (fun _ => 0))) :: (List.range i).map (fun j => (f j, .inr (5, [.int 0, .int 0, .int 0, .int 1, .int 0, .int 0, .int 0, .int 0, .int 0, .int 0, .int 0])))) 46 [(2, .int (nI i)), (0, .ref a), (1, .ref x1)] [] := by
    intro n
    induction n with
    | zero =>
      intro i f hi
      have : i = 8 := by omega
      subst this
      refine U_iload_n X 0 dX7_init_46 rfl rfl ?_
      refine U_aload_n X 1 dX7_init_47 rfl rfl ?_
      refine U_getf X (q0 := 0) (ci := 7) (k := 0) (N := 11) (T := TX7) (C := RX7) rfl rfl rfl (by decide) (mBa inB_X7) (mB wl_RX7_11) dX7_init_48 ?_
      refine U_alenq X (q0 := 1) (t0 := 2) 8 rfl rfl rfl dX7_init_51 ?_
      refine U_icmp_ge X dX7_init_52 rfl (fun _ => ?_) (fun h => absurd (show (8 : Int32) ≤ nI 8 by decide) h)
      exact U_vret X ⟨(fun i => [a, q7, q17].getD i 0), f, rfl, rfl⟩ dX7_init_74
    | succ n ih =>
      intro i f hi
      refine U_iload_n X 0 dX7_init_46 rfl rfl ?_
      refine U_aload_n X 1 dX7_init_47 rfl rfl ?_
      refine U_getf X (q0 := 0) (ci := 7) (k := 0) (N := 11) (T := TX7) (C := RX7) rfl rfl rfl (by decide) (mBa inB_X7) (mB wl_RX7_11) dX7_init_48 ?_
      refine U_alenq X (q0 := 1) (t0 := 2) 8 rfl rfl rfl dX7_init_51 ?_
      refine U_icmp_ge X dX7_init_52 rfl (fun h => absurd h (show ¬ (8 : Int32) ≤ nI i from nI_ge (b := 8) (by omega) (by omega))) (fun _ => ?_)
      refine U_aload_n X 1 dX7_init_55 rfl rfl ?_
      refine U_getf X (q0 := 0) (ci := 7) (k := 0) (N := 11) (T := TX7) (C := RX7) rfl rfl rfl (by decide) (mBa inB_X7) (mB wl_RX7_11) dX7_init_56 ?_
      refine U_iload_n X 0 dX7_init_59 rfl rfl ?_
      refine U_new X (ci := 5) (N := 11) (T := TX5) (C := RX5) (fs := dfX5) tyX5 tyX5_ok (mBa inB_X5) (mB wcn_RX7_9) (mB wit_X5) (mB win_RX5) rfl dfX5_ok (by show 2 + i + 1 ≤ 10; omega) (by show 248 + 11 * i + 11 ≤ 336; omega) dX7_init_60 (fun q => ?_)
      refine U_dup X dX7_init_63 rfl ?_
      refine U_callIN X (As := []) K_X5_init ⟨va_cnB (host := "SlotCluster") 0 X.2.2.2.2.2.2.1 (gN wc_X5_init) rfl rfl rfl (X.2.2.2.2.2.2.2.2.1 _ (List.mem_of_getElem? wn_RX7_35)) (X.2.2.2.2.2.2.1 (.initialized RX5) (mB win_RX5)) hd_X5_init.2 ⟨Nat.le_of_ble_eq_true rfl, Nat.le_of_ble_eq_true rfl⟩, rfl, X.2.2.2.2.2.2.1 (.instanceMethod yX5_init) (mB wi_X5_init)⟩ rfl (Nat.le_of_ble_eq_true rfl) ⟨by show 2 + i + 1 + 0 ≤ 10; omega, by show 248 + 11 * i + 11 + 0 ≤ 336; omega⟩ dX7_init_64 rfl (fun w1 hw1 => ?_)
      obtain ⟨t, ht, rfl⟩ := hw1
      subst ht
      refine U_astq X (q0 := 1) (qk := 3 + i) (t0 := 2) (ci := 5) (vs := [.int 0, .int 0, .int 0, .int 1, .int 0, .int 0, .int 0, .int 0, .int 0, .int 0, .int 0]) ((a, .inr (7, [.ref q7, .ref q17, .int 0, .int 0, .int 0, .int 100, .int 50, .int 0, .int 1, .int 0, .ref x1])) :: (q7, .inl (zc 2, 8, .inr (.inr (.inr (.inr (va_up (fun j => if j < i then some (f j) else none) (nI i).toNatClampNeg (some (t 0)))))))) :: (q17, .inl (zc 0, 240, .inl (fun _ => 0))) :: ((List.range i).map (fun j => (f j, .inr (5, [.int 0, .int 0, .int 0, .int 1, .int 0, .int 0, .int 0, .int 0, .int 0, .int 0, .int 0]))) ++ WX5 zc t)) rfl rfl ?_ rfl (zin_nI (by omega) (by omega)) rfl dX7_init_67 ?_
      · rw [List.getElem?_append_right (by simp; omega)]
        simp only [List.length_cons, List.length_map, List.length_range]
        rw [show 3 + i - (i + 1 + 1 + 1) = 0 by omega]
        rfl
      refine U_iinc X 0 (nI (i + 1)) [(2, .int (nI (i + 1))), (0, .ref a), (1, .ref x1)] dX7_init_68 rfl (nI_1 i) (by decide) rfl ?_
      refine U_goto X dX7_init_71 rfl ?_
      refine U_eq X ?_ (ih (i + 1) (fun j => if j = i then t 0 else f j) (by omega))
      rw [nI_cl (by omega), va_grow, map_grow (F := fun (x : Nat) (_ : Nat) => (x, (Sum.inr (5, [.int 0, .int 0, .int 0, .int 1, .int 0, .int 0, .int 0, .int 0, .int 0, .int 0, .int 0]) : va_E)))]
      rfl
  exact loop 8 0 (fun _ => 0) rfl
def WX6 (zc : Nat → ClassId) (x1 : Nat) (t : Nat → Nat) (g : Nat → (Nat → Nat) × (Nat → Nat)) : va_W := (t 0, .inr (6, [.ref (t 1), .int 0, .int 0])) :: (t 1, .inl (zc 3, 12, .inr (.inr (.inr (.inr (fun j => if j < 12 then some ((g j).1 0) else none)))))) :: (List.range 12).flatMap (fun j => WX7 zc x1 (g j).1 (g j).2)
theorem va_growg {g : Nat → (Nat → Nat) × (Nat → Nat)} {i : Nat} {t f : Nat → Nat} : va_up (fun j => if j < i then some ((g j).1 0) else none) i (some (t 0)) = fun j => if j < i + 1 then some ((if j = i then (t, f) else g j).1 0) else none := by
  funext j
  unfold va_up
  by_cases e : j = i
  · subst e; simp
  · rw [if_neg e, if_neg e]
    dsimp only
    by_cases h : j < i
    · rw [if_pos h, if_pos (by omega)]
    · rw [if_neg h, if_neg (by omega)]
theorem flat_grow {α β : Type} {F : α → List β} {g : Nat → α} {i : Nat} {q : α} : (List.range (i + 1)).flatMap (fun j => F (if j = i then q else g j)) = (List.range i).flatMap (fun j => F (g j)) ++ F q := by
  rw [List.range_succ, List.flatMap_append]
  congr 1
  · have : ∀ l : List Nat, (∀ j ∈ l, j < i) → l.flatMap (fun j => F (if j = i then q else g j)) = l.flatMap (fun j => F (g j)) := by
      intro l
      induction l with
      | nil => intro _; rfl
      | cons b l ih =>
        intro h
        rw [List.flatMap_cons, List.flatMap_cons, ih (fun j hj => h j (List.mem_cons_of_mem _ hj)), if_neg (by have := h b List.mem_cons_self; omega)]
    exact this _ (fun j hj => List.mem_range.mp hj)
  · simp
def rmU_X6_init : Room := { frames := 3, cells := 133, slots := 4176, locals := 62 }
set_option maxRecDepth 100000 in
set_option maxHeartbeats 4000000 in
theorem K_X6_init {l : Launch} {D : va_G} {zc : Nat → ClassId} {x1 : Nat} : KI l yX6_init wb_X6_init rmU_X6_init D zc [.ref x1] 6 dfX6 (fun a w1 => ∃ (t : Nat → Nat) (g : Nat → (Nat → Nat) × (Nat → Nat)), t 0 = a ∧ w1 = WX6 zc x1 t g) 133 4176 := by
  refine KI_of (cc := cX6_init) (maxL := 3) RX6 (fun a => [(0, .ref a), (1, .ref x1)]) (by decide) rfl rfl rfl (fun a => Nat.le_of_ble_eq_true rfl) (fun a => rfl) ?_
  intro p e s m args below meth c A X hin2 a
  refine U_eq X (ws' := ((a, .inr (6, [.null, .int 0, .int 0])) :: [])) rfl ?_
  refine U_aload_n X 0 dX6_init_0 rfl rfl ?_
  refine U_obj X (mB wm_RX6_3_o) (mB wi_o) (mB wc_o) (Nat.le_of_ble_eq_true rfl) (Nat.le_of_ble_eq_true rfl) (Nat.le_of_ble_eq_true rfl) dX6_init_1 ?_
  refine U_aload_n X 0 dX6_init_4 rfl rfl ?_
  refine U_bipush X 12 dX6_init_5 (by decide) ?_
  refine U_newq X (C := RX7) 12 3 X.2.2.2.2.2.2.2.2.2.1.2.1 rfl (mB wcn_RX6_9) (by decide) (by decide) (by decide) (Nat.le_of_ble_eq_true rfl) (Nat.le_of_ble_eq_true rfl) dX6_init_7 (fun q7 => ?_)
  refine U_eq X (ws' := ((a, .inr (6, [.null, .int 0, .int 0])) :: (q7, .inl (zc 3, 12, .inr (.inr (.inr (.inr (fun _ => none)))))) :: [])) (by simp only [List.cons_append, List.nil_append, List.append_nil, List.append_assoc]) ?_
  refine U_putF X ((a, .inr (6, [.ref q7, .int 0, .int 0])) :: (q7, .inl (zc 3, 12, .inr (.inr (.inr (.inr (fun _ => none)))))) :: []) tyX6 (.array (.object "SlotCluster$State")) hin2 (q0 := 0) (ci := 6) (k := 0) (N := 3) (T := TX6) (C := RX6) rfl rfl (by decide) (mBa inB_X6) tyX6_ok nmX6 (mB wl_RX6_11) rfl rfl rfl rfl rfl (Nat.le_of_ble_eq_true rfl) rfl dX6_init_10 ?_
  refine U_iconst X 0 dX6_init_13 (by decide) ?_
  refine U_istore_n X [(2, .int 0), (0, .ref a), (1, .ref x1)] dX6_init_14 rfl (by decide) rfl ?_
  have loop : ∀ (n i : Nat) (g : Nat → (Nat → Nat) × (Nat → Nat)), i + n = 12 → UW l e below (EndI below D A args s (fun w1 => ∃ (t : Nat → Nat) (g : Nat → (Nat → Nat) × (Nat → Nat)), t 0 = a ∧ w1 = WX6 zc x1 t g) 133 4176) X (1 + 11 * i) (12 + 347 * i) ((a, .inr (6, [.ref q7, .int 0, .int 0])) :: (q7, .inl (zc 3, 12, .inr (.inr (.inr (.inr (fun j => if j < i then some ((g j).1 0) else none)))))) :: (List.range i).flatMap (fun j => WX7 zc x1 (g j).1 (g j).2)) 15 [(2, .int (nI i)), (0, .ref a), (1, .ref x1)] [] := by
    intro n
    induction n with
    | zero =>
      intro i g hi
      have : i = 12 := by omega
      subst this
      refine U_iload_n X 0 dX6_init_15 rfl rfl ?_
      refine U_aload_n X 1 dX6_init_16 rfl rfl ?_
      refine U_getf X (q0 := 0) (ci := 6) (k := 0) (N := 3) (T := TX6) (C := RX6) rfl rfl rfl (by decide) (mBa inB_X6) (mB wl_RX6_11) dX6_init_17 ?_
      refine U_alenq X (q0 := 1) (t0 := 3) 12 rfl rfl rfl dX6_init_20 ?_
      refine U_icmp_ge X dX6_init_21 rfl (fun _ => ?_) (fun h => absurd (show (12 : Int32) ≤ nI 12 by decide) h)
      exact U_vret X ⟨(fun i => [a, q7].getD i 0), g, rfl, rfl⟩ dX6_init_44
    | succ n ih =>
      intro i g hi
      refine U_iload_n X 0 dX6_init_15 rfl rfl ?_
      refine U_aload_n X 1 dX6_init_16 rfl rfl ?_
      refine U_getf X (q0 := 0) (ci := 6) (k := 0) (N := 3) (T := TX6) (C := RX6) rfl rfl rfl (by decide) (mBa inB_X6) (mB wl_RX6_11) dX6_init_17 ?_
      refine U_alenq X (q0 := 1) (t0 := 3) 12 rfl rfl rfl dX6_init_20 ?_
      refine U_icmp_ge X dX6_init_21 rfl (fun h => absurd h (show ¬ (12 : Int32) ≤ nI i from nI_ge (b := 12) (by omega) (by omega))) (fun _ => ?_)
      refine U_aload_n X 1 dX6_init_24 rfl rfl ?_
      refine U_getf X (q0 := 0) (ci := 6) (k := 0) (N := 3) (T := TX6) (C := RX6) rfl rfl rfl (by decide) (mBa inB_X6) (mB wl_RX6_11) dX6_init_25 ?_
      refine U_iload_n X 0 dX6_init_28 rfl rfl ?_
      refine U_new X (ci := 7) (N := 11) (T := TX7) (C := RX7) (fs := dfX7) tyX7 tyX7_ok (mBa inB_X7) (mB wcn_RX6_9) (mB wit_X7) (mB win_RX7) rfl dfX7_ok (by show 1 + 11 * i + 1 ≤ 133; omega) (by show 12 + 347 * i + 11 ≤ 4176; omega) dX6_init_29 (fun q => ?_)
      refine U_dup X dX6_init_32 rfl ?_
      refine U_aload_n X 2 dX6_init_33 rfl rfl ?_
      refine U_callI X (As := [.ref x1]) K_X7_init (cwI 1 X.2.2.2.2.2.2.1 (gN wc_X7_init) rfl rfl rfl (X.2.2.2.2.2.2.1 (.initialized RX7) (mB win_RX7)) (X.2.2.2.2.2.2.1 (.methodLink RX6 17 yX7_init) (mB wm_RX6_17)) (X.2.2.2.2.2.2.1 (.instanceMethod yX7_init) (mB wi_X7_init)) rfl hd_X7_init.2 ⟨Nat.le_of_ble_eq_true rfl, Nat.le_of_ble_eq_true rfl⟩) rfl (Nat.le_of_ble_eq_true rfl) ⟨by show 1 + 11 * i + 1 + 10 ≤ 133; omega, by show 12 + 347 * i + 11 + 336 ≤ 4176; omega⟩ dX6_init_34 rfl (fun w1 hw1 => ?_)
      obtain ⟨t, f, ht, rfl⟩ := hw1
      subst ht
      refine U_astq X (q0 := 1) (qk := ((List.range i).flatMap (fun j => WX7 zc x1 (g j).1 (g j).2)).length + 2) (t0 := 3) (ci := 7) ((a, .inr (6, [.ref q7, .int 0, .int 0])) :: (q7, .inl (zc 3, 12, .inr (.inr (.inr (.inr (va_up (fun j => if j < i then some ((g j).1 0) else none) (nI i).toNatClampNeg (some (t 0)))))))) :: ((List.range i).flatMap (fun j => WX7 zc x1 (g j).1 (g j).2) ++ WX7 zc x1 t f)) rfl rfl (vs := [.ref (t 1), .ref (t 2), .int 0, .int 0, .int 0, .int 100, .int 50, .int 0, .int 1, .int 0, .ref x1]) ?_ rfl (zin_nI (by omega) (by omega)) rfl dX6_init_37 ?_
      · rw [List.getElem?_append_right (by simp only [List.length_cons]; omega)]
        simp only [List.length_cons]
        rw [show ∀ n : Nat, n + 2 - (n + 1 + 1) = 0 from fun n => by omega]
        rfl
      refine U_iinc X 0 (nI (i + 1)) [(2, .int (nI (i + 1))), (0, .ref a), (1, .ref x1)] dX6_init_38 rfl (nI_1 i) (by decide) rfl ?_
      refine U_goto X dX6_init_41 rfl ?_
      have eC : 1 + 11 * i + 1 + 10 = 1 + 11 * (i + 1) := by omega
      have eS : 12 + 347 * i + 11 + 336 = 12 + 347 * (i + 1) := by omega
      rw [eC, eS]
      refine U_eq X ?_ (ih (i + 1) (fun j => if j = i then (t, f) else g j) (by omega))
      rw [nI_cl (by omega), va_growg (f := f), flat_grow (F := fun q : (Nat → Nat) × (Nat → Nat) => WX7 zc x1 q.1 q.2)]
  exact loop 12 0 (fun _ => (fun _ => 0, fun _ => 0)) rfl
