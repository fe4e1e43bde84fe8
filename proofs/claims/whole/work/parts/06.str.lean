theorem wm_RJ0_335 : Cond.methodLink RJ0 335 yJ0_coder_7d493 ∈ BIG := bm 726 (by decide +kernel) (by decide +kernel)
theorem wc_J0_coder_7d493 : Cond.code yJ0_coder_7d493 cJ0_coder_7d493 1 (some .byte) ∈ BIG := bm 729 (by decide +kernel) (by decide +kernel)
theorem wi_J0_coder_7d493 : Cond.instanceMethod yJ0_coder_7d493 ∈ BIG := bm 727 (by decide +kernel) (by decide +kernel)
theorem wse_J0_coder_7d493 : Cond.selects RJ0 yJ0_coder_7d493 yJ0_coder_7d493 ∈ BIG := bm 728 (by decide +kernel) (by decide +kernel)
theorem wm_RJ0_492 : Cond.methodLink RJ0 492 yJ0_isLatin1_aae02 ∈ BIG := bm 736 (by decide +kernel) (by decide +kernel)
theorem wc_J0_isLatin1_aae02 : Cond.code yJ0_isLatin1_aae02 cJ0_isLatin1_aae02 1 (some .boolean) ∈ BIG := bm 739 (by decide +kernel) (by decide +kernel)
theorem wi_J0_isLatin1_aae02 : Cond.instanceMethod yJ0_isLatin1_aae02 ∈ BIG := bm 737 (by decide +kernel) (by decide +kernel)
theorem wse_J0_isLatin1_aae02 : Cond.selects RJ0 yJ0_isLatin1_aae02 yJ0_isLatin1_aae02 ∈ BIG := bm 738 (by decide +kernel) (by decide +kernel)
theorem wm_RJ0_495 : Cond.methodLink RJ0 495 yJ1_charAt_3b067 ∈ BIG := bm 740 (by decide +kernel) (by decide +kernel)
theorem win_RJ1 : Cond.initialized RJ1 ∈ BIG := bm 16 (by decide +kernel) (by decide +kernel)
theorem wc_J1_charAt_3b067 : Cond.code yJ1_charAt_3b067 cJ1_charAt_3b067 2 (some .char) ∈ BIG := bm 742 (by decide +kernel) (by decide +kernel)
theorem wst_J1_charAt_3b067 : Cond.static yJ1_charAt_3b067 ∈ BIG := bm 741 (by decide +kernel) (by decide +kernel)
theorem wm_RJ0_498 : Cond.methodLink RJ0 498 yJ2_charAt_3b067 ∈ BIG := bm 751 (by decide +kernel) (by decide +kernel)
theorem win_RJ2 : Cond.initialized RJ2 ∈ BIG := bm 18 (by decide +kernel) (by decide +kernel)
theorem wc_J2_charAt_3b067 : Cond.code yJ2_charAt_3b067 cJ2_charAt_3b067 2 (some .char) ∈ BIG := bm 753 (by decide +kernel) (by decide +kernel)
theorem wst_J2_charAt_3b067 : Cond.static yJ2_charAt_3b067 ∈ BIG := bm 752 (by decide +kernel) (by decide +kernel)
theorem wm_RJ0_1059 : Cond.methodLink RJ0 1059 yJ3_checkIndex_8e157 ∈ BIG := bm 748 (by decide +kernel) (by decide +kernel)
theorem win_RJ3 : Cond.initialized RJ3 ∈ BIG := bm 17 (by decide +kernel) (by decide +kernel)
theorem wc_J3_checkIndex_8e157 : Cond.code yJ3_checkIndex_8e157 cJ3_checkIndex_8e157 3 (some .int) ∈ BIG := bm 750 (by decide +kernel) (by decide +kernel)
theorem wst_J3_checkIndex_8e157 : Cond.static yJ3_checkIndex_8e157 ∈ BIG := bm 749 (by decide +kernel) (by decide +kernel)
theorem wm_RJ1_9 : Cond.methodLink RJ1 9 yJ0_checkIndex_df160 ∈ BIG := bm 743 (by decide +kernel) (by decide +kernel)
theorem wc_J0_checkIndex_df160 : Cond.code yJ0_checkIndex_df160 cJ0_checkIndex_df160 2 none ∈ BIG := bm 745 (by decide +kernel) (by decide +kernel)
theorem wst_J0_checkIndex_df160 : Cond.static yJ0_checkIndex_df160 ∈ BIG := bm 744 (by decide +kernel) (by decide +kernel)
/-! texts that are constants: String.length, String.charAt -/
section VS
variable {p : Program} {l : Launch} {e : Env} {R : Room} {s : State} {m : MethodId} {args : Array Value} {below : List Frame} {meth : Method} {c : Code} {Q : State → Prop}
variable {own : String} {cc : ByteArray} {nL : Nat} {ret : Option FieldType} {Ts : List Cond} {D : va_G} {A : Nat → Prop} {y : ZLay} {kc ks : Nat}
variable {μ μ' : ZMem} {pc : Nat} {lv : List (Nat × Value)} {st : List Value} {r v : Int32}
theorem V_nret {ty : FieldType} (X : Cx p l e R s m args below meth c (MQ below (QI D y A r μ) args s kc ks A) own cc nL (some ty) Ts D A y kc ks) (hn : narrow ty (.int r) = .int r) (d : decode cc pc = .ok (.ireturn, 1)) : V X μ pc lv [.int r] := fun H locs ls hP hw hS hl =>
  W.zret (hlocks := X.2.2.2.2.1) X.1 X.2.1 X.2.2.2.1 hn (fun t ht hW => ⟨⟨r, (), rfl, rfl, by show PoW D y μ t; unfold PoW; rw [ht]; exact ⟨hP, hw⟩⟩, hS.F ht⟩) hS.2.2 d
variable (X : Cx p l e R s m args below meth c Q own cc nL ret Ts D A y kc ks)
theorem V_ldcS {i ix : Nat} {tx : String} (hq : zStr[i]? = some (own, ix, tx)) (d : decode cc pc = .ok (.ldc ix, 2)) (k : V X μ (pc + 2) lv (.ref (zak y i) :: st)) : V X μ pc lv st := fun H locs ls hP hw hS hl =>
  va_ldcS X.1 X.2.1 X.2.2.2.2.2.1 (X.2.2.2.2.2.2.2.2.2.2.2.2.2.2.1 i _ hq) d (k H locs ls hP hw hS hl)
theorem V_sval {i ix : Nat} (hi : i < 27) (hlink : Cond.fieldLink own ix "java/lang/String" "value" "[B" ∈ Ts) (d : decode cc pc = .ok (.getfield ix, 3)) (k : V X μ (pc + 3) lv (.ref (zav y i) :: st)) : V X μ pc lv (.ref (zak y i) :: st) := fun H locs ls hP hw hS hl =>
  vk_getf X.1 X.2.1 (X.2.2.2.2.2.2.2.2.2.2.2.2.2.1.1 i hi).2.2.1 hS X.2.2.2.2.2.1 (X.2.2.2.2.2.2.1 _ hlink) (fun _ h => h) d (k H locs ls hP hw hS hl)
theorem V_scod {i ix : Nat} (hi : i < 27) (hlink : Cond.fieldLink own ix "java/lang/String" "coder" "B" ∈ Ts) (d : decode cc pc = .ok (.getfield ix, 3)) (k : V X μ (pc + 3) lv (.int 0 :: st)) : V X μ pc lv (.ref (zak y i) :: st) := fun H locs ls hP hw hS hl =>
  vk_getf X.1 X.2.1 (X.2.2.2.2.2.2.2.2.2.2.2.2.2.1.1 i hi).2.1 hS X.2.2.2.2.2.1 (X.2.2.2.2.2.2.1 _ hlink) (fun _ h => h) d (k H locs ls hP hw hS hl)
theorem V_scmp {ix : Nat} (hlink : Cond.fieldLink own ix "java/lang/String" "COMPACT_STRINGS" "Z" ∈ Ts) (d : decode cc pc = .ok (.getstatic ix, 3)) (k : V X μ (pc + 3) lv (.int 1 :: st)) : V X μ pc lv st := fun H locs ls hP hw hS hl =>
  va_gets X.1 X.2.1 X.2.2.2.2.2.2.2.2.2.2.2.2.2.2.2.1 hS X.2.2.2.2.2.1 (X.2.2.2.2.2.2.1 _ hlink) (fun _ h => h) d (k H locs ls hP hw hS hl)
theorem V_ssio {ix : Nat} (hlink : Cond.fieldLink own ix "jdk/internal/util/Preconditions" "SIOOBE_FORMATTER" "Ljava/util/function/BiFunction;" ∈ Ts) (d : decode cc pc = .ok (.getstatic ix, 3)) (k : ∀ w : Value, (w = .null ∨ ∃ t, w = .ref t) → V X μ (pc + 3) lv (w :: st)) : V X μ pc lv st := by
  intro H locs ls hP hw hS hl
  rcases X.2.2.2.2.2.2.2.2.2.2.2.2.2.2.2.2.2.2.2.2.1 with h | ⟨t, h⟩
  · exact va_gets X.1 X.2.1 h hS X.2.2.2.2.2.1 (X.2.2.2.2.2.2.1 _ hlink) (fun _ h => h) d (k .null (Or.inl rfl) H locs ls hP hw hS hl)
  · exact va_gets X.1 X.2.1 h hS X.2.2.2.2.2.1 (X.2.2.2.2.2.2.1 _ hlink) (fun _ h => h) d (k (.ref t) (Or.inr ⟨t, rfl⟩) H locs ls hP hw hS hl)
theorem V_slen {i : Nat} (hi : i < 27) (d : decode cc pc = .ok (.arraylength, 1)) (k : V X μ (pc + 1) lv (.int (Int32.ofNat (zLen.getD i 0)) :: st)) : V X μ pc lv (.ref (zav y i) :: st) := fun H locs ls hP hw hS hl =>
  va_tlen X.1 X.2.1 (X.2.2.2.2.2.2.2.2.2.2.2.2.2.1.1 i hi).2.2.2 hS rfl d (k H locs ls hP hw hS hl)
theorem V_sbal {i : Nat} {j : Int32} (hi : i < 27) (hj : zin j (zLen.getD i 0) = true) (d : decode cc pc = .ok (.baload, 1)) (k : V X μ (pc + 1) lv (.int ((zByt.getD i []).getD j.toNatClampNeg 0) :: st)) : V X μ pc lv (.int j :: .ref (zav y i) :: st) := fun H locs ls hP hw hS hl =>
  va_tb X.1 X.2.1 (X.2.2.2.2.2.2.2.2.2.2.2.2.2.1.1 i hi).2.2.2 hS (zin_vp hj) rfl d (k H locs ls hP hw hS hl)
theorem V_i2c {x : Int32} (v : Int32) (hv : (x.toUInt32 % 65536).toInt32 = v) (d : decode cc pc = .ok (.i2c, 1)) (k : V X μ (pc + 1) lv (.int v :: st)) : V X μ pc lv (.int x :: st) := fun H locs ls hP hw hS hl => lv_i2c X.1 X.2.1 d hv (k H locs ls hP hw hS hl)
variable {ym : MethodName} {w : List Cond} {rm : Room} {bytes : ByteArray} {maxL n ix : Nat} {ret' : Option FieldType} {As st0 : List Value}
/-- a call on a text -/
theorem V_calls {i : Nat} (hi : i < 27) (hM : MI l ym w rm D y (.ref (zak y i) :: As) μ r μ') (cw : CallW R s args own "java/lang/String" ix ym bytes maxL ret' w rm 0 0 n) (hn : As.length = n) (hcat : (st.map fun v => v.category).sum ≤ 8) (d : decode cc pc = .ok (.invokevirtual ix, 3)) (hst : As.reverse ++ .ref (zak y i) :: st = st0) (kk : V X μ' (pc + 3) lv (.int r :: st)) : V X μ pc lv st0 := by
  intro H locs ls hP hw hS hl
  have recv := vk_recv X.2.2.2.2.2.2.2.2.2.2.2.2.2.1 hi hS
  refine va_calli (va_runV (As := As) (rest := st) ⟨X.1, X.2.1, X.2.2.1, X.2.2.2.2.2.1, X.2.2.2.2.2.2.1⟩ (hM H.size) cw ⟨pre_blind, recv, fun U hU hW => ⟨rfl, pre_at (X := X) hP hw hS U hU hW⟩⟩ rfl hn hl.1 hst.symm (lv_room hcat) d ⟨X.2.2.2.2.2.2.2.2.2.2.2.1, X.2.2.2.2.2.2.2.2.2.2.2.2.1⟩) hS (fun q _ h => fA_in (X := X) hS q h) (fA_in (X := X) hS) (fun r0 u t H1 locs1 ht hvm hw1 hB hz1 hk1 hS1 => ?_)
  subst hw1
  obtain ⟨hP1, hw2⟩ := hB
  rw [ht] at hP1
  exact kk H1 locs1 ls hP1 hw2 hS1 hl
end VS
def zchr (i : Nat) (j : Int32) : Int32 := (zByt.getD i []).getD j.toNatClampNeg 0
def zsl (i : Nat) : Int32 := Int32.ofNat (zLen.getD i 0)
theorem zByt_ok : ∀ i, i < 27 → ((zByt.getD i []).length = zLen.getD i 0 ∧ ∀ b ∈ zByt.getD i [], ((b &&& 255).toUInt32 % 65536).toInt32 = b ∧ narrow .char (.int b) = .int b) := by decide +kernel
theorem zLen_sh : ∀ i, i < 27 → (Int32.ofNat (zLen.getD i 0) >>> ((0 : Int32) &&& 31)) = zsl i := by decide +kernel
theorem getD_mem' {L : List Int32} {n : Nat} (h : n < L.length) : L.getD n 0 ∈ L := by
  rw [List.getD_eq_getElem?_getD, List.getElem?_eq_getElem h]
  exact List.getElem_mem h
theorem zchr_ok {i : Nat} {j : Int32} (hi : i < 27) (hj : zin j (zLen.getD i 0) = true) : ((zchr i j &&& 255).toUInt32 % 65536).toInt32 = zchr i j ∧ narrow .char (.int (zchr i j)) = .int (zchr i j) := by
  obtain ⟨h1, h2⟩ := zByt_ok i hi
  have hl := zin_lt hj
  rw [← h1] at hl
  refine h2 _ ?_
  unfold zchr
  exact getD_mem' hl
def rm_J : Nat → Room := fun k => { frames := k, cells := 0, slots := 0, locals := 40 * k }
theorem hd_J0_coder : yJ0_coder_7d493.cls = RJ0 ∧ yJ0_coder_7d493.cls ≠ "java/lang/invoke/MethodHandle" ∧ yJ0_coder_7d493.cls ≠ "java/lang/invoke/VarHandle" ∧ (parseMethodDescriptor yJ0_coder_7d493.desc).map (fun d => d.parameters.length) = some 0 := by decide +kernel
theorem hd_J0_isLatin1 : yJ0_isLatin1_aae02.cls = RJ0 ∧ yJ0_isLatin1_aae02.cls ≠ "java/lang/invoke/MethodHandle" ∧ yJ0_isLatin1_aae02.cls ≠ "java/lang/invoke/VarHandle" ∧ (parseMethodDescriptor yJ0_isLatin1_aae02.desc).map (fun d => d.parameters.length) = some 0 := by decide +kernel
theorem hd_J0_length : yJ0_length_8abf5.cls = RJ0 ∧ yJ0_length_8abf5.cls ≠ "java/lang/invoke/MethodHandle" ∧ yJ0_length_8abf5.cls ≠ "java/lang/invoke/VarHandle" ∧ (parseMethodDescriptor yJ0_length_8abf5.desc).map (fun d => d.parameters.length) = some 0 := by decide +kernel
theorem hd_J0_charAt : yJ0_charAt_5068e.cls = RJ0 ∧ yJ0_charAt_5068e.cls ≠ "java/lang/invoke/MethodHandle" ∧ yJ0_charAt_5068e.cls ≠ "java/lang/invoke/VarHandle" ∧ (parseMethodDescriptor yJ0_charAt_5068e.desc).map (fun d => d.parameters.length) = some 1 := by decide +kernel
theorem hd_J0_checkIndex : yJ0_checkIndex_df160.cls = RJ0 ∧ yJ0_checkIndex_df160.cls ≠ "java/lang/invoke/MethodHandle" ∧ yJ0_checkIndex_df160.cls ≠ "java/lang/invoke/VarHandle" ∧ (parseMethodDescriptor yJ0_checkIndex_df160.desc).map (fun d => d.parameters.length) = some 2 := by decide +kernel
theorem hd_J3_checkIndex : yJ3_checkIndex_8e157.cls = RJ3 ∧ yJ3_checkIndex_8e157.cls ≠ "java/lang/invoke/MethodHandle" ∧ yJ3_checkIndex_8e157.cls ≠ "java/lang/invoke/VarHandle" ∧ (parseMethodDescriptor yJ3_checkIndex_8e157.desc).map (fun d => d.parameters.length) = some 3 := by decide +kernel
theorem hd_J1_charAt : yJ1_charAt_3b067.cls = RJ1 ∧ yJ1_charAt_3b067.cls ≠ "java/lang/invoke/MethodHandle" ∧ yJ1_charAt_3b067.cls ≠ "java/lang/invoke/VarHandle" ∧ (parseMethodDescriptor yJ1_charAt_3b067.desc).map (fun d => d.parameters.length) = some 2 := by decide +kernel
set_option maxRecDepth 100000 in
set_option maxHeartbeats 4000000 in
theorem M_J0_coder {l : Launch} {D : va_G} {y : ZLay} {i : Nat} {μ : ZMem} (hi : i < 27) : MI l yJ0_coder_7d493 wb_J0_coder_7d493 (rm_J 1) D y [.ref (zak y i)] μ 0 μ := by
  refine MI_of RJ0 [(0, .ref (zak y i))] (by decide +kernel) rfl rfl (Nat.le_of_ble_eq_true rfl) rfl ?_
  intro p e s m args below meth c A X
  refine V_scmp X (ix := 38) (mB wl_RJ0_38) dJ0_coder_7d493_0 ?_
  refine V_if_eq X (tgt := 13) dJ0_coder_7d493_3 (by decide) (fun b => absurd b (by decide)) (fun _ => ?_)
  refine V_aload_n X 0 dJ0_coder_7d493_6 rfl rfl ?_
  refine V_scod X (ix := 15) hi (mB wl_RJ0_15) dJ0_coder_7d493_7 ?_
  refine V_goto X (tgt := 14) dJ0_coder_7d493_10 (by decide) ?_
  exact V_nret X rfl dJ0_coder_7d493_14
set_option maxRecDepth 100000 in
set_option maxHeartbeats 4000000 in
theorem M_J0_isLatin1 {l : Launch} {D : va_G} {y : ZLay} {i : Nat} {μ : ZMem} (hi : i < 27) : MI l yJ0_isLatin1_aae02 wb_J0_isLatin1_aae02 (rm_J 1) D y [.ref (zak y i)] μ 1 μ := by
  refine MI_of RJ0 [(0, .ref (zak y i))] (by decide +kernel) rfl rfl (Nat.le_of_ble_eq_true rfl) rfl ?_
  intro p e s m args below meth c A X
  refine V_scmp X (ix := 38) (mB wl_RJ0_38) dJ0_isLatin1_aae02_0 ?_
  refine V_if_eq X (tgt := 17) dJ0_isLatin1_aae02_3 (by decide) (fun b => absurd b (by decide)) (fun _ => ?_)
  refine V_aload_n X 0 dJ0_isLatin1_aae02_6 rfl rfl ?_
  refine V_scod X (ix := 15) hi (mB wl_RJ0_15) dJ0_isLatin1_aae02_7 ?_
  refine V_if_ne X (tgt := 17) dJ0_isLatin1_aae02_10 (by decide) (fun b => absurd rfl b) (fun _ => ?_)
  refine V_iconst X 1 dJ0_isLatin1_aae02_13 (by decide) ?_
  refine V_goto X (tgt := 18) dJ0_isLatin1_aae02_14 (by decide) ?_
  exact V_zret X dJ0_isLatin1_aae02_18 (by decide)
set_option maxRecDepth 100000 in
set_option maxHeartbeats 4000000 in
theorem M_J0_length {l : Launch} {D : va_G} {y : ZLay} {i : Nat} {μ : ZMem} (hi : i < 27) : MI l yJ0_length_8abf5 wb_J0_length_8abf5 (rm_J 2) D y [.ref (zak y i)] μ (zsl i) μ := by
  refine MI_of RJ0 [(0, .ref (zak y i))] (by decide +kernel) rfl rfl (Nat.le_of_ble_eq_true rfl) rfl ?_
  intro p e s m args below meth c A X
  refine V_aload_n X 0 dJ0_length_8abf5_0 rfl rfl ?_
  refine V_sval X (ix := 9) hi (mB wl_RJ0_9) dJ0_length_8abf5_1 ?_
  refine V_slen X hi dJ0_length_8abf5_4 ?_
  refine V_aload_n X 0 dJ0_length_8abf5_5 rfl rfl ?_
  refine V_calls X (As := []) hi (M_J0_coder hi) (cwV 0 X.2.2.2.2.2.2.1 (gV wm_RJ0_335 wi_J0_coder_7d493 wse_J0_coder_7d493 win_RJ0 wc_J0_coder_7d493) rfl rfl rfl hd_J0_coder ⟨Nat.le_of_ble_eq_true rfl, Nat.le_of_ble_eq_true rfl⟩) rfl (Nat.le_of_ble_eq_true rfl) dJ0_length_8abf5_6 rfl ?_
  refine V_ishr X dJ0_length_8abf5_9 ?_
  rw [zLen_sh i hi]
  exact V_iret X dJ0_length_8abf5_10
set_option maxRecDepth 100000 in
set_option maxHeartbeats 4000000 in
theorem M_J3_checkIndex {l : Launch} {D : va_G} {y : ZLay} {j n : Int32} {w : Value} {μ : ZMem} (hw : w = .null ∨ ∃ t, w = .ref t) (h0 : 0 ≤ j) (hn : j < n) : MI l yJ3_checkIndex_8e157 wb_J3_checkIndex_8e157 (rm_J 1) D y [.int j, .int n, w] μ j μ := by
  have hc : w.category = 1 := by rcases hw with rfl | ⟨t, rfl⟩ <;> rfl
  refine MI_of RJ3 [(0, .int j), (1, .int n), (2, w)] (by decide +kernel) rfl rfl ?_ ?_ ?_
  · rcases hw with rfl | ⟨t, rfl⟩ <;> exact Nat.le_of_ble_eq_true rfl
  · rcases hw with rfl | ⟨t, rfl⟩ <;> rfl
  intro p e s m args below meth c A X
  refine V_iload_n X 0 dJ3_checkIndex_8e157_0 rfl rfl ?_
  refine V_if_lt X (tgt := 9) dJ3_checkIndex_8e157_1 (by decide) (fun b => absurd h0 (Int32.not_le.mpr b)) (fun _ => ?_)
  refine V_iload_n X 0 dJ3_checkIndex_8e157_4 rfl rfl ?_
  refine V_iload_n X 1 dJ3_checkIndex_8e157_5 rfl rfl ?_
  refine V_icmp_lt X (tgt := 16) dJ3_checkIndex_8e157_6 (by decide) (fun _ => ?_) (fun b => absurd hn b)
  refine V_iload_n X 0 dJ3_checkIndex_8e157_16 rfl rfl ?_
  exact V_iret X dJ3_checkIndex_8e157_17
set_option maxRecDepth 100000 in
set_option maxHeartbeats 4000000 in
theorem M_J0_checkIndex {l : Launch} {D : va_G} {y : ZLay} {j n : Int32} {μ : ZMem} (h0 : 0 ≤ j) (hn : j < n) : MV l yJ0_checkIndex_df160 wb_J0_checkIndex_df160 (rm_J 2) D y [.int j, .int n] μ μ := by
  refine MV_of RJ0 [(0, .int j), (1, .int n)] (by decide +kernel) rfl rfl (Nat.le_of_ble_eq_true rfl) rfl ?_
  intro p e s m args below meth c A X
  refine V_iload_n X 0 dJ0_checkIndex_df160_0 rfl rfl ?_
  refine V_iload_n X 1 dJ0_checkIndex_df160_1 rfl rfl ?_
  refine V_ssio X (ix := 1053) (mB wl_RJ0_1053) dJ0_checkIndex_df160_2 (fun w hw => ?_)
  refine V_callSi X (As := [.int j, .int n, w]) (M_J3_checkIndex hw h0 hn) (va_cwS 3 X.2.2.2.2.2.2.1 (gS wm_RJ0_1059 wst_J3_checkIndex_8e157 win_RJ3 wc_J3_checkIndex_8e157) rfl rfl rfl hd_J3_checkIndex.2 ⟨Nat.le_of_ble_eq_true rfl, Nat.le_of_ble_eq_true rfl⟩) rfl (Nat.le_of_ble_eq_true rfl) dJ0_checkIndex_df160_5 rfl ?_
  refine V_pop X dJ0_checkIndex_df160_8 rfl ?_
  exact V_vret X dJ0_checkIndex_df160_9
set_option maxRecDepth 100000 in
set_option maxHeartbeats 4000000 in
theorem M_J1_charAt {l : Launch} {D : va_G} {y : ZLay} {i : Nat} {j : Int32} {μ : ZMem} (hi : i < 27) (hj : zin j (zLen.getD i 0) = true) (hjl : 0 ≤ j ∧ j < Int32.ofNat (zLen.getD i 0)) : MI l yJ1_charAt_3b067 wb_J1_charAt_3b067 (rm_J 3) D y [.ref (zav y i), .int j] μ (zchr i j) μ := by
  refine MI_of RJ1 [(0, .ref (zav y i)), (1, .int j)] (by decide +kernel) rfl rfl (Nat.le_of_ble_eq_true rfl) rfl ?_
  intro p e s m args below meth c A X
  refine V_iload_n X 1 dJ1_charAt_3b067_0 rfl rfl ?_
  refine V_aload_n X 0 dJ1_charAt_3b067_1 rfl rfl ?_
  refine V_slen X hi dJ1_charAt_3b067_2 ?_
  refine V_callSv X (As := [.int j, .int (Int32.ofNat (zLen.getD i 0))]) (M_J0_checkIndex hjl.1 hjl.2) (va_cwS 2 X.2.2.2.2.2.2.1 (gS wm_RJ1_9 wst_J0_checkIndex_df160 win_RJ0 wc_J0_checkIndex_df160) rfl rfl rfl hd_J0_checkIndex.2 ⟨Nat.le_of_ble_eq_true rfl, Nat.le_of_ble_eq_true rfl⟩) rfl (Nat.le_of_ble_eq_true rfl) dJ1_charAt_3b067_3 rfl ?_
  refine V_aload_n X 0 dJ1_charAt_3b067_6 rfl rfl ?_
  refine V_iload_n X 1 dJ1_charAt_3b067_7 rfl rfl ?_
  refine V_sbal X hi hj dJ1_charAt_3b067_8 ?_
  refine V_sipush X 255 dJ1_charAt_3b067_9 (by decide) ?_
  refine V_iand X dJ1_charAt_3b067_12 ?_
  refine V_i2c X (zchr i j) (zchr_ok hi hj).1 dJ1_charAt_3b067_13 ?_
  exact V_nret X (zchr_ok hi hj).2 dJ1_charAt_3b067_14
theorem zin_lti {j : Int32} {n : Nat} (hn : n < 2 ^ 31) (h : zin j n = true) : 0 ≤ j ∧ j < Int32.ofNat n := by
  simp only [zin, Bool.and_eq_true, decide_eq_true_eq] at h
  refine ⟨h.1, ?_⟩
  have h0 : (0 : Int) ≤ j.toInt := Int32.le_iff_toInt_le.mp h.1
  have h2 := h.2
  unfold Int32.toNatClampNeg at h2
  rw [Int32.lt_iff_toInt_lt, Int32.toInt_ofNat_of_lt (by omega)]
  omega
theorem zLen_s : ∀ i, i < 27 → zLen.getD i 0 < 2 ^ 31 := by decide +kernel
set_option maxRecDepth 100000 in
set_option maxHeartbeats 4000000 in
theorem M_J0_charAt {l : Launch} {D : va_G} {y : ZLay} {i : Nat} {j : Int32} {μ : ZMem} (hi : i < 27) (hj : zin j (zLen.getD i 0) = true) : MI l yJ0_charAt_5068e wb_J0_charAt_5068e (rm_J 4) D y [.ref (zak y i), .int j] μ (zchr i j) μ := by
  refine MI_of RJ0 [(0, .ref (zak y i)), (1, .int j)] (by decide +kernel) rfl rfl (Nat.le_of_ble_eq_true rfl) rfl ?_
  intro p e s m args below meth c A X
  refine V_aload_n X 0 dJ0_charAt_5068e_0 rfl rfl ?_
  refine V_calls X (As := []) hi (M_J0_isLatin1 hi) (cwV 0 X.2.2.2.2.2.2.1 (gV wm_RJ0_492 wi_J0_isLatin1_aae02 wse_J0_isLatin1_aae02 win_RJ0 wc_J0_isLatin1_aae02) rfl rfl rfl hd_J0_isLatin1 ⟨Nat.le_of_ble_eq_true rfl, Nat.le_of_ble_eq_true rfl⟩) rfl (Nat.le_of_ble_eq_true rfl) dJ0_charAt_5068e_1 rfl ?_
  refine V_if_eq X (tgt := 16) dJ0_charAt_5068e_4 (by decide) (fun b => absurd b (by decide)) (fun _ => ?_)
  refine V_aload_n X 0 dJ0_charAt_5068e_7 rfl rfl ?_
  refine V_sval X (ix := 9) hi (mB wl_RJ0_9) dJ0_charAt_5068e_8 ?_
  refine V_iload_n X 1 dJ0_charAt_5068e_11 rfl rfl ?_
  refine V_callSi X (As := [.ref (zav y i), .int j]) (M_J1_charAt hi hj (zin_lti (zLen_s i hi) hj)) (va_cwS 2 X.2.2.2.2.2.2.1 (gS wm_RJ0_495 wst_J1_charAt_3b067 win_RJ1 wc_J1_charAt_3b067) rfl rfl rfl hd_J1_charAt.2 ⟨Nat.le_of_ble_eq_true rfl, Nat.le_of_ble_eq_true rfl⟩) rfl (Nat.le_of_ble_eq_true rfl) dJ0_charAt_5068e_12 rfl ?_
  exact V_nret X (zchr_ok hi hj).2 dJ0_charAt_5068e_15
