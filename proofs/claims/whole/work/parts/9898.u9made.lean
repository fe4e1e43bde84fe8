/-! the law made -/
theorem wcn_RX4_28 : Cond.classLink RX4 28 RX3 ∈ BIG := bm 943 (by decide +kernel) (by decide +kernel)
theorem wm_RX4_41 : Cond.methodLink RX4 41 yX3_init ∈ BIG := bm 950 (by decide +kernel) (by decide +kernel)
abbrev wbU_X4_made : List Cond := Cond.code yX4_made cX4_made 1 (some (.object "SlotCluster$Law")) :: BIG
def rmU_X4_made : Room := { frames := 2, cells := 6, slots := 1638, locals := 130 }
/-- the law's reader -/
def WLR (zc : Nat → ClassId) (b tx k0 k1 k2 k3 : Nat) (f0 f1 f2 f3 : Nat → Int32) (lines len : Int32) : va_W := [(b, .inr (4, [.ref tx, .ref k0, .ref k1, .ref k2, .ref k3, .int lines, .int len])), (k0, .inl (zc 0, 12, .inl f0)), (k1, .inl (zc 0, 12, .inl f1)), (k2, .inl (zc 0, 13, .inl f2)), (k3, .inl (zc 0, 400, .inl f3))]
/-- what stands behind: the reader, the copies, the law -/
def WMade (zc : Nat → ClassId) (b tx k0 k1 k2 k3 : Nat) (f0 f1 f2 f3 : Nat → Int32) (lines len : Int32) (nl ml : Nat) (a0 a1 a2 a3 : Nat) (g0 g1 g2 g3 : Nat → Int32) (t : Nat → Nat) : va_W := WLR zc b tx k0 k1 k2 k3 f0 f1 f2 f3 lines len ++ ([(a0, .inl (zc 0, nl, .inl g0)), (a1, .inl (zc 0, nl, .inl g1)), (a2, .inl (zc 0, nl + 1, .inl g2)), (a3, .inl (zc 0, ml, .inl g3))] ++ WX3 zc lines a0 a1 a2 a3 t)
def mdP (zc : Nat → ClassId) (b tx k0 k1 k2 k3 : Nat) (f0 f1 f2 f3 : Nat → Int32) (nl ml : Nat) (a : Nat) (w1 : va_W) : Prop := ∃ (a0 a1 a2 a3 : Nat) (g0 g1 g2 g3 : Nat → Int32) (t : Nat → Nat), t 0 = a ∧ (∀ j, j < nl → g0 j = f0 j) ∧ (∀ j, j < nl → g1 j = f1 j) ∧ (∀ j, j < nl + 1 → g2 j = f2 j) ∧ (∀ j, j < ml → g3 j = f3 j) ∧ w1 = WMade zc b tx k0 k1 k2 k3 f0 f1 f2 f3 (nI nl) (nI ml) nl ml a0 a1 a2 a3 g0 g1 g2 g3 t
set_option maxRecDepth 100000 in
set_option maxHeartbeats 4000000 in
theorem K_X4_made {l : Launch} {D : va_G} {zc : Nat → ClassId} {b tx k0 k1 k2 k3 : Nat} {f0 f1 f2 f3 : Nat → Int32} {nl ml : Nat} (hnl : nl ≤ 12) (hml : ml ≤ 400) : KR l yX4_made wbU_X4_made rmU_X4_made D zc [.ref b] (WLR zc b tx k0 k1 k2 k3 f0 f1 f2 f3 (nI nl) (nI ml)) (mdP zc b tx k0 k1 k2 k3 f0 f1 f2 f3 nl ml) 6 1638 := by
  refine KR_of (cc := cX4_made) (maxL := 1) RX4 [(0, .ref b)] (by decide) rfl rfl (Nat.le_of_ble_eq_true rfl) rfl ?_
  intro p e s m args below meth c A X
  refine U_new X (ci := 3) (N := 6) (T := TX3) (C := RX3) (fs := dfX3) tyX3 tyX3_ok (mBa inB_X3) (mB wcn_RX4_28) (mB wit_X3) (mB win_RX3) rfl dfX3_ok (Nat.le_of_ble_eq_true rfl) (Nat.le_of_ble_eq_true rfl) dX4_made_0 (fun L => ?_)
  refine U_dup X dX4_made_3 rfl ?_
  refine U_eq X (ws' := [(b, .inr (4, [.ref tx, .ref k0, .ref k1, .ref k2, .ref k3, .int (nI nl), .int (nI ml)])), (k0, .inl (zc 0, 12, .inl f0)), (k1, .inl (zc 0, 12, .inl f1)), (k2, .inl (zc 0, 13, .inl f2)), (k3, .inl (zc 0, 400, .inl f3)), (L, .inr (3, dfX3))]) rfl ?_
  refine U_aload_n X 0 dX4_made_4 rfl rfl ?_
  refine U_getf X (q0 := 0) (ci := 4) (k := 5) (N := 7) (T := TX4) (C := RX4) rfl rfl rfl (by decide) (mBa inB_X4) (mB wl_RX4_30) dX4_made_5 ?_
  refine U_aload_n X 0 dX4_made_8 rfl rfl ?_
  refine U_getf X (q0 := 0) (ci := 4) (k := 1) (N := 7) (T := TX4) (C := RX4) rfl rfl rfl (by decide) (mBa inB_X4) (mB wl_RX4_9) dX4_made_9 ?_
  refine U_aload_n X 0 dX4_made_12 rfl rfl ?_
  refine U_getf X (q0 := 0) (ci := 4) (k := 5) (N := 7) (T := TX4) (C := RX4) rfl rfl rfl (by decide) (mBa inB_X4) (mB wl_RX4_30) dX4_made_13 ?_
  refine U_callSr X (As := [.ref k0, .int (nI nl)]) (wr := [(b, .inr (4, [.ref tx, .ref k0, .ref k1, .ref k2, .ref k3, .int (nI nl), .int (nI ml)])), (k1, .inl (zc 0, 12, .inl f1)), (k2, .inl (zc 0, 13, .inl f2)), (k3, .inl (zc 0, 400, .inl f3)), (L, .inr (3, dfX3))]) [1] [0, 2, 3, 4, 5] (K_X4_copyOf (L := 12) (k := nl) (f := f0) (by omega) (by omega)) (va_cwS 2 X.2.2.2.2.2.2.1 (gS wm_RX4_34 wst_X4_copyOf win_RX4 wc_X4_copyOf) rfl rfl rfl hd_X4_copyOf' ⟨Nat.le_of_ble_eq_true rfl, Nat.le_of_ble_eq_true rfl⟩) (by decide) rfl rfl (by decide) (by decide) rfl (Nat.le_of_ble_eq_true rfl) ⟨Nat.le_of_ble_eq_true rfl, Nat.le_of_ble_eq_true rfl⟩ dX4_made_16 rfl (fun a0 w1 hw1 => ?_)
  obtain ⟨g0, hg0, rfl⟩ := hw1
  refine U_aload_n X 0 dX4_made_19 rfl rfl ?_
  refine U_getf X (q0 := 0) (ci := 4) (k := 2) (N := 7) (T := TX4) (C := RX4) rfl rfl rfl (by decide) (mBa inB_X4) (mB wl_RX4_15) dX4_made_20 ?_
  refine U_aload_n X 0 dX4_made_23 rfl rfl ?_
  refine U_getf X (q0 := 0) (ci := 4) (k := 5) (N := 7) (T := TX4) (C := RX4) rfl rfl rfl (by decide) (mBa inB_X4) (mB wl_RX4_30) dX4_made_24 ?_
  refine U_callSr X (As := [.ref k1, .int (nI nl)]) (wr := [(b, .inr (4, [.ref tx, .ref k0, .ref k1, .ref k2, .ref k3, .int (nI nl), .int (nI ml)])), (k2, .inl (zc 0, 13, .inl f2)), (k3, .inl (zc 0, 400, .inl f3)), (L, .inr (3, dfX3)), (k0, .inl (zc 0, 12, .inl f0)), (a0, .inl (zc 0, nl, .inl g0))]) [1] [0, 2, 3, 4, 5, 6] (K_X4_copyOf (L := 12) (k := nl) (f := f1) (by omega) (by omega)) (va_cwS 2 X.2.2.2.2.2.2.1 (gS wm_RX4_34 wst_X4_copyOf win_RX4 wc_X4_copyOf) rfl rfl rfl hd_X4_copyOf' ⟨Nat.le_of_ble_eq_true rfl, Nat.le_of_ble_eq_true rfl⟩) (by decide) rfl rfl (by decide) (by decide) rfl (Nat.le_of_ble_eq_true rfl) ⟨Nat.le_of_ble_eq_true rfl, Nat.le_of_ble_eq_true rfl⟩ dX4_made_27 rfl (fun a1 w1 hw1 => ?_)
  obtain ⟨g1, hg1, rfl⟩ := hw1
  refine U_aload_n X 0 dX4_made_30 rfl rfl ?_
  refine U_getf X (q0 := 0) (ci := 4) (k := 3) (N := 7) (T := TX4) (C := RX4) rfl rfl rfl (by decide) (mBa inB_X4) (mB wl_RX4_18) dX4_made_31 ?_
  refine U_aload_n X 0 dX4_made_34 rfl rfl ?_
  refine U_getf X (q0 := 0) (ci := 4) (k := 5) (N := 7) (T := TX4) (C := RX4) rfl rfl rfl (by decide) (mBa inB_X4) (mB wl_RX4_30) dX4_made_35 ?_
  refine U_iconst X 1 dX4_made_38 (by decide) ?_
  refine U_iadd X dX4_made_39 ?_
  rw [nI_1]
  refine U_callSr X (As := [.ref k2, .int (nI (nl + 1))]) (wr := [(b, .inr (4, [.ref tx, .ref k0, .ref k1, .ref k2, .ref k3, .int (nI nl), .int (nI ml)])), (k3, .inl (zc 0, 400, .inl f3)), (L, .inr (3, dfX3)), (k0, .inl (zc 0, 12, .inl f0)), (a0, .inl (zc 0, nl, .inl g0)), (k1, .inl (zc 0, 12, .inl f1)), (a1, .inl (zc 0, nl, .inl g1))]) [1] [0, 2, 3, 4, 5, 6, 7] (K_X4_copyOf (L := 13) (k := nl + 1) (f := f2) (by omega) (by omega)) (va_cwS 2 X.2.2.2.2.2.2.1 (gS wm_RX4_34 wst_X4_copyOf win_RX4 wc_X4_copyOf) rfl rfl rfl hd_X4_copyOf' ⟨Nat.le_of_ble_eq_true rfl, Nat.le_of_ble_eq_true rfl⟩) (by decide) rfl rfl (by decide) (by decide) rfl (Nat.le_of_ble_eq_true rfl) ⟨Nat.le_of_ble_eq_true rfl, Nat.le_of_ble_eq_true rfl⟩ dX4_made_40 rfl (fun a2 w1 hw1 => ?_)
  obtain ⟨g2, hg2, rfl⟩ := hw1
  refine U_aload_n X 0 dX4_made_43 rfl rfl ?_
  refine U_getf X (q0 := 0) (ci := 4) (k := 4) (N := 7) (T := TX4) (C := RX4) rfl rfl rfl (by decide) (mBa inB_X4) (mB wl_RX4_21) dX4_made_44 ?_
  refine U_aload_n X 0 dX4_made_47 rfl rfl ?_
  refine U_getf X (q0 := 0) (ci := 4) (k := 6) (N := 7) (T := TX4) (C := RX4) rfl rfl rfl (by decide) (mBa inB_X4) (mB wl_RX4_38) dX4_made_48 ?_
  refine U_callSr X (As := [.ref k3, .int (nI ml)]) (wr := [(b, .inr (4, [.ref tx, .ref k0, .ref k1, .ref k2, .ref k3, .int (nI nl), .int (nI ml)])), (L, .inr (3, dfX3)), (k0, .inl (zc 0, 12, .inl f0)), (a0, .inl (zc 0, nl, .inl g0)), (k1, .inl (zc 0, 12, .inl f1)), (a1, .inl (zc 0, nl, .inl g1)), (k2, .inl (zc 0, 13, .inl f2)), (a2, .inl (zc 0, nl + 1, .inl g2))]) [1] [0, 2, 3, 4, 5, 6, 7, 8] (K_X4_copyOf (L := 400) (k := ml) (f := f3) (by omega) (by omega)) (va_cwS 2 X.2.2.2.2.2.2.1 (gS wm_RX4_34 wst_X4_copyOf win_RX4 wc_X4_copyOf) rfl rfl rfl hd_X4_copyOf' ⟨Nat.le_of_ble_eq_true rfl, Nat.le_of_ble_eq_true rfl⟩) (by decide) rfl rfl (by decide) (by decide) rfl (Nat.le_of_ble_eq_true rfl) ⟨Nat.le_of_ble_eq_true rfl, Nat.le_of_ble_eq_true rfl⟩ dX4_made_51 rfl (fun a3 w1 hw1 => ?_)
  obtain ⟨g3, hg3, rfl⟩ := hw1
  refine U_perm X (ws' := WLR zc b tx k0 k1 k2 k3 f0 f1 f2 f3 (nI nl) (nI ml) ++ [(a0, .inl (zc 0, nl, .inl g0)), (a1, .inl (zc 0, nl, .inl g1)), (a2, .inl (zc 0, nl + 1, .inl g2)), (a3, .inl (zc 0, ml, .inl g3))] ++ [(L, .inr (3, dfX3))]) [0, 2, 4, 6, 8, 3, 5, 7, 9, 1] (by decide) rfl ?_
  refine U_callI X (As := [.int (nI nl), .ref a0, .ref a1, .ref a2, .ref a3]) K_X3_init (cwI 5 X.2.2.2.2.2.2.1 (gN wc_X3_init) rfl rfl rfl (X.2.2.2.2.2.2.1 (.initialized RX3) (mB win_RX3)) (X.2.2.2.2.2.2.1 (.methodLink RX4 41 yX3_init) (mB wm_RX4_41)) (X.2.2.2.2.2.2.1 (.instanceMethod yX3_init) (mB wi_X3_init)) rfl hd_X3_init.2 ⟨Nat.le_of_ble_eq_true rfl, Nat.le_of_ble_eq_true rfl⟩) rfl (Nat.le_of_ble_eq_true rfl) ⟨Nat.le_of_ble_eq_true rfl, Nat.le_of_ble_eq_true rfl⟩ dX4_made_54 rfl (fun w1 hw1 => ?_)
  obtain ⟨t, ht, rfl⟩ := hw1
  subst ht
  refine U_aret X (Or.inl ⟨_, rfl⟩) ⟨a0, a1, a2, a3, g0, g1, g2, g3, t, rfl, hg0, hg1, hg2, hg3, ?_⟩ dX4_made_57
  unfold WMade
  rw [List.append_assoc]
