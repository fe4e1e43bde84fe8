/-! the two objects and out are made -/
theorem wcl_RL_8 : Cond.classLink RL 8 RX11 ∈ BIG := bm 29 (by decide +kernel) (by decide +kernel)
theorem wcl_RL_119 : Cond.classLink RL 119 RX12 ∈ BIG := bm 1316 (by decide +kernel) (by decide +kernel)
theorem wit_X11 : Cond.instantiable RX11 16 ∈ BIG := bm 30 (by decide +kernel) (by decide +kernel)
theorem wit_X12 : Cond.instantiable RX12 30 ∈ BIG := bm 1317 (by decide +kernel) (by decide +kernel)
theorem wm_RL_118 : Cond.methodLink RL 118 yX11_init ∈ BIG := bm 31 (by decide +kernel) (by decide +kernel)
theorem wm_RL_121 : Cond.methodLink RL 121 yX12_init ∈ BIG := bm 1318 (by decide +kernel) (by decide +kernel)
theorem wi_X11_init : Cond.instanceMethod yX11_init ∈ BIG := bm 32 (by decide +kernel) (by decide +kernel)
theorem wi_X12_init : Cond.instanceMethod yX12_init ∈ BIG := bm 1319 (by decide +kernel) (by decide +kernel)
theorem wacl : Cond.arrayClass .long ∈ BIG := bm 1959 (by decide +kernel) (by decide +kernel)
section LMk
variable {p : Program} {l : Launch} {e : Env} {s : State} {m : MethodId} {b : Nat} {below : List Frame} {meth : Method} {c : Code} {Q : State → Prop}
variable {D : va_G} {A : Nat → Prop} {zc : Nat → ClassId}
theorem law_make (X : CU p room_1 s m #[Value.ref b] meth c RL code 7 ret (Cond.initialized RL :: BIG) D A zc)
    (kk : ∀ (t : Nat → Nat) (t23 : Nat → Nat) (t23_0 : Nat → Nat) (t23_1 : Nat → Nat) (t34 : Nat → Nat) (t45 : Nat → Nat) (t56 : Nat → Nat) (t71 : Nat → Nat) (t86 : Nat → Nat) (t125 : Nat → Nat) (t135 : Nat → Nat) (t135_0 : Nat → Nat) (t147 : Nat → Nat) (t147_0 : Nat → Nat) (t159 : Nat → Nat) (t159_0 : Nat → Nat) (t171 : Nat → Nat) (t171_0 : Nat → (Nat → Nat) × (Nat → Nat)) (u : Nat → Nat) (q : Nat), UW l e below Q X (0 + 1 + 209 + 1 + 15 + 1) (0 + 16 + 9186 + 30 + 8926 + 1) ((([] ++ WX11 zc t t23 t23_0 t23_1 t34 t45 t56 t71 t86 t125 t135 t135_0 t147 t147_0 t159 t159_0 t171 t171_0) ++ WX12 zc u) ++ [(q, .inl (zc 1, 1, .inr (.inl (fun _ => 0))))]) 21 [(3, .ref q), (2, .ref (u 0)), (1, .ref (t 0)), (0, .ref b)] [.int 0]) : UW l e below Q X 0 0 [] 0 [(0, .ref b)] [] := by
  refine U_new X (ci := 11) (N := 16) (T := TX11) (C := RX11) (fs := dfX11) tyX11 tyX11_ok (mBa inB_X11) (mB wcl_RL_8) (mB wit_X11) (mB win_RX11) rfl dfX11_ok (Nat.le_of_ble_eq_true rfl) (Nat.le_of_ble_eq_true rfl) dL_law__0 (fun q0 => ?_)
  refine U_dup X dL_law__3 rfl ?_
  refine U_callI X (As := []) K_X11_init (cwI 0 X.2.2.2.2.2.2.1 (gN wc_X11_init) rfl rfl rfl (X.2.2.2.2.2.2.1 (.initialized RX11) (mB win_RX11)) (X.2.2.2.2.2.2.1 (.methodLink RL 118 yX11_init) (mB wm_RL_118)) (X.2.2.2.2.2.2.1 (.instanceMethod yX11_init) (mB wi_X11_init)) rfl hd_X11_init.2 ⟨Nat.le_of_ble_eq_true rfl, Nat.le_of_ble_eq_true rfl⟩) rfl (Nat.le_of_ble_eq_true rfl) ⟨Nat.le_of_ble_eq_true rfl, Nat.le_of_ble_eq_true rfl⟩ dL_law__4 rfl (fun w1 hw1 => ?_)
  obtain ⟨t, t23, t23_0, t23_1, t34, t45, t56, t71, t86, t125, t135, t135_0, t147, t147_0, t159, t159_0, t171, t171_0, rfl, rfl⟩ := hw1
  refine U_astore_n X [(1, .ref (t 0)), (0, .ref b)] dL_law__7 rfl (by decide) rfl ?_
  refine U_new X (ci := 12) (N := 30) (T := TX12) (C := RX12) (fs := dfX12) tyX12 tyX12_ok (mBa inB_X12) (mB wcl_RL_119) (mB wit_X12) (mB win_RX12) rfl dfX12_ok (Nat.le_of_ble_eq_true rfl) (Nat.le_of_ble_eq_true rfl) dL_law__8 (fun q1 => ?_)
  refine U_dup X dL_law__11 rfl ?_
  refine U_callI X (As := []) K_X12_init (cwI 0 X.2.2.2.2.2.2.1 (gN wc_X12_init) rfl rfl rfl (X.2.2.2.2.2.2.1 (.initialized RX12) (mB win_RX12)) (X.2.2.2.2.2.2.1 (.methodLink RL 121 yX12_init) (mB wm_RL_121)) (X.2.2.2.2.2.2.1 (.instanceMethod yX12_init) (mB wi_X12_init)) rfl hd_X12_init.2 ⟨Nat.le_of_ble_eq_true rfl, Nat.le_of_ble_eq_true rfl⟩) rfl (Nat.le_of_ble_eq_true rfl) ⟨Nat.le_of_ble_eq_true rfl, Nat.le_of_ble_eq_true rfl⟩ dL_law__12 rfl (fun w1 hw1 => ?_)
  obtain ⟨u, rfl, rfl⟩ := hw1
  refine U_astore_n X [(2, .ref (u 0)), (1, .ref (t 0)), (0, .ref b)] dL_law__15 rfl (by decide) rfl ?_
  refine U_iconst X 1 dL_law__16 (by decide) ?_
  refine U_newl X 1 (mB wacl) (by decide) (by decide) (by decide) (Nat.le_of_ble_eq_true rfl) (Nat.le_of_ble_eq_true rfl) dL_law__17 (fun q => ?_)
  refine U_astore_n X [(3, .ref q), (2, .ref (u 0)), (1, .ref (t 0)), (0, .ref b)] dL_law__19 rfl (by decide) rfl ?_
  refine U_iconst X 0 dL_law__20 (by decide) ?_
  exact kk t t23 t23_0 t23_1 t34 t45 t56 t71 t86 t125 t135 t135_0 t147 t147_0 t159 t159_0 t171 t171_0 u q
end LMk
