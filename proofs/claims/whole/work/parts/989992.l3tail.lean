/-! the ends of the cases of the law's loop -/
abbrev lv5 (y : ZLay) (b : Nat) (i : Int32) : List (Nat × Value) := [(0, .ref b), (1, .ref (zad y (0, 0, 0))), (2, .ref (zad y (0, 32, 0))), (3, .ref (zad y (0, 31, 0))), (4, .int i)]
abbrev sx (xs : Nat → Int32) (i : Int32) (k : Nat) : Int32 := xs (i + Int32.ofNat k).toNatClampNeg
abbrev LX (p : Program) (l : Launch) (e : Env) (s : State) (m : MethodId) (b : Nat) (below : List Frame) (meth : Method) (c : Code) (Q : State → Prop) (D : va_G) (A : Nat → Prop) (y : ZLay) (kc ks : Nat) : Prop := Cx p l e room_1 s m #[Value.ref b] below meth c Q RL code 7 ret (Cond.initialized RL :: BIG) D A y kc ks
def LK (p : Program) (l : Launch) (e : Env) (s : State) (m : MethodId) (b : Nat) (below : List Frame) (meth : Method) (c : Code) (Q : State → Prop) (D : va_G) (A : Nat → Prop) (y : ZLay) (kc ks : Nat) (i : Int32) : Prop :=
  ∀ (kc' ks' : Nat) (X' : LX p l e s m b below meth c Q D A y kc' ks') (μ' : ZMem), kc' ≤ kc + 6 → ks' ≤ ks + 1638 → INV y μ' → V X' μ' 2518 (lv5 y b i) []
theorem hmem_fr {μ1 : ZMem} {res : Int32 ⊕ Nat} : fr outP μ1 (hmem μ1 res) := by
  cases res with
  | inl x => exact fr_mset (P := outP) (o := (0, 31, 0)) rfl (by decide)
  | inr k => exact fr_refl
theorem lg_self (x : Int64) : lg_cmp x x = 0 := by
  unfold lg_cmp
  simp
section LT
variable {p : Program} {l : Launch} {e : Env} {s : State} {m : MethodId} {b : Nat} {below : List Frame} {meth : Method} {c : Code} {Q : State → Prop}
variable {D : va_G} {A : Nat → Prop} {y : ZLay} {kc ks : Nat} {i : Int32} {μ : ZMem}
theorem hears_zbo {a1 a2 : Int32} {μ0 μ1 : ZMem} {res : Int32 ⊕ Nat} {th bq : Int32} (e1 : f_X11_hears y a1 a2 μ0 = some (res, μ1)) (hag : agr cmB res th bq) (h0 : hres cmB res = 0) : zbo bq = true := by
  have hk := zth_hears _ e1
  cases res with
  | inl x =>
    rw [hag.2]
    exact hk.2 x rfl
  | inr k =>
    exfalso
    rcases hk.1 k rfl with e | e <;> rw [e] at h0 <;> exact absurd h0 (by decide)
theorem V_tail {q : Nat} {off : Int} {r bq : Int32} (X : LX p l e s m b below meth c Q D A y kc ks) (h1 : μ (0, 32, 0) 0 = r) (h2 : r = 0 → μ (0, 31, 0) 0 = bq)
    (d0 : decode code q = .ok (.istore 6, 2)) (d1 : decode code (q + 2) = .ok (.aload_n 2, 1)) (d2 : decode code (q + 3) = .ok (.invokevirtual 138, 3)) (d3 : decode code (q + 6) = .ok (.iload 5, 2)) (d4 : decode code (q + 8) = .ok (.if_icmp .eq 5, 3)) (d5 : decode code (q + 13) = .ok (.iload 5, 2)) (d6 : decode code (q + 15) = .ok (.ifCond .ne 15, 3)) (d7 : decode code (q + 18) = .ok (.aload_n 3, 1)) (d8 : decode code (q + 19) = .ok (.iconst 0, 1)) (d9 : decode code (q + 20) = .ok (.laload, 1)) (d10 : decode code (q + 21) = .ok (.iload 6, 2)) (d11 : decode code (q + 23) = .ok (.i2l, 1)) (d12 : decode code (q + 24) = .ok (.lcmp, 1)) (d13 : decode code (q + 25) = .ok (.ifCond .eq 5, 3)) (d14 : decode code (q + 30) = .ok (.goto off, 3)) (t14 : ((q + 30 : Nat) : Int) + off = (2518 : Nat))
    (kk : V X μ 2518 (lv5 y b i) []) : V X μ q ((5, .int r) :: lv5 y b i) [.int bq] := by
  have kk2 : V X μ (q + 30) ((6, .int bq) :: (5, .int r) :: lv5 y b i) [] := by
    refine V_goto X d14 t14 ?_
    exact V_sub X [2, 3, 4, 5, 6] rfl kk
  refine V_istore X ((6, .int bq) :: (5, .int r) :: lv5 y b i) d0 (by decide) rfl ?_
  refine V_aload_n X 4 d1 rfl rfl ?_
  refine V_callVi X (As := []) M_X12_thrown (cwV 0 X.2.2.2.2.2.2.1 (gV wm_RL_138 wi_X12_thrown wse_X12_thrown win_RX12 wc_X12_thrown) rfl rfl rfl hd_X12_thrown ⟨Nat.le_of_ble_eq_true rfl, Nat.le_of_ble_eq_true rfl⟩) (b := (0, 32, 0)) ⟨by decide, rfl⟩ rfl rfl rfl rfl (Nat.le_of_ble_eq_true rfl) d2 rfl ?_
  refine V_iload X 1 d3 rfl ?_
  refine V_icmp_eq X (tgt := q + 13) d4 (by omega) (fun _ => ?_) (fun hn => (hn h1).elim)
  refine V_iload X 1 d5 rfl ?_
  refine V_if_ne X (tgt := q + 30) d6 (by omega) (fun _ => kk2) (fun h0 => ?_)
  refine V_aload_n X 5 d7 rfl rfl ?_
  refine V_iconst X 0 d8 (by decide) ?_
  refine V_lald X d9 ?_
  rw [h2 h0]
  refine V_iload X 0 d10 rfl ?_
  refine V_i2l X d11 ?_
  refine V_lcmp X d12 ?_
  refine V_if_eq X (tgt := q + 30) d13 (by omega) (fun _ => kk2) (fun hn => (hn ?_).elim)
  exact lg_self _
theorem V_tailZ {q : Nat} {off : Int} {r bq : Int32} (X : LX p l e s m b below meth c Q D A y kc ks) (h1 : μ (0, 32, 0) 0 = r) (h2 : r = 0 → μ (0, 31, 0) 0 = bq) (h3 : r = 0 → zbo bq = true)
    (d0 : decode code q = .ok (.istore 6, 2)) (d1 : decode code (q + 2) = .ok (.aload_n 2, 1)) (d2 : decode code (q + 3) = .ok (.invokevirtual 138, 3)) (d3 : decode code (q + 6) = .ok (.iload 5, 2)) (d4 : decode code (q + 8) = .ok (.if_icmp .eq 5, 3)) (d5 : decode code (q + 13) = .ok (.iload 5, 2)) (d6 : decode code (q + 15) = .ok (.ifCond .ne 22, 3)) (d7 : decode code (q + 18) = .ok (.aload_n 3, 1)) (d8 : decode code (q + 19) = .ok (.iconst 0, 1)) (d9 : decode code (q + 20) = .ok (.laload, 1)) (d10 : decode code (q + 21) = .ok (.iload 6, 2)) (d11 : decode code (q + 23) = .ok (.ifCond .eq 7, 3)) (d12 : decode code (q + 26) = .ok (.lconst 1, 1)) (d12b : decode code (q + 27) = .ok (.goto 4, 3)) (d12c : decode code (q + 30) = .ok (.lconst 0, 1)) (d12d : decode code (q + 31) = .ok (.lcmp, 1)) (d13 : decode code (q + 32) = .ok (.ifCond .eq 5, 3)) (d14 : decode code (q + 37) = .ok (.goto off, 3)) (t14 : ((q + 37 : Nat) : Int) + off = (2518 : Nat))
    (kk : V X μ 2518 (lv5 y b i) []) : V X μ q ((5, .int r) :: lv5 y b i) [.int bq] := by
  have kk2 : V X μ (q + 37) ((6, .int bq) :: (5, .int r) :: lv5 y b i) [] := by
    refine V_goto X d14 t14 ?_
    exact V_sub X [2, 3, 4, 5, 6] rfl kk
  refine V_istore X ((6, .int bq) :: (5, .int r) :: lv5 y b i) d0 (by decide) rfl ?_
  refine V_aload_n X 4 d1 rfl rfl ?_
  refine V_callVi X (As := []) M_X12_thrown (cwV 0 X.2.2.2.2.2.2.1 (gV wm_RL_138 wi_X12_thrown wse_X12_thrown win_RX12 wc_X12_thrown) rfl rfl rfl hd_X12_thrown ⟨Nat.le_of_ble_eq_true rfl, Nat.le_of_ble_eq_true rfl⟩) (b := (0, 32, 0)) ⟨by decide, rfl⟩ rfl rfl rfl rfl (Nat.le_of_ble_eq_true rfl) d2 rfl ?_
  refine V_iload X 1 d3 rfl ?_
  refine V_icmp_eq X (tgt := q + 13) d4 (by omega) (fun _ => ?_) (fun hn => (hn h1).elim)
  refine V_iload X 1 d5 rfl ?_
  refine V_if_ne X (tgt := q + 37) d6 (by omega) (fun _ => kk2) (fun h0 => ?_)
  refine V_aload_n X 5 d7 rfl rfl ?_
  refine V_iconst X 0 d8 (by decide) ?_
  refine V_lald X d9 ?_
  rw [h2 h0]
  refine V_iload X 0 d10 rfl ?_
  have hz := h3 h0
  refine V_if_eq X (tgt := q + 30) d11 (by omega) (fun hb => ?_) (fun hb => ?_)
  · subst hb
    refine V_lconst X 0 d12c (by decide) ?_
    refine V_lcmp X d12d ?_
    exact V_if_eq X (tgt := q + 37) d13 (by omega) (fun _ => kk2) (fun hn => (hn (by decide)).elim)
  · have hb1 : bq = 1 := by
      simp only [zbo, Bool.or_eq_true, decide_eq_true_eq] at hz
      rcases hz with h | h
      · exact (hb h).elim
      · exact h
    subst hb1
    refine V_lconst X 1 d12 (by decide) ?_
    refine V_goto X (tgt := q + 31) d12b (by omega) ?_
    refine V_lcmp X d12d ?_
    exact V_if_eq X (tgt := q + 37) d13 (by omega) (fun _ => kk2) (fun hn => (hn (by decide)).elim)
end LT
