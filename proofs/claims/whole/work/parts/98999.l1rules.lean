/-! rules for the law's loop -/
section LL
variable {p : Program} {l : Launch} {e : Env} {R : Room} {s : State} {m : MethodId} {args : Array Value} {below : List Frame} {meth : Method} {c : Code} {Q : State → Prop}
variable {own : String} {cc : ByteArray} {nL : Nat} {ret : Option FieldType} {Ts : List Cond} {D : va_G} {A : Nat → Prop} {y : ZLay} {kc ks : Nat}
variable {μ μ' : ZMem} {pc : Nat} {lv : List (Nat × Value)} {st st0 : List Value}
variable {ym : MethodName} {w : List Cond} {rm : Room} {bytes : ByteArray} {maxL n ix : Nat} {ret' : Option FieldType} {hh : List (Nat × Nat × Nat × Nat)} {As : List Value}
theorem Cx.up (X : Cx p l e R s m args below meth c Q own cc nL ret Ts D A y kc ks) {kc' ks' : Nat} (h1 : kc' ≤ R.cells) (h2 : ks' ≤ R.slots) : Cx p l e R s m args below meth c Q own cc nL ret Ts D A y kc' ks' := by
  obtain ⟨a1, a2, a3, a4, a5, a6, a7, a8, a9, b1, b2, -, -, b5⟩ := X
  exact ⟨a1, a2, a3, a4, a5, a6, a7, a8, a9, b1, b2, h1, h2, b5⟩
theorem V_up (X : Cx p l e R s m args below meth c Q own cc nL ret Ts D A y kc ks) {kc' ks' : Nat} (X' : Cx p l e R s m args below meth c Q own cc nL ret Ts D A y kc' ks') (h1 : kc ≤ kc') (h2 : ks ≤ ks') (k : V X' μ pc lv st) : V X μ pc lv st := fun H locs ls hP hw hS hl => W.widen h1 h2 (k H locs ls hP hw hS hl)
/-- a call of one of the law's helpers -/
theorem V_callH {r : Int32} (X : Cx p l e R s m args below meth c Q own cc nL ret Ts D A y kc ks) (X' : Cx p l e R s m args below meth c Q own cc nL ret Ts D A y (kc + 1) (ks + 6)) (hM : MH l ym w rm D y As μ r μ') (cw : vx_CSW R s args own ix ym bytes maxL ret' hh w rm 1 6 n) (hn : As.length = n) (hcat : (st.map fun v => v.category).sum ≤ 8) (d : decode cc pc = .ok (.invokestatic ix, 3)) (hst : As.reverse ++ st = st0)
    (kk : V X' μ' (pc + 3) lv (.int r :: st)) : V X μ pc lv st0 := by
  intro H locs ls hP hw hS hl
  refine vx_calli (vx_runSX (As := As) (rest := st) ⟨X.1, X.2.1, X.2.2.1, X.2.2.2.2.2.1, X.2.2.2.2.2.2.1⟩ (hM H.size) cw ⟨pre_blind, fun U hU hW => ⟨rfl, pre_at (X := X) hP hw hS U hU hW⟩⟩ rfl hn hl.1 hst.symm (lv_room hcat) d ⟨X'.2.2.2.2.2.2.2.2.2.2.2.1, X'.2.2.2.2.2.2.2.2.2.2.2.2.1⟩) hS (fun q _ h => fA_in (X := X) hS q h) (fA_in (X := X) hS) (fun q _ h => fA_in (X := X) hS q h) (fun E ce q9 u t H1 locs1 ht hvm hu hB hz1 hk1 hS1 hce hcv hcl => hu.elim) (fun r0 u t H1 locs1 ht hvm hr hB hz1 hk1 hS1 => ?_)
  subst hr
  obtain ⟨hP1, hw2⟩ := hB
  rw [ht] at hP1
  exact kk H1 locs1 ls hP1 hw2 hS1 hl
/-- a number of the script -/
theorem V_scr {b L : Nat} {xs : Nat → Int32} {i kv : Int32} {kn : Int} (q0 q4 : Nat) (X : Cx p l e R s m args below meth c Q own cc nL ret Ts D A y kc ks) (hX : va_X b L xs s s.heap) (hbl : b < s.heap.size) (hbA : ¬ A b) (hin : vp_in (i + kv) L)
    (d0 : decode cc pc = .ok (.aload_n 0, 1)) (d1 : decode cc (pc + 1) = .ok (.iload 4, 2)) (d2 : decode cc (pc + 3) = .ok (.iconst kn, 1)) (hv : Int32.ofInt kn = kv) (d3 : decode cc (pc + 4) = .ok (.iadd, 1)) (d4 : decode cc (pc + 5) = .ok (.iaload, 1)) (h0 : lv[q0]? = some (0, .ref b)) (h4 : lv[q4]? = some (4, .int i))
    (kk : V X μ (pc + 6) lv (.int (xs (i + kv).toNatClampNeg) :: st)) : V X μ pc lv st := by
  refine V_aload_n X q0 d0 rfl h0 ?_
  refine V_iload X q4 d1 h4 ?_
  refine V_iconst X kv d2 hv ?_
  refine V_iadd X d3 ?_
  exact fun H locs ls hP hw hS hl => va_sld X.1 X.2.1 hX hbl hbA hS hin d4 (kk H locs ls hP hw hS hl)
def zb1 (x : Int32) : Int32 := if x = 0 then 0 else 1
theorem V_nz {x : Int32} {o1 o2 : Int} (X : Cx p l e R s m args below meth c Q own cc nL ret Ts D A y kc ks) (d0 : decode cc pc = .ok (.ifCond .eq o1, 3)) (t0 : (pc : Int) + o1 = ((pc + 7 : Nat) : Int)) (d1 : decode cc (pc + 3) = .ok (.iconst 1, 1)) (d2 : decode cc (pc + 4) = .ok (.goto o2, 3)) (t2 : ((pc + 4 : Nat) : Int) + o2 = ((pc + 8 : Nat) : Int)) (d3 : decode cc (pc + 7) = .ok (.iconst 0, 1))
    (kk : V X μ (pc + 8) lv (.int (zb1 x) :: st)) : V X μ pc lv (.int x :: st) := by
  refine V_if_eq X d0 t0 (fun h => ?_) (fun h => ?_)
  · refine V_iconst X 0 d3 (by decide) ?_
    rw [zb1, if_pos h] at kk
    exact kk
  · refine V_iconst X 1 d1 (by decide) ?_
    refine V_goto X d2 t2 ?_
    rw [zb1, if_neg h] at kk
    exact kk
theorem tail_of {cm : Nat → Nat} {res : Int32 ⊕ Nat} {μ1 μ2 : ZMem} {bq : Int32} (hag : agr cm res (μ2 MO0 0) bq) (hk : KM (hmem μ1 res (0, 31, 0) 0) μ2) : μ2 (0, 32, 0) 0 = hres cm res ∧ (hres cm res = 0 → μ2 (0, 31, 0) 0 = bq) := by
  cases res with
  | inl x =>
    refine ⟨hag.1, fun _ => ?_⟩
    rw [hag.2]
    exact hk.trans mset_at
  | inr k =>
    refine ⟨hag.1, fun h => ?_⟩
    obtain ⟨-, h1, h2⟩ := hag
    exfalso
    have hh : cm k = 1 ∨ cm k = 2 := by omega
    have h : Int32.ofNat (cm k) = 0 := h
    rcases hh with e | e <;> rw [e] at h <;> exact absurd h (by decide)
end LL
