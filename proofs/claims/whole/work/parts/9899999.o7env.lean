/-! the context at the law's entry: classes, arrays of them, texts, statics -/
theorem start_K {args : Array Value} {s : State} (hB : ∀ w ∈ BIG, w.before args s = true) : ∃ D : va_G, ∀ (k : Nat) (q : vw_C), vwCl[k]? = some q → u_Kn s q.1 q.2.1 q.2.2 (D.1 k) (D.2 k) := by
  have h0 : ∀ k : Nat, ∃ p : ClassId × (Nat → Nat), ∀ q : vw_C, vwCl[k]? = some q → u_Kn s q.1 q.2.1 q.2.2 p.1 p.2 := by
    intro k
    match k with
    | 0 => obtain ⟨c, i, h⟩ := u_known hB inB_X0 (hB _ wit_X0); exact ⟨(c, i), fun q hq => by cases hq; exact h⟩
    | 1 => obtain ⟨c, i, h⟩ := u_known hB inB_X1 (hB _ wit_X1); exact ⟨(c, i), fun q hq => by cases hq; exact h⟩
    | 2 => obtain ⟨c, i, h⟩ := u_known hB inB_X2 (hB _ wit_X2); exact ⟨(c, i), fun q hq => by cases hq; exact h⟩
    | 3 => obtain ⟨c, i, h⟩ := u_known hB inB_X3 (hB _ wit_X3); exact ⟨(c, i), fun q hq => by cases hq; exact h⟩
    | 4 => obtain ⟨c, i, h⟩ := u_known hB inB_X4 (hB _ wit_X4); exact ⟨(c, i), fun q hq => by cases hq; exact h⟩
    | 5 => obtain ⟨c, i, h⟩ := u_known hB inB_X5 (hB _ wit_X5); exact ⟨(c, i), fun q hq => by cases hq; exact h⟩
    | 6 => obtain ⟨c, i, h⟩ := u_known hB inB_X6 (hB _ wit_X6); exact ⟨(c, i), fun q hq => by cases hq; exact h⟩
    | 7 => obtain ⟨c, i, h⟩ := u_known hB inB_X7 (hB _ wit_X7); exact ⟨(c, i), fun q hq => by cases hq; exact h⟩
    | 8 => obtain ⟨c, i, h⟩ := u_known hB inB_X8 (hB _ wit_X8); exact ⟨(c, i), fun q hq => by cases hq; exact h⟩
    | 9 => obtain ⟨c, i, h⟩ := u_known hB inB_X9 (hB _ wit_X9); exact ⟨(c, i), fun q hq => by cases hq; exact h⟩
    | 10 => obtain ⟨c, i, h⟩ := u_known hB inB_X10 (hB _ wit_X10); exact ⟨(c, i), fun q hq => by cases hq; exact h⟩
    | 11 => obtain ⟨c, i, h⟩ := u_known hB inB_X11 (hB _ wit_X11); exact ⟨(c, i), fun q hq => by cases hq; exact h⟩
    | 12 => obtain ⟨c, i, h⟩ := u_known hB inB_X12 (hB _ wit_X12); exact ⟨(c, i), fun q hq => by cases hq; exact h⟩
    | k + 13 => exact ⟨(0, fun _ => 0), fun q hq => by rw [List.getElem?_eq_none (by show 13 ≤ k + 13; omega)] at hq; cases hq⟩
  obtain ⟨f, hf⟩ := Classical.axiomOfChoice h0
  exact ⟨(fun k => (f k).1, fun k => (f k).2), hf⟩
theorem ty_i {args : Array Value} {s : State} (h : (Cond.arrayClass .int).before args s = true) : ∃ c, ArrOfT s c .int ∧ va_RA s c .int := by
  obtain ⟨c, k, comp, h1, h2, h3⟩ := Cond.arrayClass_spec h
  exact ⟨c, fun n z => ⟨(fun k h => by cases h), k, h2, comp, h3⟩, h1⟩
theorem ty_l {args : Array Value} {s : State} (h : (Cond.arrayClass .long).before args s = true) : ∃ c, ArrOfT s c .long ∧ va_RA s c .long := by
  obtain ⟨c, k, comp, h1, h2, h3⟩ := Cond.arrayClass_spec h
  exact ⟨c, fun n z => ⟨(fun k h => by cases h), k, h2, comp, h3⟩, h1⟩
theorem ty_q {args : Array Value} {s : State} {C : String} (h : (Cond.arrayOver (.object C)).before args s = true) : ∃ c, ArrOfT s c (.object C) ∧ va_RA s c (.object C) := by
  obtain ⟨comp, c, k, h1, h2, h3, h4, h5⟩ := Cond.arrayOver_spec h
  exact ⟨c, fun n z => ⟨(fun k h => by cases h), k, h3, comp, h4⟩, k, comp, h3, h4, h1, h5⟩
theorem ty_a {args : Array Value} {s : State} (h : (Cond.arrayOver (.array .int)).before args s = true) : (∃ c, ArrOfT s c (.array .int) ∧ va_RA s c (.array .int)) ∧ aoA s := by
  obtain ⟨comp, c, k, h1, h2, h3, h4, h5⟩ := arrayOverA_spec h
  exact ⟨⟨c, fun n z => ⟨(fun k h => by cases h), k, h3, comp, h4⟩, h5⟩, comp, c, k, h1, h3, h4, h5⟩
theorem start_ty {args : Array Value} {s : State} (hT : ∀ w ∈ tables_1, w.before args s = true) : (∃ zc : Nat → ClassId, ∀ (k : Nat) (q : ClassId × FieldType), (tyz zc)[k]? = some q → ArrOfT s q.1 q.2 ∧ va_RA s q.1 q.2) ∧ AOs s := by
  have wN : (Cond.arrayOver (.object "SlotCluster$Node")).before args s = true := hT _ (List.mem_of_getElem? (i := 227) (by decide +kernel))
  have wS : (Cond.arrayOver (.object "SlotCluster$State")).before args s = true := hT _ (List.mem_of_getElem? (i := 379) (by decide +kernel))
  obtain ⟨c0, a0⟩ := ty_i (hT (.arrayClass .int) (List.mem_of_getElem? (i := 86) (by decide +kernel)))
  obtain ⟨c1, a1⟩ := ty_l (hT (.arrayClass .long) (List.mem_of_getElem? (i := 1959) (by decide +kernel)))
  obtain ⟨c2, a2⟩ := ty_q wN
  obtain ⟨c3, a3⟩ := ty_q wS
  obtain ⟨⟨c4, a4⟩, hA⟩ := ty_a (hT (.arrayOver (.array .int)) (List.mem_of_getElem? (i := 50) (by decide +kernel)))
  refine ⟨⟨fun k => match k with | 0 => c0 | 1 => c1 | 2 => c2 | 3 => c3 | _ => c4, fun k q hq => ?_⟩, va_AO.of wN, va_AO.of wS, hA⟩
  match k, hq with
  | 0, hq => cases hq; exact a0
  | 1, hq => cases hq; exact a1
  | 2, hq => cases hq; exact a2
  | 3, hq => cases hq; exact a3
  | 4, hq => cases hq; exact a4
  | k + 5, hq => rw [List.getElem?_eq_none (by show 5 ≤ k + 5; omega)] at hq; cases hq
def zNP : List Nat := [39, 97, 119, 135, 813, 522, 525, 1205, 495, 229, 487, 1005, 45, 585, 586, 563, 569, 517, 616, 617]
theorem zNP_ok : ∀ i, i < 20 → tables_1[zNP.getD i 0]? = zNest[i]? := by decide +kernel
theorem zNest_on : ∀ w ∈ zNest, w.onTables = true := by decide +kernel
theorem start_N {args : Array Value} {s : State} (hT : ∀ w ∈ tables_1, w.before args s = true) : NWs s := by
  intro w hw
  obtain ⟨i, hi⟩ := List.getElem?_of_mem hw
  have h20 : i < 20 := (List.getElem?_eq_some_iff.mp hi).1
  exact va_Nw.of (zNest_on w hw) (hT w (List.mem_of_getElem? ((zNP_ok i h20).trans hi)))
/-! the texts -/
def zTm (i : Nat) : Term := match zStr[i]? with
  | some q => .string q.1 q.2.1
  | none => .arg 0
abbrev zTv (i : Nat) : Term := .field (zTm i) "java/lang/String" "value" "[B"
def zBlk (i : Nat) : List Cond := [Cond.exactly (zTm i) "java/lang/String", Cond.eq (.field (zTm i) "java/lang/String" "coder" "B") (.int 0), Cond.arrayOf (zTv i) .byte, Cond.eq (.length (zTv i)) (.int (Int32.ofNat (zLen.getD i 0)))] ++ (List.range (zLen.getD i 0)).map (fun j => Cond.eq (.elem (zTv i) (.int (Int32.ofNat j))) (.int ((zByt.getD i []).getD j 0)))
def zOrS : List Nat := [0, 6, 24, 25, 26, 21, 19, 20, 5, 11, 3, 4, 15, 16, 17, 18, 22, 23, 1, 2, 7, 8, 9, 10, 12, 13, 14]
def zNar : List Cond := flatC (Jvm.Cond.and given_1 narrow_1)
theorem zNar_ok : zNar.drop 134 = zOrS.flatMap zBlk := by decide +kernel
theorem zOrS_ok : ∀ i, i < 27 → i ∈ zOrS := by decide +kernel
theorem zBlk_in {i : Nat} (hi : i < 27) {w : Cond} (hw : w ∈ zBlk i) : w ∈ zNar := by
  refine List.mem_of_mem_drop (i := 134) ?_
  rw [zNar_ok]
  exact List.mem_flatMap.mpr ⟨i, zOrS_ok i hi, hw⟩
theorem zLen_ok : ∀ i, i < 27 → zLen.getD i 0 < 2 ^ 31 := by decide +kernel
theorem zByt_ne : ∀ i, i < 27 → ∀ j, j < 27 → zLen.getD i 0 = zLen.getD j 0 → (∀ k, k < zLen.getD i 0 → (zByt.getD i []).getD k 0 = (zByt.getD j []).getD k 0) → i = j := by decide +kernel
/-- one text twice: one length, the same bytes -/
theorem str_same {A : Nat → Prop} {U : State} {H : Heap} {a v1 v2 n1 n2 : Nat} {f1 f2 : Nat → Value} (hF1 : va_OF "java/lang/String" "value" "[B" (.ref v1) a A U H) (hF2 : va_OF "java/lang/String" "value" "[B" (.ref v2) a A U H) (hT1 : va_T .byte v1 n1 f1 A U H) (hT2 : va_T .byte v2 n2 f2 A U H) (h1 : n1 < 2 ^ 31) (h2 : n2 < 2 ^ 31) : n1 = n2 ∧ ∀ j, j < n1 → f1 j = f2 j := by
  obtain ⟨cf, k, i, f, cell, g1, -, g3, -, g5, -⟩ := hF1
  obtain ⟨cf', k', i', f', cell', g1', -, g3', -, g5', -⟩ := hF2
  cases g1.symm.trans g1'
  cases g3.symm.trans g3'
  cases g5.symm.trans g5'
  obtain ⟨c1, b1, -, -, -, b5, b6, -⟩ := hT1
  obtain ⟨c2, d1, -, -, -, d5, d6, -⟩ := hT2
  cases b1.symm.trans d1
  have e : Int32.ofNat n1 = Int32.ofNat n2 := b5.symm.trans d5
  have e2 : n1 = n2 := by
    have := congrArg Int32.toNatClampNeg e
    rw [Int32.toNatClampNeg_ofNat_of_lt h1, Int32.toNatClampNeg_ofNat_of_lt h2] at this
    exact this
  subst e2
  exact ⟨rfl, fun j hj => Option.some.inj ((b6 j hj).symm.trans (d6 j hj))⟩
theorem start_S {args : Array Value} {s : State} {A : Nat → Prop} (hN : ∀ w ∈ zNar, w.before args s = true) (hA : ∀ a : Nat, a < s.heap.size → ¬ A a) : ∃ zk zv : Nat → Nat, vk_S 27 zLen zByt zk zv A s s.heap ∧ ∀ i, i < 27 → (zTm i).eval args s none [] s = some (.ref (zk i)) := by
  have h0 : ∀ i : Nat, ∃ q : Nat × Nat, i < 27 → (va_O "java/lang/String" q.1 A s s.heap ∧ va_OF "java/lang/String" "coder" "B" (.int 0) q.1 A s s.heap ∧ va_OF "java/lang/String" "value" "[B" (.ref q.2) q.1 A s s.heap ∧ va_T .byte q.2 (zLen.getD i 0) (fun j => .int ((zByt.getD i []).getD j 0)) A s s.heap) ∧ (zTm i).eval args s none [] s = some (.ref q.1) := by
    intro i
    by_cases hi : i < 27
    · have hb : ∀ w ∈ zBlk i, w.before args s = true := fun w hw => hN w (zBlk_in hi hw)
      obtain ⟨ak, av, h1, h2⟩ := vk_Sof (args := args) (s := s) (N := 1) (tm := fun _ => zTm i) (len := [zLen.getD i 0]) (byt := [zByt.getD i []]) (A := A)
        (fun j hj => by rw [show j = 0 by omega]; exact zLen_ok i hi)
        (fun j hj => hb _ (List.mem_append_left _ (List.mem_of_getElem? (i := 0) rfl)))
        (fun j hj => hb _ (List.mem_append_left _ (List.mem_of_getElem? (i := 1) rfl)))
        (fun j hj => hb _ (List.mem_append_left _ (List.mem_of_getElem? (i := 2) rfl)))
        (fun j hj => by rw [show j = 0 by omega]; exact hb _ (List.mem_append_left _ (List.mem_of_getElem? (i := 3) rfl)))
        (fun j hj k hk => by
          rw [show j = 0 by omega] at hk ⊢
          exact hb _ (List.mem_append_right _ (List.mem_map.mpr ⟨k, List.mem_range.mpr hk, rfl⟩)))
        (fun a b ha hb e => absurd (show a = b by omega) e) hA
      exact ⟨(ak 0, av 0), fun _ => ⟨h1.1 0 (by omega), h2 0 (by omega)⟩⟩
    · exact ⟨(0, 0), fun h => absurd h hi⟩
  obtain ⟨f, hf⟩ := Classical.axiomOfChoice h0
  refine ⟨fun i => (f i).1, fun i => (f i).2, ⟨fun i hi => (hf i hi).1, fun i j hi hj e => ?_⟩, fun i hi => (hf i hi).2⟩
  have e : (f i).1 = (f j).1 := e
  have p1 := (hf i hi).1
  have p2 := (hf j hj).1
  rw [← e] at p2
  obtain ⟨q1, q2⟩ := str_same p1.2.2.1 p2.2.2.1 p1.2.2.2 p2.2.2.2 (zLen_ok i hi) (zLen_ok j hj)
  exact zByt_ne i hi j hj q1 (fun k hk => Value.int.inj (q2 k hk))
def zSP : List Nat := [721, 1531, 1532, 1515, 1516, 1501, 1460, 1537, 1538, 1539, 1540, 1514, 1549, 1554, 1555, 1517, 1518, 1519, 1520, 1499, 1500, 1490, 1521, 1522, 1467, 1468, 1477]
theorem zSP_ok : ∀ i, i < 27 → tables_1[zSP.getD i 0]? = (zStr[i]?).map (fun q => Cond.stringRef q.1 q.2.1 q.2.2) := by decide +kernel
theorem zNoC_ok : ∀ q ∈ zNoC, Cond.not (.castable q.1 q.2) ∈ zNar := by decide +kernel
theorem start_E {args : Array Value} {s : State} {A : Nat → Prop} (hT : ∀ w ∈ tables_1, w.before args s = true) (hN : ∀ w ∈ zNar, w.before args s = true) (hA : ∀ a : Nat, a < s.heap.size → ¬ A a) : ∃ zk zv : Nat → Nat, ∀ y : ZLay, zak y = zk → zav y = zv → EnvF y A s s.heap := by
  obtain ⟨zk, zv, h1, h2⟩ := start_S hN hA
  refine ⟨zk, zv, fun y e1 e2 => ⟨?_, fun i q hq => ?_, ?_, ?_, ?_, fun q hq => ?_, fun q hq => ?_, ?_, fun q hq => ?_⟩⟩
  · rw [e1, e2]; exact h1
  · have hi : i < 27 := (List.getElem?_eq_some_iff.mp hq).1
    rw [e1]
    refine vk_R.of (A := args) (hT _ (List.mem_of_getElem? ((zSP_ok i hi).trans (by rw [hq]; rfl)))) ?_
    have h3 := h2 i hi
    unfold zTm at h3
    rw [hq] at h3
    exact h3
  · exact va_Zof (args := args) (hT _ (List.mem_of_getElem? (i := 731) (by decide +kernel))) (hT _ (List.mem_of_getElem? (i := 15) (by decide +kernel))) (va_eqi (hN _ (List.mem_of_getElem? (i := 4) (by decide +kernel)))) hA
  · exact vx_Zqof (args := args) (hT _ (List.mem_of_getElem? (i := 842) (by decide +kernel))) (hT _ (List.mem_of_getElem? (i := 20) (by decide +kernel))) (hN _ (List.mem_of_getElem? (i := 9) (by decide +kernel))) hA
  · exact vx_Zqof (args := args) (hT _ (List.mem_of_getElem? (i := 844) (by decide +kernel))) (hT _ (List.mem_of_getElem? (i := 20) (by decide +kernel))) (hN _ (List.mem_of_getElem? (i := 10) (by decide +kernel))) hA
  · refine va_Nw.of (A := args) rfl (hT _ ?_)
    simp only [zCast, List.mem_cons, List.mem_nil_iff, or_false] at hq
    rcases hq with rfl | rfl | rfl | rfl | rfl
    · exact List.mem_of_getElem? (i := 817) (by decide +kernel)
    · exact List.mem_of_getElem? (i := 966) (by decide +kernel)
    · exact List.mem_of_getElem? (i := 981) (by decide +kernel)
    · exact List.mem_of_getElem? (i := 1042) (by decide +kernel)
    · exact List.mem_of_getElem? (i := 883) (by decide +kernel)
  · exact va_Nc.of (hN _ (zNoC_ok q hq))
  · exact va_Zqof (args := args) (hT _ (List.mem_of_getElem? (i := 747) (by decide +kernel))) (hT _ (List.mem_of_getElem? (i := 17) (by decide +kernel))) (hN _ (List.mem_of_getElem? (i := 5) (by decide +kernel))) hA
  · refine va_Nw.of (A := args) rfl (hT _ ?_)
    simp only [zDecl, List.mem_cons, List.mem_nil_iff, or_false] at hq
    rcases hq with rfl | rfl | rfl
    · exact List.mem_of_getElem? (i := 818) (by decide +kernel)
    · exact List.mem_of_getElem? (i := 820) (by decide +kernel)
    · exact List.mem_of_getElem? (i := 822) (by decide +kernel)
