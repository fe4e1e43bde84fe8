/-! rows of rows: eight rows of eight ints -/
def WMul (zc : Nat → ClassId) (q : Nat) (f : Nat → Nat) : va_W := (q, .inl (zc 4, 8, .inr (.inr (.inr (.inr (fun j => if j < 8 then some (f j) else none)))))) :: (List.range 8).map (fun j => (f j, .inl (zc 0, 8, .inl (fun _ => 0))))
/-- after i of the rows -/
def rwC (co : ClassId) (h0 i : Nat) : Cell := arrV co 8 (fun j => va_rf (if j < i then some (h0 + 1 + j) else none))
def rwR (ci : ClassId) : Cell := arrV ci 8 (fun _ => .int 0)
def rwS (T : State) (co ci : ClassId) : Nat → State
  | 0 => T.pushCell (rwC co T.heap.size 0)
  | i + 1 => ((rwS T co ci i).pushCell (rwR ci)).setCell T.heap.size ((rwC co T.heap.size i).setSlot i (.ref (T.heap.size + 1 + i)))
theorem rwC_s {co : ClassId} {h0 i : Nat} : (rwC co h0 i).setSlot i (.ref (h0 + 1 + i)) = rwC co h0 (i + 1) := by
  unfold rwC
  rw [arrV_store]
  congr 1
  funext j
  unfold updV
  by_cases e : j = i
  · subst e
    simp [va_rf]
  · simp only [e, if_false]
    by_cases h : j < i
    · rw [if_pos h, if_pos (by omega)]
    · rw [if_neg h, if_neg (by omega)]
theorem rwS_ok (T : State) (co ci : ClassId) : ∀ i, (rwS T co ci i).heap.size = T.heap.size + 1 + i ∧ (rwS T co ci i).heap[T.heap.size]? = some (rwC co T.heap.size i) ∧ (rwS T co ci i).vm = T.vm ∧ (rwS T co ci i).slotsUsed = T.slotsUsed + 8 + 8 * i ∧ (∀ q, q < T.heap.size → (rwS T co ci i).heap[q]? = T.heap[q]?) ∧ ∀ j, j < i → (rwS T co ci i).heap[T.heap.size + 1 + j]? = some (rwR ci)
  | 0 => by
    have e1 : (rwC co T.heap.size 0).slots.size = 8 := arrV_size _ _ _
    refine ⟨by simp [rwS], State.heap_pushCell_size _ _, rfl, by simp [rwS, e1], fun q hq => State.heap_pushCell_of_lt _ _ hq, fun j hj => absurd hj (by omega)⟩
  | i + 1 => by
    obtain ⟨h1, h2, h3, h4, h5, h6⟩ := rwS_ok T co ci i
    have hlt : T.heap.size < (rwS T co ci i).heap.size := by omega
    have hb : ((rwS T co ci i).pushCell (rwR ci)).heap[T.heap.size]? = some (rwC co T.heap.size i) := by rw [State.heap_pushCell_of_lt (h := hlt)]; exact h2
    have e1 : (rwR ci).slots.size = 8 := arrV_size _ _ _
    refine ⟨?_, ?_, h3, ?_, fun q hq => ?_, fun j hj => ?_⟩
    · simp [rwS, State.setCell, h1]; omega
    · rw [← rwC_s]
      exact State.heap_setCell_self hb
    · simp [rwS, h4, e1]; omega
    · show (((rwS T co ci i).pushCell (rwR ci)).setCell T.heap.size _).heap[q]? = _
      rw [State.heap_setCell_other (show T.heap.size ≠ q by omega), State.heap_pushCell_of_lt (h := (show q < (rwS T co ci i).heap.size by omega))]
      exact h5 q hq
    · show (((rwS T co ci i).pushCell (rwR ci)).setCell T.heap.size _).heap[T.heap.size + 1 + j]? = _
      rw [State.heap_setCell_other (show T.heap.size ≠ T.heap.size + 1 + j by omega)]
      by_cases e : j = i
      · rw [e, ← h1]
        exact State.heap_pushCell_size _ _
      · rw [State.heap_pushCell_of_lt (h := (show T.heap.size + 1 + j < (rwS T co ci i).heap.size by omega))]
        exact h6 j (by omega)
theorem rwS_top (T : State) (f : JFrame) (co ci : ClassId) : ∀ i, rwS (T.setTop f) co ci i = (rwS T co ci i).setTop f
  | 0 => rfl
  | i + 1 => by simp only [rwS, rwS_top T f co ci i, State.heap_setTop, State.pushCell_setTop, State.setCell_setTop]
section RW
variable {p : Program} {l : Launch} {e : Env} {R : Room} {s : State} {m : MethodId} {args : Array Value} {below : List Frame} {meth : Method} {c : Code} {T : State} {locs : List Loc} {cells slots : Nat}
theorem rwS_st (X : Stand p l e R s m args below meth c T locs cells slots) (co ci : ClassId) : ∀ i, ∃ L, Stand p l e R s m args below meth c (rwS T co ci i) (locs ++ L) (cells + 1 + i) (slots + 8 + 8 * i) ∧ ∀ q ∈ L, q.base = T.heap.size
  | 0 => ⟨[], by
    have h := X.pushed (rwC co T.heap.size 0)
    rw [show (rwC co T.heap.size 0).slots.size = 8 from arrV_size _ _ _] at h
    rw [List.append_nil]
    exact h, fun q h => by cases h⟩
  | i + 1 => by
    obtain ⟨L, h, hL⟩ := rwS_st X co ci i
    obtain ⟨h1, h2, -⟩ := rwS_ok T co ci i
    have h' := h.pushed (rwR ci)
    rw [show (rwR ci).slots.size = 8 from arrV_size _ _ _] at h'
    have hb : ((rwS T co ci i).pushCell (rwR ci)).heap[T.heap.size]? = some (rwC co T.heap.size i) := by rw [State.heap_pushCell_of_lt (h := (show T.heap.size < (rwS T co ci i).heap.size by omega))]; exact h2
    have h3 := h'.stored hb i (.ref (T.heap.size + 1 + i))
    refine ⟨L ++ [⟨T.heap.size, i⟩], ?_, fun q hq => ?_⟩
    · rw [← List.append_assoc, show slots + 8 + 8 * (i + 1) = slots + 8 + 8 * i + 8 by omega, show cells + 1 + (i + 1) = cells + 1 + i + 1 by omega]
      exact h3
    · rcases List.mem_append.mp hq with h | h
      · exact hL q h
      · rw [List.mem_singleton.mp h]
end RW
section RV
variable {E : CtlPost} {e : Env} {d : Bool} {acts : List Action} {T : State}
theorem rw_fits {v : Value} (hv : v = .null ∨ ∃ a, v = .ref a) : fits (.array .int) v = true := by
  rcases hv with rfl | ⟨a, rfl⟩ <;> rfl
theorem wp_rows {co ci cc : ClassId} {ko ki : Class} (hko : T.vm.classes[co]? = some ko) (hkindo : ko.kind = .array ci (.array .int)) (hki : T.vm.classes[ci]? = some ki) (hkindi : ki.kind = .array cc .int)
    (hl : 8 ≤ e.platform.arrayLengthLimit) (hh : 32 ≤ e.platform.maxHeapBytes) (hc : T.heap.size + 9 ≤ e.platform.maxCells) (hs : T.slotsUsed + 72 ≤ e.platform.maxSlots) {Q : Addr → Pre} (hq : ∀ d' acts', Q T.heap.size d' acts' (rwS T co ci 8)) :
    wp (Op.multianewarray.make co [8, 8]) Q E e d acts T := by
  have n8 : (8 : Int32).toNatClampNeg = 8 := by decide
  have hneg : ¬ (8 : Int32) < 0 := by decide
  rw [Op.multianewarray.make]
  simp only [wp_bind', W.ite, hneg, if_false, wp_pure', W.theClass, hko, hkindo, Option.some.injEq, exists_eq_left', n8]
  refine W.newArray_of hko hkindo (by omega) (by show ¬ 8 * 4 > _; omega) (by omega) (by omega) (rw_fits (Or.inl rfl)) (fun acts1 => ?_)
  have e0 : T.pushCell { cls := co, slots := Array.replicate 8 Value.null } = rwS T co ci 0 := by
    show _ = T.pushCell (rwC co T.heap.size 0)
    congr 1
  rw [e0]
  have ez : ((8 : Int32) == 0) = false := by decide
  simp only [ez, Bool.false_eq_true, if_false, wp_bind', wp_pure']
  rw [Std.Legacy.Range.forIn_eq_forIn_range']
  have hsz : ([:8] : Std.Legacy.Range).size = 8 := by simp [Std.Legacy.Range.size]
  rw [hsz]
  show wp (forIn (List.range' 0 8 1) PUnit.unit _) _ E e d acts1 _
  refine wp_forIn_inv (fun rest u => ∃ i, i ≤ 8 ∧ rest = List.range' i (8 - i) ∧ u = rwS T co ci i) _ _ ⟨0, by omega, rfl, rfl⟩ ?_ ?_
  · rintro x rest u d1 acts2 Q1 ⟨i, hi, hr, rfl⟩ next
    have hi8 : i < 8 := by
      rcases Nat.lt_or_ge i 8 with h | h
      · exact h
      · rw [show 8 - i = 0 by omega] at hr; cases hr
    rw [show 8 - i = (8 - (i + 1)) + 1 by omega, List.range'_succ] at hr
    obtain ⟨rfl, hrest⟩ := List.cons.inj hr
    obtain ⟨h1, h2, h3, h4, h5, h6⟩ := rwS_ok T co ci x
    simp only [wp_bind']
    rw [Op.multianewarray.make]
    simp only [wp_bind', W.ite, hneg, if_false, wp_pure', W.theClass, h3, hki, hkindi, Option.some.injEq, exists_eq_left', n8]
    refine W.newArray_of (by rw [h3]; exact hki) hkindi (by omega) (by show ¬ 8 * 4 > _; omega) (by omega) (by omega) rfl (fun acts3 => ?_)
    have e1 : (rwS T co ci x).pushCell { cls := ci, slots := Array.replicate 8 (defaultValue .int) } = (rwS T co ci x).pushCell (rwR ci) := by
      congr 1
    rw [e1]
    have hb : ((rwS T co ci x).pushCell (rwR ci)).heap[T.heap.size]? = some (rwC co T.heap.size x) := by rw [State.heap_pushCell_of_lt (h := (show T.heap.size < (rwS T co ci x).heap.size by omega))]; exact h2
    simp only [wp_bind', W.writeLoc, wp_pure']
    refine ⟨rwC co T.heap.size x, hb, (by intro h; cases h), by rw [show (rwC co T.heap.size x).slots.size = 8 from arrV_size _ _ _]; exact hi8, ?_, next _ _ _ ⟨x + 1, by omega, hrest, ?_⟩⟩
    · show State.fitsSlot _ co VmData.none x _ = true
      simp [State.fitsSlot, State.slotType?, h3, hko, hkindo, rw_fits (Or.inr ⟨_, rfl⟩)]
    · rw [h1]; rfl
  · rintro u d1 acts2 ⟨i, hi, hr, rfl⟩
    have hi8 : i = 8 := by
      rcases Nat.lt_or_ge i 8 with h | h
      · rw [show 8 - i = (8 - (i + 1)) + 1 by omega, List.range'_succ] at hr; cases hr
      · omega
    subst hi8
    simp only [wp_pure']
    exact hq _ _
end RV
section UM
variable {p : Program} {l : Launch} {e : Env} {R : Room} {s : State} {m : MethodId} {args : Array Value} {below : List Frame} {meth : Method} {c : Code} {Q : State → Prop}
variable {own : String} {cc : ByteArray} {nL : Nat} {ret : Option FieldType} {Ts : List Cond} {D : va_G} {A : Nat → Prop} {zc : Nat → ClassId}
theorem W_rows {H : Heap} {locs : List Loc} {cells slots : Nat} {cc : ByteArray} (hexec : p.tables.exec = Jvm.exec) (hb : c.code = cc) {ix : Nat} {co ci c2 : ClassId} {ko ki : Class} (hown : s.vm.findClass own = some m.cls) (hcl : (Cond.classLink own ix ("[" ++ (FieldType.array .int).toString)).before args s = true)
    (hco : s.vm.findClass ("[" ++ (FieldType.array .int).toString) = some co) (hko : s.vm.classes[co]? = some ko) (hkindo : ko.kind = .array ci (.array .int)) (hki : s.vm.classes[ci]? = some ki) (hkindi : ki.kind = .array c2 .int)
    {g : JFrame} (hg : g.method = m) (hd : decode cc g.pc = .ok (.multianewarray ix 2, 4)) {st : List Value} (hstack : g.stack = .int 8 :: .int 8 :: st) (hcells : cells + 9 ≤ R.cells) (hslots : slots + 72 ≤ R.slots)
    (kk : ∀ (H1 : Heap) (L : List Loc), H1.size = H.size + 9 → (∀ q, q < H.size → H1[q]? = H[q]?) → H1[H.size]? = some (rwC co H.size 8) → (∀ j, j < 8 → H1[H.size + 1 + j]? = some (rwR ci)) → (∀ q ∈ L, q.base = H.size) → W p l e R s m args below meth c H1 (locs ++ L) (cells + 9) (slots + 72) Q { g with pc := g.pc + 4, stack := .ref H.size :: st }) : W p l e R s m args below meth c H locs cells slots Q g := by
  intro T hT X
  subst hT hb hg
  have hpl : e.platform.magicAccessors = ({} : Platform).magicAccessors := by rw [X.admits.platform]
  obtain ⟨c0, hfc0, hcl2⟩ := Cond.classLink_spec hown hcl e.platform hpl
  cases hco.symm.trans hfc0
  obtain ⟨hg₁, hwarm₁, -⟩ := State.classEntry (e := e) X.warmed hcl2
  generalize T.vm.noted g.method.cls ix (.cls co) = vm₁ at hg₁ hwarm₁
  have hal : s.vm.Alike vm₁ := hwarm₁.alike
  obtain ⟨ko₁, hko₁, heo⟩ := hal.2.2 _ _ hko
  obtain ⟨ki₁, hki₁, hei⟩ := hal.2.2 _ _ hki
  have X1 := X.noted hwarm₁
  obtain ⟨hr1, hr2⟩ := X.roomAbove hcells hslots
  obtain ⟨L, X2, hL⟩ := rwS_st X1 co ci 8
  obtain ⟨h1, h2, h3, h4, h5, h6⟩ := rwS_ok (T.setVm vm₁) co ci 8
  obtain ⟨t, a1, b1⟩ := kk (rwS (T.setVm vm₁) co ci 8).heap L h1 h5 h2 h6 hL _ rfl X2
  refine ⟨t, ?_, b1⟩
  have hl : 8 ≤ e.platform.arrayLengthLimit := by rw [Launch.admits_arrayLengthLimit X.admits]; omega
  have hh : 32 ≤ e.platform.maxHeapBytes := by rw [Launch.admits_maxHeapBytes X.admits]; omega
  jvm_step X.here [hexec, hd]
  simp only [Op.multianewarray.sem, wp_bind', W.resolveClassAt_links (State.method?_setTop g X.here.top) hg₁]
  rw [W.popN, if_neg (by decide)]
  refine ⟨g, State.topJava?_setTop' (s := T.setVm vm₁) g X.here.top, [.int 8, .int 8], st, rfl, hstack, ?_⟩
  simp only [List.mapM_cons, List.mapM_nil, wp_bind', wp_pure']
  refine wp_rows (ko := ko₁) (ki := ki₁) (ci := ci) (cc := c2) hko₁ (by rw [heo]; exact hkindo) hki₁ (by rw [hei]; exact hkindi) hl hh (by show T.heap.size + 9 ≤ _; omega) (by show T.slotsUsed + 72 ≤ _; omega) (fun d1 acts1 => ?_)
  have eS : ((T.setTop g).setVm vm₁).setTop { g with stack := st } = (T.setVm vm₁).setTop { g with stack := st } := by
    show ((T.setVm vm₁).setTop g).setTop _ = _
    rw [State.setTop_setTop]
  rw [eS, rwS_top]
  simp only [wp_bind', W.mark, W.pushRef, State.topJava?_setTop' _ X2.here.top, Option.some.injEq, exists_eq_left', State.setTop_setTop, State.heap_setTop]
  intro acts2
  simp [jvm, X2.here.top]
  exact a1
theorem U_multi (X : CU p R s m args meth c own cc nL ret Ts D A zc) {kc ks : Nat} {ws : va_W} {pc ix : Nat} {lv : List (Nat × Value)} {st : List Value} (hcl : Cond.classLink own ix ("[" ++ (FieldType.array .int).toString) ∈ Ts) (hcells : kc + 9 ≤ R.cells) (hslots : ks + 72 ≤ R.slots) (d : decode cc pc = .ok (.multianewarray ix 2, 4)) (kk : ∀ (q : Nat) (f : Nat → Nat), UW l e below Q X (kc + 9) (ks + 72) (ws ++ WMul zc q f) (pc + 4) lv (.ref q :: st)) : UW l e below Q X kc ks ws pc lv (.int 8 :: .int 8 :: st) := by
  intro H locs ls hP hD hS hl
  have hK := X.2.2.2.2.2.2.2.1
  obtain ⟨comp, co, ko, a1, a2, a3, a4⟩ := X.2.2.2.2.2.2.2.2.2.1.2.2
  have z4 : s.vm.findClass ("[" ++ (FieldType.array .int).toString) = some (zc 4) := (hK.2 4 (zc 4, .array .int) rfl).2
  have z0 : s.vm.findClass ("[" ++ FieldType.int.toString) = some (zc 0) := (hK.2 0 (zc 0, .int) rfl).2
  have e4 : co = zc 4 := Option.some.inj (a4.symm.trans z4)
  have e0 : comp = zc 0 := Option.some.inj ((show s.vm.findClass ("[" ++ FieldType.int.toString) = some comp from a1).symm.trans z0)
  subst e4 e0
  obtain ⟨-, ki, hki, c2, hkindi⟩ := (hK.2 0 (zc 0, .int) rfl).1 8 (fun _ => .int 0)
  refine W_rows (g := F0 m pc ls (.int 8 :: .int 8 :: st)) X.1 X.2.1 X.2.2.2.2.2.1 (X.2.2.2.2.2.2.1 _ hcl) a4 a2 a3 hki hkindi rfl d rfl hcells hslots (fun H1 L g1 g2 g3 g4 g5 => ?_)
  have hA := X.2.2.2.2.2.2.2.2.2.2
  have hSz := hS.1
  refine kk H.size (fun j => H.size + 1 + j) H1 (locs ++ L) ls ?_ ?_ ⟨by omega, fun q h1 h2 => (g2 q (by omega)).trans (hS.2.1 q h1 h2), fun q hq => ?_⟩ hl
  · rw [P_mem]
    intro q hq
    rcases List.mem_append.mp hq with h | h
    · have := P_mem.mp hP q h
      exact this.kept (g2 q.1 this.lt)
    · rcases List.mem_cons.mp h with rfl | h
      · show H1[H.size]? = some (vp_cell _ _)
        rw [vp_cell_q, g3]
        unfold rwC
        rfl
      · obtain ⟨j, hj, rfl⟩ := List.mem_map.mp h
        show H1[H.size + 1 + j]? = some (vp_cell _ _)
        rw [vp_cell_i, g4 j (List.mem_range.mp hj)]
        rfl
  · rw [D_iff, List.map_append, List.nodup_append]
    obtain ⟨d1, d2⟩ := D_iff.mp hD
    refine ⟨⟨d1, ?_, ?_⟩, fun q hq => ?_⟩
    · show (H.size :: ((List.range 8).map _).map Prod.fst).Nodup
      rw [List.map_map]
      show (H.size :: (List.range 8).map (fun j => H.size + 1 + j)).Nodup
      rw [List.nodup_cons]
      refine ⟨fun h => ?_, ?_⟩
      · obtain ⟨j, -, hj⟩ := List.mem_map.mp h
        omega
      · rw [List.nodup_iff_pairwise_ne, List.pairwise_map]
        exact List.Pairwise.imp (fun h => by omega) List.pairwise_lt_range
    · intro x hx y hy hxy
      obtain ⟨q, hq, rfl⟩ := List.mem_map.mp hx
      have h1 := (P_mem.mp hP q hq).lt
      obtain ⟨r, hr, rfl⟩ := List.mem_map.mp hy
      rcases List.mem_cons.mp hr with rfl | hr
      · dsimp only at hxy; omega
      · obtain ⟨j, hj, rfl⟩ := List.mem_map.mp hr
        dsimp only at hxy
        omega
    · rcases List.mem_append.mp hq with h | h
      · exact d2 q h
      · rcases List.mem_cons.mp h with rfl | h
        · exact hA _ hSz
        · obtain ⟨j, hj, rfl⟩ := List.mem_map.mp h
          exact hA _ (by dsimp only; omega)
  · rcases List.mem_append.mp hq with h | h
    · exact hS.2.2 q h
    · rw [g5 q h]
      exact hA _ hSz
end UM
