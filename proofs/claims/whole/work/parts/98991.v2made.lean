/-! the law made: seen from the class -/
theorem join_suf {A0 : Nat → Prop} {D : va_G} {cl : List vw_C} {wr wc w1 : va_W} {H H1 : Heap} (hP : va_P D cl (wr ++ wc) H) (hD : va_D A0 (wr ++ wc)) (hk : ∀ q : Nat, q < H.size → ¬ va_A wc H.size q → H1[q]? = H[q]?) (hF : ∀ q, va_A wc H.size q → A0 q) (hP1 : va_P D cl w1 H1) (hD1 : va_D (va_A wc H.size) w1) : va_P D cl (wr ++ w1) H1 ∧ va_D A0 (wr ++ w1) := by
  refine va_join (wc := wc) (wr := wr) hP hD (List.range' wr.length wc.length) (List.range' 0 wr.length) ?_ (map_range wr wc) (nd_range _ _) (fun i hi hj => ?_) hk hF hP1 hD1
  · apply List.ext_getElem?
    intro i
    rw [List.getElem?_map, List.getElem?_map]
    by_cases h : i < wc.length
    · rw [List.getElem?_range' h, Option.map_some, Nat.one_mul, List.getElem?_append_right (by omega), Nat.add_sub_cancel_left, List.getElem?_eq_getElem h]; rfl
    · rw [List.getElem?_eq_none (by rw [List.length_range']; omega), List.getElem?_eq_none (by omega)]; rfl
  · have h1 := List.mem_range'_1.mp hi
    have h2 := List.mem_range'_1.mp hj
    omega
theorem perm_P {D : va_G} {cl : List vw_C} {w1 w2 : va_W} {H : Heap} (h : w1.Perm w2) (hP : va_P D cl w1 H) : va_P D cl w2 H := P_mem.mpr fun q hq => P_mem.mp hP q (h.mem_iff.mpr hq)
theorem perm_D {A : Nat → Prop} {w1 w2 : va_W} (h : w1.Perm w2) (hD : va_D A w1) : va_D A w2 := by
  obtain ⟨h1, h2⟩ := D_iff.mp hD
  exact D_iff.mpr ⟨(h.map Prod.fst).nodup_iff.mp h1, fun q hq => h2 q (h.mem_iff.mpr hq)⟩
def zP24 : List ZId := (List.range 24).map (fun j => (0, j, 0))
def zQ5 : List ZId := [(0, 24, 0), (0, 25, 0), (0, 26, 0), (0, 27, 0), (0, 28, 0)]
def zS (n : Nat) : List ZId := (List.range' 29 19).map (fun j => (0, j, 0)) ++ ((List.range 15).map (fun s => (1, s, 0)) ++ ((List.range 15).map (fun s => (2, s, 0)) ++ ((List.range 15).flatMap (fun s => (List.range 8).map (fun i => (3, s, i))) ++ ((List.range 15).map (fun s => (4, s, 0)) ++
  ((List.range n).map (fun k => (5, k, 0)) ++ ((List.range n).flatMap (fun k => (List.range 5).map (fun j => (6, k, j))) ++ (List.range 8).map (fun i => (7, i, 0))))))))
theorem zids_cut (n : Nat) : zids n = zP24 ++ (zQ5 ++ zS n) := by
  have h : (List.range 48).map (fun j => ((0, j, 0) : ZId)) = zP24 ++ (zQ5 ++ (List.range' 29 19).map (fun j => (0, j, 0))) := by decide
  unfold zids zS
  rw [h]
  simp only [List.append_assoc]
section VM
variable {p : Program} {l : Launch} {e : Env} {R : Room} {s : State} {m : MethodId} {args : Array Value} {below : List Frame} {meth : Method} {c : Code} {Q : State → Prop}
variable {own : String} {cc : ByteArray} {nL : Nat} {ret : Option FieldType} {Ts : List Cond} {D : va_G} {A : Nat → Prop} {y : ZLay} {kc ks : Nat}
theorem Cx.grow (X : Cx p l e R s m args below meth c Q own cc nL ret Ts D A y kc ks) {y' : ZLay} {μ' : ZMem} (hy : y'.2.2.2 = y.2.2.2) (hD : va_D A (wd y' μ')) {kc' ks' : Nat} (h1 : kc' ≤ R.cells) (h2 : ks' ≤ R.slots) : Cx p l e R s m args below meth c Q own cc nL ret Ts D A y' kc' ks' := by
  obtain ⟨x1, x2, x3, x4, x5, x6, x7, x8, x9, x10, x11, x12, x13, x14⟩ := X
  have e1 : tyl y' = tyl y := by unfold tyl zci; rw [hy]
  have e2 : zak y' = zak y := by unfold zak; rw [hy]
  have e3 : zav y' = zav y := by unfold zav; rw [hy]
  refine ⟨x1, x2, x3, x4, x5, x6, x7, by rw [e1]; exact x8, x9, x10, fun μ => wd_D hD, h1, h2, ?_⟩
  unfold EnvF at x14 ⊢
  rw [e2, e3]
  exact x14
theorem V_made (X : Cx p l e R s m args below meth c Q own cc nL ret Ts D A y kc ks) (hO : AOs s) {μ : ZMem} {pc ix nl ml : Nat} {lv : List (Nat × Value)} {st : List Value} (hnl : nl ≤ 12) (hml : ml ≤ 400) (e1 : μ (0, 24, 0) 5 = nI nl) (e2 : μ (0, 24, 0) 6 = nI ml) (cw : CallW R s args own RX4 ix yX4_made cX4_made 1 (some (.object "SlotCluster$Law")) wbU_X4_made rmU_X4_made 6 1638 0) (hcat : (st.map fun v => v.category).sum ≤ 8) (hR : kc + 6 ≤ R.cells ∧ ks + 1638 ≤ R.slots) (d : decode cc pc = .ok (.invokevirtual ix, 3))
    (kk : ∀ (t : Nat → Nat) (a0 a1 a2 a3 : Nat) (g0 g1 g2 g3 : Nat → Int32) (X' : Cx p l e R s m args below meth c Q own cc nL ret Ts D A (yext y t a0 a1 a2 a3 nl ml) (kc + 6) (ks + 1638)), (∀ j, j < nl → g0 j = μ (0, 25, 0) j) → (∀ j, j < nl → g1 j = μ (0, 26, 0) j) → (∀ j, j < nl + 1 → g2 j = μ (0, 27, 0) j) → (∀ j, j < ml → g3 j = μ (0, 28, 0) j) → V X' (mext μ (znl y) (nI nl) g0 g1 g2 g3) (pc + 3) lv (.ref (t 0) :: st)) : V X μ pc lv (.ref (zad y (0, 24, 0)) :: st) := by
  intro H locs ls hP hw hS hl
  have hD : va_D A (wd y μ) := X.2.2.2.2.2.2.2.2.2.2.1 μ
  have hcut : wd y μ = zP24.map (fun o => (zad y o, zenc y μ o)) ++ (zQ5.map (fun o => (zad y o, zenc y μ o)) ++ (zS (znl y)).map (fun o => (zad y o, zenc y μ o))) := by
    unfold wd
    rw [zids_cut, List.map_append, List.map_append]
  obtain ⟨wP, hwP⟩ : ∃ wP, wP = zP24.map (fun o => (zad y o, zenc y μ o)) := ⟨_, rfl⟩
  obtain ⟨wS, hwS⟩ : ∃ wS, wS = (zS (znl y)).map (fun o => (zad y o, zenc y μ o)) := ⟨_, rfl⟩
  have hQ : zQ5.map (fun o => (zad y o, zenc y μ o)) = WLR (zci y) (zad y (0, 24, 0)) (zad y (0, 20, 0)) (zad y (0, 25, 0)) (zad y (0, 26, 0)) (zad y (0, 27, 0)) (zad y (0, 28, 0)) (fun j => μ (0, 25, 0) j) (fun j => μ (0, 26, 0) j) (fun j => μ (0, 27, 0) j) (fun j => μ (0, 28, 0) j) (nI nl) (nI ml) := by
    rw [← e1, ← e2]
    rfl
  rw [← hwP, ← hwS, hQ] at hcut
  obtain ⟨wc, hwc⟩ : ∃ wc, wc = WLR (zci y) (zad y (0, 24, 0)) (zad y (0, 20, 0)) (zad y (0, 25, 0)) (zad y (0, 26, 0)) (zad y (0, 27, 0)) (zad y (0, 28, 0)) (fun j => μ (0, 25, 0) j) (fun j => μ (0, 26, 0) j) (fun j => μ (0, 27, 0) j) (fun j => μ (0, 28, 0) j) (nI nl) (nI ml) := ⟨_, rfl⟩
  rw [← hwc] at hcut
  have hperm : (wd y μ).Perm ((wP ++ wS) ++ wc) := by
    rw [hcut, List.append_assoc]
    exact List.Perm.append_left _ List.perm_append_comm
  have hPp := perm_P hperm hP
  have hDp := perm_D hperm hD
  have hA := X.2.2.2.2.2.2.2.2.2.1
  have hF : ∀ q, va_A wc H.size q → A q := by
    rintro q (⟨k, ee, hk⟩ | h)
    · exact (D_iff.mp hDp).2 (q, ee) (List.mem_append_right _ (List.mem_of_getElem? hk))
    · exact hA q (Nat.le_trans hS.1 h)
  have recv : ∃ cellB : Cell, H[zad y (0, 24, 0)]? = some cellB ∧ cellB.vm.isStatics = false ∧ s.vm.findClass RX4 = some cellB.cls := by
    obtain ⟨q, -, hq⟩ := wd_get (μ := μ) (show okI y (0, 24, 0) from ⟨by decide, rfl⟩)
    rw [zenc_o (show zsh (0, 24, 0) = some (4, _) from rfl)] at hq
    exact va_recv (q := (RX4, TX4, 7)) X.2.2.2.2.2.2.2.1 hP (ci := 4) rfl hq
  have hM := K_X4_made (l := l) (D := D) (zc := zci y) (b := zad y (0, 24, 0)) (tx := zad y (0, 20, 0)) (k0 := zad y (0, 25, 0)) (k1 := zad y (0, 26, 0)) (k2 := zad y (0, 27, 0)) (k3 := zad y (0, 28, 0)) (f0 := fun j => μ (0, 25, 0) j) (f1 := fun j => μ (0, 26, 0) j) (f2 := fun j => μ (0, 27, 0) j) (f3 := fun j => μ (0, 28, 0) j) (nl := nl) (ml := ml) hnl hml
  rw [← hwc] at hM
  have hPc : va_P D vwCl wc H := P_mem.mpr fun q hq => P_mem.mp hPp q (List.mem_append_right _ hq)
  have hDc : va_D (fun _ => True) wc := by
    refine D_iff.mpr ⟨?_, fun _ _ => trivial⟩
    have := (D_iff.mp hDp).1
    rw [List.map_append, List.nodup_append] at this
    exact this.2.1
  refine va_callr (va_runV (As := []) (rest := st) ⟨X.1, X.2.1, X.2.2.1, X.2.2.2.2.2.1, X.2.2.2.2.2.2.1⟩ (hM H.size) cw ⟨preU_blind, recv, fun U hU hW => ⟨rfl, ⟨by rw [hU], by rw [hU]; exact hPc, va_K.moved hW.alike X.2.2.2.2.2.2.2.1, X.2.2.2.2.2.2.2.2.1.warm hW, AOs.moved hW.alike hO, hDc⟩⟩⟩ rfl rfl hl.1 rfl (lv_room hcat) d hR) hS (fun q _ h => hF q h) hF (fun w1 a t' H1 locs1 ht hvm _ hB hz hk hS1 => ?_)
  obtain ⟨⟨a0, a1, a2, a3, g0, g1, g2, g3, t, hta, h0, h1, h2, h3, hw1⟩, hP1, hD1⟩ := hB
  subst hta
  rw [ht] at hP1
  obtain ⟨j1, j2⟩ := join_suf hPp hDp hk hF hP1 hD1
  have hfin : ((wP ++ wS) ++ w1).Perm (wd (yext y t a0 a1 a2 a3 nl ml) (mext μ (znl y) (nI nl) g0 g1 g2 g3)) := by
    refine List.Perm.trans ?_ (wd_grow hw).symm
    rw [hw1]
    unfold WMade
    rw [← hwc, ← List.append_assoc]
    exact List.Perm.append_right _ hperm.symm
  have fP := perm_P hfin j1
  have fD := perm_D hfin j2
  refine kk t a0 a1 a2 a3 g0 g1 g2 g3 (X.grow (y' := yext y t a0 a1 a2 a3 nl ml) rfl fD hR.1 hR.2) h0 h1 h2 h3 H1 locs1 ls fP ?_ hS1 hl
  intro k hk
  have ho : mext μ (znl y) (nI nl) g0 g1 g2 g3 (1, k, 0) = μ (1, k, 0) := mext_old (y := y) ⟨hk, rfl⟩
  rw [ho]
  exact Nat.lt_succ_of_lt (hw k hk)
end VM
