/-! the world grows by a law -/
def nw6 (n : Nat) : List ZId := [(5, n, 0), (6, n, 0), (6, n, 1), (6, n, 2), (6, n, 3), (6, n, 4)]
theorem zids_perm (n : Nat) : (zids (n + 1)).Perm (zids n ++ nw6 n) := by
  rw [List.perm_iff_count]
  intro a
  have e1 : (List.range (n + 1)).map (fun k => ((5, k, 0) : ZId)) = (List.range n).map (fun k => ((5, k, 0) : ZId)) ++ [(5, n, 0)] := by rw [List.range_succ, List.map_append]; rfl
  have e2 : (List.range (n + 1)).flatMap (fun k => (List.range 5).map (fun j => ((6, k, j) : ZId))) = (List.range n).flatMap (fun k => (List.range 5).map (fun j => ((6, k, j) : ZId))) ++ [(6, n, 0), (6, n, 1), (6, n, 2), (6, n, 3), (6, n, 4)] := by rw [show List.range (n + 1) = List.range n ++ [n] from List.range_succ, List.flatMap_append]; rfl
  unfold zids nw6
  rw [e1, e2]
  simp only [List.count_append]
  rw [show ([(5, n, 0), (6, n, 0), (6, n, 1), (6, n, 2), (6, n, 3), (6, n, 4)] : List ZId) = [(5, n, 0)] ++ [(6, n, 0), (6, n, 1), (6, n, 2), (6, n, 3), (6, n, 4)] from rfl, List.count_append]
  omega
/-- fields that do not reach a new law -/
def fld (y : ZLay) (μ : ZMem) (o : ZId) : Nat → List ZF → Prop
  | _, [] => True
  | b, none :: t => fld y μ o (b + 1) t
  | b, some none :: t => (μ o b).toNatClampNeg < znl y ∧ fld y μ o (b + 1) t
  | b, some (some i) :: t => ((i.1 ≠ 5 ∧ i.1 ≠ 6) ∨ i.2.1 < znl y) ∧ fld y μ o (b + 1) t
def YE (y y' : ZLay) : Prop := (∀ i : ZId, ((i.1 ≠ 5 ∧ i.1 ≠ 6) ∨ i.2.1 < znl y) → zad y' i = zad y i) ∧ y'.2.2.2 = y.2.2.2 ∧ (∀ n j, n < znl y → y'.2.2.1 n j = y.2.2.1 n j) ∧ znl y ≤ znl y' ∧ znl y' ≤ znl y + 1
theorem YE.refl {y : ZLay} : YE y y := ⟨fun _ _ => rfl, rfl, fun _ _ _ => rfl, Nat.le_refl _, Nat.le_succ _⟩
theorem YE.ci {y y' : ZLay} (h : YE y y') (k : Nat) : zci y' k = zci y k := by unfold zci; rw [h.2.1]
theorem zfs_ext {y y' : ZLay} {μ μ' : ZMem} {o : ZId} (h : YE y y') (hμ : μ' o = μ o) : ∀ (sh : List ZF) (b : Nat), fld y μ o b sh → zfs y' μ' o b sh = zfs y μ o b sh
  | [], _, _ => rfl
  | none :: t, b, hf => by rw [zfs, zfs, zfs_ext h hμ t (b + 1) hf, hμ]
  | some none :: t, b, hf => by rw [zfs, zfs, zfs_ext h hμ t (b + 1) hf.2, hμ, h.1 _ (Or.inr hf.1)]
  | some (some i) :: t, b, hf => by rw [zfs, zfs, zfs_ext h hμ t (b + 1) hf.2, h.1 _ hf.1]
def shB : List ZF → Bool
  | [] => true
  | none :: t => shB t
  | some none :: _ => false
  | some (some i) :: t => !(i.1 == 5) && !(i.1 == 6) && shB t
theorem shB_fld {y : ZLay} {μ : ZMem} {o : ZId} : ∀ (sh : List ZF) (b : Nat), shB sh = true → fld y μ o b sh
  | [], _, _ => trivial
  | none :: t, b, h => shB_fld t (b + 1) h
  | some none :: t, b, h => by cases h
  | some (some i) :: t, b, h => by
    unfold shB at h
    simp only [Bool.and_eq_true, Bool.not_eq_true', beq_eq_false_iff_ne] at h
    exact ⟨Or.inl h.1, shB_fld t (b + 1) h.2⟩
theorem sh0_all : ∀ b : Fin 48, (match zsh (0, b.val, 0) with
    | some q => shB q.2
    | none => true) = true := by decide +kernel
theorem zsh_fld {y : ZLay} {μ : ZMem} {o : ZId} {ci : Nat} {sh : List ZF} (ho : okI y o) (hw : lawok y μ) (h : zsh o = some (ci, sh)) : fld y μ o 0 sh := by
  obtain ⟨a, b, c⟩ := o
  match a with
  | 0 =>
    obtain ⟨h1, h2⟩ := ho
    have h2 : c = 0 := h2
    subst h2
    have := sh0_all ⟨b, h1⟩
    dsimp only at this
    rw [h] at this
    exact shB_fld sh 0 this
  | 1 =>
    obtain ⟨h1, h2⟩ := ho
    have h2 : c = 0 := h2
    subst h2
    cases h
    exact ⟨Or.inl ⟨show (2 : Nat) ≠ 5 by decide, show (2 : Nat) ≠ 6 by decide⟩, Or.inl ⟨show (4 : Nat) ≠ 5 by decide, show (4 : Nat) ≠ 6 by decide⟩, hw b h1, trivial⟩
  | 2 => cases h
  | 3 => cases h; trivial
  | 4 => cases h
  | 5 =>
    obtain ⟨h1, h2⟩ := ho
    cases h
    exact ⟨Or.inr h1, Or.inr h1, Or.inr h1, Or.inr h1, Or.inr h1, trivial⟩
  | 6 => cases h
  | 7 => cases h
  | n + 8 => cases h
theorem zra_far {o : ZId} {q n : Nat} {f : Nat → ZId} (h : zra o = some (q, n, f)) : ∀ j, (f j).1 ≠ 5 ∧ (f j).1 ≠ 6 := by
  intro j
  unfold zra at h
  split at h
  · cases h; exact ⟨show (1 : Nat) ≠ 5 by decide, show (1 : Nat) ≠ 6 by decide⟩
  · cases h; exact ⟨show (7 : Nat) ≠ 5 by decide, show (7 : Nat) ≠ 6 by decide⟩
  · cases h; exact ⟨show (3 : Nat) ≠ 5 by decide, show (3 : Nat) ≠ 6 by decide⟩
  · cases h
theorem zlen_ext {y y' : ZLay} {o : ZId} (h : YE y y') (ho : okI y o) : zlen y' o = zlen y o := by
  obtain ⟨a, b, c⟩ := o
  by_cases h6 : a = 6
  · subst h6
    obtain ⟨h1, h2⟩ := ho
    show (if c = 4 then 32 else y'.2.2.1 b c) = if c = 4 then 32 else y.2.2.1 b c
    rw [h.2.2.1 b c h1]
  · unfold zlen
    split <;> first | rfl | (rename_i e; exact absurd (congrArg (fun q : ZId => q.1) e) h6) | exact absurd rfl h6
theorem zenc_ext {y y' : ZLay} {μ μ' : ZMem} {o : ZId} (h : YE y y') (ho : okI y o) (hw : lawok y μ) (hμ : μ' o = μ o) : zenc y' μ' o = zenc y μ o := by
  cases hs : zsh o with
  | some q =>
    obtain ⟨ci, sh⟩ := q
    rw [zenc_o hs, zenc_o hs, zfs_ext h hμ sh 0 (zsh_fld ho hw hs)]
  | none =>
    cases hr : zra o with
    | some q =>
      obtain ⟨q, n, f⟩ := q
      rw [zenc_ra hs hr, zenc_ra hs hr, h.ci]
      have : (fun j => some (zad y' (f j))) = fun j => some (zad y (f j)) := funext fun j => by rw [h.1 _ (Or.inl (zra_far hr j))]
      rw [this]
    | none =>
      unfold zenc
      rw [hs]
      simp only
      rw [hr]
      simp only
      rw [h.ci, h.ci, zlen_ext h ho, hμ]
/-- the layout with a law more; the memory -/
def yext (y : ZLay) (t : Nat → Nat) (a0 a1 a2 a3 nl ml : Nat) : ZLay := (fun o => if o.2.1 = znl y ∧ o.1 = 5 then t 0 else if o.2.1 = znl y ∧ o.1 = 6 then (if o.2.2 = 0 then a0 else if o.2.2 = 1 then a1 else if o.2.2 = 2 then a2 else if o.2.2 = 3 then a3 else t 1) else zad y o, znl y + 1, fun n j => if n = znl y then (if j = 3 then ml else if j = 2 then nl + 1 else nl) else y.2.2.1 n j, y.2.2.2)
def mext (μ : ZMem) (n : Nat) (x : Int32) (g0 g1 g2 g3 : Nat → Int32) : ZMem := fun o => if o.2.1 = n ∧ o.1 = 5 then fun _ => x else if o.2.1 = n ∧ o.1 = 6 then (if o.2.2 = 0 then g0 else if o.2.2 = 1 then g1 else if o.2.2 = 2 then g2 else if o.2.2 = 3 then g3 else fun _ => 0) else μ o
theorem yext_YE {y : ZLay} {t : Nat → Nat} {a0 a1 a2 a3 nl ml : Nat} : YE y (yext y t a0 a1 a2 a3 nl ml) := by
  refine ⟨fun i hi => ?_, rfl, fun n j hn => ?_, Nat.le_succ _, Nat.le_refl _⟩
  · show (if i.2.1 = znl y ∧ i.1 = 5 then t 0 else if i.2.1 = znl y ∧ i.1 = 6 then _ else zad y i) = _
    rw [if_neg (by omega), if_neg (by omega)]
  · show (if n = znl y then _ else y.2.2.1 n j) = _
    rw [if_neg (by omega)]
theorem mext_old {y : ZLay} {μ : ZMem} {x : Int32} {g0 g1 g2 g3 : Nat → Int32} {o : ZId} (ho : okI y o) : mext μ (znl y) x g0 g1 g2 g3 o = μ o := by
  obtain ⟨a, b, c⟩ := o
  unfold mext
  have h : ¬ (b = znl y ∧ a = 5) ∧ ¬ (b = znl y ∧ a = 6) := by
    constructor
    · rintro ⟨h1, rfl⟩
      have : b < znl y := ho.1
      omega
    · rintro ⟨h1, rfl⟩
      have : b < znl y := ho.1
      omega
  rw [if_neg h.1, if_neg h.2]
theorem wd_grow {y : ZLay} {μ : ZMem} {t : Nat → Nat} {a0 a1 a2 a3 nl ml : Nat} {x : Int32} {g0 g1 g2 g3 : Nat → Int32} (hw : lawok y μ) : (wd (yext y t a0 a1 a2 a3 nl ml) (mext μ (znl y) x g0 g1 g2 g3)).Perm (wd y μ ++ ([(a0, .inl (zci y 0, nl, .inl g0)), (a1, .inl (zci y 0, nl, .inl g1)), (a2, .inl (zci y 0, nl + 1, .inl g2)), (a3, .inl (zci y 0, ml, .inl g3))] ++ WX3 (zci y) x a0 a1 a2 a3 t)) := by
  have h1 : (wd (yext y t a0 a1 a2 a3 nl ml) (mext μ (znl y) x g0 g1 g2 g3)).Perm (((zids (znl y)) ++ nw6 (znl y)).map (fun o => (zad (yext y t a0 a1 a2 a3 nl ml) o, zenc (yext y t a0 a1 a2 a3 nl ml) (mext μ (znl y) x g0 g1 g2 g3) o))) := (zids_perm (znl y)).map _
  refine h1.trans ?_
  rw [List.map_append]
  have h2 : (zids (znl y)).map (fun o => (zad (yext y t a0 a1 a2 a3 nl ml) o, zenc (yext y t a0 a1 a2 a3 nl ml) (mext μ (znl y) x g0 g1 g2 g3) o)) = wd y μ := by
    unfold wd
    refine List.map_congr_left (fun o ho => ?_)
    have ok := mem_zids.mp ho
    have hi : ((o.1 ≠ 5 ∧ o.1 ≠ 6) ∨ o.2.1 < znl y) := by
      obtain ⟨a, b, c⟩ := o
      by_cases h5 : a = 5
      · subst h5; exact Or.inr ok.1
      · by_cases h6 : a = 6
        · subst h6; exact Or.inr ok.1
        · exact Or.inl ⟨h5, h6⟩
    rw [yext_YE.1 o hi, zenc_ext yext_YE ok hw (mext_old ok)]
  rw [h2]
  refine List.Perm.append_left _ ?_
  have e5 : zad (yext y t a0 a1 a2 a3 nl ml) (5, znl y, 0) = t 0 := by show (if znl y = znl y ∧ (5 : Nat) = 5 then t 0 else _) = _; rw [if_pos ⟨rfl, rfl⟩]
  have e6 : ∀ j, zad (yext y t a0 a1 a2 a3 nl ml) (6, znl y, j) = if j = 0 then a0 else if j = 1 then a1 else if j = 2 then a2 else if j = 3 then a3 else t 1 := fun j => by
    show (if znl y = znl y ∧ (6 : Nat) = 5 then t 0 else if znl y = znl y ∧ (6 : Nat) = 6 then _ else _) = _
    rw [if_neg (by rintro ⟨-, h⟩; cases h), if_pos ⟨rfl, rfl⟩]
  have m5 : ∀ k, mext μ (znl y) x g0 g1 g2 g3 (5, znl y, 0) k = x := fun k => by
    show (if znl y = znl y ∧ (5 : Nat) = 5 then (fun _ => x) else _ : Nat → Int32) k = _
    rw [if_pos ⟨rfl, rfl⟩]
  have m6 : ∀ j, mext μ (znl y) x g0 g1 g2 g3 (6, znl y, j) = if j = 0 then g0 else if j = 1 then g1 else if j = 2 then g2 else if j = 3 then g3 else fun _ => 0 := fun j => by
    show (if znl y = znl y ∧ (6 : Nat) = 5 then (fun _ => x) else if znl y = znl y ∧ (6 : Nat) = 6 then _ else _ : Nat → Int32) = _
    rw [if_neg (by rintro ⟨-, h⟩; cases h), if_pos ⟨rfl, rfl⟩]
  have l6 : ∀ j, j ≠ 4 → zlen (yext y t a0 a1 a2 a3 nl ml) (6, znl y, j) = if j = 3 then ml else if j = 2 then nl + 1 else nl := fun j hj => by
    show (if j = 4 then 32 else if znl y = znl y then _ else _) = _
    rw [if_neg hj, if_pos rfl]
  have z5 : zenc (yext y t a0 a1 a2 a3 nl ml) (mext μ (znl y) x g0 g1 g2 g3) (5, znl y, 0) = .inr (3, [.int x, .ref a0, .ref a1, .ref a2, .ref a3, .ref (t 1)]) := by
    show (Sum.inr (3, [.int (mext μ (znl y) x g0 g1 g2 g3 (5, znl y, 0) 0), .ref (zad (yext y t a0 a1 a2 a3 nl ml) (6, znl y, 0)), .ref (zad (yext y t a0 a1 a2 a3 nl ml) (6, znl y, 1)), .ref (zad (yext y t a0 a1 a2 a3 nl ml) (6, znl y, 2)), .ref (zad (yext y t a0 a1 a2 a3 nl ml) (6, znl y, 3)), .ref (zad (yext y t a0 a1 a2 a3 nl ml) (6, znl y, 4))]) : va_E) = _
    rw [m5, e6, e6, e6, e6, e6]
    rfl
  have z6 : ∀ j, zenc (yext y t a0 a1 a2 a3 nl ml) (mext μ (znl y) x g0 g1 g2 g3) (6, znl y, j) = .inl (zci y 0, zlen (yext y t a0 a1 a2 a3 nl ml) (6, znl y, j), .inl (mext μ (znl y) x g0 g1 g2 g3 (6, znl y, j))) := fun j => zenc_i rfl
  unfold nw6
  simp only [List.map_cons, List.map_nil]
  rw [e5, z5, z6, z6, z6, z6, z6, e6, e6, e6, e6, e6, m6, m6, m6, m6, m6, l6 0 (by decide), l6 1 (by decide), l6 2 (by decide), l6 3 (by decide)]
  show List.Perm [(t 0, (Sum.inr (3, [.int x, .ref a0, .ref a1, .ref a2, .ref a3, .ref (t 1)]) : va_E)), (a0, .inl (zci y 0, nl, .inl g0)), (a1, .inl (zci y 0, nl, .inl g1)), (a2, .inl (zci y 0, nl + 1, .inl g2)), (a3, .inl (zci y 0, ml, .inl g3)), (t 1, .inl (zci y 0, 32, .inl (fun _ => 0)))] [(a0, .inl (zci y 0, nl, .inl g0)), (a1, .inl (zci y 0, nl, .inl g1)), (a2, .inl (zci y 0, nl + 1, .inl g2)), (a3, .inl (zci y 0, ml, .inl g3)), (t 0, .inr (3, [.int x, .ref a0, .ref a1, .ref a2, .ref a3, .ref (t 1)])), (t 1, .inl (zci y 0, 32, .inl (fun _ => 0)))]
  exact (List.perm_middle (l₁ := [(a0, (Sum.inl (zci y 0, nl, .inl g0) : va_E)), (a1, .inl (zci y 0, nl, .inl g1)), (a2, .inl (zci y 0, nl + 1, .inl g2)), (a3, .inl (zci y 0, ml, .inl g3))]) (l₂ := [(t 1, .inl (zci y 0, 32, .inl (fun _ => 0)))]) (a := (t 0, .inr (3, [.int x, .ref a0, .ref a1, .ref a2, .ref a3, .ref (t 1)])))).symm
