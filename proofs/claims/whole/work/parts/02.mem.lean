/-! V: my own layer over the kit's rows. A memory gives each int of each object by the object's id; a layout gives each id its address. -/
abbrev ZId : Type := Nat × Nat × Nat
abbrev ZMem : Type := ZId → Nat → Int32
def mset (μ : ZMem) (o : ZId) (k : Nat) (v : Int32) : ZMem := fun o' k' => if o' = o ∧ k' = k then v else μ o' k'
/-- addresses; how many laws; the lengths of a law's arrays; the classes of arrays; the texts, and their bytes -/
abbrev ZLay : Type := (ZId → Nat) × Nat × (Nat → Nat → Nat) × (Nat → ClassId) × (Nat → Nat) × (Nat → Nat)
def zad (y : ZLay) (o : ZId) : Nat := y.1 o
def znl (y : ZLay) : Nat := y.2.1
def zci (y : ZLay) (k : Nat) : ClassId := y.2.2.2.1 k
def zak (y : ZLay) (k : Nat) : Nat := y.2.2.2.2.1 k
def zav (y : ZLay) (k : Nat) : Nat := y.2.2.2.2.2 k
/-- a field: an int; the law; a fixed object -/
abbrev ZF : Type := Option (Option ZId)
def zsh : ZId → Option (Nat × List ZF)
  | (0, 0, _) => some (11, [some (some (0, 1, 0)), none, none, some (some (1, 0, 0)), some (some (1, 1, 0)), some (some (1, 2, 0)), none, some (some (0, 2, 0)), some (some (0, 4, 0)), some (some (0, 12, 0)), some (some (0, 17, 0)), some (some (0, 20, 0)), some (some (0, 23, 0)), some (some (0, 24, 0)), some (some (0, 29, 0)), some (some (0, 30, 0))])
  | (0, 2, _) => some (6, [some (some (0, 3, 0)), none, none])
  | (0, 4, _) => some (9, [some (some (0, 5, 0)), some (some (0, 11, 0))])
  | (0, 5, _) => some (10, [some (some (0, 6, 0)), some (some (0, 7, 0)), some (some (0, 8, 0)), some (some (0, 9, 0)), none, none, some (some (0, 10, 0))])
  | (0, 12, _) => some (1, [none, some (some (0, 13, 0)), some (some (0, 14, 0)), some (some (0, 15, 0)), some (some (0, 16, 0))])
  | (0, 17, _) => some (2, [some (some (0, 18, 0)), some (some (0, 19, 0)), none])
  | (0, 20, _) => some (8, [none, some (some (0, 21, 0)), some (some (0, 22, 0)), none, none])
  | (0, 23, _) => some (0, [some (some (0, 20, 0))])
  | (0, 24, _) => some (4, [some (some (0, 20, 0)), some (some (0, 25, 0)), some (some (0, 26, 0)), some (some (0, 27, 0)), some (some (0, 28, 0)), none, none])
  | (0, 32, _) => some (12, [none, some (some (0, 33, 0)), some (some (0, 34, 0)), none, some (some (0, 35, 0)), some (some (0, 36, 0)), none, some (some (0, 37, 0)), none, none, none, none, none, none, some (some (0, 38, 0)), none, none, none, none, some (some (0, 39, 0)), some (some (0, 40, 0)), some (some (0, 41, 0)), some (some (0, 42, 0)), some (some (0, 43, 0)), none, none, some (some (0, 44, 0)), some (some (0, 45, 0)), some (some (0, 46, 0)), some (some (0, 47, 0))])
  | (1, s, _) => some (7, [some (some (2, s, 0)), some (some (4, s, 0)), none, none, none, none, none, none, none, none, some none])
  | (3, _, _) => some (5, [none, none, none, none, none, none, none, none, none, none, none])
  | (5, n, _) => some (3, [none, some (some (6, n, 0)), some (some (6, n, 1)), some (some (6, n, 2)), some (some (6, n, 3)), some (some (6, n, 4))])
  | _ => none
def zlen (y : ZLay) : ZId → Nat
  | (0, 1, _) => 400
  | (0, 7, _) => 8
  | (0, 8, _) => 8
  | (0, 9, _) => 8
  | (0, 10, _) => 8
  | (0, 11, _) => 8
  | (0, 13, _) => 8
  | (0, 14, _) => 256
  | (0, 15, _) => 64
  | (0, 16, _) => 8
  | (0, 18, _) => 1539
  | (0, 19, _) => 243
  | (0, 21, _) => 401
  | (0, 22, _) => 401
  | (0, 25, _) => 12
  | (0, 26, _) => 12
  | (0, 27, _) => 13
  | (0, 28, _) => 400
  | (0, 29, _) => 20
  | (0, 30, _) => 8
  | (0, 31, _) => 1
  | (0, 33, _) => 737
  | (0, 34, _) => 737
  | (0, 35, _) => 337
  | (0, 36, _) => 4044
  | (0, 37, _) => 400
  | (0, 38, _) => 7
  | (0, 39, _) => 64
  | (0, 40, _) => 8
  | (0, 41, _) => 8
  | (0, 42, _) => 21
  | (0, 43, _) => 8
  | (0, 44, _) => 256
  | (0, 45, _) => 2048
  | (0, 46, _) => 8
  | (0, 47, _) => 243
  | (4, _, _) => 240
  | (6, n, j) => if j = 4 then 32 else y.2.2.1 n j
  | (7, _, _) => 8
  | _ => 0

/-- arrays of objects -/
def zra : ZId → Option (Nat × Nat × (Nat → ZId))
  | (0, 3, _) => some (3, 12, fun j => (1, 3 + j, 0))
  | (0, 6, _) => some (4, 8, fun j => (7, j, 0))
  | (2, s, _) => some (2, 8, fun j => (3, s, j))
  | _ => none
def zfs (y : ZLay) (μ : ZMem) (o : ZId) : Nat → List ZF → List Value
  | _, [] => []
  | b, none :: t => .int (μ o b) :: zfs y μ o (b + 1) t
  | b, some none :: t => .ref (zad y (5, (μ o b).toNatClampNeg, 0)) :: zfs y μ o (b + 1) t
  | b, some (some i) :: t => .ref (zad y i) :: zfs y μ o (b + 1) t
def zenc (y : ZLay) (μ : ZMem) (o : ZId) : va_E := match zsh o with
  | some (ci, sh) => .inr (ci, zfs y μ o 0 sh)
  | none => match zra o with
    | some (q, n, f) => .inl (zci y q, n, .inr (.inr (.inr (.inr (fun j => some (zad y (f j)))))))
    | none => if o.1 = 0 ∧ o.2.1 = 31 then .inl (zci y 1, 1, .inr (.inl (fun j => (μ o j).toInt64))) else .inl (zci y 0, zlen y o, .inl (fun j => μ o j))
def okI (y : ZLay) : ZId → Prop
  | (0, j, t) => j < 48 ∧ t = 0
  | (1, s, t) => s < 15 ∧ t = 0
  | (2, s, t) => s < 15 ∧ t = 0
  | (3, s, i) => s < 15 ∧ i < 8
  | (4, s, t) => s < 15 ∧ t = 0
  | (5, n, t) => n < znl y ∧ t = 0
  | (6, n, j) => n < znl y ∧ j < 5
  | (7, i, t) => i < 8 ∧ t = 0
  | _ => False
def zids (n : Nat) : List ZId :=
  (List.range 48).map (fun j => (0, j, 0)) ++ ((List.range 15).map (fun s => (1, s, 0)) ++ ((List.range 15).map (fun s => (2, s, 0)) ++ ((List.range 15).flatMap (fun s => (List.range 8).map (fun i => (3, s, i))) ++ ((List.range 15).map (fun s => (4, s, 0)) ++
  ((List.range n).map (fun k => (5, k, 0)) ++ ((List.range n).flatMap (fun k => (List.range 5).map (fun j => (6, k, j))) ++ (List.range 8).map (fun i => (7, i, 0))))))))
theorem mem_zids {y : ZLay} {o : ZId} : o ∈ zids (znl y) ↔ okI y o := by
  obtain ⟨a, b, c⟩ := o
  simp only [zids, List.mem_append, List.mem_map, List.mem_flatMap, List.mem_range, Prod.mk.injEq]
  match a with
  | 0 => first | (simp [okI]; done) | (simp [okI, eq_comm]; done) | (simp [okI]; constructor; (rintro ⟨a, h1, h2, h3⟩; subst h2; exact ⟨h1, h3.symm⟩); (rintro ⟨h1, h2⟩; exact ⟨_, h1, rfl, h2.symm⟩))
  | 1 => first | (simp [okI]; done) | (simp [okI, eq_comm]; done) | (simp [okI]; constructor; (rintro ⟨a, h1, h2, h3⟩; subst h2; exact ⟨h1, h3.symm⟩); (rintro ⟨h1, h2⟩; exact ⟨_, h1, rfl, h2.symm⟩))
  | 2 => first | (simp [okI]; done) | (simp [okI, eq_comm]; done) | (simp [okI]; constructor; (rintro ⟨a, h1, h2, h3⟩; subst h2; exact ⟨h1, h3.symm⟩); (rintro ⟨h1, h2⟩; exact ⟨_, h1, rfl, h2.symm⟩))
  | 3 => first | (simp [okI]; done) | (simp [okI, eq_comm]; done) | (simp [okI]; constructor; (rintro ⟨a, h1, h2, h3⟩; subst h2; exact ⟨h1, h3.symm⟩); (rintro ⟨h1, h2⟩; exact ⟨_, h1, rfl, h2.symm⟩))
  | 4 => first | (simp [okI]; done) | (simp [okI, eq_comm]; done) | (simp [okI]; constructor; (rintro ⟨a, h1, h2, h3⟩; subst h2; exact ⟨h1, h3.symm⟩); (rintro ⟨h1, h2⟩; exact ⟨_, h1, rfl, h2.symm⟩))
  | 5 => first | (simp [okI]; done) | (simp [okI, eq_comm]; done) | (simp [okI]; constructor; (rintro ⟨a, h1, h2, h3⟩; subst h2; exact ⟨h1, h3.symm⟩); (rintro ⟨h1, h2⟩; exact ⟨_, h1, rfl, h2.symm⟩))
  | 6 => first | (simp [okI]; done) | (simp [okI, eq_comm]; done) | (simp [okI]; constructor; (rintro ⟨a, h1, h2, h3⟩; subst h2; exact ⟨h1, h3.symm⟩); (rintro ⟨h1, h2⟩; exact ⟨_, h1, rfl, h2.symm⟩))
  | 7 => first | (simp [okI]; done) | (simp [okI, eq_comm]; done) | (simp [okI]; constructor; (rintro ⟨a, h1, h2, h3⟩; subst h2; exact ⟨h1, h3.symm⟩); (rintro ⟨h1, h2⟩; exact ⟨_, h1, rfl, h2.symm⟩))
  | n + 8 => simp [okI]
def wd (y : ZLay) (μ : ZMem) : va_W := (zids (znl y)).map (fun o => (zad y o, zenc y μ o))
theorem wd_get {y : ZLay} {μ : ZMem} {o : ZId} (h : okI y o) : ∃ k : Nat, (zids (znl y))[k]? = some o ∧ (wd y μ)[k]? = some (zad y o, zenc y μ o) := by
  obtain ⟨k, hk⟩ := List.getElem?_of_mem (mem_zids.mpr h)
  exact ⟨k, hk, by rw [wd, List.getElem?_map, hk]; rfl⟩
theorem wd_set {A : Nat → Prop} {y : ZLay} {μ μ' : ZMem} {o : ZId} {k : Nat} {e : va_E} (hD : va_D A (wd y μ)) (hk : (zids (znl y))[k]? = some o) (h1 : zenc y μ' o = e) (h2 : ∀ o', o' ≠ o → zenc y μ' o' = zenc y μ o') :
    (wd y μ).set k (zad y o, e) = wd y μ' := by
  have hkw : (wd y μ)[k]? = some (zad y o, zenc y μ o) := by rw [wd, List.getElem?_map, hk]; rfl
  apply List.ext_getElem?
  intro j
  by_cases hj : j = k
  · subst hj
    rw [List.getElem?_set_self (List.getElem?_eq_some_iff.mp hkw).1, wd, List.getElem?_map, hk, ← h1]
    rfl
  · rw [List.getElem?_set_ne (Ne.symm hj), wd, wd, List.getElem?_map, List.getElem?_map]
    cases hb : (zids (znl y))[j]? with
    | none => rfl
    | some b =>
      have hbo : b ≠ o := by
        intro q
        subst q
        have h3 : (wd y μ)[j]? = some (zad y b, zenc y μ b) := by rw [wd, List.getElem?_map, hb]; rfl
        exact hj (hD.1 j k _ _ h3 hkw rfl)
      show some (zad y b, zenc y μ b) = some (zad y b, zenc y μ' b)
      rw [h2 b hbo]
theorem wd_D {A : Nat → Prop} {y : ZLay} {μ μ' : ZMem} (h : va_D A (wd y μ)) : va_D A (wd y μ') := by
  have tr : ∀ (i : Nat) (p : Nat × va_E), (wd y μ')[i]? = some p → ∃ q : Nat × va_E, (wd y μ)[i]? = some q ∧ q.1 = p.1 := by
    intro i p hp
    rw [wd, List.getElem?_map] at hp
    cases hb : (zids (znl y))[i]? with
    | none => rw [hb] at hp; cases hp
    | some b =>
      rw [hb] at hp
      cases hp
      exact ⟨(zad y b, zenc y μ b), by rw [wd, List.getElem?_map, hb]; rfl, rfl⟩
  refine ⟨fun i j p q hp hq e => ?_, fun k q hq => ?_⟩
  · obtain ⟨p', hp', ep⟩ := tr i p hp
    obtain ⟨q', hq', eq⟩ := tr j q hq
    exact h.1 i j p' q' hp' hq' (by rw [ep, eq, e])
  · obtain ⟨q', hq', eq⟩ := tr k q hq
    rw [← eq]
    exact h.2 k q' hq'
theorem zfs_congr {y : ZLay} {μ μ' : ZMem} {o : ZId} (h : μ' o = μ o) : ∀ (sh : List ZF) (b : Nat), zfs y μ' o b sh = zfs y μ o b sh
  | [], _ => rfl
  | none :: t, b => by rw [zfs, zfs, zfs_congr h t, h]
  | some none :: t, b => by rw [zfs, zfs, zfs_congr h t, h]
  | some (some i) :: t, b => by rw [zfs, zfs, zfs_congr h t]
theorem zenc_congr {y : ZLay} {μ μ' : ZMem} {o : ZId} (h : μ' o = μ o) : zenc y μ' o = zenc y μ o := by
  unfold zenc
  rw [h]
  cases zsh o with
  | none => rfl
  | some q => obtain ⟨ci, sh⟩ := q; simp only [zfs_congr h]
theorem mset_ne {μ : ZMem} {o o' : ZId} {k : Nat} {v : Int32} (h : o' ≠ o) : mset μ o k v o' = μ o' := by funext j; simp [mset, h]
theorem mset_at {μ : ZMem} {o : ZId} {k : Nat} {v : Int32} : mset μ o k v o k = v := by simp [mset]
theorem mset_k {μ : ZMem} {o : ZId} {k j : Nat} {v : Int32} (h : j ≠ k) : mset μ o k v o j = μ o j := by simp [mset, h]
theorem zfs_i {y : ZLay} {μ : ZMem} {o : ZId} : ∀ (sh : List ZF) (b k : Nat), sh[k]? = some none → (zfs y μ o b sh)[k]? = some (.int (μ o (b + k)))
  | [], _, _, h => by simp at h
  | f :: t, b, 0, h => by
    simp only [List.getElem?_cons_zero, Option.some.injEq] at h
    subst h
    rfl
  | none :: t, b, k + 1, h => by
    rw [zfs, List.getElem?_cons_succ, zfs_i t (b + 1) k (by simpa using h), show b + 1 + k = b + (k + 1) by omega]
  | some none :: t, b, k + 1, h => by
    rw [zfs, List.getElem?_cons_succ, zfs_i t (b + 1) k (by simpa using h), show b + 1 + k = b + (k + 1) by omega]
  | some (some i) :: t, b, k + 1, h => by
    rw [zfs, List.getElem?_cons_succ, zfs_i t (b + 1) k (by simpa using h), show b + 1 + k = b + (k + 1) by omega]
theorem zfs_l {y : ZLay} {μ : ZMem} {o : ZId} : ∀ (sh : List ZF) (b k : Nat), sh[k]? = some (some none) → (zfs y μ o b sh)[k]? = some (.ref (zad y (5, (μ o (b + k)).toNatClampNeg, 0)))
  | [], _, _, h => by simp at h
  | f :: t, b, 0, h => by
    simp only [List.getElem?_cons_zero, Option.some.injEq] at h
    subst h
    rfl
  | none :: t, b, k + 1, h => by
    rw [zfs, List.getElem?_cons_succ, zfs_l t (b + 1) k (by simpa using h), show b + 1 + k = b + (k + 1) by omega]
  | some none :: t, b, k + 1, h => by
    rw [zfs, List.getElem?_cons_succ, zfs_l t (b + 1) k (by simpa using h), show b + 1 + k = b + (k + 1) by omega]
  | some (some i) :: t, b, k + 1, h => by
    rw [zfs, List.getElem?_cons_succ, zfs_l t (b + 1) k (by simpa using h), show b + 1 + k = b + (k + 1) by omega]
theorem zfs_r {y : ZLay} {μ : ZMem} {o i : ZId} : ∀ (sh : List ZF) (b k : Nat), sh[k]? = some (some (some i)) → (zfs y μ o b sh)[k]? = some (.ref (zad y i))
  | [], _, _, h => by simp at h
  | f :: t, b, 0, h => by
    simp only [List.getElem?_cons_zero, Option.some.injEq] at h
    subst h
    rfl
  | none :: t, b, k + 1, h => by
    rw [zfs, List.getElem?_cons_succ, zfs_r t (b + 1) k (by simpa using h)]
  | some none :: t, b, k + 1, h => by
    rw [zfs, List.getElem?_cons_succ, zfs_r t (b + 1) k (by simpa using h)]
  | some (some j) :: t, b, k + 1, h => by
    rw [zfs, List.getElem?_cons_succ, zfs_r t (b + 1) k (by simpa using h)]
theorem zfs_above {y : ZLay} {μ : ZMem} {o : ZId} {q : Nat} {v : Int32} : ∀ (sh : List ZF) (b : Nat), q < b → zfs y (mset μ o q v) o b sh = zfs y μ o b sh
  | [], _, _ => rfl
  | none :: t, b, h => by rw [zfs, zfs, zfs_above t (b + 1) (by omega), mset_k (by omega)]
  | some none :: t, b, h => by rw [zfs, zfs, zfs_above t (b + 1) (by omega), mset_k (by omega)]
  | some (some i) :: t, b, h => by rw [zfs, zfs, zfs_above t (b + 1) (by omega)]
theorem zfs_set {y : ZLay} {μ : ZMem} {o : ZId} {v : Int32} : ∀ (sh : List ZF) (b k : Nat), sh[k]? = some none → zfs y (mset μ o (b + k) v) o b sh = (zfs y μ o b sh).set k (.int v)
  | [], _, _, h => by simp at h
  | f :: t, b, 0, h => by
    simp only [List.getElem?_cons_zero, Option.some.injEq] at h
    subst h
    rw [zfs, zfs, List.set_cons_zero, Nat.add_zero, mset_at, zfs_above t (b + 1) (by omega)]
  | none :: t, b, k + 1, h => by
    rw [zfs, zfs, List.set_cons_succ, mset_k (by omega), show b + (k + 1) = b + 1 + k by omega, zfs_set t (b + 1) k (by simpa using h)]
  | some none :: t, b, k + 1, h => by
    rw [zfs, zfs, List.set_cons_succ, mset_k (by omega), show b + (k + 1) = b + 1 + k by omega, zfs_set t (b + 1) k (by simpa using h)]
  | some (some i) :: t, b, k + 1, h => by
    rw [zfs, zfs, List.set_cons_succ, show b + (k + 1) = b + 1 + k by omega, zfs_set t (b + 1) k (by simpa using h)]
theorem zfs_setl {y : ZLay} {μ : ZMem} {o : ZId} {v : Int32} : ∀ (sh : List ZF) (b k : Nat), sh[k]? = some (some none) → zfs y (mset μ o (b + k) v) o b sh = (zfs y μ o b sh).set k (.ref (zad y (5, v.toNatClampNeg, 0)))
  | [], _, _, h => by simp at h
  | f :: t, b, 0, h => by
    simp only [List.getElem?_cons_zero, Option.some.injEq] at h
    subst h
    rw [zfs, zfs, List.set_cons_zero, Nat.add_zero, mset_at, zfs_above t (b + 1) (by omega)]
  | none :: t, b, k + 1, h => by
    rw [zfs, zfs, List.set_cons_succ, mset_k (by omega), show b + (k + 1) = b + 1 + k by omega, zfs_setl t (b + 1) k (by simpa using h)]
  | some none :: t, b, k + 1, h => by
    rw [zfs, zfs, List.set_cons_succ, mset_k (by omega), show b + (k + 1) = b + 1 + k by omega, zfs_setl t (b + 1) k (by simpa using h)]
  | some (some i) :: t, b, k + 1, h => by
    rw [zfs, zfs, List.set_cons_succ, show b + (k + 1) = b + 1 + k by omega, zfs_setl t (b + 1) k (by simpa using h)]
theorem zfs_len {y : ZLay} {μ : ZMem} {o : ZId} : ∀ (sh : List ZF) (b : Nat), (zfs y μ o b sh).length = sh.length
  | [], _ => rfl
  | none :: t, b => by rw [zfs, List.length_cons, List.length_cons, zfs_len t]
  | some none :: t, b => by rw [zfs, List.length_cons, List.length_cons, zfs_len t]
  | some (some i) :: t, b => by rw [zfs, List.length_cons, List.length_cons, zfs_len t]
theorem zenc_o {y : ZLay} {μ : ZMem} {o : ZId} {ci : Nat} {sh : List ZF} (h : zsh o = some (ci, sh)) : zenc y μ o = .inr (ci, zfs y μ o 0 sh) := by
  unfold zenc
  rw [h]
/-- an array of ints -/
def zisI (o : ZId) : Bool := (zsh o).isNone && (zra o).isNone && !(o.1 == 0 && o.2.1 == 31)
theorem zenc_i {y : ZLay} {μ : ZMem} {o : ZId} (h : zisI o = true) : zenc y μ o = .inl (zci y 0, zlen y o, .inl (fun j => μ o j)) := by
  simp only [zisI, Bool.and_eq_true, Option.isNone_iff_eq_none, Bool.not_eq_true', Bool.and_eq_false_iff, beq_eq_false_iff_ne] at h
  obtain ⟨⟨h1, h2⟩, h3⟩ := h
  unfold zenc
  rw [h1]
  simp only
  rw [h2]
  simp only
  rw [if_neg]
  rintro ⟨a, b⟩
  rcases h3 with h3 | h3
  · exact h3 a
  · exact h3 b
theorem zenc_ra {y : ZLay} {μ : ZMem} {o : ZId} {q n : Nat} {f : Nat → ZId} (h1 : zsh o = none) (h2 : zra o = some (q, n, f)) : zenc y μ o = .inl (zci y q, n, .inr (.inr (.inr (.inr (fun j => some (zad y (f j))))))) := by
  unfold zenc
  rw [h1]
  simp only
  rw [h2]
theorem zenc_out {y : ZLay} {μ : ZMem} : zenc y μ (0, 31, 0) = .inl (zci y 1, 1, .inr (.inl (fun j => (μ (0, 31, 0) j).toInt64))) := rfl
def lawok (y : ZLay) (μ : ZMem) : Prop := ∀ s, s < 15 → (μ (1, s, 0) 10).toNatClampNeg < znl y
theorem lawok_ne {y : ZLay} {μ : ZMem} {o : ZId} {k : Nat} {v : Int32} (h : lawok y μ) (hk : ¬ (o.1 = 1 ∧ k = 10)) : lawok y (mset μ o k v) := by
  intro s hs
  have : mset μ o k v (1, s, 0) 10 = μ (1, s, 0) 10 := by
    unfold mset
    rw [if_neg]
    rintro ⟨a, b⟩
    exact hk ⟨by rw [← a], b.symm⟩
  rw [this]
  exact h s hs
theorem lawok_law {y : ZLay} {μ : ZMem} {t : Nat} {v : Int32} (h : lawok y μ) (hv : v.toNatClampNeg < znl y) : lawok y (mset μ (1, t, 0) 10 v) := by
  intro s hs
  by_cases e : s = t
  · subst e; rw [mset_at]; exact hv
  · rw [mset_ne (by simpa using e)]; exact h s hs
/-! programs -/
def zlt {α β : Type} (x : α) (f : α → β) : β := f x
def gd {α : Type} (b : Bool) (x : Option α) : Option α := match b with
  | true => x
  | false => none
def bd {α β : Type} (x : Option α) (f : α → Option β) : Option β := match x with
  | none => none
  | some a => f a
def lp {σ ρ : Type} (F : σ → Option (σ ⊕ ρ)) : Nat → σ → Option ρ
  | 0, _ => none
  | n + 1, s => match F s with
    | none => none
    | some (.inl s') => lp F n s'
    | some (.inr r) => some r
def jk {κ ρ : Type} (K : κ) (f : κ → ρ) : ρ := f K
def FU : Nat := 1000000
theorem gd_some {α : Type} {b : Bool} {x : Option α} {r : α} (h : gd b x = some r) : b = true ∧ x = some r := by
  cases b with
  | true => exact ⟨rfl, h⟩
  | false => cases h
theorem bd_some {α β : Type} {x : Option α} {f : α → Option β} {r : β} (h : bd x f = some r) : ∃ a, x = some a ∧ f a = some r := by
  cases x with
  | none => cases h
  | some a => exact ⟨a, rfl, h⟩
def zP {σ ρ : Type} (g : σ → Option ρ) (r : ρ) (z : σ ⊕ ρ) : Prop := match z with
  | .inl s => g s = some r
  | .inr q => q = r
theorem lp_some {σ ρ : Type} {F : σ → Option (σ ⊕ ρ)} {n : Nat} {s : σ} {r : ρ} (h : lp F (n + 1) s = some r) : ∃ z, F s = some z ∧ zP (lp F n) r z := by
  unfold lp at h
  cases hF : F s with
  | none => rw [hF] at h; cases h
  | some z =>
    rw [hF] at h
    cases z with
    | inl s' => exact ⟨_, rfl, h⟩
    | inr q => exact ⟨_, rfl, Option.some.inj h⟩
def zin (i : Int32) (n : Nat) : Bool := decide (0 ≤ i) && decide (i.toNatClampNeg < n)
theorem zin_vp {i : Int32} {n : Nat} (h : zin i n = true) : vp_in i n := by
  simp only [zin, Bool.and_eq_true, decide_eq_true_eq] at h
  rintro (h1 | h1)
  · exact absurd h.1 (Int32.not_le.mpr h1)
  · omega
theorem zin_lt {i : Int32} {n : Nat} (h : zin i n = true) : i.toNatClampNeg < n := by
  simp only [zin, Bool.and_eq_true, decide_eq_true_eq] at h
  exact h.2
/-! what stays the same all the way: the texts, the statics of the JDK that are read, what can be caught as what -/
def zStr : List (String × Nat × String) := [("SlotCluster$Text", 52, "node fast slow members good bad wait even alone flaky late omit hold if or and not ahead behind silent torn off active window precision round "),
  ("SlotClusterModel", 119, "ahead"),
  ("SlotClusterModel", 121, "behind"),
  ("SlotClusterModel", 127, "fast"),
  ("SlotClusterModel", 129, "slow"),
  ("SlotClusterModel", 131, "flaky"),
  ("SlotClusterModel", 133, "late"),
  ("SlotClusterModel", 135, "silent"),
  ("SlotClusterModel", 137, "torn"),
  ("SlotClusterModel", 139, "off"),
  ("SlotClusterModel", 141, "active"),
  ("SlotClusterModel", 150, "node"),
  ("SlotClusterModel", 155, "window"),
  ("SlotClusterModel", 160, "precision"),
  ("SlotClusterModel", 162, "round"),
  ("SlotClusterModel", 193, "members"),
  ("SlotClusterModel", 195, "good"),
  ("SlotClusterModel", 197, "bad"),
  ("SlotClusterModel", 199, "wait"),
  ("SlotClusterModel", 204, "even"),
  ("SlotClusterModel", 206, "alone"),
  ("SlotClusterModel", 215, "not"),
  ("SlotClusterModel", 227, "and"),
  ("SlotClusterModel", 232, "or"),
  ("SlotClusterModel", 234, "omit"),
  ("SlotClusterModel", 236, "hold"),
  ("SlotClusterModel", 238, "if")]
def zByt : List (List Int32) := [[110, 111, 100, 101, 32, 102, 97, 115, 116, 32, 115, 108, 111, 119, 32, 109, 101, 109, 98, 101, 114, 115, 32, 103, 111, 111, 100, 32, 98, 97, 100, 32, 119, 97, 105, 116, 32, 101, 118, 101, 110, 32, 97, 108, 111, 110, 101, 32, 102, 108, 97, 107, 121, 32, 108, 97, 116, 101, 32, 111, 109, 105, 116, 32, 104, 111, 108, 100, 32, 105, 102, 32, 111, 114, 32, 97, 110, 100, 32, 110, 111, 116, 32, 97, 104, 101, 97, 100, 32, 98, 101, 104, 105, 110, 100, 32, 115, 105, 108, 101, 110, 116, 32, 116, 111, 114, 110, 32, 111, 102, 102, 32, 97, 99, 116, 105, 118, 101, 32, 119, 105, 110, 100, 111, 119, 32, 112, 114, 101, 99, 105, 115, 105, 111, 110, 32, 114, 111, 117, 110, 100, 32],
  [97, 104, 101, 97, 100],
  [98, 101, 104, 105, 110, 100],
  [102, 97, 115, 116],
  [115, 108, 111, 119],
  [102, 108, 97, 107, 121],
  [108, 97, 116, 101],
  [115, 105, 108, 101, 110, 116],
  [116, 111, 114, 110],
  [111, 102, 102],
  [97, 99, 116, 105, 118, 101],
  [110, 111, 100, 101],
  [119, 105, 110, 100, 111, 119],
  [112, 114, 101, 99, 105, 115, 105, 111, 110],
  [114, 111, 117, 110, 100],
  [109, 101, 109, 98, 101, 114, 115],
  [103, 111, 111, 100],
  [98, 97, 100],
  [119, 97, 105, 116],
  [101, 118, 101, 110],
  [97, 108, 111, 110, 101],
  [110, 111, 116],
  [97, 110, 100],
  [111, 114],
  [111, 109, 105, 116],
  [104, 111, 108, 100],
  [105, 102]]
def zLen : List Nat := [142, 5, 6, 4, 4, 5, 4, 6, 4, 3, 6, 4, 6, 9, 5, 7, 4, 3, 4, 4, 5, 3, 3, 2, 4, 4, 2]
def zCast : List (String × String) := [("java/lang/IllegalArgumentException", "java/lang/IllegalArgumentException"), ("java/lang/IndexOutOfBoundsException", "java/lang/IndexOutOfBoundsException"), ("java/util/NoSuchElementException", "java/util/NoSuchElementException"), ("java/lang/IllegalStateException", "java/lang/IllegalStateException"), ("java/lang/UnsupportedOperationException", "java/lang/UnsupportedOperationException")]
def zNoC : List (String × String) := [("java/lang/UnsupportedOperationException", "java/lang/IllegalArgumentException"), ("java/util/NoSuchElementException", "java/lang/IndexOutOfBoundsException"), ("java/lang/IllegalArgumentException", "java/lang/IndexOutOfBoundsException"), ("java/lang/IllegalStateException", "java/lang/IllegalArgumentException"), ("java/lang/IllegalStateException", "java/lang/IndexOutOfBoundsException")]
def EnvF (y : ZLay) (A : Nat → Prop) (U : State) (H : Heap) : Prop :=
  vk_S 27 zLen zByt (zak y) (zav y) A U H ∧ (∀ (i : Nat) (q : String × Nat × String), zStr[i]? = some q → vk_R q.1 q.2.1 q.2.2 (zak y i) U) ∧ va_Z "java/lang/String" "COMPACT_STRINGS" "Z" (.int 1) A U H ∧
  vx_Zq Bundle.tN "UNASSIGNED_STACK" Bundle.steD A U H ∧ vx_Zq Bundle.tN "SUPPRESSED_SENTINEL" Bundle.listD A U H ∧ (∀ q ∈ zCast, va_Nw (.castable q.1 q.2) U) ∧ (∀ q ∈ zNoC, va_Nc q.1 q.2 U) ∧ va_Zq "jdk/internal/util/Preconditions" "SIOOBE_FORMATTER" "Ljava/util/function/BiFunction;" A U H ∧ ∀ q ∈ zDecl, va_Nw (.declares q) U
theorem EnvF.move {y : ZLay} {A B : Nat → Prop} {s U : State} {H H1 : Heap} (hW : s.WarmedH U.vm) (hH : ∀ q : Nat, q < H.size → ¬ A q → H1[q]? = H[q]?) (hAB : ∀ q, B q → A q) (h : EnvF y A s H) : EnvF y B U H1 := by
  obtain ⟨h1, h2, h3, h4, h5, h6, h7, h8, h9⟩ := h
  exact ⟨((h1.kept hH).narrow hAB).moved hW.alike, fun i q hq => vk_R.warm hW (h2 i q hq), ((h3.kept hH).narrow hAB).moved hW.alike, ((h4.kept hH).narrow hAB).moved hW.alike, ((h5.kept hH).narrow hAB).moved hW.alike, fun q hq => va_Nw.warmC hW (h6 q hq), fun q hq => va_Nc.moved hW.alike (h7 q hq), va_Zq.moved hW.alike (va_Zq.narrow (va_Zq.kept h8 hH) hAB), fun q hq => va_Nw.warmD hW (h9 q hq)⟩
theorem EnvF.same {y : ZLay} {A : Nat → Prop} {s U : State} {H : Heap} (hv : s.vm = U.vm) (h : EnvF y A s H) : EnvF y A U H := by
  have al : s.vm.Alike U.vm := by rw [hv]; exact Vm.Alike.refl U.vm
  obtain ⟨h1, h2, h3, h4, h5, h6, h7, h8, h9⟩ := h
  exact ⟨h1.moved al, fun i q hq => vk_R.same hv.symm (h2 i q hq), h3.moved al, h4.moved al, h5.moved al, fun q hq => va_Nw.same rfl hv (h6 q hq), fun q hq => va_Nc.moved al (h7 q hq), va_Zq.moved al h8, fun q hq => va_Nw.same rfl hv (h9 q hq)⟩
