/-! the layout and the memory at the law's start -/
def y00 (zc : Nat → ClassId) (zk zv : Nat → Nat) (t t23 t23_0 t23_1 t34 t45 t56 t71 t86 t125 t135 t135_0 t147 t147_0 t159 t159_0 t171 : Nat → Nat) (t171_0 : Nat → (Nat → Nat) × (Nat → Nat)) (u : Nat → Nat) (q : Nat) : ZLay := (fun o => match o with
  | (0, 0, _) => t 0
  | (0, 1, _) => t 1
  | (0, 2, _) => t171 0
  | (0, 3, _) => t171 1
  | (0, 4, _) => t23 0
  | (0, 5, _) => t23_0 0
  | (0, 6, _) => t23_0 1
  | (0, 7, _) => t23_0 2
  | (0, 8, _) => t23_0 3
  | (0, 9, _) => t23_0 4
  | (0, 10, _) => t23_0 5
  | (0, 11, _) => t23 1
  | (0, 12, _) => t34 0
  | (0, 13, _) => t34 1
  | (0, 14, _) => t34 2
  | (0, 15, _) => t34 3
  | (0, 16, _) => t34 4
  | (0, 17, _) => t45 0
  | (0, 18, _) => t45 1
  | (0, 19, _) => t45 2
  | (0, 20, _) => t56 0
  | (0, 21, _) => t56 1
  | (0, 22, _) => t56 2
  | (0, 23, _) => t71 0
  | (0, 24, _) => t86 0
  | (0, 25, _) => t86 1
  | (0, 26, _) => t86 2
  | (0, 27, _) => t86 3
  | (0, 28, _) => t86 4
  | (0, 29, _) => t 2
  | (0, 30, _) => t 3
  | (0, 31, _) => q
  | (0, 32, _) => u 0
  | (0, 33, _) => u 1
  | (0, 34, _) => u 2
  | (0, 35, _) => u 3
  | (0, 36, _) => u 4
  | (0, 37, _) => u 5
  | (0, 38, _) => u 6
  | (0, 39, _) => u 7
  | (0, 40, _) => u 8
  | (0, 41, _) => u 9
  | (0, 42, _) => u 10
  | (0, 43, _) => u 11
  | (0, 44, _) => u 12
  | (0, 45, _) => u 13
  | (0, 46, _) => u 14
  | (0, 47, _) => u 15
  | (1, 0, _) => t135 0
  | (1, 1, _) => t147 0
  | (1, 2, _) => t159 0
  | (1, s, _) => (t171_0 (s - 3)).1 0
  | (2, 0, _) => t135 1
  | (2, 1, _) => t147 1
  | (2, 2, _) => t159 1
  | (2, s, _) => (t171_0 (s - 3)).1 1
  | (4, 0, _) => t135 2
  | (4, 1, _) => t147 2
  | (4, 2, _) => t159 2
  | (4, s, _) => (t171_0 (s - 3)).1 2
  | (3, 0, i) => t135_0 i
  | (3, 1, i) => t147_0 i
  | (3, 2, i) => t159_0 i
  | (3, s, i) => (t171_0 (s - 3)).2 i
  | (5, _, _) => t125 0
  | (6, _, 0) => t 4
  | (6, _, 1) => t 5
  | (6, _, 2) => t 6
  | (6, _, 3) => t 7
  | (6, _, _) => t125 1
  | (7, i, _) => t23_1 i
  | _ => 0, 1, fun _ j => if j = 2 then 1 else 0, zc, zk, zv)
def mu00 : ZMem := fun o k =>
  if o.1 = 0 then (if o.2.1 = 0 ∧ k = 2 then -1 else if o.2.1 = 20 ∧ k = 0 then -1 else if o.2.1 = 32 ∧ k = 12 then -1 else if o.2.1 = 33 then v00 k else 0)
  else if o.1 = 1 then (if k = 5 then 100 else if k = 6 then 50 else if k = 8 then 1 else 0)
  else if o.1 = 3 then (if k = 3 then 1 else 0)
  else if o.1 = 5 then (if k = 0 then -1 else 0) else 0
theorem INV_mu00 {y : ZLay} : INV y mu00 := by
  refine INV_start (funext fun i => rfl) (fun i h1 h2 => rfl) rfl rfl rfl rfl rfl rfl rfl rfl rfl rfl rfl rfl
theorem lawok_mu00 {y : ZLay} (h : znl y = 1) : lawok y mu00 := by
  intro s hs
  rw [h]
  show (0 : Int32).toNatClampNeg < 1
  decide
theorem fm_take {α : Type} (l : List α) : ∀ n : Nat, (List.range n).filterMap (fun i => l[i]?) = l.take n
  | 0 => by simp
  | n + 1 => by
    rw [List.range_succ, List.filterMap_append, fm_take l n, List.take_succ]
    congr 1
/-- a list put in another order, by places -/
theorem perm_idx {α : Type} {l l' : List α} (is : List Nat) (h : l' = is.filterMap (fun i => l[i]?)) (hp : is.Perm (List.range l.length)) : l'.Perm l := by
  have e : (List.range l.length).filterMap (fun i => l[i]?) = l := (fm_take l l.length).trans (List.take_length)
  rw [h]
  exact (hp.filterMap _).trans (List.Perm.of_eq e)
