/-! a new array of longs; words of the law's start -/
section UNL
variable {p : Program} {l : Launch} {e : Env} {R : Room} {s : State} {m : MethodId} {args : Array Value} {below : List Frame} {meth : Method} {c : Code} {Q : State → Prop}
variable {own : String} {cc : ByteArray} {nL : Nat} {ret : Option FieldType} {Ts : List Cond} {D : va_G} {A : Nat → Prop} {zc : Nat → ClassId}
variable (X : CU p R s m args meth c own cc nL ret Ts D A zc)
variable {kc ks : Nat} {ws : va_W} {pc : Nat} {lv : List (Nat × Value)} {st : List Value}
theorem U_newl {n : Int32} (N' : Nat) (harr : Cond.arrayClass .long ∈ Ts) (hn : ¬ n < 0) (hN : n.toNatClampNeg = N') (hb : N' * 8 ≤ 536870912) (hcells : kc + 1 ≤ R.cells) (hslots : ks + N' ≤ R.slots) (d : decode cc pc = .ok (.newarray .long, 2)) (kk : ∀ q : Nat, UW l e below Q X (kc + 1) (ks + N') (ws ++ [(q, .inl (zc 1, N', .inr (.inl (fun _ => 0))))]) (pc + 2) lv (.ref q :: st)) : UW l e below Q X kc ks ws pc lv (.int n :: st) := fun H locs ls hP hD hS hl =>
  va_newa (atype := .long) (ty := .long) (a0 := (N', .inr (.inl (fun _ => 0)))) X.1 X.2.1 (X.2.2.2.2.2.2.1 _ harr) rfl X.2.2.2.2.2.2.2.1 hP hD hS X.2.2.2.2.2.2.2.2.2.2 (fun cA => by rw [vp_cell_l]; rfl) hn hN hb hcells hslots d (fun q cA H1 hK1 hP1 hD1 hS1 => by
    have e1 : s.vm.findClass ("[" ++ FieldType.long.toString) = some cA := (hK1.2 5 (cA, .long) rfl).2
    have e2 : s.vm.findClass ("[" ++ FieldType.long.toString) = some (zc 1) := (hK1.2 1 (zc 1, .long) rfl).2
    have e3 : cA = zc 1 := Option.some.inj (e1.symm.trans e2)
    subst e3
    exact kk q H1 locs ls hP1 hD1 hS1 hl)
end UNL
