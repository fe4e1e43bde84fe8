/-! rows of rows -/
def WMul (zc : Nat → ClassId) (q : Nat) (f : Nat → Nat) : va_W := (q, .inl (zc 4, 8, .inr (.inr (.inr (.inr (fun j => if j < 8 then some (f j) else none)))))) :: (List.range 8).map (fun j => (f j, .inl (zc 0, 8, .inl (fun _ => 0))))
section UM
variable {p : Program} {l : Launch} {e : Env} {R : Room} {s : State} {m : MethodId} {args : Array Value} {below : List Frame} {meth : Method} {c : Code} {Q : State → Prop}
variable {own : String} {cc : ByteArray} {nL : Nat} {ret : Option FieldType} {Ts : List Cond} {D : va_G} {A : Nat → Prop} {zc : Nat → ClassId}
theorem U_multi (X : CU p R s m args meth c own cc nL ret Ts D A zc) {kc ks : Nat} {ws : va_W} {pc ix : Nat} {lv : List (Nat × Value)} {st : List Value} (hcl : Cond.classLink own ix ("[" ++ (FieldType.array .int).toString) ∈ Ts) (hcells : kc + 9 ≤ R.cells) (hslots : ks + 72 ≤ R.slots) (d : decode cc pc = .ok (.multianewarray ix 2, 4)) (kk : ∀ (q : Nat) (f : Nat → Nat), UW l e below Q X (kc + 9) (ks + 72) (ws ++ WMul zc q f) (pc + 4) lv (.ref q :: st)) : UW l e below Q X kc ks ws pc lv (.int 8 :: .int 8 :: st) := by
  sorry
end UM
