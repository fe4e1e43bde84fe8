/-! the law from the head of its loop to its end -/
section LAll
variable {p : Program} {l : Launch} {e : Env} {s : State} {m : MethodId} {b : Nat} {below : List Frame} {meth : Method} {c : Code} {Q : State → Prop}
variable {D : va_G} {A : Nat → Prop} {L : Nat} {xs : Nat → Int32} {y : ZLay} {kc ks : Nat} {μ : ZMem}
theorem law_exit {i : Int32} (X : LX p l e s m b below meth c Q D A y kc ks) (hA : ∀ q, A q → s.heap.size ≤ q) (hend : ∀ (H : Heap) (ls : Array Slot), W p l e room_1 s m #[Value.ref b] below meth c H [] room_1.cells room_1.slots Q (F0 m 2525 ls [.int 1])) : V X μ 2524 (lv5 y b i) [] := by
  refine V_iconst X 1 dL_law__2524 (by decide) ?_
  intro H locs ls hP hw hS hl
  exact va_forget (fun q hq => hA _ (hS.2.2 q hq)) (W.widen X.2.2.2.2.2.2.2.2.2.2.2.1 X.2.2.2.2.2.2.2.2.2.2.2.2.1 (hend H ls))
theorem law_all (X : LX p l e s m b below meth c Q D A y kc ks) (hlf : l.stackTraces = false) (hO : AOs s) (hX : va_X b L xs s s.heap) (hbl : b < s.heap.size) (hL : L ≤ 3072) (hA : ∀ q, A q → s.heap.size ≤ q) (hend : ∀ (H : Heap) (ls : Array Slot), W p l e room_1 s m #[Value.ref b] below meth c H [] room_1.cells room_1.slots Q (F0 m 2525 ls [.int 1]))
    (hk : kc + 6 * 513 ≤ room_1.cells) (hk2 : ks + 1638 * 513 ≤ room_1.slots) (hz : znl y + 513 ≤ 1000000) (hI : INV y μ) : V X μ 23 (lv5 y b (nI 0)) [] :=
  law_loop hlf hX hbl (fun h => Nat.lt_irrefl _ (Nat.lt_of_lt_of_le hbl (hA b h))) hL (fun _ _ _ X _ _ => law_exit X hA hend) (fun _ _ _ X _ _ h1 h2 h3 h4 K => LC_law X ⟨h1, h2⟩ hlf hO h3 (OPL_of h3) h4 K) 513 0 y kc ks X μ (Nat.lt_of_le_of_lt hL (by decide)) (Nat.zero_le _) hk hk2 hz hI
end LAll
