/-! the class reads a cluster -/
def crP (o : ZId) (i : Nat) : Prop := rdP o i ∨ (∃ k, o = (3, 1, k)) ∨ (o = (1, 1, 0) ∧ (i = 4 ∨ i = 5 ∨ i = 6 ∨ i = 7))
theorem rd_cr {o : ZId} {i : Nat} (h : rdP o i) : crP o i := Or.inl h
theorem cr3 {k i : Nat} : crP (3, 1, k) i := Or.inr (Or.inl ⟨k, rfl⟩)
theorem ok_st {α β γ : Type} {x : Option (α × β)} {f : α → β → Option γ} {ρ : Type} {g : γ → Option ρ} {P : γ → Prop} {Q : ρ → Prop} (h : ok (bd2 x f) P) (k : ∀ a, P a → ok (g a) Q) : ok (bd2 x (fun a b => bd (f a b) g)) Q := by
  obtain ⟨a, e, h⟩ := h
  cases x with
  | none => cases e
  | some q =>
    change f q.1 q.2 = some a at e
    show ok (bd (f q.1 q.2) g) Q
    rw [e]
    exact k a h
section CC
variable {T : Vec} {e N : Nat}
theorem CS_rdf {μ μ' : ZMem} {s c : Nat} {v : Vec} (h : CS μ s c v) (f : fr rdP μ μ') : CS μ' s c v := CS_fr h f (fun i => ⟨fun h => zne (by decide) h.1, fun h => zne (by decide) h.1, fun k h => zne (by decide) h.1⟩)
theorem CP_3 {μ : ZMem} {q k w : Nat} {x : Int32} (h : CP μ T e N q) : CP (mset μ (3, 1, k) w x) T e N q :=
  CP_fr (P := fun o _ => o = (3, 1, k)) h (fr_mset rfl) ⟨⟨zne (by decide), zne (by decide), zne (by decide)⟩, fun i => ⟨zne (by decide), zne (by decide)⟩⟩
theorem FP_3 {μ : ZMem} {f k w : Nat} {x : Int32} (h : FP μ T e N f) : FP (mset μ (3, 1, k) w x) T e N f :=
  FP_fr (P := fun o _ => o = (3, 1, k)) h (fr_mset rfl) ⟨⟨zne (by decide), zne (by decide), zne (by decide)⟩, fun i => ⟨zne (by decide), zne (by decide)⟩⟩
theorem CP_11 {μ : ZMem} {q w : Nat} {x : Int32} (h : CP μ T e N q) : CP (mset μ (1, 1, 0) w x) T e N q :=
  CP_fr (P := fun o _ => o = (1, 1, 0)) h (fr_mset rfl) ⟨⟨zne (by decide), zne (by decide), zne (by decide)⟩, fun i => ⟨zne (by decide), zne (by decide)⟩⟩
theorem FP_11 {μ : ZMem} {f w : Nat} {x : Int32} (h : FP μ T e N f) : FP (mset μ (1, 1, 0) w x) T e N f :=
  FP_fr (P := fun o _ => o = (1, 1, 0)) h (fr_mset rfl) ⟨⟨zne (by decide), zne (by decide), zne (by decide)⟩, fun i => ⟨zne (by decide), zne (by decide)⟩⟩
/-- a stage of a node: fields F of what was read -/
def nOut (T : Vec) (e N c : Nat) (v : Vec) (μ : ZMem) (R : Nat ⊕ (Nat × Int32)) (F : Int32 → Vec) (μ' : ZMem) : Prop := fr crP μ μ' ∧ (∀ f, R = .inl f → FP μ' T e N f) ∧ ∀ q' x, R = .inr (q', x) → CP μ' T e N q' ∧ CS μ' 1 (c + 1) (nodeV v c (F x))
theorem nOut_rd {c : Nat} {v : Vec} {μ μ1 μ' : ZMem} {R : Nat ⊕ (Nat × Int32)} {F : Int32 → Vec} (f : fr rdP μ μ1) (h : nOut T e N c v μ1 R F μ') : nOut T e N c v μ R F μ' := ⟨fr_trans (fr_mono f (fun o i h => rd_cr h)) h.1, h.2⟩
/-- a number into a field -/
theorem c_num {c w q : Nat} {v g : Vec} {lo hi : Int32} {neg : Bool} {μ : ZMem} (hw : w < 11) (hhi : hi < 3001) (hq4 : q ≤ 400) (hC : CP μ T e N q) (hS : CS μ 1 (c + 1) (nodeV v c g)) :
    ok (bd2 (f_X8_takeNumber lo hi μ) (fun (x15 : Int32) (μ16 : ZMem) => zlt (mset μ16 (3, 1, c) w (if neg = true then -x15 else x15)) (fun (μ17 : ZMem) => some μ17))) (nOut T e N c v μ (if neg = true then negV (nV T e lo hi q) else nV T e lo hi q) (fun x => vset g w x)) := by
  refine ok_b2 (c_takeNumber hq4 hC hhi) ?_
  rintro x μ1 ⟨t1, t2, t3⟩
  dsimp only at t1 t2 t3
  rw [zlt_s]
  have f1 : fr crP μ (mset μ1 (3, 1, c) w (if neg = true then -x else x)) := fr_trans (fr_mono t1 (fun o i h => rd_cr h)) (fr_mset cr3)
  unfold nV
  by_cases hp : lo ≤ cd T e q ∧ cd T e q ≤ hi
  · obtain ⟨a, b⟩ := t2 hp
    subst a
    rw [if_pos hp]
    have S1 := CS_ns (x := w) (a := if neg = true then -cd T e q else cd T e q) (CS_rdf hS t1) (show c < c + 1 by omega) hw
    rw [ns_nodeV hw] at S1
    refine ok_some ⟨f1, fun f hf => ?_, fun q' x hx => ?_⟩
    · cases neg <;> cases hf
    · cases neg
      · cases hx; exact ⟨CP_3 b, S1⟩
      · cases hx; exact ⟨CP_3 b, S1⟩
  · obtain ⟨a, b⟩ := t3 hp
    rw [if_neg hp]
    refine ok_some ⟨f1, fun f hf => ?_, fun q' x hx => ?_⟩
    · cases neg
      · cases hf; exact FP_3 b
      · cases hf; exact FP_3 b
    · cases neg <;> cases hx
theorem num_pos {c w q : Nat} {v g : Vec} {lo hi : Int32} {μ : ZMem} (hw : w < 11) (hhi : hi < 3001) (hq4 : q ≤ 400) (hC : CP μ T e N q) (hS : CS μ 1 (c + 1) (nodeV v c g)) : ok (bd2 (f_X8_takeNumber lo hi μ) (fun (x15 : Int32) (μ16 : ZMem) => zlt (mset μ16 (3, 1, c) w x15) (fun (μ17 : ZMem) => some μ17))) (nOut T e N c v μ (nV T e lo hi q) (fun x => vset g w x)) := c_num (neg := false) hw hhi hq4 hC hS
theorem num_neg {c w q : Nat} {v g : Vec} {lo hi : Int32} {μ : ZMem} (hw : w < 11) (hhi : hi < 3001) (hq4 : q ≤ 400) (hC : CP μ T e N q) (hS : CS μ 1 (c + 1) (nodeV v c g)) : ok (bd2 (f_X8_takeNumber lo hi μ) (fun (x15 : Int32) (μ16 : ZMem) => zlt (mset μ16 (3, 1, c) w (-x15)) (fun (μ17 : ZMem) => some μ17))) (nOut T e N c v μ (negV (nV T e lo hi q)) (fun x => vset g w x)) := c_num (neg := true) hw hhi hq4 hC hS
theorem opt_none {c w : Nat} {v g : Vec} {μ : ZMem} {q : Nat} (h0 : vset g w 0 = g) (hC : CP μ T e N q) (hS : CS μ 1 (c + 1) (nodeV v c g)) : nOut T e N c v μ (.inr (q, 0)) (fun x => vset g w x) μ :=
  ⟨fr_refl, fun f hf => (by cases hf), fun q' x hx => by cases hx; exact ⟨hC, by dsimp only; rw [h0]; exact hS⟩⟩
/-- one of two words, then a number -/
theorem c_opt {c w a b q : Nat} {A B : Int32} {v g : Vec} {hi : Int32} {μ : ZMem} (he : e ≤ 400) (hA : A = nI (1000 + a)) (hB : B = nI (1000 + b)) (ha : a < 26) (hb : b < 26) (hw : w < 11) (hhi : hi < 3001) (hg : gq T e q) (h0 : vset g w 0 = g) (hC : CP μ T e N q) (hS : CS μ 1 (c + 1) (nodeV v c g)) :
    ok (bd2 (f_X8_takes A μ) (fun (x6 : Int32) (μ7 : ZMem) => if x6 = 0 then bd2 (f_X8_takes B μ7) (fun (x11 : Int32) (μ12 : ZMem) => if x11 = 0 then some μ12 else bd2 (f_X8_takeNumber 0 hi μ12) (fun (x15 : Int32) (μ16 : ZMem) => zlt (mset μ16 (3, 1, c) w (-x15)) (fun (μ17 : ZMem) => some μ17))) else bd2 (f_X8_takeNumber 0 hi μ7) (fun (x19 : Int32) (μ20 : ZMem) => zlt (mset μ20 (3, 1, c) w x19) (fun (μ21 : ZMem) => some μ21)))) (nOut T e N c v μ (oV T e a b hi q) (fun x => vset g w x)) := by
  subst hA hB
  have hqe := hg.1
  have ne1 : ∀ j, j < 26 → ¬ nI (1000 + j) = 3001 := fun j hj => ne_code (a := 1000 + j) (b := 3001) rfl (by omega) (by omega) (by omega)
  refine ok_b2 (c_takes hC (ne1 a ha)) ?_
  rintro x μ1 ⟨t1, t2, t3⟩
  dsimp only at t1 t2 t3
  unfold oV
  by_cases h1 : cd T e q = nI (1000 + a)
  · have hq := code_lt h1 ha
    have hn := nx_lt (T := T) he hq
    rw [if_pos h1] at t3
    rw [t1, decide_eq_true h1, if_neg (show ¬ b2i true = 0 by decide), if_pos h1]
    exact ok_mono (num_pos hw hhi (by omega) t3 (CS_rdf hS t2)) (fun μ2 h => nOut_rd t2 h)
  · rw [if_neg h1] at t3
    rw [t1, decide_eq_false h1, if_pos (show b2i false = 0 by decide), if_neg h1]
    refine ok_b2 (c_takes t3 (ne1 b hb)) ?_
    rintro x2 μ2 ⟨u1, u2, u3⟩
    dsimp only at u1 u2 u3
    have f2 := fr_trans t2 u2
    by_cases h2 : cd T e q = nI (1000 + b)
    · have hq := code_lt h2 hb
      have hn := nx_lt (T := T) he hq
      rw [if_pos h2] at u3
      rw [u1, decide_eq_true h2, if_neg (show ¬ b2i true = 0 by decide), if_pos h2]
      exact ok_mono (num_neg hw hhi (by omega) u3 (CS_rdf hS f2)) (fun μ2 h => nOut_rd f2 h)
    · rw [if_neg h2] at u3
      rw [u1, decide_eq_false h2, if_pos (show b2i false = 0 by decide), if_neg h2]
      exact ok_some (nOut_rd f2 (opt_none h0 u3 (CS_rdf hS f2)))
/-- nothing more happens behind a fault -/
def fKeep (T : Vec) (e N f : Nat) (μ μ' : ZMem) : Prop := fr crP μ μ' ∧ FP μ' T e N f
theorem f_opt {c w : Nat} {A B : Int32} {hi : Int32} {μ : ZMem} {f : Nat} (hF : FP μ T e N f) : ok (bd2 (f_X8_takes A μ) (fun (x6 : Int32) (μ7 : ZMem) => if x6 = 0 then bd2 (f_X8_takes B μ7) (fun (x11 : Int32) (μ12 : ZMem) => if x11 = 0 then some μ12 else bd2 (f_X8_takeNumber 0 hi μ12) (fun (x15 : Int32) (μ16 : ZMem) => zlt (mset μ16 (3, 1, c) w (-x15)) (fun (μ17 : ZMem) => some μ17))) else bd2 (f_X8_takeNumber 0 hi μ7) (fun (x19 : Int32) (μ20 : ZMem) => zlt (mset μ20 (3, 1, c) w x19) (fun (μ21 : ZMem) => some μ21)))) (fKeep T e N f μ) := by
  refine ok_b2 (f_takes (c := A) hF) ?_
  rintro x μ1 ⟨t1, t2, t3⟩
  dsimp only at t1 t2 t3
  rw [if_pos t1]
  refine ok_b2 (f_takes (c := B) t3) ?_
  rintro x2 μ2 ⟨u1, u2, u3⟩
  dsimp only at u1 u2 u3
  rw [if_pos u1]
  exact ok_some ⟨fr_mono (fr_trans t2 u2) (fun o i h => rd_cr h), u3⟩
theorem f_one {A : Int32} {μ : ZMem} {f : Nat} {G : ZMem → Option ZMem} (hF : FP μ T e N f) : ok (bd2 (f_X8_takes A μ) (fun (x6 : Int32) (μ7 : ZMem) => if x6 = 0 then some μ7 else G μ7)) (fKeep T e N f μ) := by
  refine ok_b2 (f_takes (c := A) hF) ?_
  rintro x μ1 ⟨t1, t2, t3⟩
  dsimp only at t1 t2 t3
  rw [if_pos t1]
  exact ok_some ⟨fr_mono t2 (fun o i h => rd_cr h), t3⟩
theorem f_two {A B : Int32} {μ : ZMem} {f : Nat} {G H : ZMem → Option ZMem} (hF : FP μ T e N f) : ok (bd2 (f_X8_takes A μ) (fun (x6 : Int32) (μ7 : ZMem) => if x6 = 0 then bd2 (f_X8_takes B μ7) (fun (x11 : Int32) (μ12 : ZMem) => if x11 = 0 then some μ12 else G μ12) else H μ7)) (fKeep T e N f μ) := by
  refine ok_b2 (f_takes (c := A) hF) ?_
  rintro x μ1 ⟨t1, t2, t3⟩
  dsimp only at t1 t2 t3
  rw [if_pos t1]
  exact ok_mono (f_one t3) (fun μ2 h => ⟨fr_trans (fr_mono t2 (fun o i h => rd_cr h)) h.1, h.2⟩)
theorem f_three {A B D : Int32} {μ : ZMem} {f : Nat} {G H I : ZMem → Option ZMem} (hF : FP μ T e N f) : ok (bd2 (f_X8_takes A μ) (fun (x6 : Int32) (μ7 : ZMem) => if x6 = 0 then bd2 (f_X8_takes B μ7) (fun (x11 : Int32) (μ12 : ZMem) => if x11 = 0 then bd2 (f_X8_takes D μ12) (fun (x13 : Int32) (μ13 : ZMem) => if x13 = 0 then some μ13 else I μ13) else G μ12) else H μ7)) (fKeep T e N f μ) := by
  refine ok_b2 (f_takes (c := A) hF) ?_
  rintro x μ1 ⟨t1, t2, t3⟩
  dsimp only at t1 t2 t3
  rw [if_pos t1]
  exact ok_mono (f_two t3) (fun μ2 h => ⟨fr_trans (fr_mono t2 (fun o i h => rd_cr h)) h.1, h.2⟩)
end CC
