/-! what is said of the memory: vectors, frames; the model's small programs -/
abbrev Vec : Type := Nat → Int32
def vset (v : Vec) (i : Nat) (x : Int32) : Vec := fun j => if j = i then x else v j
def mput (μ : ZMem) (o : ZId) (f : Vec) : ZMem := fun o' => if o' = o then f else μ o'
theorem mput_at {μ : ZMem} {o : ZId} {f : Vec} : mput μ o f o = f := by simp [mput]
theorem mput_ne {μ : ZMem} {o o' : ZId} {f : Vec} (h : o' ≠ o) : mput μ o f o' = μ o' := by simp [mput, h]
theorem mput_mput {μ : ZMem} {o : ZId} {f g : Vec} : mput (mput μ o f) o g = mput μ o g := by funext o'; by_cases h : o' = o <;> simp [mput, h]
theorem mput_self {μ : ZMem} {o : ZId} : mput μ o (μ o) = μ := by funext o'; by_cases h : o' = o <;> simp [mput, h]
theorem mput_comm {μ : ZMem} {o o' : ZId} {f g : Vec} (h : o' ≠ o) : mput (mput μ o f) o' g = mput (mput μ o' g) o f := by
  funext q
  by_cases h1 : q = o' <;> by_cases h2 : q = o
  · exact absurd (h1.symm.trans h2) h
  · simp [mput, h1, h]
  · subst h2; simp [mput, Ne.symm h]
  · simp [mput, h1, h2]
theorem mset_eq {μ : ZMem} {o : ZId} {k : Nat} {x : Int32} : mset μ o k x = mput μ o (vset (μ o) k x) := by
  funext o' k'
  by_cases h : o' = o
  · subst h; by_cases h2 : k' = k <;> simp [mset, mput, vset, h2]
  · simp [mset, mput, h]
theorem vset_at {v : Vec} {i : Nat} {x : Int32} : vset v i x i = x := by simp [vset]
theorem vset_ne {v : Vec} {i j : Nat} {x : Int32} (h : j ≠ i) : vset v i x j = v j := by simp [vset, h]
/-- the same but at places P; the model's own number of a node stays one, its isAlone stays a boolean -/
def frX (μ μ' : ZMem) : Prop := (μ' (0, 38, 0) 0 = μ (0, 38, 0) 0 ∨ ∃ j : Nat, j < 8 ∧ μ' (0, 38, 0) 0 = nI j) ∧ (μ' (0, 32, 0) 15 = μ (0, 32, 0) 15 ∨ zbo (μ' (0, 32, 0) 15) = true)
def fr (P : ZId → Nat → Prop) (μ μ' : ZMem) : Prop := (∀ o k, ¬ P o k → μ' o k = μ o k) ∧ frX μ μ'
theorem fr_refl {P : ZId → Nat → Prop} {μ : ZMem} : fr P μ μ := ⟨fun _ _ _ => rfl, Or.inl rfl, Or.inl rfl⟩
theorem fr_trans {P : ZId → Nat → Prop} {μ1 μ2 μ3 : ZMem} (h1 : fr P μ1 μ2) (h2 : fr P μ2 μ3) : fr P μ1 μ3 := by
  refine ⟨fun o k h => (h2.1 o k h).trans (h1.1 o k h), ?_, ?_⟩
  · rcases h2.2.1 with e | e
    · rcases h1.2.1 with e1 | ⟨j, hj, e1⟩
      · exact Or.inl (e.trans e1)
      · exact Or.inr ⟨j, hj, e.trans e1⟩
    · exact Or.inr e
  · rcases h2.2.2 with e | e
    · rcases h1.2.2 with e1 | e1
      · exact Or.inl (e.trans e1)
      · exact Or.inr (by rw [e]; exact e1)
    · exact Or.inr e
theorem fr_mono {P P' : ZId → Nat → Prop} {μ μ' : ZMem} (h : fr P μ μ') (hp : ∀ o k, P o k → P' o k) : fr P' μ μ' := ⟨fun o k hn => h.1 o k (fun q => hn (hp o k q)), h.2⟩
theorem fr_mset {P : ZId → Nat → Prop} {μ : ZMem} {o : ZId} {k : Nat} {x : Int32} (h : P o k) (hx : ¬ (o = (0, 38, 0) ∧ k = 0) ∧ ¬ (o = (0, 32, 0) ∧ k = 15) := by first | decide | (constructor <;> (rintro ⟨h, -⟩; first | exact absurd h (by decide) | simp at h))) : fr P μ (mset μ o k x) := by
  refine ⟨?_, Or.inl ?_, Or.inl ?_⟩
  · intro o' k' hn
    unfold mset
    rw [if_neg]
    rintro ⟨rfl, rfl⟩
    exact hn h
  · unfold mset
    rw [if_neg]
    rintro ⟨e1, e2⟩
    exact hx.1 ⟨e1.symm, e2.symm⟩
  · unfold mset
    rw [if_neg]
    rintro ⟨e1, e2⟩
    exact hx.2 ⟨e1.symm, e2.symm⟩
theorem fr_mput {P : ZId → Nat → Prop} {μ : ZMem} {o : ZId} {f : Vec} (h : ∀ k, P o k) (hx : ¬ o = (0, 38, 0) ∧ ¬ o = (0, 32, 0) := by first | decide | (constructor <;> (intro h; simp at h))) : fr P μ (mput μ o f) := by
  refine ⟨?_, Or.inl ?_, Or.inl ?_⟩
  · intro o' k' hn
    rw [mput_ne]
    rintro rfl
    exact hn (h k')
  · rw [mput_ne (Ne.symm hx.1)]
  · rw [mput_ne (Ne.symm hx.2)]
theorem fr_at {P : ZId → Nat → Prop} {μ μ' : ZMem} (h : fr P μ μ') {o : ZId} (ho : ∀ k, ¬ P o k) : μ' o = μ o := funext fun k => h.1 o k (ho k)
/-- the model's vector and its object -/
abbrev MV0 : ZId := (0, 33, 0)
abbrev MO0 : ZId := (0, 32, 0)
def nd (v : Vec) (k w : Nat) : Int32 := v (9 + 11 * k + w)
def ns (v : Vec) (k w : Nat) (x : Int32) : Vec := vset v (9 + 11 * k + w) x
theorem nd_ns {v : Vec} {k w k' w' : Nat} {x : Int32} (hw : w < 11) (hw' : w' < 11) : nd (ns v k w x) k' w' = if k' = k ∧ w' = w then x else nd v k' w' := by
  unfold nd ns vset
  by_cases h : k' = k ∧ w' = w
  · obtain ⟨rfl, rfl⟩ := h; simp
  · rw [if_neg (by omega), if_neg h]
theorem ns_low {v : Vec} {k w i : Nat} {x : Int32} (h : i < 9) : ns v k w x i = v i := vset_ne (by omega)
theorem ns_high {v : Vec} {k w i : Nat} {x : Int32} (hk : k < 8) (hw : w < 11) (h : 97 ≤ i) : ns v k w x i = v i := vset_ne (by omega)
theorem ix_eq {k w : Nat} {W : Int32} (hW : W = nI w) : (9 + 11 * nI k) + W = nI (9 + 11 * k + w) := by
  subst hW
  rw [show (9 : Int32) = nI 9 from rfl, show (11 : Int32) = nI 11 from rfl, show nI 11 * nI k = nI (11 * k) from (Int32.ofNat_mul 11 k).symm, nI_add, nI_add]
theorem of_gen {μ : ZMem} {k w : Nat} {W : Int32} (hW : W = nI w) (hk : k < 8) (hw : w < 11) : f_X12_of (nI k) W μ = some (nd (μ MV0) k w) := by
  unfold f_X12_of
  rw [ix_eq hW, gd_eq (zin_nI (by omega) (by omega)), nI_clamp (by omega)]
  rfl
theorem lays_gen {μ : ZMem} {k w : Nat} {W x : Int32} (hW : W = nI w) (hk : k < 8) (hw : w < 11) : f_X12_lays (nI k) W x μ = some (mput μ MV0 (ns (μ MV0) k w x)) := by
  unfold f_X12_lays
  rw [ix_eq hW, gd_eq (zin_nI (by omega) (by omega)), nI_clamp (by omega), zlt_eq, mset_eq]
  rfl
theorem of0 {μ : ZMem} {k : Nat} (hk : k < 8) : f_X12_of (nI k) 0 μ = some (nd (μ MV0) k 0) := of_gen (w := 0) rfl hk (by omega)
theorem lays0 {μ : ZMem} {k : Nat} {x : Int32} (hk : k < 8) : f_X12_lays (nI k) 0 x μ = some (mput μ MV0 (ns (μ MV0) k 0 x)) := lays_gen (w := 0) rfl hk (by omega)
theorem of1 {μ : ZMem} {k : Nat} (hk : k < 8) : f_X12_of (nI k) 1 μ = some (nd (μ MV0) k 1) := of_gen (w := 1) rfl hk (by omega)
theorem lays1 {μ : ZMem} {k : Nat} {x : Int32} (hk : k < 8) : f_X12_lays (nI k) 1 x μ = some (mput μ MV0 (ns (μ MV0) k 1 x)) := lays_gen (w := 1) rfl hk (by omega)
theorem of2 {μ : ZMem} {k : Nat} (hk : k < 8) : f_X12_of (nI k) 2 μ = some (nd (μ MV0) k 2) := of_gen (w := 2) rfl hk (by omega)
theorem lays2 {μ : ZMem} {k : Nat} {x : Int32} (hk : k < 8) : f_X12_lays (nI k) 2 x μ = some (mput μ MV0 (ns (μ MV0) k 2 x)) := lays_gen (w := 2) rfl hk (by omega)
theorem of3 {μ : ZMem} {k : Nat} (hk : k < 8) : f_X12_of (nI k) 3 μ = some (nd (μ MV0) k 3) := of_gen (w := 3) rfl hk (by omega)
theorem lays3 {μ : ZMem} {k : Nat} {x : Int32} (hk : k < 8) : f_X12_lays (nI k) 3 x μ = some (mput μ MV0 (ns (μ MV0) k 3 x)) := lays_gen (w := 3) rfl hk (by omega)
theorem of4 {μ : ZMem} {k : Nat} (hk : k < 8) : f_X12_of (nI k) 4 μ = some (nd (μ MV0) k 4) := of_gen (w := 4) rfl hk (by omega)
theorem lays4 {μ : ZMem} {k : Nat} {x : Int32} (hk : k < 8) : f_X12_lays (nI k) 4 x μ = some (mput μ MV0 (ns (μ MV0) k 4 x)) := lays_gen (w := 4) rfl hk (by omega)
theorem of5 {μ : ZMem} {k : Nat} (hk : k < 8) : f_X12_of (nI k) 5 μ = some (nd (μ MV0) k 5) := of_gen (w := 5) rfl hk (by omega)
theorem lays5 {μ : ZMem} {k : Nat} {x : Int32} (hk : k < 8) : f_X12_lays (nI k) 5 x μ = some (mput μ MV0 (ns (μ MV0) k 5 x)) := lays_gen (w := 5) rfl hk (by omega)
theorem of6 {μ : ZMem} {k : Nat} (hk : k < 8) : f_X12_of (nI k) 6 μ = some (nd (μ MV0) k 6) := of_gen (w := 6) rfl hk (by omega)
theorem lays6 {μ : ZMem} {k : Nat} {x : Int32} (hk : k < 8) : f_X12_lays (nI k) 6 x μ = some (mput μ MV0 (ns (μ MV0) k 6 x)) := lays_gen (w := 6) rfl hk (by omega)
theorem of7 {μ : ZMem} {k : Nat} (hk : k < 8) : f_X12_of (nI k) 7 μ = some (nd (μ MV0) k 7) := of_gen (w := 7) rfl hk (by omega)
theorem lays7 {μ : ZMem} {k : Nat} {x : Int32} (hk : k < 8) : f_X12_lays (nI k) 7 x μ = some (mput μ MV0 (ns (μ MV0) k 7 x)) := lays_gen (w := 7) rfl hk (by omega)
theorem of8 {μ : ZMem} {k : Nat} (hk : k < 8) : f_X12_of (nI k) 8 μ = some (nd (μ MV0) k 8) := of_gen (w := 8) rfl hk (by omega)
theorem lays8 {μ : ZMem} {k : Nat} {x : Int32} (hk : k < 8) : f_X12_lays (nI k) 8 x μ = some (mput μ MV0 (ns (μ MV0) k 8 x)) := lays_gen (w := 8) rfl hk (by omega)
theorem of9 {μ : ZMem} {k : Nat} (hk : k < 8) : f_X12_of (nI k) 9 μ = some (nd (μ MV0) k 9) := of_gen (w := 9) rfl hk (by omega)
theorem lays9 {μ : ZMem} {k : Nat} {x : Int32} (hk : k < 8) : f_X12_lays (nI k) 9 x μ = some (mput μ MV0 (ns (μ MV0) k 9 x)) := lays_gen (w := 9) rfl hk (by omega)
theorem of10 {μ : ZMem} {k : Nat} (hk : k < 8) : f_X12_of (nI k) 10 μ = some (nd (μ MV0) k 10) := of_gen (w := 10) rfl hk (by omega)
theorem lays10 {μ : ZMem} {k : Nat} {x : Int32} (hk : k < 8) : f_X12_lays (nI k) 10 x μ = some (mput μ MV0 (ns (μ MV0) k 10 x)) := lays_gen (w := 10) rfl hk (by omega)
theorem isActive_eq {μ : ZMem} {k : Nat} (hk : k < 8) : f_X12_isActive (nI k) μ = some (b2i (decide (nd (μ MV0) k 3 = 2))) := by
  unfold f_X12_isActive
  rw [bd_eq (of3 hk), zlt_eq]
  by_cases h : nd (μ MV0) k 3 = 2
  · simp [h, b2i, gd, zbo]
  · simp [h, b2i, gd, zbo]
theorem m_inState_eq {μ : ZMem} {c : Nat} {t : Int32} (hc : μ MV0 3 = nI c) (h8 : c ≤ 8) : f_X12_inState t μ = some (bset (fun k => decide (nd (μ MV0) k 3 = t)) c) := by
  unfold f_X12_inState
  refine (bd_eq (lp_seq c (fun k => (bset (fun k => decide (nd (μ MV0) k 3 = t)) k, nI k)) ?_ ?_ (FU_lt (by omega)) rfl)).trans rfl
  · intro k hk
    simp only [un2, hc]
    rw [if_neg (nI_ge (by omega) (by omega)), bd_eq (of3 (by omega))]
    simp only [zlt, bset, decide_eq_true_eq, nI_1]
  · simp only [un2, hc]
    rw [if_pos (nI_le (by omega) (by omega))]
theorem lesser_eq {a b : Int32} : f_X12_lesser a b = if a < b then a else b := by
  unfold f_X12_lesser
  by_cases h : a < b
  · rw [if_pos h]; split <;> rename_i h2 <;> first | rfl | exact absurd h (Int32.not_lt.mpr h2)
  · rw [if_neg h]; split <;> rename_i h2 <;> first | rfl | exact absurd (Int32.not_lt.mp h) h2
theorem greater_eq {a b : Int32} : f_X12_greater a b = if b < a then a else b := by
  unfold f_X12_greater
  by_cases h : b < a
  · rw [if_pos h]; split <;> rename_i h2 <;> first | rfl | exact absurd h (Int32.not_lt.mpr h2)
  · rw [if_neg h]; split <;> rename_i h2 <;> first | rfl | exact absurd (Int32.not_lt.mp h) h2

