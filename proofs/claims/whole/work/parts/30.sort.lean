/-! insertion sort on an array: what both sides do -/
theorem ins_len (x : Int32) : ∀ l : List Int32, (insS x l).length = l.length + 1
  | [] => rfl
  | a :: l => by
    unfold insS
    split
    · rfl
    · simp [ins_len x l]
theorem srt_go_len : ∀ (l acc : List Int32), (l.foldl (fun a x => insS x a) acc).length = acc.length + l.length
  | [], acc => rfl
  | x :: l, acc => by
    show (l.foldl (fun a x => insS x a) (insS x acc)).length = _
    rw [srt_go_len l, ins_len]
    simp
    omega
theorem srt_len (l : List Int32) : (srtS l).length = l.length := by
  unfold srtS
  rw [srt_go_len]
  simp
theorem srt_take {l : List Int32} {i : Nat} (h : i < l.length) : srtS (l.take (i + 1)) = insS (l.getD i 0) (srtS (l.take i)) := by
  unfold srtS
  rw [List.take_succ, List.foldl_append]
  simp [h]
theorem ins_get (x : Int32) : ∀ (l : List Int32) (m : Nat), m ≤ l.length → (∀ s, s < m → ¬ l.getD s 0 ≤ x) → (m < l.length → l.getD m 0 ≤ x) → ∀ s, (insS x l).getD s 0 = if s < m then l.getD s 0 else if s = m then x else l.getD (s - 1) 0
  | [], m, hm, _, _, s => by
    have : m = 0 := by simpa using hm
    subst this
    unfold insS
    cases s <;> simp
  | a :: l, m, hm, h1, h2, s => by
    unfold insS
    cases m with
    | zero =>
      have := h2 (by simp)
      rw [if_pos (by simpa using this)]
      cases s <;> simp
    | succ m =>
      have := h1 0 (by omega)
      rw [if_neg (by simpa using this)]
      have ih := ins_get x l m (by simpa using hm) (fun s hs => by simpa using h1 (s + 1) (by omega)) (fun h => by simpa using h2 (by simpa using h))
      cases s with
      | zero => simp
      | succ s =>
        have e := ih s
        simp only [List.getD_cons_succ, e]
        by_cases c1 : s < m
        · rw [if_pos c1, if_pos (show s + 1 < m + 1 by omega)]
        · rw [if_neg c1, if_neg (show ¬ s + 1 < m + 1 by omega)]
          by_cases c2 : s = m
          · rw [if_pos c2, if_pos (show s + 1 = m + 1 by omega)]
          · rw [if_neg c2, if_neg (show ¬ s + 1 = m + 1 by omega)]
            obtain ⟨s', rfl⟩ : ∃ s', s = s' + 1 := ⟨s - 1, by omega⟩
            simp
theorem ins_comm (x y : Int32) : ∀ l : List Int32, insS x (insS y l) = insS y (insS x l)
  | [] => by
    simp only [insS]
    by_cases h : x = y
    · subst h; rfl
    · by_cases h1 : x ≤ y
      · have h2 : ¬ y ≤ x := fun h2 => h (Int32.le_antisymm h1 h2)
        rw [if_neg h2, if_pos h1]
      · have h2 : y ≤ x := by rcases Int32.le_total x y with h | h; exact absurd h h1; exact h
        rw [if_pos h2, if_neg h1]
  | a :: l => by
    by_cases h : x = y
    · subst h; rfl
    · by_cases hx : a ≤ x <;> by_cases hy : a ≤ y
      · by_cases h1 : x ≤ y
        · have h2 : ¬ y ≤ x := fun h2 => h (Int32.le_antisymm h1 h2)
          simp only [insS, hx, hy, h1, h2, if_true, if_false]
        · have h2 : y ≤ x := by rcases Int32.le_total x y with h | h; exact absurd h h1; exact h
          simp only [insS, hx, hy, h1, h2, if_true, if_false]
      · have h1 : y ≤ x := by
          rcases Int32.le_total a y with h | h
          · exact absurd h hy
          · exact Int32.le_trans h hx
        have h2 : ¬ x ≤ y := fun h2 => h (Int32.le_antisymm h2 h1)
        simp only [insS, hx, hy, h1, h2, if_true, if_false]
      · have h1 : x ≤ y := by
          rcases Int32.le_total a x with h | h
          · exact absurd h hx
          · exact Int32.le_trans h hy
        have h2 : ¬ y ≤ x := fun h2 => h (Int32.le_antisymm h1 h2)
        simp only [insS, hx, hy, h1, h2, if_true, if_false]
      · simp only [insS, hx, hy, if_false, ins_comm x y l]
theorem srt_go_ins (x : Int32) : ∀ (l acc : List Int32), l.foldl (fun a x => insS x a) (insS x acc) = insS x (l.foldl (fun a x => insS x a) acc)
  | [], acc => rfl
  | y :: l, acc => by
    show l.foldl (fun a x => insS x a) (insS y (insS x acc)) = _
    rw [ins_comm, srt_go_ins x l]
    rfl
theorem srt_mid (x : Int32) (l1 l2 : List Int32) : srtS (l1 ++ x :: l2) = srtS (x :: (l1 ++ l2)) := by
  unfold srtS
  show _ = (l1 ++ l2).foldl (fun a x => insS x a) (insS x [])
  rw [srt_go_ins, List.foldl_append, List.foldl_append]
  show l2.foldl (fun a x => insS x a) (insS x _) = _
  rw [srt_go_ins]
theorem midL_mid (x : Int32) (l1 l2 : List Int32) : midL (l1 ++ x :: l2) = midL (x :: (l1 ++ l2)) := by
  have e : (l1 ++ x :: l2).length = (x :: (l1 ++ l2)).length := by simp; omega
  unfold midL
  rw [srt_mid, e]
/-- the array while x goes to its place: place j, the i sorted ones are acc backwards -/
def insI (x : Int32) (acc : List Int32) (i j : Nat) (a0 a : Vec) : Prop :=
  j ≤ i ∧ acc.length = i ∧ (∀ s, s < i - j → ¬ acc.getD s 0 ≤ x) ∧ (∀ t, t < j → a t = acc.getD (i - 1 - t) 0) ∧ (∀ t, j < t → t ≤ i → a t = acc.getD (i - t) 0) ∧ ∀ t, i < t → a t = a0 t
theorem insI_step {x : Int32} {acc : List Int32} {i j : Nat} {a0 a : Vec} (h : insI x acc i (j + 1) a0 a) (hx : ¬ a j ≤ x) : insI x acc i j a0 (vset a (j + 1) (a j)) := by
  obtain ⟨h1, h2, h3, h4, h5, h6⟩ := h
  refine ⟨by omega, h2, ?_, ?_, ?_, ?_⟩
  · intro s hs
    by_cases e : s = i - (j + 1)
    · subst e
      rw [h4 j (by omega)] at hx
      rw [show i - (j + 1) = i - 1 - j by omega]
      exact hx
    · exact h3 s (by omega)
  · intro t ht
    rw [vset_ne (by omega)]
    exact h4 t (by omega)
  · intro t h7 h8
    by_cases e : t = j + 1
    · subst e
      rw [vset_at, h4 j (by omega), show i - 1 - j = i - (j + 1) by omega]
    · rw [vset_ne e]
      exact h5 t (by omega) h8
  · intro t ht
    rw [vset_ne (by omega)]
    exact h6 t ht
theorem insI_fin {x : Int32} {acc : List Int32} {i j : Nat} {a0 a : Vec} (h : insI x acc i j a0 a) (hx : j = 0 ∨ ∃ j', j = j' + 1 ∧ a j' ≤ x) : (∀ t, t < i + 1 → vset a j x t = (insS x acc).getD (i - t) 0) ∧ ∀ t, i < t → vset a j x t = a0 t := by
  obtain ⟨h1, h2, h3, h4, h5, h6⟩ := h
  constructor
  · intro t ht
    rw [ins_get x acc (i - j) (by omega) h3 ?_ (i - t)]
    · by_cases e : t = j
      · subst e
        rw [vset_at, if_neg (by omega), if_pos rfl]
      · rw [vset_ne e]
        by_cases e2 : t < j
        · rw [if_neg (by omega), if_neg (by omega), h4 t e2, show i - t - 1 = i - 1 - t by omega]
        · rw [if_pos (by omega), h5 t (by omega) (by omega)]
    · intro hl
      rcases hx with rfl | ⟨j', rfl, hx⟩
      · omega
      · rw [h4 j' (by omega)] at hx
        rw [show i - (j' + 1) = i - 1 - j' by omega]
        exact hx
  · intro t ht
    rw [vset_ne (by omega)]
    exact h6 t ht
def srtI (l : List Int32) (i : Nat) (a : Vec) : Prop := (∀ t, t < i → a t = (srtS (l.take i)).getD (i - 1 - t) 0) ∧ ∀ t, i ≤ t → t < l.length → a t = l.getD t 0
theorem srtI_start {l : List Int32} {i : Nat} {a : Vec} (hi : i < l.length) (h : srtI l i a) : insI (l.getD i 0) (srtS (l.take i)) i i a a := by
  refine ⟨Nat.le_refl _, ?_, fun s hs => absurd hs (by omega), h.1, fun t h1 h2 => absurd h2 (by omega), fun t _ => rfl⟩
  rw [srt_len, List.length_take]
  omega
theorem srtI_next {l : List Int32} {i j : Nat} {a0 a : Vec} (hi : i < l.length) (h0 : srtI l i a0) (h : insI (l.getD i 0) (srtS (l.take i)) i j a0 a) (hx : j = 0 ∨ ∃ j', j = j' + 1 ∧ a j' ≤ l.getD i 0) : srtI l (i + 1) (vset a j (l.getD i 0)) := by
  obtain ⟨h1, h2⟩ := insI_fin h hx
  constructor
  · intro t ht
    rw [h1 t ht, srt_take hi, show i + 1 - 1 - t = i - t by omega]
  · intro t h3 h4
    rw [h2 t (by omega)]
    exact h0.2 t (by omega) h4
theorem srtI_one {l : List Int32} {a : Vec} (hl : 0 < l.length) (h : ∀ t, t < l.length → a t = l.getD t 0) : srtI l 1 a := by
  refine ⟨?_, fun t _ h2 => h t h2⟩
  intro t ht
  have : t = 0 := by omega
  subst this
  rw [h 0 hl]
  cases l with
  | nil => exact absurd hl (by simp)
  | cons x l => simp [srtS, insS]
theorem srtI_end {l : List Int32} {a : Vec} (h : srtI l l.length a) (hl : 0 < l.length) : (a (cutS l.length) + a (l.length - 1 - cutS l.length)) / 2 = midL l := by
  have hc : cutS l.length < l.length := by unfold cutS; split <;> (try split) <;> omega
  have h1 := h.1
  rw [List.take_length] at h1
  unfold midL
  rw [if_neg (by omega), h1 _ hc, h1 (l.length - 1 - cutS l.length) (by omega), show l.length - 1 - (l.length - 1 - cutS l.length) = cutS l.length by omega]
