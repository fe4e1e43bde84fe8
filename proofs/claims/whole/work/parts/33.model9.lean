/-! the model's round, whole -/
/-- what every step of a round keeps -/
def okV (c : Nat) (v0 v : Vec) : Prop := WFv c v ∧ sameT v v0
theorem okV_ns {c k x : Nat} {v0 v : Vec} {a : Int32} (h : okV c v0 v) (hk : k < 8) (hx : x < 11) (h5 : x = 5 → isS a) : okV c v0 (ns v k x a) := by
  obtain ⟨⟨h1, h2, h3⟩, h4⟩ := h
  refine ⟨⟨h1, by rw [ns3, h2], ?_⟩, ?_⟩
  · intro j hj
    rw [nd_ns hx (by omega)]
    split
    · rename_i e
      exact h5 e.2.symm
    · exact h3 j hj
  · intro i hi
    rcases hi with rfl | rfl | hi
    · rw [ns_low (by omega)]; exact h4 1 (Or.inl rfl)
    · rw [ns_low (by omega)]; exact h4 2 (Or.inr (Or.inl rfl))
    · rw [ns_high hk hx (by omega)]; exact h4 i (Or.inr (Or.inr hi))
theorem okV_note {c : Nat} {v0 v : Vec} {a b d : Int32} (h : okV c v0 v) : okV c v0 (noteS v a b d) := by
  obtain ⟨⟨h1, h2, h3⟩, h4⟩ := h
  refine ⟨⟨h1, by rw [note3, h2], ?_⟩, ?_⟩
  · intro j hj
    rw [note_nd hj (by omega)]
    exact h3 j hj
  · intro i hi
    rw [← h4 i hi]
    unfold noteS
    rw [if_neg (by omega), if_neg (by omega), if_neg (by omega), if_neg (by omega), if_neg (by omega), if_neg (by omega)]
theorem okV_set {c i : Nat} {v0 v : Vec} {a : Int32} (h : okV c v0 v) (hi : i = 6 ∨ i = 8) : okV c v0 (vset v i a) := by
  obtain ⟨⟨h1, h2, h3⟩, h4⟩ := h
  refine ⟨⟨h1, by rw [vset_ne (by omega), h2], ?_⟩, ?_⟩
  · intro j hj
    unfold nd
    rw [vset_ne (by omega)]
    exact h3 j hj
  · intro j hj
    rw [vset_ne (by omega)]
    exact h4 j hj
theorem okV_frz {c k : Nat} {v0 v : Vec} {a : Int32} (h : okV c v0 v) (hk : k < 8) : okV c v0 (frzS v k a) := okV_note (okV_ns h hk (by omega) (by omega))
theorem okV_snd {c k : Nat} {v0 : Vec} {q : Vec × Int32} {d old pas : Int32} {om : Nat → Int32} (h : okV c v0 q.1) : okV c v0 (sndStep d om old pas k q).1 := by
  unfold sndStep
  split
  · dsimp only
    split
    · exact h
    · exact okV_set h (Or.inr rfl)
  · exact h
theorem okV_wait {c k : Nat} {v0 v : Vec} (h : okV c v0 v) (hk : k < 8) : okV c v0 (waitStep k v) := by
  unfold waitStep
  split
  · exact okV_ns h hk (by omega) (by omega)
  · exact h
theorem okV_start {c : Nat} {x : Int32} {v0 v : Vec} (h : okV c v0 v) (hx : isS x) : okV c v0 (startS v x) :=
  okV_note (okV_ns (okV_ns (okV_ns h (low_lt x) (by omega) (by omega)) (low_lt x) (by omega) (fun _ => hx)) (low_lt x) (by omega) (by omega))
theorem okV_coll {c k : Nat} {x : Int32} {w : Nat → Int32} {v0 v : Vec} (h : okV c v0 v) (hk : k < 8) : okV c v0 (collStep w x k v) := by
  unfold collStep
  split
  · exact okV_note (okV_ns h hk (by omega) (by omega))
  · exact h
theorem okV_it {α : Type} {c n : Nat} {v0 : Vec} {f : Nat → α → α} {g : α → Vec} (hf : ∀ k q, k < n → okV c v0 (g q) → okV c v0 (g (f k q))) {q : α} (h : okV c v0 (g q)) : okV c v0 (g (itS f n q)) := itS_inv (p := fun q => okV c v0 (g q)) n hf q h
theorem okV_calls {c : Nat} {L : LawS} {v0 v : Vec} (h : okV c v0 v) : okV c v0 (callsS L c v) := by
  have h8 : c ≤ 8 := h.1.1
  have hw : okV c v0 (itS waitStep c v) := okV_it (g := fun v => v) (fun k q hk hq => okV_wait hq (by omega)) h
  unfold callsS
  split
  · exact okV_start hw (callX_S h8)
  · exact okV_it (g := fun v => v) (fun k q hk hq => okV_coll hq (by omega)) hw
theorem okV_join {c k to : Nat} {off : Nat → Nat → Int32} {v0 v : Vec} (h : okV c v0 v) (hk : k < 8) (ht : to < 8) : okV c v0 (joinStep off to k v) := by
  unfold joinStep
  split
  · have h1 := okV_ns (x := 0) (a := f_X12_held (off to k + nd v k 0) 999) h hk (by omega) (by omega)
    exact okV_note (okV_ns (okV_ns h1 hk (by omega) (fun _ => isS_or (h1.1.2.2 to ht) (isS_one hk))) hk (by omega) (by omega))
  · exact h
theorem okV_cnt {c k : Nat} {old snd : Int32} {heard : Nat → Int32} {v0 v : Vec} (h : okV c v0 v) (hk : k < 8) (hs : isS snd) : okV c v0 (cntStep old snd heard k v) := by
  unfold cntStep
  split
  · exact okV_ns (okV_ns (okV_ns h hk (by omega) (by omega)) hk (by omega) (by omega)) hk (by omega) (fun _ => isS_or (isS_and (isS_and hs)) (isS_and hs))
  · exact h
theorem okV_den {c k : Nat} {snd : Int32} {wer : Nat → Int32} {v0 : Vec} {q : Vec × Int32} (h : okV c v0 q.1) (hk : k < 8) : okV c v0 (denStep snd wer k q).1 := by
  unfold denStep
  split
  · split
    · exact okV_frz h hk
    · exact okV_ns h hk (by omega) (fun _ => isS_and (h.1.2.2 k hk))
  · exact h
theorem okV_out {c k : Nat} {old : Int32} {v0 : Vec} {q : Vec × Int32} (h : okV c v0 q.1) (hk : k < 8) : okV c v0 (outStep old k q).1 := by
  unfold outStep
  split
  · exact okV_frz h hk
  · exact h
theorem okV_cor {c k : Nat} {old : Int32} {b : Nat → Int32} {v0 v : Vec} (h : okV c v0 v) (hk : k < 8) : okV c v0 (corStep b old k v) := by
  unfold corStep
  split
  · split
    · exact okV_ns h hk (by omega) (by omega)
    · exact okV_ns h hk (by omega) (by omega)
  · exact h
theorem okV_run {c k : Nat} {v0 v : Vec} (h : okV c v0 v) (hk : k < 8) : okV c v0 (runStep k v) := by
  unfold runStep
  split
  · exact h
  · exact okV_ns h hk (by omega) (by omega)
/-- the senders are old ones -/
theorem snd_sub {d old pas : Int32} {om : Nat → Int32} {c : Nat} (h8 : c ≤ 8) (v : Vec) : isS (sndS d om old pas c v).2 ∧ ∀ k, tbit (sndS d om old pas c v).2 k = true → k < c ∧ tbit old k = true := by
  unfold sndS
  refine itS_inv (p := fun q : Vec × Int32 => isS q.2 ∧ ∀ k, tbit q.2 k = true → k < c ∧ tbit old k = true) c ?_ (v, 0) ⟨isS_0, fun k h => by rw [tbit_zero] at h; exact absurd h (by decide)⟩
  rintro k q hk ⟨h1, h2⟩
  unfold sndStep
  split
  · rename_i ho
    dsimp only
    generalize (tbit pas k && !(if d = 0 then decide (om k = 100) else decide (drawX q.1 < om k))) = b
    cases b
    · exact ⟨h1, h2⟩
    · refine ⟨isS_or h1 (isS_one (by omega)), ?_⟩
      intro j hj
      by_cases hjk : j = k
      · subst hjk
        exact ⟨hk, ho⟩
      · refine h2 j ?_
        rw [if_pos rfl, tbit_or] at hj
        by_cases h32 : j < 32
        · rw [bit1, tbit_one (by omega) h32] at hj
          simpa [hjk] using hj
        · have h9 : tbit (bit1 k) j = false := isS_iff.mp (isS_one (by omega)) j (by omega)
          rw [h9] at hj
          simpa using hj
  · exact ⟨h1, h2⟩
theorem low_bit_all : ∀ n : Fin 256, n.val ≠ 0 → tbit (nI n.val) (lowS (nI n.val)) = true := by decide +kernel
theorem low_bit {x : Int32} (hs : isS x) (h0 : ¬ x = 0) : tbit x (lowS x) = true := by
  obtain ⟨n, hn, rfl⟩ := hs
  exact low_bit_all ⟨n, hn⟩ (fun h => h0 (by rw [show n = 0 from h]; rfl))
theorem snd_nd {d old pas : Int32} {om : Nat → Int32} {c w x : Nat} {v : Vec} (hw : w < 8) : nd (sndS d om old pas c v).1 w x = nd v w x := by
  unfold sndS
  refine itS_pres (α := Vec × Int32) (fun q => nd q.1 w x) ?_ c (v, 0)
  intro k q
  unfold sndStep
  split
  · dsimp only
    split
    · rfl
    · unfold nd drawV
      rw [vset_ne (by omega)]
  · rfl
