/-! what the model asks its law -/
theorem ofM {μ : ZMem} {v : Vec} {k w : Nat} {W : Int32} (hv : μ MV0 = v) (hW : W = nI w) (hk : k < 8) (hw : w < 11) {α : Type} {f : Int32 → Option α} : bd (f_X12_of (nI k) W μ) f = f (nd v k w) := bd_eq (ofV hv hW hk hw)
theorem LawM_of {v0 T : Vec} {e : Nat} {ls : List LN} (hB : HB T e) (he : e ≤ 400) (h1 : (1 ≤ v0 1 ∧ v0 2 = nI e) ∨ (v0 1 < 1 ∧ e = 0)) (hT : ∀ k, k < e → v0 (337 + k) = T k) (hp : pLaw T e = .inr ls) : LawM v0 (lawOf ls) := by
  intro c μ hs hW k hk
  obtain ⟨h8, h3, hm⟩ := id hW
  obtain ⟨v, hv⟩ : ∃ v, v = μ MV0 := ⟨_, rfl⟩
  rw [← hv] at hs hW h3 hm ⊢
  have hv' : μ MV0 = v := hv.symm
  unfold f_X12_asks
  rw [ofM hv' (W := 1) (w := 1) rfl hk (by omega), ofM hv' (W := 2) (w := 2) rfl hk (by omega), zlt_s, ofM hv' (W := 9) (w := 9) rfl hk (by omega)]
  obtain ⟨x9, hx9⟩ : ∃ x9 : Int32, x9 = if nd v k 9 = 1 then nd v k 10 else 0 := ⟨_, rfl⟩
  have e9 : (if nd v k 9 = 1 then bd (f_X12_of (nI k) 10 μ) (fun (x11 : Int32) => some x11) else some 0) = some x9 := by
    rw [hx9]
    by_cases z : nd v k 9 = 1
    · rw [if_pos z, if_pos z, ofM hv' (W := 10) (w := 10) rfl hk (by omega)]
    · rw [if_neg z, if_neg z]
  rw [e9, bd_s, zlt_s]
  have v1 : (mset μ (0, 32, 0) 16 x9) MV0 = v := by rw [mset_ne (by decide)]; exact hv'
  rw [ofM v1 (W := 8) (w := 8) rfl hk (by omega), zlt_s, zlt_s, zlt_s, zlt_s, zlt_s]
  have w1 : ∀ (μ : ZMem) (o : ZId) (i : Nat) (x : Int32), μ MV0 = v → o ≠ MV0 → (mset μ o i x) MV0 = v := fun μ o i x h h2 => by rw [mset_ne (Ne.symm h2)]; exact h
  have v2 := w1 _ (0, 38, 0) 2 (f_X12_greater 0 (-(nd v k 1 + nd v k 2))) (w1 _ (0, 38, 0) 1 (f_X12_greater 0 (nd v k 1 + nd v k 2)) (w1 _ (0, 38, 0) 0 (nI k) (w1 _ (0, 32, 0) 18 0 (w1 _ (0, 32, 0) 17 (nd v k 8) v1 (by decide)) (by decide)) (by decide)) (by decide)) (by decide)
  rw [ofM v2 (W := 5) (w := 5) rfl hk (by omega), bd_eq (bits_eq (hm k hk)), zlt_s]
  have v3 := w1 _ (0, 38, 0) 3 (nI (pc (nd v k 5))) v2 (by decide)
  rw [ofM v3 (W := 6) (w := 6) rfl hk (by omega), zlt_s]
  have v4 := w1 _ (0, 38, 0) 4 (nd v k 6) v3 (by decide)
  rw [ofM v4 (W := 7) (w := 7) rfl hk (by omega), zlt_s]
  have v5 := w1 _ (0, 38, 0) 5 (nd v k 7) v4 (by decide)
  rw [ofM v5 (W := 4) (w := 4) rfl hk (by omega), zlt_s]
  have v6 := w1 _ (0, 38, 0) 6 (nd v k 4) v5 (by decide)
  rw [bd_eq (show _ = some (actS v c) by rw [m_inState_eq (by rw [v6]; exact h3) h8, v6]; rfl), zlt_s]
  have eal : (if actS v c &&& ((1 <<< (nI k &&& 31)) ^^^ (-1)) = 0 then (1 : Int32) else 0) = envS c v k 8 := by
    show _ = b2i (decide (actS v c &&& (bit1 k ^^^ (-1)) = 0))
    by_cases z : actS v c &&& ((1 <<< (nI k &&& 31)) ^^^ (-1)) = 0
    · rw [if_pos z, decide_eq_true (show actS v c &&& (bit1 k ^^^ (-1)) = 0 from z)]; rfl
    · rw [if_neg z, decide_eq_false (show ¬ actS v c &&& (bit1 k ^^^ (-1)) = 0 from z)]; rfl
  have ez8 : zbo (envS c v k 8) = true := zbo_b2i _
  rw [eal, gd_eq ez8, zlt_s, zlt_s, zlt_s, zlt_s]
  obtain ⟨μ2, hμ2⟩ : ∃ μ2, μ2 = mset (mset (mset (mset (mset (mset (mset (mset (mset (mset (mset (mset (mset μ (0, 32, 0) 16 x9) (0, 32, 0) 17 (nd v k 8)) (0, 32, 0) 18 0) (0, 38, 0) 0 (nI k)) (0, 38, 0) 1 (f_X12_greater 0 (nd v k 1 + nd v k 2))) (0, 38, 0) 2 (f_X12_greater 0 (-(nd v k 1 + nd v k 2)))) (0, 38, 0) 3 (nI (pc (nd v k 5)))) (0, 38, 0) 4 (nd v k 6)) (0, 38, 0) 5 (nd v k 7)) (0, 38, 0) 6 (nd v k 4)) (0, 32, 0) 15 (envS c v k 8)) (0, 32, 0) 12 (-1)) (0, 32, 0) 9 337 := ⟨_, rfl⟩
  have o12 : (mset (mset (mset (mset (mset (mset (mset (mset (mset (mset (mset μ (0, 32, 0) 16 x9) (0, 32, 0) 17 (nd v k 8)) (0, 32, 0) 18 0) (0, 38, 0) 0 (nI k)) (0, 38, 0) 1 (f_X12_greater 0 (nd v k 1 + nd v k 2))) (0, 38, 0) 2 (f_X12_greater 0 (-(nd v k 1 + nd v k 2)))) (0, 38, 0) 3 (nI (pc (nd v k 5)))) (0, 38, 0) 4 (nd v k 6)) (0, 38, 0) 5 (nd v k 7)) (0, 38, 0) 6 (nd v k 4)) (0, 32, 0) 15 (envS c v k 8)) (0, 32, 0) 12 = μ MO0 12 := by simp [mset]
  rw [o12, ← hμ2]
  have u0 : μ2 MV0 = v := by
    rw [hμ2]
    exact w1 _ (0, 32, 0) 9 337 (w1 _ (0, 32, 0) 12 (-1) (w1 _ (0, 32, 0) 15 (envS c v k 8) v6 (by decide)) (by decide)) (by decide)
  have u38 : ∀ t, t < 7 → μ2 (0, 38, 0) t = envS c v k t := by
    intro t ht
    have h7 : t = 0 ∨ t = 1 ∨ t = 2 ∨ t = 3 ∨ t = 4 ∨ t = 5 ∨ t = 6 := by omega
    rw [hμ2]
    rcases h7 with rfl | rfl | rfl | rfl | rfl | rfl | rfl <;> simp [mset, envS]
  have u15 : μ2 MO0 15 = envS c v k 8 := by rw [hμ2]; simp [mset]
  have u12 : μ2 MO0 12 = -1 := by rw [hμ2]; simp [mset]
  have u9 : μ2 MO0 9 = 337 := by rw [hμ2]; simp [mset]
  have u16 : μ2 MO0 16 = x9 := by rw [hμ2]; simp [mset]
  have u17 : μ2 MO0 17 = nd v k 8 := by rw [hμ2]; simp [mset]
  have u18 : μ2 MO0 18 = 0 := by rw [hμ2]; simp [mset]
  have ufr : ∀ o i, ¬ (askP o i ∨ (o = MO0 ∧ i = 12)) → μ2 o i = μ o i := by
    intro o i hn
    have h38 : ∀ j, ¬ (o = (0, 38, 0) ∧ i = j) := fun j h => hn (Or.inl (Or.inl h.1))
    have h32 : ∀ j, (j = 9 ∨ j = 12 ∨ j = 15 ∨ j = 16 ∨ j = 17 ∨ j = 18) → ¬ (o = (0, 32, 0) ∧ i = j) := fun j hj h => hn (by
      by_cases e12 : j = 12
      · exact Or.inr ⟨h.1, h.2.trans e12⟩
      · exact Or.inl (Or.inr ⟨h.1, by omega⟩))
    rw [hμ2]
    unfold mset
    rw [if_neg (h32 9 (by omega)), if_neg (h32 12 (by omega)), if_neg (h32 15 (by omega)), if_neg (h38 6), if_neg (h38 5), if_neg (h38 4), if_neg (h38 3), if_neg (h38 2), if_neg (h38 1), if_neg (h38 0), if_neg (h32 18 (by omega)), if_neg (h32 17 (by omega)), if_neg (h32 16 (by omega))]
  clear hμ2 v2 v3 v4 v5 v6
  have eend : (if 1 ≤ (μ2 (0, 33, 0) 1) then (μ2 (0, 33, 0) 2) else 0) = nI e := by
    have a1 : μ2 (0, 33, 0) 1 = v0 1 := by rw [show μ2 (0, 33, 0) = v from u0]; exact hs 1 (Or.inl rfl)
    have a2 : μ2 (0, 33, 0) 2 = v0 2 := by rw [show μ2 (0, 33, 0) = v from u0]; exact hs 2 (Or.inr (Or.inl rfl))
    rw [a1, a2]
    rcases h1 with ⟨b1, b2⟩ | ⟨b1, b2⟩
    · rw [if_pos b1, b2]
    · rw [if_neg (Int32.not_le.mpr b1), b2]; rfl
  rw [eend, zlt_s, zlt_s, zlt_s, zlt_s]
  obtain ⟨μ3, hμ3⟩ : ∃ μ3, μ3 = mset (mset (mset μ2 (0, 32, 0) 10 (nI e)) (0, 32, 0) 11 0) (0, 32, 0) 13 0 := ⟨_, rfl⟩
  rw [← hμ3]
  have t0 : μ3 MV0 = v := by rw [hμ3, mset_ne (by decide), mset_ne (by decide), mset_ne (by decide)]; exact u0
  have t38 : μ3 (0, 38, 0) = μ2 (0, 38, 0) := by rw [hμ3, mset_ne (by decide), mset_ne (by decide), mset_ne (by decide)]
  have t32 : ∀ i, i ≠ 10 → i ≠ 11 → i ≠ 13 → μ3 MO0 i = μ2 MO0 i := fun i a b c => by rw [hμ3, mset_k c, mset_k b, mset_k a]
  have hTX : TX T e μ3 := by
    refine ⟨he, by rw [hμ3, mset_k (by decide), mset_k (by decide), mset_at], Or.inr ⟨by rw [t32 9 (by omega) (by omega) (by omega)]; exact u9, fun i hi => ?_⟩⟩
    rw [t0, hs (337 + i) (Or.inr (Or.inr (by omega)))]
    exact hT i hi
  have hEF : EF (envS c v k) μ3 := by
    refine ⟨fun t ht => by rw [t38]; exact u38 t ht, by rw [t0]; rfl, by rw [t32 15 (by omega) (by omega) (by omega)]; exact u15, ez8, k, hk, by rw [t38]; exact u38 0 (by omega), by rw [t0]; rfl⟩
  refine ok_b2 (m_reads1 hB hTX (by rw [t32 12 (by omega) (by omega) (by omega)]; exact u12) (by rw [hμ3, mset_k (by decide), mset_at]) (by rw [hμ3, mset_at]) hEF) ?_
  rintro x49 μ4 ⟨r1, -, r3⟩
  dsimp only at r1 r3
  obtain ⟨-, s2, sG, s3⟩ := r3 ls hp
  have y0 : μ4 MV0 = v := (fr_at r1 (by rintro i ⟨h, -⟩; exact absurd h (by decide))).trans t0
  have y0' : (mset μ4 (0, 32, 0) 12 (μ MO0 12)) MV0 = v := w1 _ _ _ _ y0 (by decide)
  have z16 := s3 0 (by omega)
  have z17 := s3 1 (by omega)
  have z18 := s3 2 (by omega)
  rw [t32 _ (by omega) (by omega) (by omega), u16] at z16
  rw [t32 _ (by omega) (by omega) (by omega), u17] at z17
  rw [t32 _ (by omega) (by omega) (by omega), u18, Int32.zero_add] at z18
  rw [zlt_s, ofM y0' (W := 9) (w := 9) rfl hk (by omega), zlt_s, zlt_s]
  have e17 : (mset μ4 (0, 32, 0) 12 (μ MO0 12)) (0, 32, 0) 17 = μ4 MO0 17 := mset_k (by decide)
  rw [e17]
  refine ok_some ⟨⟨?_, ?_, ?_⟩, ?_, ?_, ?_⟩
  · intro o i hn
    have n17 : ¬ (o = (0, 32, 0) ∧ i = 17) := fun h => hn (Or.inr ⟨h.1, by omega⟩)
    unfold mset
    rw [if_neg n17]
    by_cases h12 : o = (0, 32, 0) ∧ i = 12
    · rw [if_pos h12, h12.1, h12.2]
    · rw [if_neg h12, r1.1 o i (fun h => by
        have := h.2
        rcases this with h' | h' | h' | h' | h' | h'
        · exact hn (Or.inr ⟨h.1, by omega⟩)
        · exact h12 ⟨h.1, h'⟩
        · exact hn (Or.inr ⟨h.1, by omega⟩)
        · exact hn (Or.inr ⟨h.1, by omega⟩)
        · exact hn (Or.inr ⟨h.1, by omega⟩)
        · exact hn (Or.inr ⟨h.1, by omega⟩))]
      have n32 : ∀ j, (j = 10 ∨ j = 11 ∨ j = 13) → ¬ (o = (0, 32, 0) ∧ i = j) := fun j hj h => hn (Or.inr ⟨h.1, by omega⟩)
      have e3 : μ3 o i = μ2 o i := by
        rw [hμ3]
        unfold mset
        rw [if_neg (n32 13 (by omega)), if_neg (n32 11 (by omega)), if_neg (n32 10 (by omega))]
      rw [e3]
      refine ufr o i ?_
      rintro (h | h)
      · exact hn h
      · exact h12 h
  · refine Or.inr ⟨k, hk, ?_⟩
    rw [mset_ne (by decide), mset_ne (by decide), r1.1 _ _ (by rintro ⟨h, -⟩; exact absurd h (by decide)), t38]
    exact u38 0 (by omega)
  · refine Or.inr ?_
    rw [mset_k (by decide), mset_k (by decide), r1.1 _ _ (by rintro ⟨-, h⟩; omega), show μ3 (0, 32, 0) 15 = envS c v k 8 by rw [show μ3 (0, 32, 0) 15 = μ2 (0, 32, 0) 15 from t32 15 (by omega) (by omega) (by omega)]; exact u15]
    exact ez8
  · rw [mset_k (by decide), mset_k (by decide), z16, hx9]
    rfl
  · rw [mset_at]
    unfold omitS
    rw [z17]
  · rw [mset_k (by decide), mset_k (by decide)]
    exact z18
theorem LawM_none {v0 : Vec} (h : v0 1 < 1) : LawM v0 [] := by
  have := LawM_of (v0 := v0) (T := fun _ => 0) (e := 0) (ls := []) (fun p hp => absurd hp (by omega)) (by omega) (Or.inr ⟨h, rfl⟩) (fun k hk => absurd hk (by omega)) (by decide)
  exact this
