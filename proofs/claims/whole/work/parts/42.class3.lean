/-! the class's round: counting, drawing, joining -/
theorem pcn_or : ∀ (n : Nat) (p q : Nat → Bool), (∀ k, ¬ (p k = true ∧ q k = true)) → pcn n (fun k => p k || q k) = pcn n p + pcn n q
  | 0, _, _, _ => rfl
  | n + 1, p, q, h => by
    have := pcn_or n p q h
    have h1 := h n
    simp only [pcn, this]
    by_cases hp : p n = true <;> by_cases hq : q n = true
    · exact absurd ⟨hp, hq⟩ h1
    · simp [hp, hq]; omega
    · simp [hp, hq]; omega
    · simp [hp, hq]
theorem pc_or {x y : Int32} (h : ∀ k, ¬ (tbit x k = true ∧ tbit y k = true)) : pc (x ||| y) = pc x + pc y := by
  unfold pc
  rw [← pcn_or 8 _ _ h]
  congr 1
  funext k
  exact tbit_or x y k
theorem tbit_bit1 {k j : Nat} (hk : k < 8) : tbit (bit1 k) j = decide (j = k) := by
  by_cases h : j < 32
  · exact tbit_one (by omega) h
  · rw [show tbit (bit1 k) j = false from isS_iff.mp (isS_one hk) j (by omega)]
    simp
    omega
theorem vset_comm {v : Vec} {i j : Nat} {a b : Int32} (h : i ≠ j) : vset (vset v i a) j b = vset (vset v j b) i a := by
  funext x
  by_cases h1 : x = i
  · subst h1
    rw [vset_ne h, vset_at, vset_at]
  · by_cases h2 : x = j
    · subst h2
      rw [vset_at, vset_ne h1, vset_at]
    · rw [vset_ne h2, vset_ne h1, vset_ne h1, vset_ne h2]
theorem ns_comm {v : Vec} {k x y : Nat} {a b : Int32} (h : x ≠ y) : ns (ns v k x a) k y b = ns (ns v k y b) k x a := vset_comm (by omega)
theorem x11_bit {k : Nat} : f_X11_bit (nI k) = bit1 k := rfl
theorem c_judge {μ : ZMem} {s c : Nat} {v : Vec} {old snd : Int32} {heard : Nat → Int32} (h : CS μ s c v) (hs : isS snd) (hh : ∀ k, k < c → μ (0, 7, 0) k = heard k) :
    ok (f_X9_judge s old snd μ) (fun μ' => CS μ' s c (itS (cntStep old snd heard) c v) ∧ fr (clsP s) μ μ') := by
  have h8 := h.1
  unfold f_X9_judge
  refine ok_bd (ok_mono (c_loop (P := clsP s) (cntStep old snd heard) h ?_ ?_) (fun _ h => ok_some h))
  · intro k μ1 v1 hk h1 e f
    have hk8 : k < 8 := by omega
    simp only [un2]
    rw [if_neg (cond_le (CS_c h1) h8 hk), bd_eq (isIn_eq (by omega))]
    unfold cntStep
    by_cases hb : tbit old k = true
    · have hhk : μ1 (0, 7, 0) k = heard k := by rw [fr_at f not_cls0]; exact hh k hk
      have n37 : ∀ j, ((0, 7, 0) : ZId) ≠ (3, s, j) := fun j => zne (by decide)
      rw [if_neg (by rw [hb]; decide), if_pos hb, gd_eq (zin_nI (by omega) (by omega)), nI_cl (by omega), zlt_s, zlt_s, zlt_s, zlt_s, x11_bit, mset_at, mset_ne (n37 k), mset_ne (n37 k), hhk, bd_s]
      refine ok_some ⟨_, by rw [nI_1], ?_, fr_trans (fr_mset cls_nd) (fr_trans (fr_mset cls_nd) (fr_mset cls_nd))⟩
      have d1 : ∀ j, ¬ (tbit (snd &&& (bit1 k ^^^ (-1)) &&& heard k) j = true ∧ tbit (snd &&& bit1 k) j = true) := by
        rintro j ⟨a1, a2⟩
        rw [tbit_and, tbit_bit1 hk8] at a2
        have a3 : j = k := by simpa using (Bool.and_eq_true_iff.mp a2).2
        subst a3
        rw [tbit_and, tbit_and, tbit_not _ (by omega), tbit_bit1 hk8] at a1
        simp at a1
      have s1 : isS (snd &&& (bit1 k ^^^ (-1)) &&& heard k) := isS_and (isS_and hs)
      rw [bc_eq (isS_or s1 (isS_and hs)), bc_eq (isS_and (isS_and hs)), pc_or d1, ← nI_add, ns_comm (x := 6) (y := 7) (by decide), ns_comm (x := 6) (y := 5) (by decide), ns_comm (x := 7) (y := 5) (by decide), ns_comm (x := 7) (y := 6) (by decide)]
      exact CS_ns (CS_ns (CS_ns h1 hk (by omega)) hk (by omega)) hk (by omega)
    · have hb' : tbit old k = false := by simpa using hb
      rw [if_pos (by rw [hb']; decide), if_neg hb, bd_s]
      exact ok_some ⟨_, by rw [nI_1], h1, fr_refl⟩
  · intro μ1 v1 h1
    simp only [un2]
    rw [if_pos (cond_end (CS_c h1) h8)]
theorem c_draw {μ : ZMem} {s c : Nat} {v : Vec} (h : CS μ s c v) : ok (f_X7_draw s μ) (fun q => zrem q.1 100 = drawX v ∧ CS q.2 s c (drawV v) ∧ fr (clsP s) μ q.2) := by
  obtain ⟨h8, h1, h2, h3, h4, h5, h6, h7, h9⟩ := h
  have e4 : ∀ x, (mset μ (1, s, 0) 8 x) (4, s, 0) = μ (4, s, 0) := fun x => mset_ne (zne (by decide))
  unfold f_X7_draw
  rw [zlt_s, mset_at, h6]
  refine ok_some ?_
  dsimp only
  refine ⟨?_, ⟨h8, ?_, ?_, ?_, ?_, ?_, ?_, ?_, ?_⟩, fr_mset (Or.inr (Or.inl ⟨rfl, by omega⟩))⟩
  · unfold drawX drawV
    rw [vset_at]
  · rw [mset_k (by decide)]; exact h1
  · exact (vset_ne (by decide)).trans h2
  · rw [mset_k (by decide)]; exact h3.trans (vset_ne (by decide)).symm
  · rw [mset_k (by decide)]; exact h4.trans (vset_ne (by decide)).symm
  · rw [mset_k (by decide)]; exact h5.trans (vset_ne (by decide)).symm
  · rw [mset_at]; exact vset_at.symm
  · intro k hk x hx
    rw [mset_ne (zne (by decide))]
    refine (h7 k hk x hx).trans ?_
    unfold nd drawV
    rw [vset_ne (by omega)]
  · exact ring_congr h9 (mset_k (by decide)) (mset_k (by decide)) (e4 _) (vset_ne (by decide)) (fun i h1 h2 => vset_ne (by omega))
theorem c_senders {μ : ZMem} {s c : Nat} {v : Vec} {d old pas : Int32} {om : Nat → Int32} (h : CS μ s c v) (hom : ∀ k, k < c → μ (0, 9, 0) k = om k) (hle : ∀ k, k < c → om k ≤ 100) (hp : μ (0, 5, 0) 5 = pas) :
    ok (f_X9_sendersOf s old d μ) (fun q => q.1 = (sndS d om old pas c v).2 ∧ CS q.2 s c (sndS d om old pas c v).1 ∧ fr (clsP s) μ q.2) := by
  have h8 := h.1
  unfold f_X9_sendersOf sndS
  refine ok_bd2 (ok_mono (c_loop3 (P := clsP s) (sndStep d om old pas) h ?_ ?_) (fun q h => ok_some h))
  · intro k μ1 q hk h1 e f
    have hok : μ1 (0, 9, 0) k = om k := by rw [fr_at f not_cls0]; exact hom k hk
    have hpp : μ1 (0, 5, 0) 5 = pas := by rw [fr_at f not_cls0]; exact hp
    simp only [un3]
    rw [if_neg (cond_le (CS_c h1) h8 hk), bd_eq (isIn_eq (by omega))]
    unfold sndStep
    by_cases hb : tbit old k = true
    · rw [if_neg (by rw [hb]; decide), if_pos hb]
      by_cases hd : d = 0
      · rw [if_pos hd, gd_eq (zin_nI (by omega) (by omega)), nI_cl (by omega), hok]
        by_cases ho : om k = 100
        · rw [if_neg (by rw [ho]; decide), bd2_s, if_neg (by decide), bd2_s]
          refine ok_some ⟨μ1, ?_, ?_, fr_refl⟩
          · simp [hd, ho, nI_1]
          · simpa [hd] using h1
        · have ho' : om k < 100 := by
            rcases Int32.lt_or_eq_of_le (hle k hk) with h | h
            · exact h
            · exact absurd h ho
          rw [if_pos ho', bd2_s, if_pos rfl, hpp, bd_eq (isIn_eq (by omega))]
          refine ok_bd2 ?_
          cases ht : tbit pas k
          · rw [if_pos (by decide)]
            refine ok_some (ok_some ⟨μ1, ?_, ?_, fr_refl⟩)
            · simp [hd, nI_1]
            · simpa [hd] using h1
          · rw [if_neg (by decide), zlt_s, x11_bit]
            refine ok_some (ok_some ⟨μ1, ?_, ?_, fr_refl⟩)
            · simp [hd, ho, nI_1]
            · simpa [hd] using h1
      · rw [if_neg hd]
        refine ok_bd2 (ok_bd2 (ok_bd2 (ok_mono (c_draw h1) ?_)))
        rintro ⟨x, μ2⟩ ⟨g1, g2, g3⟩
        dsimp only at g1 g2 g3 ⊢
        have hok2 : μ2 (0, 9, 0) k = om k := by rw [fr_at g3 not_cls0]; exact hok
        have hpp2 : μ2 (0, 5, 0) 5 = pas := by rw [fr_at g3 not_cls0]; exact hpp
        rw [gd_eq (zin_nI (by omega) (by omega)), nI_cl (by omega)]
        by_cases ho : om k ≤ drawX q.1
        · have ho' : ¬ drawX q.1 < om k := Int32.not_lt.mpr ho
          rw [if_pos (show μ2 (0, 9, 0) k ≤ zrem x 100 by rw [hok2, g1]; exact ho)]
          refine ok_some ?_
          dsimp only
          rw [if_pos rfl, hpp2, bd_eq (isIn_eq (by omega))]
          cases ht : tbit pas k
          · rw [if_pos (by decide)]
            refine ok_some (ok_some ⟨μ2, ?_, ?_, g3⟩)
            · simp [hd, nI_1]
            · simpa [hd] using g2
          · rw [if_neg (by decide), zlt_s, x11_bit]
            refine ok_some (ok_some ⟨μ2, ?_, ?_, g3⟩)
            · simp [hd, ho', nI_1]
            · simpa [hd] using g2
        · have ho' : drawX q.1 < om k := Int32.not_le.mp ho
          rw [if_neg (show ¬ μ2 (0, 9, 0) k ≤ zrem x 100 by rw [hok2, g1]; exact ho)]
          refine ok_some ?_
          dsimp only
          rw [if_neg (by decide)]
          refine ok_some (ok_some ⟨μ2, ?_, ?_, g3⟩)
          · simp [hd, ho', nI_1]
          · simpa [hd] using g2
    · have hb' : tbit old k = false := by simpa using hb
      rw [if_pos (by rw [hb']; decide), if_neg hb, bd2_s]
      exact ok_some ⟨_, by rw [nI_1], h1, fr_refl⟩
  · intro x μ1 v1 h1
    simp only [un3]
    rw [if_pos (cond_end (CS_c h1) h8)]
