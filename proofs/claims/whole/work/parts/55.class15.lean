/-! the class: what a round begins with -/
def viewP (o : ZId) (i : Nat) : Prop := (o = (0, 5, 0) ∧ (i = 4 ∨ i = 5)) ∨ o = (0, 7, 0) ∨ o = (0, 8, 0) ∨ o = (0, 9, 0) ∨ (∃ k, o = (7, k, 0)) ∨ ∃ n, o = (6, n, 4)
theorem vw5 {i : Nat} (h : i = 4 ∨ i = 5) : viewP (0, 5, 0) i := Or.inl ⟨rfl, h⟩
theorem vw7 {i : Nat} : viewP (0, 7, 0) i := Or.inr (Or.inl rfl)
theorem vw8 {i : Nat} : viewP (0, 8, 0) i := Or.inr (Or.inr (Or.inl rfl))
theorem vw9 {i : Nat} : viewP (0, 9, 0) i := Or.inr (Or.inr (Or.inr (Or.inl rfl)))
theorem vw70 {k i : Nat} : viewP (7, k, 0) i := Or.inr (Or.inr (Or.inr (Or.inr (Or.inl ⟨k, rfl⟩))))
theorem vw64 {n i : Nat} : viewP (6, n, 4) i := Or.inr (Or.inr (Or.inr (Or.inr (Or.inr ⟨n, rfl⟩))))
theorem not_vw {o : ZId} (h1 : o ≠ (0, 5, 0)) (h2 : o ≠ (0, 7, 0)) (h3 : o ≠ (0, 8, 0)) (h4 : o ≠ (0, 9, 0)) (h5 : ∀ k, o ≠ (7, k, 0)) (h6 : ∀ n, o ≠ (6, n, 4)) : ∀ i, ¬ viewP o i := by
  rintro i (⟨h, -⟩ | h | h | h | ⟨k, h⟩ | ⟨n, h⟩)
  · exact h1 h
  · exact h2 h
  · exact h3 h
  · exact h4 h
  · exact h5 k h
  · exact h6 n h
theorem CS_vw {μ μ' : ZMem} {s c : Nat} {v : Vec} (h : CS μ s c v) (f : fr viewP μ μ') : CS μ' s c v :=
  CS_fr h f (fun i => ⟨not_vw (zne (by decide)) (zne (by decide)) (zne (by decide)) (zne (by decide)) (fun k => zne (by decide)) (fun k => zne (by decide)) i, not_vw (zne (by decide)) (zne (by decide)) (zne (by decide)) (zne (by decide)) (fun k => zne (by decide)) (fun k => zne (by decide)) i, fun k => not_vw (zne (by decide)) (zne (by decide)) (zne (by decide)) (zne (by decide)) (fun k => zne (by decide)) (fun k => zne (by decide)) i⟩)
theorem LawC_vw {y : ZLay} {μ0 μ1 : ZMem} {n : Nat} {L : LawS} (h : LawC y μ0 n L) (f : fr viewP μ0 μ1) : LawC y μ1 n L :=
  LawC_fr h f (fun i => ⟨fun j hj => not_vw (zne (by decide)) (zne (by decide)) (zne (by decide)) (zne (by decide)) (fun k => zne (by decide)) (fun m => n64 hj) i, not_vw (zne (by decide)) (zne (by decide)) (zne (by decide)) (zne (by decide)) (fun k => zne (by decide)) (fun m => zne (by decide)) i⟩)
theorem vw_1 {s : Nat} {μ0 μ1 : ZMem} (f : fr viewP μ0 μ1) : μ1 (1, s, 0) = μ0 (1, s, 0) := fr_at f (not_vw (zne (by decide)) (zne (by decide)) (zne (by decide)) (zne (by decide)) (fun k => zne (by decide)) (fun k => zne (by decide)))
theorem CS_act {μ : ZMem} {s c : Nat} {v : Vec} (h : CS μ s c v) : f_X7_inState s 2 μ = some (actS v c) := by
  rw [f_X7_inState_eq (CS_c h) h.1]
  congr 1
  exact bset_congr (fun k hk => by rw [CS_nd h hk (by omega)])
theorem CS_win {μ : ZMem} {s c : Nat} {v : Vec} (h : CS μ s c v) : μ (1, s, 0) 5 = v 4 := h.2.2.2.1
theorem CS_pre {μ : ZMem} {s c : Nat} {v : Vec} (h : CS μ s c v) : μ (1, s, 0) 6 = v 5 := h.2.2.2.2.1
theorem rem2 {o : Nat} (ho : o < 8) : zrem (nI o) 2 = 1 ↔ o % 2 = 1 := by
  have : ∀ o : Fin 8, zrem (nI o.val) 2 = 1 ↔ o.val % 2 = 1 := by decide +kernel
  exact this ⟨o, ho⟩
theorem s64 {n m k : Nat} {o : ZId} (h : o ≠ (6, n, 4)) : ¬ stP n o k := h
theorem c_look1 {μ : ZMem} {s c k : Nat} {v : Vec} {L : LawS} (h : CS μ s c v) (hk : k < c) :
    ok (lp (σ := Int32 × ZMem) (fun q => un2 q (fun (x26 : Int32) (μ27 : ZMem) => if (μ27 (1, s, 0) 4) ≤ x26 then some (.inr μ27) else bd (α := Int32) (jk (some 0) (fun k32 => if (μ27 (3, s, k) 9) = 3 then if (zrem x26 2) = 1 then some (μ27 (3, s, k) 10) else k32 else k32)) (fun (x31 : Int32) => gd (zin x26 8) (zlt (mset μ27 (7, k, 0) x26.toNatClampNeg (sendS L c v k + x31)) (fun (μ35 : ZMem) => some (.inl ((x26 + 1), μ35))))))) FU (0, μ))
      (fun μ' => fr (oP (7, k, 0)) μ μ' ∧ ∀ o, o < c → μ' (7, k, 0) o = shiftS L c v k o) := by
  have h8 := h.1
  refine ok_seq c (fun o s' => s'.1 = nI o ∧ fr (oP (7, k, 0)) μ s'.2 ∧ ∀ j, j < o → s'.2 (7, k, 0) j = shiftS L c v k j) ?_ ?_ ⟨rfl, fr_refl, fun j hj => absurd hj (by omega)⟩ (FU_lt (by omega))
  · rintro o ⟨i, μ1⟩ ho ⟨h1, h2, h4⟩
    dsimp only at h1 h2 h4
    subst h1
    have hC : CS μ1 s c v := CS_fr h h2 (fun i => ⟨zne (by decide), zne (by decide), fun k => zne (by decide)⟩)
    rw [un2_s]
    rw [if_neg (cond_le (CS_c hC) h8 ho), CS_nd hC hk (by omega), CS_nd hC hk (by omega)]
    have key : ∀ x, sendS L c v k + x = shiftS L c v k o → ok (bd (α := Int32) (some x) (fun (x31 : Int32) => gd (zin (nI o) 8) (zlt (mset μ1 (7, k, 0) (nI o).toNatClampNeg (sendS L c v k + x31)) (fun (μ35 : ZMem) => some (.inl (((nI o) + 1), μ35)))))) (fun z : (Int32 × ZMem) ⊕ ZMem => ∃ s', z = .inl s' ∧ (s'.1 = nI (o + 1) ∧ fr (oP (7, k, 0)) μ s'.2 ∧ ∀ j, j < o + 1 → s'.2 (7, k, 0) j = shiftS L c v k j)) := by
      intro x e
      rw [bd_s, gd_eq (zin_nI (by omega) (by omega)), nI_cl (by omega), zlt_s, e]
      refine ok_some ⟨_, rfl, nI_1 o, fr_trans h2 (fr_mset rfl), ?_⟩
      intro j hj
      dsimp only
      by_cases ej : j = o
      · subst ej; rw [mset_at]
      · rw [mset_k ej]; exact h4 j (by omega)
    simp only [jk]
    unfold shiftS at key
    by_cases c1 : nd v k 9 = 3
    · rw [if_pos c1]
      by_cases c2 : o % 2 = 1
      · rw [if_pos ((rem2 (by omega)).mpr c2)]
        exact key _ (by rw [if_pos ⟨c1, c2⟩])
      · rw [if_neg (fun q => c2 ((rem2 (by omega)).mp q))]
        exact key _ (by rw [if_neg (fun q => c2 q.2)])
    · rw [if_neg c1]
      exact key _ (by rw [if_neg (fun q => c1 q.1)])
  · rintro ⟨i, μ1⟩ ⟨h1, h2, h4⟩
    dsimp only at h1 h2 h4
    subst h1
    have hC : CS μ1 s c v := CS_fr h h2 (fun i => ⟨zne (by decide), zne (by decide), fun k => zne (by decide)⟩)
    rw [un2_s]
    rw [if_pos (cond_end (CS_c hC) h8)]
    exact ok_some ⟨_, rfl, h2, h4⟩
def lookI (L : LawS) (c : Nat) (v : Vec) (k : Nat) (μ : ZMem) : Prop := μ (0, 5, 0) 4 = actS v c ∧ μ (0, 5, 0) 5 = bset (passB L c v) k ∧ ∀ j, j < k → μ (0, 8, 0) j = lateS L c v j ∧ μ (0, 9, 0) j = omitS L c v j ∧ ∀ o, o < c → μ (7, j, 0) o = shiftS L c v j o
theorem c_look {y : ZLay} {μ : ZMem} {s c n : Nat} {v : Vec} {L : LawS} (h : CS μ s c v) (hW : WFv c v) (hB : BV c v) (hb : LB L) (hL : LawC y μ n L) (hn : (μ (1, s, 0) 10).toNatClampNeg = n) :
    ok (f_X10_look y s μ) (fun μ' => CS μ' s c v ∧ fr viewP μ μ' ∧ lookI L c v c μ' ∧ ∀ k, k < c → μ' (0, 7, 0) k = heardS L c v k) := by
  have h8 := h.1
  unfold f_X10_look
  rw [bd_eq (CS_act h), zlt_s, zlt_s]
  have f0 : fr viewP μ (mset (mset μ (0, 5, 0) 4 (actS v c)) (0, 5, 0) 5 0) := fr_trans (fr_mset (vw5 (Or.inl rfl))) (fr_mset (vw5 (Or.inr rfl)))
  refine ok_bd (ok_mono (ok_seq c (fun k s' => s'.1 = nI k ∧ fr viewP μ s'.2 ∧ lookI L c v k s'.2) ?_ ?_ (Q := fun μ1 => fr viewP μ μ1 ∧ lookI L c v c μ1) ⟨rfl, f0, ?_, ?_, fun j hj => absurd hj (by omega)⟩ (FU_lt (by omega))) ?_)
  · rintro k ⟨i, μ1⟩ hk ⟨h1, h2, l1, l2, l3⟩
    dsimp only at h1 h2 l1 l2 l3
    subst h1
    have hC := CS_vw h h2
    have hk8 : k < 8 := by omega
    rw [un2_s]
    rw [if_neg (cond_le (CS_c hC) h8 hk), gd_eq (zin_nI (by omega) (by omega)), nI_cl (by omega), show (μ1 (1, s, 0) 10).toNatClampNeg = n by rw [vw_1 h2]; exact hn]
    refine ok_b2 (LawC_vw hL h2 μ1 s c v (fun _ _ => rfl) rfl hC hW.2.2 k hk 0 (by omega)) ?_
    rintro x μ2 ⟨a1, a2⟩
    dsimp only at a1 a2
    have hC2 := CS_st hC a2
    rw [zlt_s, CS_nd hC2 hk (by omega), CS_nd hC2 hk (by omega), zlt_s]
    have el : x + (if nd v k 9 = 1 then nd v k 10 else 0) = lateS L c v k := by
      rw [a1]
      unfold lateS
      rw [Int32.add_comm]
    rw [el]
    obtain ⟨μ3, hμ3⟩ : ∃ μ3, μ3 = mset μ2 (0, 8, 0) k (lateS L c v k) := ⟨_, rfl⟩
    have f2 : fr viewP μ1 μ2 := fr_mono a2 (fun o i h => by cases h; exact vw64)
    have f3 : fr viewP μ1 μ3 := by rw [hμ3]; exact fr_trans f2 (fr_mset vw8)
    have hC3 := CS_vw hC f3
    rw [← hμ3]
    have fa : fr (fun o i => o = (6, n, 4) ∨ (o = (0, 8, 0) ∧ i = k)) μ1 μ3 := by rw [hμ3]; exact fr_trans (fr_mono a2 (fun o i h => Or.inl h)) (fr_mset (Or.inr ⟨rfl, rfl⟩))
    refine ok_b2 (P := fun (q : Int32 × ZMem) => q.1 = omitS L c v k ∧ fr (stP n) μ3 q.2) ?_ ?_
    · unfold omitS
      rw [CS_nd hC3 hk (by omega), CS_nd hC3 hk (by omega)]
      by_cases c2 : nd v k 9 = 2
      · rw [if_pos c2, if_pos c2]
        exact ok_some ⟨rfl, fr_refl⟩
      · rw [if_neg c2, if_neg c2, show (μ3 (1, s, 0) 10).toNatClampNeg = n by rw [vw_1 f3, vw_1 h2]; exact hn]
        refine ok_b2 (LawC_vw hL (fr_trans h2 f3) μ3 s c v (fun _ _ => rfl) rfl hC3 hW.2.2 k hk 1 (by omega)) ?_
        rintro x2 μ4 ⟨b1, b2⟩
        dsimp only at b1 b2
        exact ok_some ⟨by rw [zmin_eq, b1], b2⟩
    rintro x2 μ4 ⟨b1, b2⟩
    dsimp only at b1 b2
    subst b1
    rw [zlt_s, zlt_s]
    obtain ⟨μ5, hμ5⟩ : ∃ μ5, μ5 = mset μ4 (0, 9, 0) k (omitS L c v k) := ⟨_, rfl⟩
    rw [← hμ5]
    have fb : fr (fun o i => o = (6, n, 4) ∨ (o = (0, 8, 0) ∧ i = k) ∨ (o = (0, 9, 0) ∧ i = k)) μ1 μ5 := by
      rw [hμ5]
      refine fr_trans (fr_mono fa ?_) (fr_trans (fr_mono b2 (fun o i h => Or.inl h)) (fr_mset (Or.inr (Or.inr ⟨rfl, rfl⟩))))
      rintro o i (h | h)
      · exact Or.inl h
      · exact Or.inr (Or.inl h)
    have f5 : fr viewP μ1 μ5 := fr_mono fb (by
      rintro o i (rfl | ⟨rfl, -⟩ | ⟨rfl, -⟩)
      · exact vw64
      · exact vw8
      · exact vw9)
    have hC5 := CS_vw hC f5
    have e8 : μ5 (0, 8, 0) k = lateS L c v k := by
      rw [hμ5, mset_ne (by decide), fr_at b2 (fun i => s64 (m := 0) (zne (by decide))), hμ3, mset_at]
    have e9 : μ5 (0, 9, 0) k = omitS L c v k := by rw [hμ5, mset_at]
    have es : nd v k 0 + μ5 (0, 8, 0) k = sendS L c v k := by rw [e8]; rfl
    rw [CS_nd hC5 hk (by omega), es]
    have hin := c_look1 (L := L) hC5 hk
    refine ok_bd (ok_mono hin ?_)
    rintro μ6 ⟨c1, c2⟩
    have f6 : fr viewP μ1 μ6 := fr_trans f5 (fr_mono c1 (fun o i h => by cases h; exact vw70))
    have hC6 := CS_vw hC f6
    rw [CS_nd hC6 hk (by omega), CS_nd hC6 hk (by omega), CS_win hC6]
    have e50 : ∀ i, μ6 (0, 5, 0) i = μ1 (0, 5, 0) i := by
      intro i
      rw [fr_at c1 (fun i => show ¬ ((0, 5, 0) : ZId) = (7, k, 0) from zne (by decide)), fr_at fb (by rintro i (h | ⟨h, -⟩ | ⟨h, -⟩) <;> exact absurd h (by first | decide | exact zne (by decide)))]
    have l6 : lookI L c v k μ6 := by
      refine ⟨by rw [e50]; exact l1, by rw [e50]; exact l2, ?_⟩
      intro j hj
      obtain ⟨d1, d2, d3⟩ := l3 j hj
      refine ⟨?_, ?_, ?_⟩
      · rw [fr_at c1 (fun i => show ¬ ((0, 8, 0) : ZId) = (7, k, 0) from zne (by decide)), fb.1 (0, 8, 0) j (by rintro (h | ⟨-, h⟩ | ⟨h, -⟩); exact zne (by decide) h; omega; exact absurd h (by decide))]
        exact d1
      · rw [fr_at c1 (fun i => show ¬ ((0, 9, 0) : ZId) = (7, k, 0) from zne (by decide)), fb.1 (0, 9, 0) j (by rintro (h | ⟨h, -⟩ | ⟨-, h⟩); exact zne (by decide) h; exact absurd h (by decide); omega)]
        exact d2
      · intro o ho
        rw [fr_at c1 (fun i => show ¬ ((7, j, 0) : ZId) = (7, k, 0) by intro e; have : j = k := congrArg (fun q : ZId => q.2.1) e; omega), fr_at fb (by rintro i (h | ⟨h, -⟩ | ⟨h, -⟩) <;> exact zne (by decide) h)]
        exact d3 o ho
    have e86 : μ6 (0, 8, 0) k = lateS L c v k := by rw [fr_at c1 (fun i => show ¬ ((0, 8, 0) : ZId) = (7, k, 0) from zne (by decide))]; exact e8
    have e96 : μ6 (0, 9, 0) k = omitS L c v k := by rw [fr_at c1 (fun i => show ¬ ((0, 9, 0) : ZId) = (7, k, 0) from zne (by decide))]; exact e9
    have fin : ∀ b : Bool, passB L c v k = b → ok (some (.inl (nI k + 1, if b = true then mset μ6 (0, 5, 0) 5 (μ6 (0, 5, 0) 5 ||| bit1 k) else μ6)) : Option ((Int32 × ZMem) ⊕ ZMem)) (fun z => ∃ s', z = .inl s' ∧ (s'.1 = nI (k + 1) ∧ fr viewP μ s'.2 ∧ lookI L c v (k + 1) s'.2)) := by
      intro b hpb
      have base : ∀ j, j < k + 1 → μ6 (0, 8, 0) j = lateS L c v j ∧ μ6 (0, 9, 0) j = omitS L c v j ∧ ∀ o, o < c → μ6 (7, j, 0) o = shiftS L c v j o := by
        intro j hj
        by_cases ej : j = k
        · subst ej
          exact ⟨e86, e96, c2⟩
        · exact l6.2.2 j (by omega)
      cases b
      · refine ok_some ⟨_, rfl, nI_1 k, fr_trans h2 f6, l6.1, ?_, base⟩
        rw [bset, hpb]
        simp only [Bool.false_eq_true, if_false, Int32.or_zero]
        exact l6.2.1
      · rw [if_pos rfl]
        refine ok_some ⟨_, rfl, nI_1 k, fr_trans h2 (fr_trans f6 (fr_mset (vw5 (Or.inr rfl)))), ?_, ?_, ?_⟩
        · dsimp only
          rw [mset_k (by decide)]; exact l6.1
        · dsimp only
          rw [mset_at, bset, hpb, if_pos rfl, l6.2.1]
          rfl
        · intro j hj
          obtain ⟨d1, d2, d3⟩ := base j hj
          refine ⟨?_, ?_, fun o ho => ?_⟩
          · dsimp only
            rw [mset_ne (by decide)]; exact d1
          · dsimp only
            rw [mset_ne (by decide)]; exact d2
          · dsimp only
            rw [mset_ne (zne (by decide))]; exact d3 o ho
    have hpw : v 4 < zabs (sendS L c v k) ↔ ¬ (-(v 4) ≤ sendS L c v k ∧ sendS L c v k ≤ v 4) := zabs_lt (send_rng hB hb hk) (by omega) (by omega) (rng_mono hB.2.1 (by omega) (by omega))
    rw [zlt_s]
    by_cases c3 : nd v k 3 = 2
    · rw [if_pos c3]
      by_cases c4 : nd v k 9 = 2
      · rw [if_pos c4]
        exact fin false (by unfold passB; simp [c4])
      · rw [if_neg c4]
        by_cases c5 : -(v 4) ≤ sendS L c v k ∧ sendS L c v k ≤ v 4
        · rw [if_neg (fun q => (hpw.mp q) c5), zlt_s, x11_bit]
          exact fin true (by unfold passB; simp [c3, c4, c5])
        · rw [if_pos (hpw.mpr c5)]
          exact fin false (by unfold passB; simp only [decide_eq_false c5, Bool.and_false])
    · rw [if_neg c3]
      exact fin false (by unfold passB; simp [c3])
  · rintro ⟨i, μ1⟩ ⟨h1, h2, h4⟩
    dsimp only at h1 h2 h4
    subst h1
    rw [un2_s]
    rw [if_pos (cond_end (CS_c (CS_vw h h2)) h8)]
    exact ok_some ⟨_, rfl, h2, h4⟩
  · dsimp only
    rw [mset_k (by decide), mset_at]
  · dsimp only
    rw [mset_at]
    rfl
  · rintro μ1 ⟨h2, h4⟩
    refine ok_bd (ok_mono (ok_seq c (fun k s' => s'.1 = nI k ∧ fr (oP (0, 7, 0)) μ1 s'.2 ∧ ∀ j, j < k → s'.2 (0, 7, 0) j = heardS L c v j) ?_ ?_ (Q := fun μ2 => fr (oP (0, 7, 0)) μ1 μ2 ∧ ∀ j, j < c → μ2 (0, 7, 0) j = heardS L c v j) ⟨rfl, fr_refl, fun j hj => absurd hj (by omega)⟩ (FU_lt (by omega))) ?_)
    · rintro k ⟨i, μ2⟩ hk ⟨k1, k2, k4⟩
      dsimp only at k1 k2 k4
      subst k1
      have hC := CS_vw h (fr_trans h2 (fr_mono k2 (fun o i h => by cases h; exact vw7)))
      rw [un2_s]
      rw [if_neg (cond_le (CS_c hC) h8 hk), gd_eq (zin_nI (by omega) (by omega)), nI_cl (by omega), zlt_s]
      refine ok_bd (ok_mono (ok_seq c (fun o s' => s'.1 = nI o ∧ fr (fun o' i' => o' = (0, 7, 0) ∧ i' = k) μ2 s'.2 ∧ s'.2 (0, 7, 0) k = bset (fun o => decide (o ≠ k) && hearB L c v k o) o) ?_ ?_ (Q := fun μ3 => fr (fun o' i' => o' = (0, 7, 0) ∧ i' = k) μ2 μ3 ∧ μ3 (0, 7, 0) k = heardS L c v k) ⟨rfl, fr_mset ⟨rfl, rfl⟩, ?_⟩ (FU_lt (by omega))) ?_)
      · rintro o ⟨i, μ3⟩ ho ⟨j1, j2, j4⟩
        dsimp only at j1 j2 j4
        subst j1
        have hC3 := CS_vw hC (fr_mono j2 (fun o i h => by cases h.1; exact vw7))
        have e7 : μ3 (7, o, 0) k = shiftS L c v o k := by
          rw [fr_at j2 (fun i h => zne (by decide) h.1), fr_at k2 (fun i => show ¬ ((7, o, 0) : ZId) = (0, 7, 0) from zne (by decide))]
          exact (h4.2.2 o ho).2.2 k hk
        have ho8 : o < 8 := by omega
        rw [un2_s, if_neg (cond_le (CS_c hC3) h8 ho)]
        by_cases e : o = k
        · rw [if_pos (by rw [e]), bd_s]
          refine ok_some ⟨_, rfl, nI_1 o, j2, ?_⟩
          rw [bset, e]
          simp only [ne_eq, not_true_eq_false, decide_false, Bool.false_and, Bool.false_eq_true, if_false, Int32.or_zero]
          rw [← e]
          exact e ▸ j4
        · rw [if_neg (by rw [nI_eq (by omega) (by omega)]; exact fun q => e q.symm), gd_eq (zin_nI (by omega) (by omega)), nI_cl (show o < 2 ^ 31 by omega), e7, CS_nd hC3 hk (by omega), CS_pre hC3, x11_bit]
          have hpw : v 5 < zabs (shiftS L c v o k - nd v k 0) ↔ ¬ (-(v 5) ≤ offS L c v o k ∧ offS L c v o k ≤ v 5) := zabs_lt (off_rng hB hb hk ho) (by omega) (by omega) (rng_mono hB.2.2.1 (by omega) (by omega))
          by_cases c5 : -(v 5) ≤ offS L c v o k ∧ offS L c v o k ≤ v 5
          · rw [if_neg (fun q => (hpw.mp q) c5), zlt_s, bd_s]
            refine ok_some ⟨_, rfl, nI_1 o, fr_trans j2 (fr_mset ⟨rfl, rfl⟩), ?_⟩
            dsimp only
            rw [mset_at, j4, bset, show (decide (o ≠ k) && hearB L c v k o) = true by unfold hearB; simp [e, c5], if_pos rfl]
            rfl
          · rw [if_pos (hpw.mpr c5), bd_s]
            refine ok_some ⟨_, rfl, nI_1 o, j2, ?_⟩
            show μ3 _ _ = _
            rw [j4, bset, show (decide (o ≠ k) && hearB L c v k o) = false by unfold hearB; rw [decide_eq_false c5, Bool.and_false]]
            simp
      · rintro ⟨i, μ3⟩ ⟨j1, j2, j4⟩
        dsimp only at j1 j2 j4
        subst j1
        have hC3 := CS_vw hC (fr_mono j2 (fun o i h => by cases h.1; exact vw7))
        rw [un2_s, if_pos (cond_end (CS_c hC3) h8)]
        exact ok_some ⟨_, rfl, j2, j4⟩
      · dsimp only
        rw [mset_at]
        rfl
      · rintro μ3 ⟨j2, j4⟩
        refine ok_some ⟨_, rfl, nI_1 k, fr_trans k2 (fr_mono j2 (fun o i h => h.1)), ?_⟩
        intro j hj
        by_cases e : j = k
        · subst e; exact j4
        · show μ3 _ _ = _
          rw [j2.1 (0, 7, 0) j (fun q => e q.2)]
          exact k4 j (by omega)
    · rintro ⟨i, μ2⟩ ⟨k1, k2, k4⟩
      dsimp only at k1 k2 k4
      subst k1
      have hC := CS_vw h (fr_trans h2 (fr_mono k2 (fun o i h => by cases h; exact vw7)))
      rw [un2_s]
      rw [if_pos (cond_end (CS_c hC) h8)]
      exact ok_some ⟨_, rfl, k2, k4⟩
    · rintro μ2 ⟨k2, k4⟩
      have f2 : fr viewP μ μ2 := fr_trans h2 (fr_mono k2 (fun o i h => by cases h; exact vw7))
      refine ok_some ⟨CS_vw h f2, f2, ⟨?_, ?_, ?_⟩, k4⟩
      · rw [fr_at k2 (fun i => show ¬ ((0, 5, 0) : ZId) = (0, 7, 0) by decide)]; exact h4.1
      · rw [fr_at k2 (fun i => show ¬ ((0, 5, 0) : ZId) = (0, 7, 0) by decide)]; exact h4.2.1
      · intro j hj
        obtain ⟨d1, d2, d3⟩ := h4.2.2 j hj
        refine ⟨?_, ?_, fun o ho => ?_⟩
        · rw [fr_at k2 (fun i => show ¬ ((0, 8, 0) : ZId) = (0, 7, 0) by decide)]; exact d1
        · rw [fr_at k2 (fun i => show ¬ ((0, 9, 0) : ZId) = (0, 7, 0) by decide)]; exact d2
        · rw [fr_at k2 (fun i => show ¬ ((7, j, 0) : ZId) = (0, 7, 0) from zne (by decide))]; exact d3 o ho
