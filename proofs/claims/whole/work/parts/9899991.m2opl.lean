/-! the pure pair of law: together -/
section MOQ
variable {y : ZLay}
theorem mext_ne {μ : ZMem} {n : Nat} {x : Int32} {g0 g1 g2 g3 : Nat → Int32} {o : ZId} (h : o.2.1 ≠ n ∨ (o.1 ≠ 5 ∧ o.1 ≠ 6)) : mext μ n x g0 g1 g2 g3 o = μ o := by
  unfold mext
  rw [if_neg (by omega), if_neg (by omega)]
theorem OPL_of (hny : znl y < 1000000) : OPL y := by
  rintro μ hw ⟨S, tp, tl, fa, kp, ac, hc, hm, ho⟩
  obtain ⟨μ8, e8, f8, pf, pl⟩ := c_lawPre hc ho
  have hm8 := lp_md hm f8
  obtain ⟨q, eq, fq, qf, ql⟩ := m_lawX hm8 ho (fun f hf => (pf f hf).1)
  refine ⟨μ8, e8, fun h => ?_, fun h => ?_, fun r y' μ' h => ?_⟩
  · cases hp : pLaw tp tl with
    | inl f =>
      obtain ⟨p1, p2, -⟩ := pf f hp
      exact (nI_ne1 (show f ≤ 1000 by omega) (p2.symm.trans h)).elim
    | inr ls =>
      obtain ⟨-, -, l1, l2, l3⟩ := pl ls hp
      exact ⟨ls.length, (fl ls).length, l3.1, l3.2.1, l2, l1.1⟩
  · cases hp : pLaw tp tl with
    | inl f =>
      obtain ⟨p1, p2, p3⟩ := pf f hp
      obtain ⟨a1, a2⟩ := qf f hp
      exact ⟨q, eq, a1, S, tp, 0, nI f, kp, ac, RC_md p3 fq, a2, OA_use ho⟩
    | inr ls => exact (h (pl ls hp).1).elim
  · obtain ⟨t, a0, a1, a2, a3, nl, ml, g0, g1, g2, g3, w, en, em, hnl, hml, r0, r1, r2, r3, hy', hμ', hr⟩ := h
    cases hp : pLaw tp tl with
    | inl f =>
      obtain ⟨p1, p2, -⟩ := pf f hp
      exact (nI_ne1 (show f ≤ 1000 by omega) (p2.symm.trans w)).elim
    | inr ls =>
      obtain ⟨-, rc8, l1, l2, l3⟩ := pl ls hp
      have enl : nl = ls.length := (nI_inj' (by omega) (by have := l3.1; omega)).mp (en.symm.trans l2)
      have eml : ml = (fl ls).length := (nI_inj' (by omega) (by have := l3.2.1; omega)).mp (em.symm.trans l1.1)
      obtain ⟨μx, hμx⟩ : ∃ μx, μx = mset μ' (0, 31, 0) 0 r := ⟨_, rfl⟩
      rw [← hμx]
      have nx : ∀ o i, ¬ (o.2.1 = znl y ∧ (o.1 = 5 ∨ o.1 = 6)) → ¬ (o = (1, 0, 0) ∧ i = 10) → ¬ (o = (0, 2, 0) ∧ i = 2) → ¬ (o = (0, 31, 0)) → μx o i = μ8 o i := by
        intro o i h1 h2 h3 h4
        rw [hμx, hμ', mset_ne h4]
        have q1 : ∀ (μ0 : ZMem), mset μ0 (0, 2, 0) 2 0 o i = μ0 o i := fun μ0 => by
          unfold mset; rw [if_neg (fun z => h3 z)]
        have q2 : ∀ (μ0 : ZMem), mset μ0 (1, 0, 0) 10 (nI (znl y)) o i = μ0 o i := fun μ0 => by
          unfold mset; rw [if_neg (fun z => h2 z)]
        rw [q1, q2, mext_ne (by omega)]
      have hmx : RMo μx S tp tl fa kp ac := by
        obtain ⟨m1, m2, m3, m4, m5, m6, m7, m8⟩ := hm8
        have nm : ∀ j i, 32 ≤ j → μx (0, j, 0) i = μ8 (0, j, 0) i := fun j i hj => nx _ _ (by rintro ⟨-, h | h⟩; exact absurd h (show ¬ (0 : Nat) = 5 by decide); exact absurd h (show ¬ (0 : Nat) = 6 by decide)) (by rintro ⟨h, -⟩; exact absurd (congrArg (fun q : ZId => q.1) h) (show ¬ (0 : Nat) = 1 by decide)) (by rintro ⟨h, -⟩; have : j = 2 := congrArg (fun q : ZId => q.2.1) h; omega) (by intro h; have : j = 31 := congrArg (fun q : ZId => q.2.1) h; omega)
        refine ⟨(funext fun i => nm 33 i (by omega)).trans m1, fun i hi => (nm 37 i (by omega)).trans (m2 i hi), (nm 32 8 (by omega)).trans m3, (nm 32 12 (by omega)).trans m4, ?_, (nm 32 6 (by omega)).trans m6, fun i hi j hj => (nm 36 _ (by omega)).trans (m7 i hi j hj), ?_⟩
        · cases kp with
          | none => exact (nm 32 3 (by omega)).trans m5
          | some K => exact ⟨(nm 32 3 (by omega)).trans m5.1, fun j hj => (nm 34 j (by omega)).trans (m5.2 j hj)⟩
        · obtain ⟨⟨j, hj, e⟩, hz⟩ := m8
          exact ⟨⟨j, hj, (nm 38 0 (by omega)).trans e⟩, by rw [nm 32 15 (by omega)]; exact hz⟩
      obtain ⟨qx, eqx, fqx, -, qlx⟩ := m_lawX hmx ho (fun f hf => (pf f hf).1)
      obtain ⟨b1, b2, b3⟩ := qlx ls hp
      refine ⟨qx, eqx, b1, ?_, (S.1, lawV S.2.1 (nI ls.length) tl tp, lawOf ls), tp, 0, -1, kp, [], RC_md ?_ fqx, b3, OA_law ho hp l3⟩
      · rw [b2, hr, enl]
      have nS : ∀ a s k i, a ≠ 5 → a ≠ 6 → a ≠ 0 → (a ≠ 1 ∨ s ≠ 0 ∨ i ≠ 10) → μx (a, s, k) i = μ8 (a, s, k) i := fun a s k i h5 h6 h0 h1 => nx _ _ (by rintro ⟨-, h | h⟩; exact h5 h; exact h6 h) (by
        rintro ⟨h, h'⟩
        rcases h1 with h1 | h1 | h1
        · exact h1 (congrArg (fun q : ZId => q.1) h)
        · exact h1 (congrArg (fun q : ZId => q.2.1) h)
        · exact h1 h') (by rintro ⟨h, -⟩; exact h0 (congrArg (fun q : ZId => q.1) h)) (by intro h; exact h0 (congrArg (fun q : ZId => q.1) h))
      have n0 : ∀ i, μx (0, 0, 0) i = μ8 (0, 0, 0) i := fun i => nx _ _ (by rintro ⟨-, h | h⟩; exact absurd h (show ¬ (0 : Nat) = 5 by decide); exact absurd h (show ¬ (0 : Nat) = 6 by decide)) (by rintro ⟨h, -⟩; exact absurd h (by decide)) (by rintro ⟨h, -⟩; exact absurd h (by decide)) (by decide)
      have n2 : μx (0, 2, 0) 1 = μ8 (0, 2, 0) 1 := nx _ _ (by rintro ⟨-, h | h⟩; exact absurd h (show ¬ (0 : Nat) = 5 by decide); exact absurd h (show ¬ (0 : Nat) = 6 by decide)) (by rintro ⟨h, -⟩; exact absurd h (by decide)) (by rintro ⟨-, h⟩; omega) (by decide)
      have z2 : μx (0, 2, 0) 2 = 0 := by rw [hμx, hμ', mset_ne (by decide), mset_at]
      have e10 : μx (1, 0, 0) 10 = nI (znl y) := by rw [hμx, hμ', mset_ne (by decide), mset_ne (by decide), mset_at]
      have el : lno μx 0 = znl y := by unfold lno; rw [e10, nI_cl (by omega)]
      have n5 : μx (5, znl y, 0) 0 = nI nl := by
        rw [hμx, hμ', mset_ne (zne (by decide)), mset_ne (zne (by decide)), mset_ne (zne (by decide))]
        show (if znl y = znl y ∧ (5 : Nat) = 5 then (fun _ => nI nl) else _ : Nat → Int32) 0 = _
        rw [if_pos ⟨rfl, rfl⟩]
      have n6 : ∀ j, μx (6, znl y, j) = if j = 0 then g0 else if j = 1 then g1 else if j = 2 then g2 else if j = 3 then g3 else fun _ => 0 := fun j => by
        rw [hμx, hμ', mset_ne (zne (by decide)), mset_ne (zne (by decide)), mset_ne (zne (by decide))]
        show (if znl y = znl y ∧ (6 : Nat) = 5 then (fun _ => nI nl) else if znl y = znl y ∧ (6 : Nat) = 6 then _ else _ : Nat → Int32) = _
        rw [if_neg (by omega), if_pos ⟨rfl, rfl⟩]
      have z6 : ∀ j, j ≠ 4 → zlen y' (6, znl y, j) = if j = 3 then ml else if j = 2 then nl + 1 else nl := fun j hj => by
        rw [hy']
        show (if j = 4 then 32 else if znl y = znl y then (if j = 3 then ml else if j = 2 then nl + 1 else nl) else y.2.2.1 (znl y) j) = _
        rw [if_neg hj, if_pos rfl]
      obtain ⟨s0, -, c1, c2, ck, x9, k1, k2, -, -⟩ := rc8
      obtain ⟨s1, s2, -, -⟩ := s0
      obtain ⟨m1, m2, m3⟩ := l1
      refine ⟨⟨CS_same s1 (fun i hi => nS 1 0 0 i (by decide) (by decide) (by decide) (Or.inr (Or.inr hi))) (fun i _ => nS 4 0 0 i (by decide) (by decide) (by decide) (Or.inl (by decide))) (fun k _ w _ => nS 3 0 k w (by decide) (by decide) (by decide) (Or.inl (by decide))) (fun i h1 h2 => lawV_mid h1 h2), ?_, ?_, ?_⟩, fun i hi => absurd hi (by omega), (n0 1).trans c1, (n0 2).trans c2, ?_, x9, k1, n2.trans k2, z2, fun i hi => absurd hi (by simp)⟩
      · rw [nS 1 0 0 9 (by decide) (by decide) (by decide) (Or.inr (Or.inr (by decide))), s2]
        show _ = lawV S.2.1 (nI ls.length) tl tp 0
        unfold lawV
        rw [if_neg (by omega), if_neg (by omega), if_neg (by omega)]
      · rw [el]
        refine LawC_of (ls := ls) ⟨l3, by rw [n5, enl], by rw [z6 _ (by decide), if_neg (by omega), if_neg (by omega), enl], by rw [z6 _ (by decide), if_neg (by omega), if_neg (by omega), enl], by rw [z6 _ (by decide), if_neg (by omega), if_pos rfl, enl], by rw [z6 _ (by decide), if_pos rfl, eml], fun i hi => ?_, fun j hj => ⟨?_, ?_, ?_, ?_⟩⟩
        · rw [n6, if_neg (by omega), if_neg (by omega), if_neg (by omega), if_pos rfl, r3 i (by omega)]
          exact m2 i hi
        · rw [n6, if_pos rfl, r0 j (by omega)]
          exact (m3 j hj).1
        · rw [n6, if_neg (by omega), if_pos rfl, r1 j (by omega)]
          exact (m3 j hj).2.1
        · rw [n6, if_neg (by omega), if_neg (by omega), if_pos rfl, r2 j (by omega)]
          exact (m3 j hj).2.2.1
        · rw [n6, if_neg (by omega), if_neg (by omega), if_pos rfl, r2 (j + 1) (by omega)]
          exact (m3 j hj).2.2.2
      · rw [el, n5, enl]
        show _ = lawV S.2.1 (nI ls.length) tl tp 1
        unfold lawV
        rw [if_pos rfl]
      · cases kp with
        | none => exact (n0 6).trans ck
        | some K =>
          have hlt : lno μ8 2 < znl y := by
            unfold lno
            rw [f8.1 (1, 2, 0) 10 (by unfold lpP scP; simp)]
            exact hw 2 (by omega)
          refine ⟨(n0 6).trans ck.1, SS_grow ck.2 (fun i => nS 1 2 0 i (by decide) (by decide) (by decide) (Or.inr (Or.inl (by decide)))) (fun i _ => nS 4 2 0 i (by decide) (by decide) (by decide) (Or.inl (by decide))) (fun k _ w _ => nS 3 2 k w (by decide) (by decide) (by decide) (Or.inl (by decide))) (fun j _ => funext fun i => ?_) (funext fun i => ?_) (fun j => ?_)⟩
          · exact nx _ _ (fun h => absurd h.1 (by show ¬ lno μ8 2 = znl y; omega)) (fun h => absurd (congrArg (fun q : ZId => q.1) h.1) (show ¬ (6 : Nat) = 1 by decide)) (fun h => absurd (congrArg (fun q : ZId => q.1) h.1) (show ¬ (6 : Nat) = 0 by decide)) (fun h => absurd (congrArg (fun q : ZId => q.1) h) (show ¬ (6 : Nat) = 0 by decide))
          · exact nx _ _ (fun h => absurd h.1 (by show ¬ lno μ8 2 = znl y; omega)) (fun h => absurd (congrArg (fun q : ZId => q.1) h.1) (show ¬ (5 : Nat) = 1 by decide)) (fun h => absurd (congrArg (fun q : ZId => q.1) h.1) (show ¬ (5 : Nat) = 0 by decide)) (fun h => absurd (congrArg (fun q : ZId => q.1) h) (show ¬ (5 : Nat) = 0 by decide))
          · rw [hy']
            show (if j = 4 then 32 else if lno μ8 2 = znl y then _ else y.2.2.1 (lno μ8 2) j) = if j = 4 then 32 else y.2.2.1 (lno μ8 2) j
            rw [if_neg (show ¬ lno μ8 2 = znl y by omega)]
end MOQ
