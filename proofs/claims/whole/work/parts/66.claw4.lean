/-! the class reads a law: lines -/
def fl (ls : List LN) : List Int32 := ls.flatMap (fun q => q.2.2)
theorem fl_app (a : List LN) (l : LN) : fl (a ++ [l]) = fl a ++ l.2.2 := by unfold fl; rw [List.flatMap_append]; simp
def lnD : LN := (0, 0, [])
def LL (μ : ZMem) (ls : List LN) : Prop := μ (0, 24, 0) 6 = nI (fl ls).length ∧ (∀ i, i < (fl ls).length → μ (0, 28, 0) i = (fl ls).getD i 0) ∧
  ∀ j, j < ls.length → μ (0, 25, 0) j = nI (1010 + (ls.getD j lnD).1) ∧ μ (0, 26, 0) j = (ls.getD j lnD).2.1 ∧ μ (0, 27, 0) j = nI (fl (ls.take j)).length ∧ μ (0, 27, 0) (j + 1) = nI (fl (ls.take (j + 1))).length
def llP (o : ZId) (i : Nat) : Prop := lrP o i ∨ (o = (0, 24, 0) ∧ i = 5) ∨ o = (0, 25, 0) ∨ o = (0, 26, 0) ∨ o = (0, 27, 0)
theorem lr_ll {o : ZId} {i : Nat} (h : lrP o i) : llP o i := Or.inl h
theorem ll25 {i : Nat} : llP (0, 25, 0) i := Or.inr (Or.inr (Or.inl rfl))
theorem ll26 {i : Nat} : llP (0, 26, 0) i := Or.inr (Or.inr (Or.inr (Or.inl rfl)))
theorem ll27 {i : Nat} : llP (0, 27, 0) i := Or.inr (Or.inr (Or.inr (Or.inr rfl)))
theorem ll5 : llP (0, 24, 0) 5 := Or.inr (Or.inl ⟨rfl, rfl⟩)
section CY
variable {T : Vec} {e N : Nat}
theorem kd_eq {x : Int32} (h1 : 1010 ≤ x ∧ x ≤ 1012) : ∃ k : Nat, k < 3 ∧ x = nI (1010 + k) ∧ (x - 1010).toNatClampNeg = k := by
  obtain ⟨a1, a2⟩ := h1
  rw [Int32.le_iff_toInt_le] at a1 a2
  have e1 : (1010 : Int32).toInt = 1010 := by decide
  have e2 : (1012 : Int32).toInt = 1012 := by decide
  have ee : x = nI x.toInt.toNat := by
    apply Int32.toInt_inj.mp
    rw [nI_toInt (by omega)]
    omega
  refine ⟨x.toInt.toNat - 1010, by omega, ?_, ?_⟩
  · rw [show 1010 + (x.toInt.toNat - 1010) = x.toInt.toNat by omega]
    exact ee
  · rw [ee, show (1010 : Int32) = nI 1010 from rfl, nI_sub (by omega), nI_cl (by omega), nI_toInt (by omega)]
    omega
theorem line_g (he : e ≤ 400) {q : Nat} (hg : gq T e q) : (∀ f, pLine T e q = .inl f → f ≤ e) ∧ ∀ q' l, pLine T e q = .inr (q', l) → gq T e q' ∧ q < q' ∧ q + l.2.2.length ≤ q' ∧ cd T e q = nI (1010 + l.1) ∧ l.1 < 3 ∧ ∃ b : Nat, b ≤ 99 ∧ l.2.1 = nI b := by
  unfold pLine
  by_cases h1 : 1010 ≤ cd T e q ∧ cd T e q ≤ 1012
  · rw [if_pos h1]
    have hq1 : q < e := cd_lt (n3001 h1.2 (by decide))
    have n1 := nx_lt (T := T) he hq1
    have ek := kd_eq h1
    obtain ⟨k, k1, k2, k3⟩ := ek
    by_cases h2 : 0 ≤ cd T e (nx T e q) ∧ cd T e (nx T e q) ≤ 99
    · rw [if_pos h2]
      have hq2 : nx T e q < e := cd_lt (n3001 h2.2 (by decide))
      have n2 := nx_lt (T := T) he hq2
      have eb : ∃ b : Nat, b ≤ 99 ∧ cd T e (nx T e q) = nI b := by
        obtain ⟨a1, a2⟩ := h2
        rw [Int32.le_iff_toInt_le] at a1 a2
        have e1 : (0 : Int32).toInt = 0 := by decide
        have e2 : (99 : Int32).toInt = 99 := by decide
        refine ⟨(cd T e (nx T e q)).toInt.toNat, by omega, ?_⟩
        apply Int32.toInt_inj.mp
        rw [nI_toInt (by omega)]
        omega
      by_cases h3 : cd T e (nx T e (nx T e q)) = 1013
      · rw [if_pos h3]
        have hq3 : nx T e (nx T e q) < e := cd_lt (by rw [h3]; decide)
        have n3 := nx_lt (T := T) he hq3
        obtain ⟨p1, p2⟩ := some_g he (atom_g (T := T) he 6) _ (gq_nx he hq3)
        cases hs : pSome T e (pAtom T e 6) (nx T e (nx T e (nx T e q))) with
        | inl f => exact ⟨fun f' h => (by cases h; exact p1 f hs), fun q' l h => by cases h⟩
        | inr qc =>
          obtain ⟨a, b, c⟩ := p2 qc.1 qc.2 hs
          refine ⟨fun f' h => (by cases h), fun q' l h => ?_⟩
          cases h
          exact ⟨a, by omega, by dsimp only; omega, by dsimp only; rw [k3]; exact k2, by dsimp only; omega, eb⟩
      · rw [if_neg h3]
        refine ⟨fun f' h => (by cases h), fun q' l h => ?_⟩
        cases h
        exact ⟨gq_nx he hq2, by omega, by simp; omega, by dsimp only; rw [k3]; exact k2, by dsimp only; omega, eb⟩
    · rw [if_neg h2]
      exact ⟨fun f' h => (by cases h; omega), fun q' l h => by cases h⟩
  · rw [if_neg h1]
    exact ⟨fun f' h => (by cases h; exact hg.1), fun q' l h => by cases h⟩
theorem ll_p {P : ZId → Nat → Prop} (hP : ∀ o i, P o i → o = (0, 25, 0) ∨ o = (0, 26, 0) ∨ o = (0, 27, 0) ∨ (o = (0, 24, 0) ∧ i = 5)) : (¬ P (0, 20, 0) 0 ∧ ¬ P (0, 20, 0) 3 ∧ ¬ P (0, 20, 0) 4) ∧ ∀ i, ¬ P (0, 21, 0) i ∧ ¬ P (0, 22, 0) i := by
  have key : ∀ o i, (o = (0, 20, 0) ∨ o = (0, 21, 0) ∨ o = (0, 22, 0)) → ¬ P o i := by
    intro o i ho h
    rcases ho with rfl | rfl | rfl <;> rcases hP _ _ h with h | h | h | ⟨h, -⟩ <;> exact absurd h (by decide)
  exact ⟨⟨key _ _ (Or.inl rfl), key _ _ (Or.inl rfl), key _ _ (Or.inl rfl)⟩, fun i => ⟨key _ _ (Or.inr (Or.inl rfl)), key _ _ (Or.inr (Or.inr rfl))⟩⟩
def l4P (o : ZId) (i : Nat) : Prop := o = (0, 25, 0) ∨ o = (0, 26, 0) ∨ o = (0, 27, 0) ∨ (o = (0, 24, 0) ∧ i = 5)
theorem l4_ll {o : ZId} {i : Nat} (h : l4P o i) : llP o i := by
  rcases h with rfl | rfl | rfl | ⟨rfl, rfl⟩
  · exact ll25
  · exact ll26
  · exact ll27
  · exact ll5
theorem CP_l4 {μ μ' : ZMem} {q : Nat} (h : CP μ T e N q) (f : fr l4P μ μ') : CP μ' T e N q := CP_fr h f (ll_p (fun o i h => h))
theorem l46 : ¬ l4P (0, 24, 0) 6 := by
  rintro (h | h | h | ⟨-, h⟩)
  · exact absurd h (by decide)
  · exact absurd h (by decide)
  · exact absurd h (by decide)
  · omega
theorem l428 {i : Nat} : ¬ l4P (0, 28, 0) i := by
  rintro (h | h | h | ⟨h, -⟩) <;> exact absurd h (by decide)
theorem FQ_l4 {μ μ' : ZMem} {f : Nat} (h : FQ μ T e N f) (g : fr l4P μ μ') : FQ μ' T e N f := by
  obtain ⟨h1, n, hn, hl⟩ := h
  exact ⟨FP_fr h1 g (ll_p (fun o i h => h)), n, hn, by rw [g.1 _ _ l46]; exact hl⟩
theorem getD_app_l {a : List LN} {l : LN} {j : Nat} (h : j < a.length) : (a ++ [l]).getD j lnD = a.getD j lnD := by
  rw [List.getD_eq_getElem?_getD, List.getD_eq_getElem?_getD, List.getElem?_append_left h]
theorem getD_app_r {a : List LN} {l : LN} : (a ++ [l]).getD a.length lnD = l := by
  rw [List.getD_eq_getElem?_getD, List.getElem?_append_right (Nat.le_refl _), Nat.sub_self]
  rfl
theorem getI_app {a b : List Int32} {i : Nat} : (a ++ b).getD i 0 = if i < a.length then a.getD i 0 else b.getD (i - a.length) 0 := by
  by_cases h : i < a.length
  · rw [if_pos h, List.getD_eq_getElem?_getD, List.getD_eq_getElem?_getD, List.getElem?_append_left h]
  · rw [if_neg h, List.getD_eq_getElem?_getD, List.getD_eq_getElem?_getD, List.getElem?_append_right (by omega)]
/-- a line more -/
theorem LL_more {μ μ' : ZMem} {ls : List LN} {l : LN} (h : LL μ ls) (h6 : μ' (0, 24, 0) 6 = nI ((fl ls).length + l.2.2.length)) (hc : ∀ i, i < (fl ls).length + l.2.2.length → μ' (0, 28, 0) i = if i < (fl ls).length then μ (0, 28, 0) i else l.2.2.getD (i - (fl ls).length) 0)
    (h25 : ∀ j, μ' (0, 25, 0) j = if j = ls.length then nI (1010 + l.1) else μ (0, 25, 0) j) (h26 : ∀ j, μ' (0, 26, 0) j = if j = ls.length then l.2.1 else μ (0, 26, 0) j)
    (h27 : ∀ j, μ' (0, 27, 0) j = if j = ls.length + 1 then nI ((fl ls).length + l.2.2.length) else if j = ls.length then nI (fl ls).length else μ (0, 27, 0) j) : LL μ' (ls ++ [l]) := by
  obtain ⟨a1, a2, a3⟩ := h
  refine ⟨by rw [fl_app, List.length_append]; exact h6, ?_, ?_⟩
  · intro i hi
    rw [fl_app, List.length_append] at hi
    rw [hc i hi, fl_app, getI_app]
    by_cases c : i < (fl ls).length
    · rw [if_pos c, if_pos c]; exact a2 i c
    · rw [if_neg c, if_neg c]
  · intro j hj
    rw [List.length_append, List.length_singleton] at hj
    rw [h25, h26, h27, h27]
    by_cases ej : j = ls.length
    · subst ej
      rw [if_pos rfl, if_pos rfl, if_neg (by omega), if_pos rfl, if_pos rfl, getD_app_r, List.take_append_of_le_length (Nat.le_refl _), List.take_length]
      refine ⟨rfl, rfl, rfl, ?_⟩
      rw [List.take_of_length_le (by simp), fl_app, List.length_append]
    · have hj' : j < ls.length := by omega
      obtain ⟨b1, b2, b3, b4⟩ := a3 j hj'
      rw [if_neg ej, if_neg ej, if_neg (by omega), if_neg ej, if_neg (by omega), getD_app_l hj', List.take_append_of_le_length (by omega), List.take_append_of_le_length (by omega)]
      refine ⟨b1, b2, b3, ?_⟩
      by_cases e2 : j + 1 = ls.length
      · rw [if_pos e2, List.take_of_length_le (by omega)]
      · rw [if_neg e2]; exact b4
def lnOut (T : Vec) (e N : Nat) (μ : ZMem) (ls : List LN) (R : Nat ⊕ (Nat × LN)) (μ' : ZMem) : Prop := fr llP μ μ' ∧ (∀ f, R = .inl f → FQ μ' T e N f) ∧ ∀ q' l, R = .inr (q', l) → CP μ' T e N q' ∧ LL μ' (ls ++ [l]) ∧ μ' (0, 24, 0) 5 = nI (ls.length + 1)
theorem c_readLine (he : e ≤ 400) {μ : ZMem} {q : Nat} {ls : List LN} (hC : CP μ T e N q) (hL : LL μ ls) (hn : (fl ls).length ≤ q) (hg : gq T e q) (hk : ls.length < 12) :
    ok (f_X4_readLine (nI ls.length) μ) (lnOut T e N μ ls (pLine T e q)) := by
  have hqe := hg.1
  unfold f_X4_readLine
  refine ok_b2 (c_takeAny hC (by decide)) ?_
  rintro x μ1 ⟨t1, t2, t3⟩
  dsimp only at t1 t2 t3
  have l6 : μ1 (0, 24, 0) 6 = nI (fl ls).length := by rw [t2.1 _ _ (by rintro ⟨h, -⟩; exact absurd h (by decide))]; exact hL.1
  have g1 : fr llP μ μ1 := fr_mono t2 (fun o i h => lr_ll (rd_lr h))
  rw [jk_s]
  unfold pLine
  by_cases h1 : 1010 ≤ cd T e q ∧ cd T e q ≤ 1012
  · rw [if_pos h1] at t1 t3
    rw [if_pos h1]
    subst t1
    have hq1 : q < e := cd_lt (n3001 h1.2 (by decide))
    have n1 := nx_lt (T := T) he hq1
    rw [if_neg (show ¬ cd T e q = -1 by intro h; rw [h] at h1; exact absurd h1.1 (by decide)), if_neg (show ¬ nI ls.length < 0 from nI_nlt (a := ls.length) (b := 0) (by omega) (by omega)), if_pos (show nI ls.length < (12 : Int32) from nI_lt (b := 12) hk (by omega)), gd_eq (zin_nI hk (by omega)), nI_cl (by omega), zlt_s]
    have c2 := CP_l4 t3 (fr_mset (μ := μ1) (o := (0, 25, 0)) (k := ls.length) (x := cd T e q) (P := l4P) (Or.inl rfl))
    have g2 : fr llP μ (mset μ1 (0, 25, 0) ls.length (cd T e q)) := fr_trans g1 (fr_mset ll25)
    have l62 : (mset μ1 (0, 25, 0) ls.length (cd T e q)) (0, 24, 0) 6 = nI (fl ls).length := by rw [mset_ne (by decide)]; exact l6
    obtain ⟨μ2, hμ2⟩ : ∃ μ2, μ2 = mset μ1 (0, 25, 0) ls.length (cd T e q) := ⟨_, rfl⟩
    rw [← hμ2] at c2 g2 l62 ⊢
    refine ok_b2 (c_takeNumber (by omega) c2 (by decide)) ?_
    rintro x11 μ3 ⟨u1, u2, u3⟩
    dsimp only at u1 u2 u3
    have l63 : μ3 (0, 24, 0) 6 = nI (fl ls).length := by rw [u1.1 _ _ (by rintro ⟨h, -⟩; exact absurd h (by decide))]; exact l62
    have g3 : fr llP μ μ3 := fr_trans g2 (fr_mono u1 (fun o i h => lr_ll (rd_lr h)))
    rw [zlt_s, gd_eq (zin_nI (by omega) (by omega)), zlt_s, mset_ne (by decide), l63]
    obtain ⟨μ4, hμ4⟩ : ∃ μ4, μ4 = mset (mset μ3 (0, 26, 0) ls.length x11) (0, 27, 0) ls.length (nI (fl ls).length) := ⟨_, rfl⟩
    have f34 : fr l4P μ3 μ4 := by rw [hμ4]; exact fr_trans (fr_mset (Or.inr (Or.inl rfl))) (fr_mset (Or.inr (Or.inr (Or.inl rfl))))
    have g4 : fr llP μ μ4 := fr_trans g3 (fr_mono f34 (fun o i h => l4_ll h))
    rw [← hμ4]
    have l64 : μ4 (0, 24, 0) 6 = nI (fl ls).length := by rw [f34.1 _ _ l46]; exact l63
    have last : ∀ μ5 : ZMem, fr l4P μ5 (mset (mset μ5 (0, 27, 0) (ls.length + 1) (μ5 (0, 24, 0) 6)) (0, 24, 0) 5 (nI ls.length + 1)) := fun μ5 => fr_trans (fr_mset (Or.inr (Or.inr (Or.inl rfl)))) (fr_mset (Or.inr (Or.inr (Or.inr ⟨rfl, rfl⟩))))
    by_cases h2 : 0 ≤ cd T e (nx T e q) ∧ cd T e (nx T e q) ≤ 99
    · obtain ⟨v1, v2⟩ := u2 h2
      have hq2 : nx T e q < e := cd_lt (n3001 h2.2 (by decide))
      have n2 := nx_lt (T := T) he hq2
      have c4 := CP_l4 v2 f34
      subst v1
      rw [if_pos h2]
      refine ok_b2 (c_takes c4 (show ¬ (1013 : Int32) = 3001 by decide)) ?_
      rintro x17 μ5 ⟨r1, r2, r3⟩
      dsimp only at r1 r2 r3
      have g5 : fr llP μ μ5 := fr_trans g4 (fr_mono r2 (fun o i h => lr_ll (rd_lr h)))
      have l65 : μ5 (0, 24, 0) 6 = nI (fl ls).length := by rw [r2.1 _ _ (by rintro ⟨h, -⟩; exact absurd h (by decide))]; exact l64
      have hkd : ∀ l : LN, l.1 = (cd T e q - 1010).toNatClampNeg → cd T e q = nI (1010 + l.1) := by
        intro l hl
        obtain ⟨k, k1, k2, k3⟩ := kd_eq h1
        rw [hl, k3]
        exact k2
      -- what stands in the arrays
      have fin : ∀ (μ6 : ZMem) (cs : List Int32) (q' : Nat), fr lrP μ5 μ6 → CP μ6 T e N q' → EM μ5 μ6 (fl ls).length cs → ok (gd (zin (nI ls.length + 1) 13) (zlt (mset μ6 (0, 27, 0) (nI ls.length + 1).toNatClampNeg (μ6 (0, 24, 0) 6)) fun μ24 => zlt (mset μ24 (0, 24, 0) 5 (nI ls.length + 1)) fun μ25 => some μ25)) (lnOut T e N μ ls (.inr (q', ((cd T e q - 1010).toNatClampNeg, cd T e (nx T e q), cs)))) := by
        intro μ6 cs q' w1 w2 w3
        rw [nI_1, gd_eq (zin_nI (by omega) (by omega)), nI_cl (by omega), zlt_s, zlt_s]
        have L := last μ6
        rw [nI_1] at L
        refine ok_some ⟨fr_trans g5 (fr_trans (fr_mono w1 (fun o i h => lr_ll h)) (fr_mono L (fun o i h => l4_ll h))), fun f' h => (by cases h), fun q2 l2 h => ?_⟩
        cases h
        refine ⟨CP_l4 w2 L, ?_, by rw [mset_at]⟩
        have n6 : ∀ o, (o = (0, 25, 0) ∨ o = (0, 26, 0) ∨ o = (0, 27, 0)) → μ6 o = μ4 o := by
          intro o ho
          rw [fr_at w1 (o := o) (by
            rintro i (⟨h, -⟩ | ⟨h, -⟩ | h) <;> rcases ho with rfl | rfl | rfl <;> exact absurd h (by decide)), fr_at r2 (o := o) (by
            rintro i ⟨h, -⟩
            rcases ho with rfl | rfl | rfl <;> exact absurd h (by decide))]
        have n1' : ∀ o, (o = (0, 25, 0) ∨ o = (0, 26, 0) ∨ o = (0, 27, 0)) → μ1 o = μ o ∧ μ3 o = μ2 o := by
          intro o ho
          refine ⟨fr_at t2 (o := o) ?_, fr_at u1 (o := o) ?_⟩ <;> (rintro i ⟨h, -⟩; rcases ho with rfl | rfl | rfl <;> exact absurd h (by decide))
        have n28 : ∀ i, μ5 (0, 28, 0) i = μ (0, 28, 0) i := by
          intro i
          rw [r2.1 _ _ (by rintro ⟨h, -⟩; exact absurd h (by decide)), f34.1 _ _ l428, u1.1 _ _ (by rintro ⟨h, -⟩; exact absurd h (by decide)), hμ2, mset_ne (by decide), t2.1 _ _ (by rintro ⟨h, -⟩; exact absurd h (by decide))]
        refine LL_more hL ?_ ?_ ?_ ?_ ?_
        · rw [mset_k (by decide), mset_ne (by decide)]; exact w3.1
        · intro i hi
          rw [mset_ne (by decide), mset_ne (by decide), w3.2 i hi, n28]
        · intro j
          rw [mset_ne (by decide), mset_ne (by decide), n6 _ (Or.inl rfl), hμ4, mset_ne (by decide), mset_ne (by decide), (n1' _ (Or.inl rfl)).2, hμ2]
          by_cases ej : j = ls.length
          · subst ej
            rw [mset_at, if_pos rfl]
            exact hkd _ rfl
          · rw [mset_k ej, if_neg ej, (n1' _ (Or.inl rfl)).1]
        · intro j
          rw [mset_ne (by decide), mset_ne (by decide), n6 _ (Or.inr (Or.inl rfl)), hμ4, mset_ne (by decide)]
          by_cases ej : j = ls.length
          · subst ej
            rw [mset_at, if_pos rfl]
          · rw [mset_k ej, if_neg ej, (n1' _ (Or.inr (Or.inl rfl))).2, hμ2, mset_ne (by decide), (n1' _ (Or.inr (Or.inl rfl))).1]
        · intro j
          rw [mset_ne (by decide)]
          by_cases ej1 : j = ls.length + 1
          · subst ej1
            rw [mset_at, if_pos rfl]
            exact w3.1
          · rw [mset_k ej1, if_neg ej1, n6 _ (Or.inr (Or.inr rfl)), hμ4]
            by_cases ej : j = ls.length
            · subst ej
              rw [mset_at, if_pos rfl]
            · rw [mset_k ej, if_neg ej, mset_ne (by decide), (n1' _ (Or.inr (Or.inr rfl))).2, hμ2, mset_ne (by decide), (n1' _ (Or.inr (Or.inr rfl))).1]
      by_cases h3 : cd T e (nx T e (nx T e q)) = 1013
      · have hq3 : nx T e (nx T e q) < e := cd_lt (by rw [h3]; decide)
        have n3 := nx_lt (T := T) he hq3
        rw [if_pos h3] at r3
        rw [r1, decide_eq_true h3, if_neg (show ¬ b2i true = 0 by decide), if_pos h3]
        refine ok_b1 (ok_b1 (RD_readAny he μ5 _ _ ⟨r3, l65, by omega, gq_nx he hq3⟩) (fun μ6 h => ok_some h)) ?_
        rintro μ6 ⟨o1, o2, o3⟩
        cases hs : pSome T e (pAtom T e 6) (nx T e (nx T e (nx T e q))) with
        | inl f =>
          have hf := o2 f hs
          rw [nI_1, gd_eq (zin_nI (by omega) (by omega)), nI_cl (by omega), zlt_s, zlt_s]
          have L := last μ6
          rw [nI_1] at L
          exact ok_some ⟨fr_trans g5 (fr_trans (fr_mono o1 (fun o i h => lr_ll h)) (fr_mono L (fun o i h => l4_ll h))), fun f' h => (by cases h; exact FQ_l4 hf L), fun q' l' h => by cases h⟩
        | inr qc =>
          obtain ⟨q', cs⟩ := qc
          obtain ⟨a, b⟩ := o3 q' cs hs
          exact fin μ6 cs q' o1 a b
      · rw [if_neg h3] at r3
        rw [r1, decide_eq_false h3, if_pos (show b2i false = 0 by decide), if_neg h3, bd_s]
        exact fin μ5 [] _ fr_refl r3 (EM_nil l65)
    · obtain ⟨v1, v2⟩ := u3 h2
      rw [if_neg h2]
      have f4 := FQ_l4 (FQ_of (show (fl ls).length ≤ 400 by omega) l62 u1 v2) f34
      refine ok_b2 (f_takes (c := 1013) f4.1) ?_
      rintro x17 μ5 ⟨r1, r2, r3⟩
      dsimp only at r1 r2 r3
      rw [if_pos r1, bd_s, nI_1, gd_eq (zin_nI (by omega) (by omega)), nI_cl (by omega), zlt_s, zlt_s]
      have L := last μ5
      rw [nI_1] at L
      exact ok_some ⟨fr_trans g4 (fr_trans (fr_mono r2 (fun o i h => lr_ll (rd_lr h))) (fr_mono L (fun o i h => l4_ll h))), fun f' h => (by cases h; exact FQ_l4 (FP_rd f4 r2 r3) L), fun q' l' h => by cases h⟩
  · rw [if_neg h1] at t1 t3
    rw [if_neg h1, if_pos t1]
    refine ok_b1 (c_fail (by omega) t3) ?_
    rintro μ2 ⟨a, b⟩
    exact ok_some ⟨fr_trans g1 (fr_mono a (fun o i h => lr_ll (rd_lr h))), fun f' h => (by cases h; exact FQ_of (by omega) l6 a b), fun q' l' h => by cases h⟩
end CY
