/-! the class cuts a text into codes -/
theorem isLetter_eq (x : Int32) : f_X8_isLetter x = some (b2i (isLt x)) := by
  unfold f_X8_isLetter isLt
  simp only [jk]
  by_cases h1 : x < 97
  · rw [if_pos h1, show decide (97 ≤ x ∧ x ≤ 122) = false by simp [Int32.not_le.mpr h1]]; rfl
  · rw [if_neg h1]
    by_cases h2 : 122 < x
    · rw [if_pos h2, show decide (97 ≤ x ∧ x ≤ 122) = false by simp [Int32.not_le.mpr h2]]; rfl
    · rw [if_neg h2, show decide (97 ≤ x ∧ x ≤ 122) = true by simp [Int32.not_lt.mp h1, Int32.not_lt.mp h2]]; rfl
theorem isDigit_eq (x : Int32) : f_X8_isDigit x = some (b2i (isDg x)) := by
  unfold f_X8_isDigit isDg
  simp only [jk]
  by_cases h1 : x < 48
  · rw [if_pos h1, show decide (48 ≤ x ∧ x ≤ 57) = false by simp [Int32.not_le.mpr h1]]; rfl
  · rw [if_neg h1]
    by_cases h2 : 57 < x
    · rw [if_pos h2, show decide (48 ≤ x ∧ x ≤ 57) = false by simp [Int32.not_le.mpr h2]]; rfl
    · rw [if_neg h2, show decide (48 ≤ x ∧ x ≤ 57) = true by simp [Int32.not_lt.mp h1, Int32.not_lt.mp h2]]; rfl
def wAt (T : Vec) (e q : Nat) : List Int32 → Nat → Bool → Nat → Nat
  | [], _, _, _ => 3000
  | c :: l, p, b, n => if c = 32 then (if (b && !ltB T e p) = true then n else wAt T e q l q true (n + 1)) else wAt T e q l (p + 1) (b && (decide (p < e) && decide (T p = c))) n
theorem wAt_word {T : Vec} {e q n : Nat} {l : List Int32} : ∀ (w : List Int32), (∀ c ∈ w, c ≠ 32) → ∀ (p : Nat) (b : Bool), wAt T e q (w ++ 32 :: l) p b n = if (b && (wmC T e p w && !ltB T e (p + w.length))) = true then n else wAt T e q l q true (n + 1)
  | [], _, p, b => by
    show wAt T e q (32 :: l) p b n = if (b && (true && !ltB T e (p + 0))) = true then n else wAt T e q l q true (n + 1)
    rw [wAt, if_pos rfl, Bool.true_and]
    rfl
  | c :: w, h, p, b => by
    show wAt T e q (c :: (w ++ 32 :: l)) p b n = _
    rw [wAt, if_neg (h c (by simp)), wAt_word w (fun c hc => h c (by simp [hc])) (p + 1) _]
    congr 1
    rw [wmC, show p + 1 + w.length = p + (c :: w).length by simp; omega]
    simp only [Bool.and_assoc]
theorem wAt_flat {T : Vec} {e q : Nat} : ∀ (ws : List (List Int32)), (∀ w ∈ ws, ∀ c ∈ w, c ≠ 32) → ∀ n, wAt T e q (flatW ws) q true n = wcode T e q ws n
  | [], _, n => rfl
  | w :: ws, h, n => by
    show wAt T e q (w ++ 32 :: flatW ws) q true n = _
    rw [wAt_word w (h w (by simp)), wcode, wAt_flat ws (fun w hw => h w (by simp [hw])) (n + 1)]
    unfold wm
    rw [Bool.true_and]
theorem WL_32 : ∀ w ∈ WL, ∀ c ∈ w, c ≠ 32 := by decide +kernel
theorem ok_val {α : Type} {x : Option α} {a : α} (h : ok x (fun r => r = a)) : x = some a := by
  obtain ⟨r, e, h⟩ := h
  rw [e, h]
theorem zB_len : (zByt.getD 0 []).length = 142 := by decide +kernel
theorem zL_0 : zLen.getD 0 0 = 142 := by decide +kernel
theorem zsl_0 : zsl 0 = nI 142 := by decide +kernel
theorem b2i_and (a b : Bool) : (if b2i a = 0 then (0 : Int32) else b2i b) = b2i (a && b) := by cases a <;> cases b <;> rfl
theorem c_wordAt {y : ZLay} {o : ZId} {μ : ZMem} {T : Vec} {e q : Nat} (hz : e ≤ zlen y o) (he : e ≤ 400) (hT : ∀ p, p < e → μ o p = T p) (hz2 : zlen y o ≤ 1000) (hq : q < e) :
    f_X8_wordAt y o (nI q) (nI e) μ = some (nI (wcode T e q WL 1000)) := by
  unfold f_X8_wordAt
  have hR : wAt T e q ((zByt.getD 0 []).drop 0) q true 1000 = wcode T e q WL 1000 := by
    rw [List.drop_zero, WL_flat, wAt_flat WL WL_32]
  have hR3 := wcode_lt (T := T) (e := e) (q := q)
  generalize wcode T e q WL 1000 = R at hR hR3 ⊢
  refine ok_val (ok_bd (ok_mono (ok_lp (fun m s => ∃ (i p n : Nat) (b : Bool), s = (nI p, b2i b, nI n, nI i) ∧ i + m = 142 ∧ p ≤ q + i ∧ n ≤ 1000 + i ∧ wAt T e q ((zByt.getD 0 []).drop i) p b n = R) (Q := fun z => z = .inl () ∧ R = 3000 ∨ z = .inr (nI R)) ?_ (N := 142) ⟨0, q, 1000, true, rfl, rfl, by omega, by omega, hR⟩ (FU_lt (by omega))) ?_))
  · rintro m s ⟨i, p, n, b, rfl, hm, hp, hn, hw⟩
    simp only [un4]
    rw [zsl_0, zL_0]
    by_cases hi : 142 ≤ i
    · rw [if_pos (nI_le hi (by omega))]
      refine ok_some (Or.inl ⟨rfl, ?_⟩)
      rw [List.drop_eq_nil_of_le (by rw [zB_len]; exact hi)] at hw
      exact hw.symm
    · have hi' : i < (zByt.getD 0 []).length := by rw [zB_len]; omega
      rw [if_neg (nI_ge (by omega) (by omega)), gd_eq (zin_nI (by omega) (by omega)), zlt_s]
      have ec : zchr 0 (nI i) = (zByt.getD 0 []).getD i 0 := by unfold zchr; rw [nI_cl (by omega)]
      have ed : (zByt.getD 0 []).drop i = (zByt.getD 0 []).getD i 0 :: (zByt.getD 0 []).drop (i + 1) := by
        rw [List.drop_eq_getElem_cons hi']
        congr 1
        exact (getD_lt hi').symm
      rw [ed] at hw
      rw [ec]
      generalize (zByt.getD 0 []).getD i 0 = c at hw ⊢
      rw [wAt] at hw
      simp only [jk]
      by_cases h32 : c = 32
      · rw [if_pos h32]
        rw [if_pos h32] at hw
        have hw0 : (b && !ltB T e p) = false → wAt T e q ((zByt.getD 0 []).drop (i + 1)) q true (n + 1) = R := fun h => by
          rw [h, if_neg (by decide)] at hw
          exact hw
        have hw1 : (b && !ltB T e p) = true → n = R := fun h => by
          rw [h, if_pos rfl] at hw
          exact hw
        have e1 : (nI q, (1 : Int32), nI n + 1, nI i + 1) = (nI q, b2i true, nI (n + 1), nI (i + 1)) := by rw [nI_1, nI_1]; rfl
        cases b
        · rw [if_pos (by decide), e1]
          exact ok_some ⟨m - 1, by omega, i + 1, q, n + 1, true, rfl, by omega, by omega, by omega, hw0 (by simp)⟩
        · rw [if_neg (by decide)]
          by_cases hpe : e ≤ p
          · rw [if_pos (nI_le hpe (by omega))]
            exact ok_some (Or.inr (by rw [hw1 (by unfold ltB; simp; omega)]))
          · rw [if_neg (nI_ge (by omega) (by omega)), gd_eq (zin_nI (by omega) (by omega)), nI_cl (by omega), hT p (by omega), bd_eq (isLetter_eq _)]
            cases hl : isLt (T p)
            · rw [if_pos (by decide)]
              exact ok_some (Or.inr (by rw [hw1 (by unfold ltB; rw [hl]; simp)]))
            · rw [if_neg (by decide), e1]
              exact ok_some ⟨m - 1, by omega, i + 1, q, n + 1, true, rfl, by omega, by omega, by omega, hw0 (by unfold ltB; rw [hl, decide_eq_true (show p < e by omega)]; rfl)⟩
      · rw [if_neg h32]
        rw [if_neg h32] at hw
        have hw0 : ∀ x : Bool, (b && (decide (p < e) && decide (T p = c))) = x → wAt T e q ((zByt.getD 0 []).drop (i + 1)) (p + 1) x n = R := fun x h => by
          rw [h] at hw
          exact hw
        have e1 : ∀ x : Bool, (nI p + 1, b2i x, nI n, nI i + 1) = (nI (p + 1), b2i x, nI n, nI (i + 1)) := fun x => by rw [nI_1, nI_1]
        have e1t : (nI p + 1, (1 : Int32), nI n, nI i + 1) = (nI (p + 1), b2i true, nI n, nI (i + 1)) := e1 true
        have e1f : (nI p + 1, (0 : Int32), nI n, nI i + 1) = (nI (p + 1), b2i false, nI n, nI (i + 1)) := e1 false
        cases b
        · rw [if_pos (by decide), bd_s, e1f]
          exact ok_some ⟨m - 1, by omega, i + 1, p + 1, n, false, rfl, by omega, by omega, by omega, hw0 false (by simp)⟩
        · rw [if_neg (by decide)]
          by_cases hpe : e ≤ p
          · rw [if_pos (nI_le hpe (by omega)), bd_s, e1f]
            exact ok_some ⟨m - 1, by omega, i + 1, p + 1, n, false, rfl, by omega, by omega, by omega, hw0 false (by rw [decide_eq_false (show ¬ p < e by omega)]; rfl)⟩
          · rw [if_neg (nI_ge (by omega) (by omega)), gd_eq (zin_nI (by omega) (by omega)), nI_cl (by omega), hT p (by omega)]
            by_cases hc : T p = c
            · rw [if_pos hc, bd_s, e1t]
              exact ok_some ⟨m - 1, by omega, i + 1, p + 1, n, true, rfl, by omega, by omega, by omega, hw0 true (by rw [decide_eq_true (show p < e by omega), decide_eq_true hc]; rfl)⟩
            · rw [if_neg hc, bd_s, e1f]
              exact ok_some ⟨m - 1, by omega, i + 1, p + 1, n, false, rfl, by omega, by omega, by omega, hw0 false (by rw [decide_eq_false hc, Bool.and_false]; rfl)⟩
  · rintro z (⟨rfl, h⟩ | rfl)
    · exact ok_some (by rw [h]; rfl)
    · exact ok_some rfl
theorem c_numberAt {y : ZLay} {o : ZId} {μ : ZMem} {T : Vec} {e q : Nat} (hz : e ≤ zlen y o) (he : e ≤ 400) (hT : ∀ p, p < e → μ o p = T p) (hz2 : zlen y o ≤ 1000) (hq : q < e) (hd : isDg (T q) = true) :
    f_X8_numberAt y o (nI q) (nI e) μ = some (ncode T e q) := by
  unfold f_X8_numberAt
  refine ok_val (ok_bd2 (ok_mono (ok_lp (fun m s => ∃ k : Nat, s = (VV T q (min k 3), nI k, nI (q + k)) ∧ q + k + m = e ∧ ∀ i, i < k → dgB T e (q + i) = true) (Q := fun z => ∃ k : Nat, z = (VV T q (min k 3), nI k) ∧ q + k ≤ e ∧ dgB T e (q + k) = false ∧ ∀ i, i < k → dgB T e (q + i) = true) ?_ (N := e - q) ⟨0, rfl, by omega, fun i hi => absurd hi (by omega)⟩ (FU_lt (by omega))) ?_))
  · rintro m s ⟨k, rfl, hm, hk⟩
    simp only [un3]
    by_cases hpe : e ≤ q + k
    · rw [if_pos (nI_le hpe (by omega))]
      exact ok_some ⟨k, rfl, by omega, by unfold dgB; simp; omega, hk⟩
    · rw [if_neg (nI_ge (by omega) (by omega)), gd_eq (zin_nI (by omega) (by omega)), nI_cl (by omega), hT _ (by omega), bd_eq (isDigit_eq _)]
      cases hdk : isDg (T (q + k))
      · rw [if_pos (by decide)]
        exact ok_some ⟨k, rfl, by omega, by unfold dgB; rw [hdk]; simp, hk⟩
      · rw [if_neg (by decide), zlt_s]
        refine ok_some ⟨m - 1, by omega, k + 1, ?_, by omega, ?_⟩
        · rw [nI_1, nI_1, show q + (k + 1) = q + k + 1 by omega]
          congr 1
          by_cases h3 : 3 ≤ k
          · rw [if_pos (show (3 : Int32) ≤ nI k from nI_le (a := 3) h3 (by omega)), show min k 3 = 3 by omega, show min (k + 1) 3 = 3 by omega]
          · rw [if_neg (show ¬ (3 : Int32) ≤ nI k from nI_ge (b := 3) (by omega) (by omega)), show min k 3 = k by omega, show min (k + 1) 3 = k + 1 by omega]
            rfl
        · intro i hi
          by_cases ei : i = k
          · subst ei
            unfold dgB
            rw [hdk]
            simp
            omega
          · exact hk i (by omega)
  · rintro z ⟨k, rfl, hk1, hk2, hk3⟩
    dsimp only
    rw [zlt_s]
    have hk0 : k ≠ 0 := by
      rintro rfl
      unfold dgB at hk2
      rw [Nat.add_zero, hd] at hk2
      simp at hk2
      omega
    refine ok_some ?_
    unfold ncode
    have h123 : k = 1 ∨ k = 2 ∨ k = 3 ∨ 3 < k := by omega
    rcases h123 with rfl | rfl | rfl | h4
    · rw [if_pos (by decide), if_pos hk2]; rfl
    · rw [if_pos (by decide), if_neg (by rw [hk3 1 (by omega)]; decide), if_pos hk2]; rfl
    · rw [if_pos (by decide), if_neg (by rw [hk3 1 (by omega)]; decide), if_neg (by rw [hk3 2 (by omega)]; decide), if_pos hk2]; rfl
    · rw [if_neg (show ¬ nI k ≤ (3 : Int32) from nI_ge (a := 3) h4 (by omega)), if_neg (by rw [hk3 1 (by omega)]; decide), if_neg (by rw [hk3 2 (by omega)]; decide), if_neg (by rw [hk3 3 (by omega)]; decide)]
/-- the places where something begins, one after another -/
def bb (T : Vec) (e : Nat) : Nat → Nat
  | 0 => nxt T e 0
  | i + 1 => nx T e (bb T e i)
def tkP (o : ZId) (i : Nat) : Prop := (o = (0, 20, 0) ∧ (i = 0 ∨ i = 3 ∨ i = 4)) ∨ o = (0, 21, 0) ∨ o = (0, 22, 0)
def TK (μ : ZMem) (T : Vec) (e N : Nat) : Prop := N ≤ 401 ∧ 1 ≤ N ∧ μ (0, 20, 0) 3 = nI N ∧ (∀ i, i < N → μ (0, 21, 0) i = cd T e (bb T e i) ∧ μ (0, 22, 0) i = nI (bb T e i)) ∧ (∀ i, i + 1 < N → bb T e i < e) ∧ bb T e (N - 1) = e
theorem c_put {μ : ZMem} {n p : Nat} {x : Int32} (h3 : μ (0, 20, 0) 3 = nI n) (hn : n < 401) : f_X8_put (nI p) x μ = some (mset (mset (mset μ (0, 21, 0) n x) (0, 22, 0) n (nI p)) (0, 20, 0) 3 (nI (n + 1))) := by
  unfold f_X8_put
  rw [h3, if_neg (show ¬ (401 : Int32) ≤ nI n from nI_ge (b := 401) hn (by omega)), gd_eq (zin_nI hn (by omega)), nI_cl (by omega), zlt_s, mset_ne (by decide), h3, gd_eq (zin_nI hn (by omega)), nI_cl (by omega), zlt_s, mset_ne (by decide), mset_ne (by decide), h3, nI_1, zlt_s]
  rfl
def tkI (μ : ZMem) (T : Vec) (e n : Nat) : Prop := μ (0, 20, 0) 3 = nI n ∧ ∀ i, i < n → bb T e i < e ∧ μ (0, 21, 0) i = cd T e (bb T e i) ∧ μ (0, 22, 0) i = nI (bb T e i)
theorem tkI_put {μ : ZMem} {T : Vec} {e n : Nat} {x : Int32} (h : tkI μ T e n) (hx : x = cd T e (bb T e n)) : ∀ i, i < n + 1 → (mset (mset (mset μ (0, 21, 0) n x) (0, 22, 0) n (nI (bb T e n))) (0, 20, 0) 3 (nI (n + 1))) (0, 21, 0) i = cd T e (bb T e i) ∧ (mset (mset (mset μ (0, 21, 0) n x) (0, 22, 0) n (nI (bb T e n))) (0, 20, 0) 3 (nI (n + 1))) (0, 22, 0) i = nI (bb T e i) := by
  intro i hi
  by_cases e1 : i = n
  · subst e1
    refine ⟨?_, ?_⟩
    · rw [mset_ne (by decide), mset_ne (by decide), mset_at, hx]
    · rw [mset_ne (by decide), mset_at]
  · obtain ⟨-, a, b⟩ := h.2 i (by omega)
    refine ⟨?_, ?_⟩
    · rw [mset_ne (by decide), mset_ne (by decide), mset_k e1]; exact a
    · rw [mset_ne (by decide), mset_k e1, mset_ne (by decide)]; exact b
theorem put_fr {μ : ZMem} {n : Nat} {x z w : Int32} : fr tkP μ (mset (mset (mset μ (0, 21, 0) n x) (0, 22, 0) n z) (0, 20, 0) 3 w) :=
  fr_trans (fr_mset (Or.inr (Or.inl rfl))) (fr_trans (fr_mset (Or.inr (Or.inr rfl))) (fr_mset (Or.inl ⟨rfl, by omega⟩)))
theorem gO_eq {T : Vec} {p : Nat} : gO T p = (isLt (T p) && isLt (if p = 0 then 32 else T (p - 1)) || isDg (T p) && isDg (if p = 0 then 32 else T (p - 1))) := by
  unfold gO
  by_cases h : p = 0
  · subst h
    simp only [if_true]
    rw [show isLt 32 = false by decide, show isDg 32 = false by decide]
    simp
  · rw [if_neg h]
    have : 0 < p := by omega
    simp [this]
theorem c_load {y : ZLay} {o : ZId} {μ : ZMem} {T : Vec} {e : Nat} (hz : zlen y o = 400) (he : e ≤ 400) (ho : ∀ i, ¬ tkP o i) (hT : ∀ p, p < e → μ o p = T p) (hB : HB T e) :
    ok (f_X8_load y o (nI e) μ) (fun μ' => fr tkP μ μ' ∧ μ' (0, 20, 0) 0 = -1 ∧ μ' (0, 20, 0) 4 = 0 ∧ ∃ N, TK μ' T e N) := by
  unfold f_X8_load
  rw [zlt_s, zlt_s, zlt_s, zlt_s, hz]
  have emin : zmin (nI e) (Int32.ofNat 400) = nI e := by
    unfold zmin
    rw [if_neg (show ¬ Int32.ofNat 400 < nI e from nI_nlt he (by omega))]
  rw [emin]
  obtain ⟨μ0, hμ0⟩ : ∃ μ0, μ0 = mset (mset (mset μ (0, 20, 0) 3 0) (0, 20, 0) 4 0) (0, 20, 0) 0 (-1) := ⟨_, rfl⟩
  rw [← hμ0]
  have f0 : fr tkP μ μ0 := by rw [hμ0]; exact fr_trans (fr_mset (Or.inl ⟨rfl, by omega⟩)) (fr_trans (fr_mset (Or.inl ⟨rfl, by omega⟩)) (fr_mset (Or.inl ⟨rfl, by omega⟩)))
  have w0 : μ0 (0, 20, 0) 0 = -1 := by rw [hμ0, mset_at]
  have a0 : μ0 (0, 20, 0) 4 = 0 := by rw [hμ0, mset_k (by decide), mset_at]
  have s0 : μ0 (0, 20, 0) 3 = 0 := by rw [hμ0, mset_k (by decide), mset_k (by decide), mset_at]
  refine ok_bd (ok_mono (ok_seq e (fun p s => s.1 = (if p = 0 then 32 else T (p - 1)) ∧ s.2.1 = nI p ∧ fr tkP μ s.2.2 ∧ s.2.2 (0, 20, 0) 0 = -1 ∧ s.2.2 (0, 20, 0) 4 = 0 ∧ ∃ n, n ≤ p ∧ tkI s.2.2 T e n ∧ nxt T e p = bb T e n) ?_ ?_ (Q := fun μ1 => fr tkP μ μ1 ∧ μ1 (0, 20, 0) 0 = -1 ∧ μ1 (0, 20, 0) 4 = 0 ∧ ∃ n, n ≤ e ∧ tkI μ1 T e n ∧ bb T e n = e) ⟨rfl, rfl, f0, w0, a0, 0, Nat.le_refl _, ⟨s0, fun i hi => absurd hi (by omega)⟩, rfl⟩ (FU_lt (by omega))) ?_)
  · rintro p ⟨x, i, μ1⟩ hp ⟨h1, h2, f1, w1, a1, n, hn, ht, hx⟩
    dsimp only at h1 h2 f1 w1 a1 ht
    subst h2
    have hT1 : ∀ p, p < e → μ1 o p = T p := fun p hp => by rw [fr_at f1 ho]; exact hT p hp
    simp only [un3]
    rw [if_neg (nI_ge hp (by omega)), gd_eq (zin_nI (by omega) (by omega)), nI_cl (by omega), zlt_s, hT1 p hp, h1]
    simp only [jk, isLetter_eq, isDigit_eq, bd_s]
    have eg : (if b2i (isLt (T p)) = 0 then (if b2i (isDg (T p)) = 0 then some (0 : Int32) else if b2i (isDg (if p = 0 then 32 else T (p - 1))) = 0 then some 0 else some 1) else (if b2i (isLt (if p = 0 then 32 else T (p - 1))) = 0 then (if b2i (isDg (T p)) = 0 then some (0 : Int32) else if b2i (isDg (if p = 0 then 32 else T (p - 1))) = 0 then some 0 else some 1) else some 1)) = some (b2i (gO T p)) := by
      rw [gO_eq]
      cases isLt (T p) <;> cases isDg (T p) <;> cases isLt (if p = 0 then 32 else T (p - 1)) <;> cases isDg (if p = 0 then 32 else T (p - 1)) <;> rfl
    rw [eg]
    simp only [bd_s]
    have next : ∀ μ2 : ZMem, fr tkP μ1 μ2 → μ2 (0, 20, 0) 0 = -1 → μ2 (0, 20, 0) 4 = 0 → (∃ n, n ≤ p + 1 ∧ tkI μ2 T e n ∧ nxt T e (p + 1) = bb T e n) → ok (bd (α := ZMem) (some μ2) (fun (μ29 : ZMem) => some (.inl (T p, nI p + 1, μ29))) : Option ((Int32 × Int32 × ZMem) ⊕ ZMem)) (fun z => ∃ s', z = .inl s' ∧ (s'.1 = (if p + 1 = 0 then 32 else T (p + 1 - 1)) ∧ s'.2.1 = nI (p + 1) ∧ fr tkP μ s'.2.2 ∧ s'.2.2 (0, 20, 0) 0 = -1 ∧ s'.2.2 (0, 20, 0) 4 = 0 ∧ ∃ n, n ≤ p + 1 ∧ tkI s'.2.2 T e n ∧ nxt T e (p + 1) = bb T e n)) := by
      intro μ2 g1 g2 g3 g4
      exact ok_some ⟨_, rfl, by rw [if_neg (by omega)]; rfl, nI_1 p, fr_trans f1 g1, g2, g3, g4⟩
    have skip : bgn T e p = false → nxt T e (p + 1) = bb T e n := by
      intro hb
      rw [← hx]
      exact (nxt_skip he (by omega) (by omega) (fun j h1 h2 => by rw [show j = p by omega]; exact hb)).symm
    by_cases h32 : T p = 32
    · rw [if_pos h32]
      exact next μ1 fr_refl w1 a1 ⟨n, by omega, ht, skip (by unfold bgn; simp [h32])⟩
    · rw [if_neg h32]
      cases hg : gO T p
      · rw [if_pos (by decide)]
        have hb : bgn T e p = true := by unfold bgn; simp [h32, hg, hp]
        have ep : bb T e n = p := by rw [← hx]; exact nxt_at he (by omega) (Or.inr hb)
        have en : nxt T e (p + 1) = bb T e (n + 1) := by show _ = nx T e (bb T e n); rw [ep]; rfl
        have fin : ∀ x : Int32, x = cd T e p → ok (bd (α := ZMem) (bd (α := Int32) (some x) (fun x34 => bd (f_X8_put (nI p) x34 μ1) (fun (μ43 : ZMem) => some μ43))) (fun (μ29 : ZMem) => some (.inl (T p, nI p + 1, μ29))) : Option ((Int32 × Int32 × ZMem) ⊕ ZMem)) (fun z => ∃ s', z = .inl s' ∧ (s'.1 = (if p + 1 = 0 then 32 else T (p + 1 - 1)) ∧ s'.2.1 = nI (p + 1) ∧ fr tkP μ s'.2.2 ∧ s'.2.2 (0, 20, 0) 0 = -1 ∧ s'.2.2 (0, 20, 0) 4 = 0 ∧ ∃ n, n ≤ p + 1 ∧ tkI s'.2.2 T e n ∧ nxt T e (p + 1) = bb T e n)) := by
          intro x hxc
          rw [bd_s, bd_eq (c_put ht.1 (by omega))]
          have tp := tkI_put (x := x) ht (by rw [ep]; exact hxc)
          rw [ep] at tp
          refine next _ put_fr (by rw [mset_k (by decide), mset_ne (by decide), mset_ne (by decide)]; exact w1) (by rw [mset_k (by decide), mset_ne (by decide), mset_ne (by decide)]; exact a1) ⟨n + 1, by omega, ⟨by rw [mset_at], fun i hi => ⟨?_, tp i hi⟩⟩, en⟩
          by_cases ei : i = n
          · rw [ei, ep]; exact hp
          · exact (ht.2 i (by omega)).1
        cases hl : isLt (T p)
        · rw [if_pos (by decide)]
          cases hd : isDg (T p)
          · rw [if_pos (by decide)]
            exact fin _ (cd_s hp hl hd).symm
          · rw [if_neg (by decide), bd_eq (c_numberAt (by omega) he hT1 (by omega) hp hd)]
            exact fin _ (cd_n hp hd).symm
        · rw [if_neg (by decide), bd_eq (c_wordAt (by omega) he hT1 (by omega) hp)]
          exact fin _ (cd_w hp hl).symm
      · rw [if_neg (by decide)]
        exact next μ1 fr_refl w1 a1 ⟨n, by omega, ht, skip (by unfold bgn; simp [hg])⟩
  · rintro ⟨x, i, μ1⟩ ⟨h1, h2, f1, w1, a1, n, hn, ht, hx⟩
    dsimp only at h1 h2 f1 w1 a1 ht
    subst h2
    simp only [un3]
    rw [if_pos (nI_le (Nat.le_refl _) (by omega))]
    refine ok_some ⟨_, rfl, f1, w1, a1, n, hn, ht, ?_⟩
    rw [← hx]
    exact nxt_at he (Nat.le_refl _) (Or.inl rfl)
  · rintro μ1 ⟨f1, w1, a1, n, hn, ht, hb⟩
    have tp := tkI_put (x := 3001) ht (by rw [hb]; exact (cd_e (Nat.le_refl _)).symm)
    rw [bd_eq (show f_X8_put (nI e) 3001 μ1 = _ from c_put ht.1 (by omega))]
    rw [hb] at tp
    refine ok_some ⟨fr_trans f1 put_fr, by rw [mset_k (by decide), mset_ne (by decide), mset_ne (by decide)]; exact w1, by rw [mset_k (by decide), mset_ne (by decide), mset_ne (by decide)]; exact a1, n + 1, by omega, by omega, by rw [mset_at], tp, ?_, by simpa using hb⟩
    intro i hi
    exact (ht.2 i (by omega)).1
