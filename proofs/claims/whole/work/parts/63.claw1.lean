/-! the class reads codes -/
def rdP (o : ZId) (i : Nat) : Prop := o = (0, 20, 0) ∧ (i = 0 ∨ i = 4)
def CP (μ : ZMem) (T : Vec) (e N q : Nat) : Prop := TK μ T e N ∧ μ (0, 20, 0) 0 = -1 ∧ ∃ i, i < N ∧ μ (0, 20, 0) 4 = nI i ∧ bb T e i = q
def FP (μ : ZMem) (T : Vec) (e N f : Nat) : Prop := TK μ T e N ∧ f ≤ 400 ∧ μ (0, 20, 0) 0 = nI f ∧ ∃ i, i < N ∧ μ (0, 20, 0) 4 = nI i
theorem TK_fr {P : ZId → Nat → Prop} {μ μ' : ZMem} {T : Vec} {e N : Nat} (h : TK μ T e N) (f : fr P μ μ') (hP : ¬ P (0, 20, 0) 3 ∧ ∀ i, ¬ P (0, 21, 0) i ∧ ¬ P (0, 22, 0) i) : TK μ' T e N := by
  obtain ⟨h1, h2, h3, h4, h5, h6⟩ := h
  refine ⟨h1, h2, by rw [f.1 _ _ hP.1]; exact h3, ?_, h5, h6⟩
  intro i hi
  rw [f.1 _ _ (hP.2 i).1, f.1 _ _ (hP.2 i).2]
  exact h4 i hi
theorem CP_fr {P : ZId → Nat → Prop} {μ μ' : ZMem} {T : Vec} {e N q : Nat} (h : CP μ T e N q) (f : fr P μ μ') (hP : (¬ P (0, 20, 0) 0 ∧ ¬ P (0, 20, 0) 3 ∧ ¬ P (0, 20, 0) 4) ∧ ∀ i, ¬ P (0, 21, 0) i ∧ ¬ P (0, 22, 0) i) : CP μ' T e N q := by
  obtain ⟨h1, h2, i, h3, h4, h5⟩ := h
  exact ⟨TK_fr h1 f ⟨hP.1.2.1, hP.2⟩, by rw [f.1 _ _ hP.1.1]; exact h2, i, h3, by rw [f.1 _ _ hP.1.2.2]; exact h4, h5⟩
theorem FP_fr {P : ZId → Nat → Prop} {μ μ' : ZMem} {T : Vec} {e N q : Nat} (h : FP μ T e N q) (f : fr P μ μ') (hP : (¬ P (0, 20, 0) 0 ∧ ¬ P (0, 20, 0) 3 ∧ ¬ P (0, 20, 0) 4) ∧ ∀ i, ¬ P (0, 21, 0) i ∧ ¬ P (0, 22, 0) i) : FP μ' T e N q := by
  obtain ⟨h1, h2, h3, i, h4, h5⟩ := h
  exact ⟨TK_fr h1 f ⟨hP.1.2.1, hP.2⟩, h2, by rw [f.1 _ _ hP.1.1]; exact h3, i, h4, by rw [f.1 _ _ hP.1.2.2]; exact h5⟩
theorem TK_rd {μ μ' : ZMem} {T : Vec} {e N : Nat} (h : TK μ T e N) (f : fr rdP μ μ') : TK μ' T e N :=
  TK_fr h f ⟨by rintro ⟨-, h⟩; omega, fun i => ⟨by rintro ⟨h, -⟩; exact absurd h (by decide), by rintro ⟨h, -⟩; exact absurd h (by decide)⟩⟩
section CL
variable {T : Vec} {e N : Nat}
theorem neg1 {n : Nat} (hn : n < 2 ^ 31) : ¬ nI n = -1 := by
  intro h
  have := congrArg Int32.toInt h
  rw [nI_toInt hn] at this
  have e1 : (-1 : Int32).toInt = -1 := by decide
  omega
theorem CP_at {μ : ZMem} {q : Nat} (h : CP μ T e N q) : ∃ i, i < N ∧ i < 401 ∧ N ≤ 401 ∧ μ (0, 20, 0) 0 = -1 ∧ μ (0, 20, 0) 3 = nI N ∧ μ (0, 20, 0) 4 = nI i ∧ μ (0, 21, 0) i = cd T e q ∧ μ (0, 22, 0) i = nI q ∧ bb T e i = q ∧ (q < e → i + 1 < N) := by
  obtain ⟨⟨a1, a2, a3, a4, a5, a6⟩, h2, i, h3, h4, h5⟩ := h
  obtain ⟨b1, b2⟩ := a4 i h3
  rw [h5] at b1 b2
  refine ⟨i, h3, by omega, a1, h2, a3, h4, b1, b2, h5, fun hq => ?_⟩
  rcases Nat.lt_or_ge (i + 1) N with h | h
  · exact h
  · have : i = N - 1 := by omega
    rw [this, a6] at h5
    omega
theorem c_isAt {μ : ZMem} {q : Nat} {c : Int32} (h : CP μ T e N q) : f_X8_isAt c μ = some (b2i (decide (cd T e q = c))) := by
  obtain ⟨i, i1, i2, i3, w, sz, at_, co, -, -, -⟩ := CP_at h
  unfold f_X8_isAt
  simp only [jk]
  rw [w, if_pos rfl, sz, at_, if_neg (nI_ge i1 (by omega)), gd_eq (zin_nI (by omega) (by omega)), nI_cl (by omega), co]
  by_cases hc : cd T e q = c
  · rw [if_pos hc, decide_eq_true hc]; rfl
  · rw [if_neg hc, decide_eq_false hc]; rfl
theorem f_isAt {μ : ZMem} {f : Nat} {c : Int32} (h : FP μ T e N f) : f_X8_isAt c μ = some 0 := by
  obtain ⟨-, h2, h3, -⟩ := h
  unfold f_X8_isAt
  simp only [jk]
  rw [h3, if_neg (neg1 (by omega))]
  rfl
theorem CP_go {μ : ZMem} {q i : Nat} {x : Int32} (h : CP μ T e N q) (hq : q < e) (hi : μ (0, 20, 0) 4 = nI i) (hi4 : i < 401) (hx : x = nI (i + 1)) : CP (mset μ (0, 20, 0) 4 x) T e N (nx T e q) := by
  obtain ⟨j, i1, i2, i3, w, sz, at_, co, -, bq, hN⟩ := CP_at h
  have : i = j := by
    rw [at_, nI_eq (by omega) (by omega)] at hi
    exact hi.symm
  subst this
  refine ⟨TK_rd h.1 (fr_mset ⟨rfl, Or.inr rfl⟩), by rw [mset_k (by decide)]; exact w, i + 1, hN hq, by rw [mset_at, hx], ?_⟩
  show nx T e (bb T e i) = _
  rw [bq]
theorem c_takes {μ : ZMem} {q : Nat} {c : Int32} (h : CP μ T e N q) (hc : ¬ c = 3001) :
    ok (f_X8_takes c μ) (fun r => r.1 = b2i (decide (cd T e q = c)) ∧ fr rdP μ r.2 ∧ CP r.2 T e N (if cd T e q = c then nx T e q else q)) := by
  obtain ⟨i, i1, i2, i3, w, sz, at_, co, -, bq, hN⟩ := CP_at h
  unfold f_X8_takes
  simp only [jk]
  rw [w, if_pos rfl, sz, at_, if_neg (nI_ge i1 (by omega)), gd_eq (zin_nI (by omega) (by omega)), nI_cl (by omega), co]
  by_cases hcq : cd T e q = c
  · have hq : q < e := cd_lt (by rw [hcq]; exact hc)
    rw [if_pos hcq, bd_s, if_neg (by decide), nI_1, if_neg (nI_ge (hN hq) (by omega)), bd_s, zlt_s, gd_eq (by decide), nI_1]
    exact ok_some ⟨by rw [decide_eq_true hcq]; rfl, fr_mset ⟨rfl, Or.inr rfl⟩, by rw [if_pos hcq]; exact CP_go h hq at_ i2 rfl⟩
  · rw [if_neg hcq, bd_s, if_pos rfl, bd_s, zlt_s, gd_eq (by decide), Int32.add_zero]
    refine ok_some ⟨by rw [decide_eq_false hcq]; rfl, fr_mset ⟨rfl, Or.inr rfl⟩, ?_⟩
    rw [if_neg hcq]
    dsimp only
    exact ⟨TK_rd h.1 (fr_mset ⟨rfl, Or.inr rfl⟩), by rw [mset_k (by decide)]; exact w, i, i1, by rw [mset_at], bq⟩
theorem f_takes {μ : ZMem} {f : Nat} {c : Int32} (h : FP μ T e N f) : ok (f_X8_takes c μ) (fun r => r.1 = 0 ∧ fr rdP μ r.2 ∧ FP r.2 T e N f) := by
  obtain ⟨h1, h2, h3, i, h4, h5⟩ := h
  unfold f_X8_takes
  simp only [jk]
  rw [h3, if_neg (neg1 (by omega)), bd_s, if_pos rfl, bd_s, zlt_s, gd_eq (by decide), h5, Int32.add_zero]
  refine ok_some ?_
  dsimp only
  exact ⟨rfl, fr_mset ⟨rfl, Or.inr rfl⟩, TK_rd h1 (fr_mset ⟨rfl, Or.inr rfl⟩), h2, by rw [mset_k (by decide)]; exact h3, i, h4, by rw [mset_at]⟩
theorem c_fail {μ : ZMem} {q : Nat} (hq : q ≤ 400) (h : CP μ T e N q) : ok (f_X8_fail μ) (fun μ' => fr rdP μ μ' ∧ FP μ' T e N q) := by
  obtain ⟨i, i1, i2, i3, w, sz, at_, co, be, bq, hN⟩ := CP_at h
  unfold f_X8_fail
  rw [w, if_pos rfl, sz, at_, if_neg (nI_ge i1 (by omega)), gd_eq (zin_nI (by omega) (by omega)), nI_cl (by omega), be, zlt_s, bd_s]
  exact ok_some ⟨fr_mset ⟨rfl, Or.inl rfl⟩, TK_rd h.1 (fr_mset ⟨rfl, Or.inl rfl⟩), hq, by rw [mset_at], i, i1, by rw [mset_k (by decide)]; exact at_⟩
theorem f_fail {μ : ZMem} {f : Nat} (h : FP μ T e N f) : f_X8_fail μ = some μ := by
  obtain ⟨-, h2, h3, -⟩ := h
  unfold f_X8_fail
  rw [h3, if_neg (neg1 (by omega))]
  rfl
theorem c_takeAny {μ : ZMem} {q : Nat} {lo hi : Int32} (h : CP μ T e N q) (hhi : hi < 3001) :
    ok (f_X8_takeAny lo hi μ) (fun r => r.1 = (if lo ≤ cd T e q ∧ cd T e q ≤ hi then cd T e q else -1) ∧ fr rdP μ r.2 ∧ CP r.2 T e N (if lo ≤ cd T e q ∧ cd T e q ≤ hi then nx T e q else q)) := by
  obtain ⟨i, i1, i2, i3, w, sz, at_, co, -, bq, hN⟩ := CP_at h
  unfold f_X8_takeAny
  simp only [jk]
  rw [w, if_pos rfl, sz, at_, if_neg (nI_ge i1 (by omega)), gd_eq (zin_nI (by omega) (by omega)), nI_cl (by omega), co, bd_s]
  by_cases h1 : lo ≤ cd T e q
  · rw [if_neg (Int32.not_lt.mpr h1)]
    by_cases h2 : cd T e q ≤ hi
    · have hq : q < e := cd_lt (n3001 h2 hhi)
      rw [if_pos h2, nI_1, if_neg (nI_ge (hN hq) (by omega)), zlt_s, zlt_s, nI_1]
      exact ok_some ⟨by rw [if_pos ⟨h1, h2⟩], fr_mset ⟨rfl, Or.inr rfl⟩, by rw [if_pos ⟨h1, h2⟩]; exact CP_go h hq at_ i2 rfl⟩
    · rw [if_neg h2]
      exact ok_some ⟨by rw [if_neg (fun q => h2 q.2)], fr_refl, by rw [if_neg (fun q => h2 q.2)]; exact h⟩
  · rw [if_pos (Int32.not_le.mp h1)]
    exact ok_some ⟨by rw [if_neg (fun q => h1 q.1)], fr_refl, by rw [if_neg (fun q => h1 q.1)]; exact h⟩
theorem f_takeAny {μ : ZMem} {f : Nat} {lo hi : Int32} (h : FP μ T e N f) (hlo : -1 < lo) : f_X8_takeAny lo hi μ = some (-1, μ) := by
  obtain ⟨-, h2, h3, -⟩ := h
  unfold f_X8_takeAny
  simp only [jk]
  rw [h3, if_neg (neg1 (by omega)), bd_s, if_pos hlo]
theorem c_takeNumber {μ : ZMem} {q : Nat} {lo hi : Int32} (hq4 : q ≤ 400) (h : CP μ T e N q) (hhi : hi < 3001) :
    ok (f_X8_takeNumber lo hi μ) (fun r => fr rdP μ r.2 ∧ (lo ≤ cd T e q ∧ cd T e q ≤ hi → r.1 = cd T e q ∧ CP r.2 T e N (nx T e q)) ∧ (¬ (lo ≤ cd T e q ∧ cd T e q ≤ hi) → r.1 = -1 ∧ FP r.2 T e N q)) := by
  obtain ⟨i, i1, i2, i3, w, sz, at_, co, -, bq, hN⟩ := CP_at h
  unfold f_X8_takeNumber
  simp only [jk]
  rw [w, if_pos rfl, sz, at_, if_neg (nI_ge i1 (by omega)), gd_eq (zin_nI (by omega) (by omega)), nI_cl (by omega), co, bd_s]
  have bad : ¬ (lo ≤ cd T e q ∧ cd T e q ≤ hi) → ok (bd (f_X8_fail μ) fun μ13 => some ((-1 : Int32), μ13)) (fun r => fr rdP μ r.2 ∧ (lo ≤ cd T e q ∧ cd T e q ≤ hi → r.1 = cd T e q ∧ CP r.2 T e N (nx T e q)) ∧ (¬ (lo ≤ cd T e q ∧ cd T e q ≤ hi) → r.1 = -1 ∧ FP r.2 T e N q)) := by
    intro hn
    refine ok_b1 (c_fail hq4 h) ?_
    rintro μ1 ⟨a, b⟩
    exact ok_some ⟨a, fun q => absurd q hn, fun _ => ⟨rfl, b⟩⟩
  by_cases h1 : lo ≤ cd T e q
  · rw [if_neg (Int32.not_lt.mpr h1)]
    by_cases h2 : cd T e q ≤ hi
    · have hq : q < e := cd_lt (n3001 h2 hhi)
      rw [if_pos h2, nI_1, if_neg (nI_ge (hN hq) (by omega)), zlt_s, zlt_s, nI_1]
      exact ok_some ⟨fr_mset ⟨rfl, Or.inr rfl⟩, fun _ => ⟨rfl, CP_go h hq at_ i2 rfl⟩, fun q => absurd ⟨h1, h2⟩ q⟩
    · rw [if_neg h2]
      exact bad (fun q => h2 q.2)
  · rw [if_pos (Int32.not_le.mp h1)]
    exact bad (fun q => h1 q.1)
theorem f_takeNumber {μ : ZMem} {f : Nat} {lo hi : Int32} (h : FP μ T e N f) (hlo : -1 < lo) : f_X8_takeNumber lo hi μ = some (-1, μ) := by
  have h0 := f_fail h
  obtain ⟨-, h2, h3, -⟩ := h
  unfold f_X8_takeNumber
  simp only [jk]
  rw [h3, if_neg (neg1 (by omega)), bd_s, if_pos hlo, h0]
  rfl
end CL
/-! the class writes codes down -/
theorem c_emit {μ : ZMem} {n : Nat} {c : Int32} (h : μ (0, 24, 0) 6 = nI n) (hn : n < 400) : f_X4_emit c μ = some (mset (mset μ (0, 28, 0) n c) (0, 24, 0) 6 (nI (n + 1))) := by
  unfold f_X4_emit
  rw [h, if_neg (show ¬ (400 : Int32) ≤ nI n from nI_ge (b := 400) hn (by omega)), gd_eq (zin_nI hn (by omega)), nI_cl (by omega), zlt_s, mset_ne (by decide), h, nI_1, zlt_s]
  rfl
def lrP (o : ZId) (i : Nat) : Prop := rdP o i ∨ (o = (0, 24, 0) ∧ i = 6) ∨ o = (0, 28, 0)
theorem rd_lr {o : ZId} {i : Nat} (h : rdP o i) : lrP o i := Or.inl h
def FQ (μ : ZMem) (T : Vec) (e N f : Nat) : Prop := FP μ T e N f ∧ ∃ n, n ≤ 400 ∧ μ (0, 24, 0) 6 = nI n
theorem emit_fr {μ : ZMem} {n : Nat} {c x : Int32} : fr (fun o i => (o = (0, 24, 0) ∧ i = 6) ∨ o = (0, 28, 0)) μ (mset (mset μ (0, 28, 0) n c) (0, 24, 0) 6 x) :=
  fr_trans (fr_mset (Or.inr rfl)) (fr_mset (Or.inl ⟨rfl, rfl⟩))
theorem emit_ok : (¬ (fun (o : ZId) i => (o = (0, 24, 0) ∧ i = 6) ∨ o = (0, 28, 0)) (0, 20, 0) 0 ∧ ¬ (fun (o : ZId) i => (o = (0, 24, 0) ∧ i = 6) ∨ o = (0, 28, 0)) (0, 20, 0) 3 ∧ ¬ (fun (o : ZId) i => (o = (0, 24, 0) ∧ i = 6) ∨ o = (0, 28, 0)) (0, 20, 0) 4) ∧ ∀ i, ¬ (fun (o : ZId) i => (o = (0, 24, 0) ∧ i = 6) ∨ o = (0, 28, 0)) (0, 21, 0) i ∧ ¬ (fun (o : ZId) i => (o = (0, 24, 0) ∧ i = 6) ∨ o = (0, 28, 0)) (0, 22, 0) i := by
  refine ⟨⟨?_, ?_, ?_⟩, fun i => ⟨?_, ?_⟩⟩ <;> rintro (⟨h, -⟩ | h) <;> exact absurd h (by decide)
theorem f_emit {T : Vec} {e N f : Nat} {μ : ZMem} {c : Int32} (h : FQ μ T e N f) : ok (f_X4_emit c μ) (fun μ' => fr lrP μ μ' ∧ FQ μ' T e N f) := by
  obtain ⟨h1, n, hn, h2⟩ := h
  by_cases h4 : n = 400
  · unfold f_X4_emit
    rw [h2, if_pos (show (400 : Int32) ≤ nI n by rw [h4]; decide), bd_s]
    exact ok_some ⟨fr_refl, h1, n, hn, h2⟩
  · rw [c_emit h2 (by omega)]
    refine ok_some ⟨fr_mono emit_fr (fun o i h => Or.inr h), FP_fr h1 emit_fr emit_ok, n + 1, by omega, by rw [mset_at]⟩
def EM (μ μ' : ZMem) (n : Nat) (cs : List Int32) : Prop := μ' (0, 24, 0) 6 = nI (n + cs.length) ∧ ∀ i, i < n + cs.length → μ' (0, 28, 0) i = if i < n then μ (0, 28, 0) i else cs.getD (i - n) 0
theorem EM_rd {μ μ1 μ2 : ZMem} {n : Nat} {cs : List Int32} (h : EM μ μ1 n cs) (f : fr rdP μ1 μ2) : EM μ μ2 n cs := by
  refine ⟨?_, fun i hi => ?_⟩
  · rw [f.1 _ _ (by rintro ⟨h, -⟩; exact absurd h (by decide))]; exact h.1
  · rw [f.1 _ _ (by rintro ⟨h, -⟩; exact absurd h (by decide))]; exact h.2 i hi
theorem EM_rd0 {μ0 μ μ1 : ZMem} {n : Nat} {cs : List Int32} (f : fr rdP μ0 μ) (h : EM μ μ1 n cs) : EM μ0 μ1 n cs := by
  refine ⟨h.1, fun i hi => ?_⟩
  rw [h.2 i hi, f.1 _ _ (by rintro ⟨h, -⟩; exact absurd h (by decide))]
theorem EM_nil {μ : ZMem} {n : Nat} (h : μ (0, 24, 0) 6 = nI n) : EM μ μ n [] := ⟨by simpa using h, fun i hi => by rw [if_pos (by simpa using hi)]⟩
theorem EM_app {μ1 μ2 μ3 : ZMem} {n : Nat} {a b : List Int32} (h1 : EM μ1 μ2 n a) (h2 : EM μ2 μ3 (n + a.length) b) : EM μ1 μ3 n (a ++ b) := by
  refine ⟨by rw [h2.1, List.length_append, Nat.add_assoc], fun i hi => ?_⟩
  rw [List.length_append] at hi
  rw [h2.2 i (by omega)]
  by_cases c1 : i < n + a.length
  · rw [if_pos c1, h1.2 i c1]
    by_cases c2 : i < n
    · rw [if_pos c2, if_pos c2]
    · rw [if_neg c2, if_neg c2, List.getD_eq_getElem?_getD, List.getD_eq_getElem?_getD, List.getElem?_append_left (by omega)]
  · rw [if_neg c1, if_neg (by omega), List.getD_eq_getElem?_getD, List.getD_eq_getElem?_getD, List.getElem?_append_right (by omega)]
    congr 2
    omega
theorem EM_emit {μ : ZMem} {n : Nat} {c : Int32} : EM μ (mset (mset μ (0, 28, 0) n c) (0, 24, 0) 6 (nI (n + 1))) n [c] := by
  refine ⟨by rw [mset_at]; rfl, fun i hi => ?_⟩
  simp only [List.length_singleton] at hi
  rw [mset_ne (by decide)]
  by_cases c1 : i = n
  · subst c1
    rw [mset_at, if_neg (by omega), Nat.sub_self]
    rfl
  · rw [mset_k c1, if_pos (by omega)]
