/-! the class works a law off -/
def LW (y : ZLay) (μ : ZMem) (n : Nat) (ls : List LN) : Prop := lnG ls ∧ μ (5, n, 0) 0 = nI ls.length ∧ zlen y (6, n, 0) = ls.length ∧ zlen y (6, n, 1) = ls.length ∧ zlen y (6, n, 2) = ls.length + 1 ∧ zlen y (6, n, 3) = (fl ls).length ∧
  (∀ i, i < (fl ls).length → μ (6, n, 3) i = (fl ls).getD i 0) ∧ ∀ j, j < ls.length → μ (6, n, 0) j = nI (1010 + (ls.getD j lnD).1) ∧ μ (6, n, 1) j = (ls.getD j lnD).2.1 ∧ μ (6, n, 2) j = nI (fl (ls.take j)).length ∧ μ (6, n, 2) (j + 1) = nI (fl (ls.take (j + 1))).length
/-- a list lies in an array, its head last -/
def SK (μ : ZMem) (o : ZId) (st : List Int32) : Prop := st.length ≤ 32 ∧ ∀ i, i < st.length → μ o i = st.getD (st.length - 1 - i) 0
theorem SK_push {μ : ZMem} {o : ZId} {st : List Int32} {x : Int32} (h : SK μ o st) (hl : st.length < 32) : SK (mset μ o st.length x) o (x :: st) := by
  refine ⟨by rw [List.length_cons]; omega, fun i hi => ?_⟩
  simp only [List.length_cons] at hi ⊢
  by_cases e : i = st.length
  · subst e
    rw [mset_at, show st.length + 1 - 1 - st.length = 0 by omega]
    rfl
  · rw [mset_k e, h.2 i (by omega), show st.length + 1 - 1 - i = (st.length - 1 - i) + 1 by omega]
    rfl
theorem SK_top {μ : ZMem} {o : ZId} {st : List Int32} {a : Int32} (h : SK μ o (a :: st)) : μ o st.length = a := by
  rw [h.2 _ (by simp)]
  simp
theorem SK_pop {μ : ZMem} {o : ZId} {st : List Int32} {a : Int32} (h : SK μ o (a :: st)) : SK μ o st := by
  refine ⟨by have := h.1; simp at this; omega, fun i hi => ?_⟩
  rw [h.2 i (by simp; omega), List.length_cons, show st.length + 1 - 1 - i = (st.length - 1 - i) + 1 by omega]
  rfl
theorem SK_set {μ : ZMem} {o : ZId} {st : List Int32} {a x : Int32} (h : SK μ o (a :: st)) : SK (mset μ o st.length x) o (x :: st) := SK_push (SK_pop h) (by have := h.1; simp at this; omega)
theorem lt1000 {x : Int32} (h : ¬ x < 1000) (h2 : x ≤ 1009) : ∃ t : Nat, t < 10 ∧ x = nI (1000 + t) ∧ (x - 1000).toNatClampNeg = t := by
  have a1 := Int32.not_lt.mp h
  rw [Int32.le_iff_toInt_le] at a1 h2
  have e1 : (1000 : Int32).toInt = 1000 := by decide
  have e2 : (1009 : Int32).toInt = 1009 := by decide
  have ee : x = nI x.toInt.toNat := by
    apply Int32.toInt_inj.mp
    rw [nI_toInt (by omega)]
    omega
  refine ⟨x.toInt.toNat - 1000, by omega, ?_, ?_⟩
  · rw [show 1000 + (x.toInt.toNat - 1000) = x.toInt.toNat by omega]
    exact ee
  · rw [ee, show (1000 : Int32) = nI 1000 from rfl, nI_sub (by omega), nI_cl (by omega), nI_toInt (by omega)]
    omega
theorem c_part {μ : ZMem} {s c k : Nat} {v : Vec} {al x : Int32} (h : CS μ s c v) (hk : k < c) (hm : isS (nd v k 5)) (ha : al = b2i (decide (actS v c &&& (bit1 k ^^^ (-1)) = 0))) (hx : x ≤ 1009) :
    f_X3_partOf s (nI k) x al μ = some (if x < 1000 then x else envS c v k (x - 1000).toNatClampNeg) := by
  by_cases h1 : x < 1000
  · rw [if_pos h1]
    unfold f_X3_partOf
    rw [jk_s, if_pos h1]
  · obtain ⟨t, t1, t2, t3⟩ := lt1000 h1 hx
    rw [if_neg h1, t3, t2]
    exact c_partOf h hk hm ha t1
theorem gt1009 {x : Int32} : 1009 < x ↔ ¬ x ≤ 1009 := Int32.not_le.symm
theorem drop_get {l : List Int32} {m : Nat} (h : m < l.length) : l.drop m = l.getD m 0 :: l.drop (m + 1) := by
  rw [List.drop_eq_getElem_cons h, getD_lt h]
theorem fl_split (ls : List LN) {j : Nat} (hj : j < ls.length) : (fl (ls.take (j + 1))).length = (fl (ls.take j)).length + (ls.getD j lnD).2.2.length ∧ (fl (ls.take (j + 1))).length ≤ (fl ls).length ∧ ∀ i, i < (ls.getD j lnD).2.2.length → (fl ls).getD ((fl (ls.take j)).length + i) 0 = (ls.getD j lnD).2.2.getD i 0 := by
  have e1 : ls.take (j + 1) = ls.take j ++ [ls.getD j lnD] := by
    rw [List.take_succ]
    congr 1
    rw [List.getD_eq_getElem?_getD, List.getElem?_eq_getElem hj]
    rfl
  have e2 : fl ls = fl (ls.take (j + 1)) ++ fl (ls.drop (j + 1)) := by
    unfold fl
    rw [← List.flatMap_append, List.take_append_drop]
  have e3 : (fl (ls.take (j + 1))).length = (fl (ls.take j)).length + (ls.getD j lnD).2.2.length := by rw [e1, fl_app, List.length_append]
  refine ⟨e3, by rw [e2, List.length_append]; omega, fun i hi => ?_⟩
  rw [e2, getI_app, if_pos (by omega), e1, fl_app, getI_app, if_neg (by omega), Nat.add_sub_cancel_left]
theorem c_holds {y : ZLay} {μ0 μ : ZMem} {s c k n j : Nat} {v : Vec} {ls : List LN} {al : Int32} (hL : LW y μ0 n ls) (h6 : ∀ j, j < 4 → μ (6, n, j) = μ0 (6, n, j)) (h : CS μ s c v) (hk : k < c) (hm : isS (nd v k 5)) (ha : al = b2i (decide (actS v c &&& (bit1 k ^^^ (-1)) = 0))) (hj : j < ls.length) :
    ok (f_X3_holds y n s (nI k) (nI j) al μ) (fun q => q.1 = b2i (lnB (envS c v k) (ls.getD j lnD).2.2) ∧ fr (stP n) μ q.2) := by
  obtain ⟨⟨g1, g2, g3⟩, a0, z0, z1, z2, z3, a3, a4⟩ := hL
  obtain ⟨b0, b1, b2, b3⟩ := a4 j hj
  obtain ⟨s1, s2, s3⟩ := fl_split ls hj
  obtain ⟨cs, hcs⟩ : ∃ cs, cs = (ls.getD j lnD).2.2 := ⟨_, rfl⟩
  obtain ⟨p0, hp0⟩ : ∃ p0, p0 = (fl (ls.take j)).length := ⟨_, rfl⟩
  rw [← hcs] at s1 s3 ⊢
  rw [← hp0] at s1 s3 b2
  unfold f_X3_holds
  rw [jk_s, if_neg (show ¬ nI j < 0 from nI_nlt (a := j) (b := 0) (by omega) (by omega)), z2, nI_1, if_pos (show nI (j + 1) < Int32.ofNat (ls.length + 1) from nI_lt (by omega) (by omega)), gd_eq (zin_nI (by omega) (by omega)), nI_cl (show j < 2 ^ 31 by omega), h6 2 (by omega), b2]
  have em : zmax 0 (nI p0) = nI p0 := by
    unfold zmax
    by_cases hz : (0 : Int32) < nI p0
    · rw [if_pos hz]
    · rw [if_neg hz]
      have : ¬ 0 < p0 := fun q => hz (nI_lt (a := 0) q (by omega))
      rw [show p0 = 0 by omega]
      rfl
  rw [em, zlt_s]
  refine ok_b2 (ok_lp (fun m (s' : Int32 × Int32 × ZMem) => ∃ i st, i + m = cs.length ∧ s'.2.1 = nI (p0 + i) ∧ s'.1 = nI st.length ∧ SK s'.2.2 (6, n, 4) st ∧ fr (stP n) μ s'.2.2 ∧ ev (envS c v k) (cs.drop i) st = ev (envS c v k) cs [])
    (Q := fun (q : Int32 × ZMem) => ∃ st, q.1 = nI st.length ∧ SK q.2 (6, n, 4) st ∧ fr (stP n) μ q.2 ∧ st = ev (envS c v k) cs []) ?_ (N := cs.length) ⟨0, [], by omega, rfl, rfl, ⟨by simp, fun i hi => absurd hi (by simp)⟩, fr_refl, by rw [List.drop_zero]⟩ (FU_lt (by omega))) ?_
  · rintro m ⟨x, p, μ1⟩ ⟨i, st, hi, h1, h2, hs, f1, hv⟩
    dsimp only at h1 h2 hs f1
    subst h1 h2
    have e6 : ∀ j, j < 4 → μ1 (6, n, j) = μ0 (6, n, j) := fun j hj => by rw [fr_at f1 (fun i => n64 hj)]; exact h6 j hj
    have hC := CS_st h f1
    rw [un3_s, gd_eq (zin_nI (by omega) (by omega)), nI_cl (show j + 1 < 2 ^ 31 by omega), e6 2 (by omega), b3, s1]
    by_cases hend : m = 0
    · rw [if_pos (nI_le (by omega) (by omega))]
      refine ok_some ⟨st, rfl, hs, f1, ?_⟩
      rw [← hv, List.drop_eq_nil_of_le (by omega)]
      rfl
    · have hi' : i < cs.length := by omega
      rw [if_neg (nI_ge (by omega) (by omega)), z3, if_neg (show ¬ Int32.ofNat (fl ls).length ≤ nI (p0 + i) from nI_ge (by omega) (by omega)), gd_eq (zin_nI (by omega) (by omega)), nI_cl (by omega), e6 3 (by omega), a3 _ (by omega), s3 i hi', zlt_s]
      rw [drop_get hi'] at hv
      change ev _ (cs.drop (i + 1)) (evS _ (cs.getD i 0) st) = _ at hv
      generalize cs.getD i 0 = op at hv ⊢
      have hlen := hs.1
      have next : ∀ (μ2 : ZMem) (st' : List Int32) (x' : Int32), x' = nI st'.length → st' = evS (envS c v k) op st → SK μ2 (6, n, 4) st' → fr (stP n) μ1 μ2 → ∀ Q' : (Int32 × Int32 × ZMem) ⊕ (Int32 × ZMem) → Prop, (∀ s' : Int32 × Int32 × ZMem, (∃ i st, i + (m - 1) = cs.length ∧ s'.2.1 = nI (p0 + i) ∧ s'.1 = nI st.length ∧ SK s'.2.2 (6, n, 4) st ∧ fr (stP n) μ s'.2.2 ∧ ev (envS c v k) (cs.drop i) st = ev (envS c v k) cs []) → Q' (.inl s')) → ok (bd2 (α := Int32) (β := ZMem) (some (x', μ2)) (fun (x17 : Int32) (μ18 : ZMem) => some (.inl (x17, (nI (p0 + i) + 1), μ18))) : Option ((Int32 × Int32 × ZMem) ⊕ (Int32 × ZMem))) Q' := by
        intro μ2 st' x' w1 w2 w3 w4 Q' hQ
        refine ok_some (hQ _ ⟨i + 1, st', by omega, ?_, w1, w3, fr_trans f1 w4, by rw [w2]; exact hv⟩)
        dsimp only
        rw [nI_1, Nat.add_assoc]
      by_cases c1 : op ≤ 1009
      · rw [if_neg (fun q => gt1009.mp q c1)]
        by_cases c2 : st.length < 32
        · rw [if_neg (show ¬ (32 : Int32) ≤ nI st.length from nI_ge (b := 32) c2 (by omega)), bd_eq (c_part hC hk hm ha c1), gd_eq (zin_nI c2 (by omega)), nI_cl (by omega), zlt_s]
          refine next _ (_ :: st) _ (by rw [nI_1]; rfl) ?_ (SK_push hs c2) (fr_mset rfl) _ (fun s' h => ⟨m - 1, by omega, h⟩)
          unfold evS
          rw [if_pos c1, if_pos c2]
        · rw [if_pos (show (32 : Int32) ≤ nI st.length from nI_le (a := 32) (by omega) (by omega))]
          refine next μ1 st _ rfl ?_ hs fr_refl _ (fun s' h => ⟨m - 1, by omega, h⟩)
          unfold evS
          rw [if_pos c1, if_neg c2]
      · rw [if_pos (gt1009.mpr c1)]
        by_cases c2 : op = 1016
        · rw [if_pos c2]
          cases st with
          | nil =>
            rw [if_pos (show nI ([] : List Int32).length < 1 by decide)]
            refine next μ1 [] _ rfl ?_ hs fr_refl _ (fun s' h => ⟨m - 1, by omega, h⟩)
            unfold evS
            rw [if_neg c1, if_pos c2]
          | cons a st =>
            have hl1 : st.length < 32 := by simp at hlen; omega
            rw [if_neg (show ¬ nI (a :: st).length < 1 from nI_nlt (a := (a :: st).length) (b := 1) (by simp) (by simp; omega)), List.length_cons, nI_pred, gd_eq (zin_nI hl1 (by omega)), nI_cl (by omega), zlt_s, SK_top hs]
            refine next _ ((1 - a) :: st) _ rfl ?_ (SK_set hs) (fr_mset rfl) _ (fun s' h => ⟨m - 1, by omega, h⟩)
            unfold evS
            rw [if_neg c1, if_pos c2]
        · rw [if_neg c2]
          cases st with
          | nil =>
            rw [if_pos (show nI ([] : List Int32).length < 2 by decide)]
            refine next μ1 [] _ rfl ?_ hs fr_refl _ (fun s' h => ⟨m - 1, by omega, h⟩)
            unfold evS
            rw [if_neg c1, if_neg c2]
          | cons b st =>
            cases st with
            | nil =>
              rw [if_pos (show nI ([b] : List Int32).length < 2 by rw [show ([b] : List Int32).length = 1 from rfl]; decide)]
              refine next μ1 [b] _ rfl ?_ hs fr_refl _ (fun s' h => ⟨m - 1, by omega, h⟩)
              unfold evS
              rw [if_neg c1, if_neg c2]
            | cons a st =>
              have hl1 : st.length + 1 < 32 := by simp at hlen; omega
              rw [if_neg (show ¬ nI (b :: a :: st).length < 2 from nI_nlt (a := (b :: a :: st).length) (b := 2) (by simp) (by simp; omega)), show nI (b :: a :: st).length + (-1) = nI (st.length + 1) from nI_dec, nI_pred, gd_eq (zin_nI (by omega) (by omega)), gd_eq (zin_nI (by omega) (by omega)), nI_cl (by omega), nI_cl (by omega), zlt_s, show μ1 (6, n, 4) (st.length + 1) = b from SK_top hs, SK_top (SK_pop hs)]
              refine next _ (f_X3_joined op a b :: st) _ rfl ?_ (SK_set (SK_pop hs)) (fr_mset rfl) _ (fun s' h => ⟨m - 1, by omega, h⟩)
              unfold evS
              rw [if_neg c1, if_neg c2]
  · rintro x μ1 ⟨st, h1, hs, f1, hv⟩
    dsimp only at h1 hs f1
    rw [jk_s]
    unfold lnB
    rw [← hv, h1]
    cases hst : st.reverse with
    | nil =>
      have e0 : st = [] := by simpa using hst
      subst e0
      rw [if_pos (by decide)]
      exact ok_some ⟨rfl, f1⟩
    | cons a l =>
      have hne : 0 < st.length := by
        have := congrArg List.length hst
        simp at this
        omega
      have ea : μ1 (6, n, 4) 0 = a := by
        rw [hs.2 0 hne]
        have e1 : st = (a :: l).reverse := by rw [← hst, List.reverse_reverse]
        have : st.getD (st.length - 1 - 0) 0 = (a :: l).getD 0 0 := by
          rw [← hst, List.getD_eq_getElem?_getD, List.getD_eq_getElem?_getD, List.getElem?_reverse hne]
        rw [this]
        rfl
      rw [if_neg (show ¬ nI st.length < 1 from nI_nlt (a := st.length) (b := 1) hne (by have := hs.1; omega)), ea]
      by_cases z : a = 0
      · rw [if_pos z]
        exact ok_some ⟨by dsimp only; rw [z]; rfl, f1⟩
      · rw [if_neg z]
        exact ok_some ⟨by dsimp only; rw [decide_eq_true z]; rfl, f1⟩
theorem lsum_take {ls : List LN} {t j : Nat} {E : Nat → Int32} (hj : j < ls.length) : lsum (lawOf (ls.take (j + 1))) t E = if (ls.getD j lnD).1 = t ∧ lnB E (ls.getD j lnD).2.2 = true then lsum (lawOf (ls.take j)) t E + (ls.getD j lnD).2.1 else lsum (lawOf (ls.take j)) t E := by
  have e1 : ls.take (j + 1) = ls.take j ++ [ls.getD j lnD] := by
    rw [List.take_succ]
    congr 1
    rw [List.getD_eq_getElem?_getD, List.getElem?_eq_getElem hj]
    rfl
  rw [e1]
  unfold lsum lawOf
  rw [List.map_append, List.foldl_append]
  rfl
theorem LawC_of {y : ZLay} {μ0 : ZMem} {n : Nat} {ls : List LN} (hL : LW y μ0 n ls) : LawC y μ0 n (lawOf ls) := by
  intro μ s c v h6 h5 h hm k hk t ht
  have h8 := h.1
  obtain ⟨⟨g1, g2, g3⟩, a0, z0, z1, z2, z3, a3, a4⟩ := id hL
  unfold f_X3_sum
  rw [bd_eq (CS_act h), zlt_s, x11_bit]
  have eal : (if actS v c &&& (bit1 k ^^^ (-1)) = 0 then (1 : Int32) else 0) = b2i (decide (actS v c &&& (bit1 k ^^^ (-1)) = 0)) := by
    by_cases z : actS v c &&& (bit1 k ^^^ (-1)) = 0
    · rw [if_pos z, decide_eq_true z]; rfl
    · rw [if_neg z, decide_eq_false z]; rfl
  rw [eal]
  refine ok_b2 (ok_seq ls.length (fun j (s' : Int32 × Int32 × ZMem) => s'.1 = lsum (lawOf (ls.take j)) t (envS c v k) ∧ s'.2.1 = nI j ∧ fr (stP n) μ s'.2.2) ?_ ?_ (Q := fun (q : Int32 × ZMem) => q.1 = lsum (lawOf ls) t (envS c v k) ∧ fr (stP n) μ q.2) ⟨rfl, rfl, fr_refl⟩ (FU_lt (by omega))) ?_
  · rintro j ⟨x, i, μ1⟩ hj ⟨h1, h2, f1⟩
    dsimp only at h1 h2 f1
    subst h1 h2
    have e6 : ∀ j, j < 4 → μ1 (6, n, j) = μ0 (6, n, j) := fun j hj => by rw [fr_at f1 (fun i => n64 hj)]; exact h6 j hj
    have e5 : μ1 (5, n, 0) = μ0 (5, n, 0) := by rw [fr_at f1 (fun i => show ¬ ((5, n, 0) : ZId) = (6, n, 4) from zne (by decide))]; exact h5
    obtain ⟨b0, b1, -, -⟩ := a4 j hj
    rw [un3_s, e5, a0, if_neg (nI_ge hj (by omega)), z0, z1, if_neg (show ¬ Int32.ofNat ls.length ≤ nI j from nI_ge hj (by omega)), if_neg (show ¬ Int32.ofNat ls.length ≤ nI j from nI_ge hj (by omega)), gd_eq (zin_nI hj (by omega)), nI_cl (by omega), e6 0 (by omega), b0]
    have ek : (nI (1010 + (ls.getD j lnD).1) = nI (1010 + t)) ↔ (ls.getD j lnD).1 = t := by
      rw [nI_eq (by have := (g3 j hj).1; omega) (by omega)]
      omega
    rw [lsum_take hj]
    by_cases c1 : (ls.getD j lnD).1 = t
    · rw [if_pos (ek.mpr c1)]
      refine ok_b2 (P := fun (q : Int32 × ZMem) => q.1 = (if (ls.getD j lnD).1 = t ∧ lnB (envS c v k) (ls.getD j lnD).2.2 = true then lsum (lawOf (ls.take j)) t (envS c v k) + (ls.getD j lnD).2.1 else lsum (lawOf (ls.take j)) t (envS c v k)) ∧ fr (stP n) μ q.2) ?_ ?_
      · refine ok_b2 (c_holds hL e6 (CS_st h f1) hk (hm k (by omega)) rfl hj) ?_
        rintro x μ2 ⟨w1, w2⟩
        dsimp only at w1 w2
        have f2 := fr_trans f1 w2
        have e62 : ∀ j, j < 4 → μ2 (6, n, j) = μ0 (6, n, j) := fun j hj => by rw [fr_at f2 (fun i => n64 hj)]; exact h6 j hj
        rw [w1]
        cases hb : lnB (envS c v k) (ls.getD j lnD).2.2
        · rw [if_pos (by decide), if_neg (by simp)]
          exact ok_some ⟨rfl, f2⟩
        · rw [if_neg (by decide), gd_eq (zin_nI hj (by omega)), zlt_s, e62 1 (by omega), b1, if_pos ⟨c1, rfl⟩]
          exact ok_some ⟨rfl, f2⟩
      · rintro x μ2 ⟨w1, w2⟩
        exact ok_some ⟨_, rfl, w1, nI_1 j, w2⟩
    · rw [if_neg (fun q => c1 (ek.mp q)), bd2_s, if_neg (fun q => c1 q.1)]
      exact ok_some ⟨_, rfl, rfl, nI_1 j, f1⟩
  · rintro ⟨x, i, μ1⟩ ⟨h1, h2, f1⟩
    dsimp only at h1 h2 f1
    subst h1 h2
    have e5 : μ1 (5, n, 0) = μ0 (5, n, 0) := by rw [fr_at f1 (fun i => show ¬ ((5, n, 0) : ZId) = (6, n, 4) from zne (by decide))]; exact h5
    rw [un3_s, e5, a0, if_pos (nI_le (Nat.le_refl _) (by omega)), List.take_length]
    exact ok_some ⟨_, rfl, rfl, f1⟩
  · rintro x μ1 ⟨h1, f1⟩
    exact ok_some ⟨h1, f1⟩
/-- no law at all -/
theorem LawC_none {y : ZLay} {μ0 : ZMem} {n : Nat} (h0 : μ0 (5, n, 0) 0 = -1) : LawC y μ0 n [] := by
  intro μ s c v h6 h5 h hm k hk t ht
  unfold f_X3_sum
  rw [bd_eq (CS_act h), zlt_s]
  refine ok_b2 (P := fun (q : Int32 × ZMem) => q.1 = 0 ∧ q.2 = μ) (ok_lp (fun m (s' : Int32 × Int32 × ZMem) => s' = (0, 0, μ) ∧ m = 0) ?_ (N := 0) ⟨rfl, rfl⟩ (FU_lt (by omega))) ?_
  · rintro m s' ⟨rfl, hm0⟩
    rw [un3_s, h5, h0, if_pos (by decide)]
    exact ok_some ⟨rfl, rfl⟩
  · rintro x μ1 ⟨h1, h2⟩
    dsimp only at h1 h2
    subst h1 h2
    exact ok_some ⟨rfl, fr_refl⟩
theorem lsum_rng {ls : List LN} (h : lnG ls) : LB (lawOf ls) := by
  intro t E
  have key : ∀ j, j ≤ ls.length → rng (lsum (lawOf (ls.take j)) t E) 0 (99 * (j : Int)) := by
    intro j
    induction j with
    | zero => intro _; exact rng_0 (by omega) (by omega)
    | succ j ih =>
      intro hj
      have i := ih (by omega)
      have h12 := h.1
      obtain ⟨-, b, hb, hb2⟩ := h.2.2 j (by omega)
      have rb : rng (ls.getD j lnD).2.1 0 99 := by
        rw [hb2]
        unfold rng
        rw [nI_toInt (by omega)]
        omega
      rw [lsum_take (by omega)]
      refine rng_if (fun _ => ?_) (fun _ => ?_)
      · exact rng_mono (rng_add i rb (by omega) (by omega)) (by omega) (by omega)
      · exact rng_mono i (by omega) (by omega)
  have k := key ls.length (Nat.le_refl _)
  rw [List.take_length] at k
  have := h.1
  exact rng_mono k (by omega) (by omega)
theorem LB_nil : LB [] := fun _ _ => rng_0 (by omega) (by omega)
