/-! the model reads a text -/
theorem mset_mset {μ : ZMem} {o : ZId} {k : Nat} {a b : Int32} : mset (mset μ o k a) o k b = mset μ o k b := by
  funext o' k'
  unfold mset
  by_cases h : o' = o ∧ k' = k
  · rw [if_pos h, if_pos h]
  · rw [if_neg h, if_neg h, if_neg h]
theorem mset_self {μ : ZMem} {o : ZId} {k : Nat} {a : Int32} (h : μ o k = a) : mset μ o k a = μ := by
  funext o' k'
  unfold mset
  by_cases h' : o' = o ∧ k' = k
  · rw [if_pos h', h'.1, h'.2, h]
  · rw [if_neg h']
def mpP (o : ZId) (i : Nat) : Prop := o = MO0 ∧ (i = 11 ∨ i = 12 ∨ i = 13)
def TX (T : Vec) (e : Nat) (μ : ZMem) : Prop := e ≤ 400 ∧ μ MO0 10 = nI e ∧ ((μ MO0 9 = -1 ∧ ∀ k, k < e → μ (0, 37, 0) k = T k) ∨ (μ MO0 9 = 337 ∧ ∀ k, k < e → μ MV0 (337 + k) = T k))
theorem TX_fr {P : ZId → Nat → Prop} {T : Vec} {e : Nat} {μ μ' : ZMem} (h : TX T e μ) (f : fr P μ μ') (hP : ¬ P MO0 9 ∧ ¬ P MO0 10 ∧ ∀ k, ¬ P (0, 37, 0) k ∧ ¬ P MV0 (337 + k)) : TX T e μ' := by
  obtain ⟨h0, h1, h2⟩ := h
  refine ⟨h0, by rw [f.1 _ _ hP.2.1]; exact h1, ?_⟩
  rcases h2 with ⟨a, b⟩ | ⟨a, b⟩
  · exact Or.inl ⟨by rw [f.1 _ _ hP.1]; exact a, fun k hk => by rw [f.1 _ _ (hP.2.2 k).1]; exact b k hk⟩
  · exact Or.inr ⟨by rw [f.1 _ _ hP.1]; exact a, fun k hk => by rw [f.1 _ _ (hP.2.2 k).2]; exact b k hk⟩
theorem TX_mp {T : Vec} {e : Nat} {μ μ' : ZMem} (h : TX T e μ) (f : fr mpP μ μ') : TX T e μ' :=
  TX_fr h f ⟨by rintro ⟨-, h⟩; omega, by rintro ⟨-, h⟩; omega, fun k => ⟨by rintro ⟨h, -⟩; exact absurd h (by decide), by rintro ⟨h, -⟩; exact absurd h (by decide)⟩⟩
section MT
variable {T : Vec} {e : Nat}
theorem m_letter {μ : ZMem} {k : Nat} (h : TX T e μ) (hk : k < e) : f_X12_letter (nI k) μ = some (T k) := by
  obtain ⟨h0, h1, h2⟩ := h
  unfold f_X12_letter
  rcases h2 with ⟨a, b⟩ | ⟨a, b⟩
  · rw [if_pos a, gd_eq (zin_nI (by omega) (by omega)), nI_cl (by omega), b k hk]
    rfl
  · have e1 : (337 : Int32) + nI k = nI (337 + k) := nI_add 337 k
    rw [a, if_neg (by decide), e1, gd_eq (zin_nI (by omega) (by omega)), nI_cl (by omega), b k hk]
    rfl
def MP (μ : ZMem) (T : Vec) (e q dp : Nat) : Prop := TX T e μ ∧ μ MO0 12 = -1 ∧ μ MO0 13 = nI dp ∧ ∃ p, μ MO0 11 = nI p ∧ RS T e p q
theorem MP_gq {μ : ZMem} {q dp : Nat} (h : MP μ T e q dp) : gq T e q := by
  obtain ⟨⟨he, -⟩, -, -, p, -, hr⟩ := h
  obtain ⟨-, a, b⟩ := RS_le he hr
  exact ⟨a, b⟩
theorem MP_to {μ : ZMem} {q dp p q' : Nat} (h : MP μ T e q dp) (hr : RS T e p q') : MP (mset μ MO0 11 (nI p)) T e q' dp := by
  obtain ⟨h1, h2, h3, -⟩ := h
  exact ⟨TX_mp h1 (fr_mset ⟨rfl, Or.inl rfl⟩), by rw [mset_k (by decide)]; exact h2, by rw [mset_k (by decide)]; exact h3, p, by rw [mset_at], hr⟩
theorem MP_rest {μ : ZMem} {q dp : Nat} (h : MP μ T e q dp) : MP (mset μ MO0 11 (nI q)) T e q dp := by
  have h' := h
  obtain ⟨⟨he, -⟩, -, -, p, -, hr⟩ := h'
  exact MP_to h (RS_rest he hr)
theorem at_fr {μ : ZMem} {x : Int32} : fr mpP μ (mset μ MO0 11 x) := fr_mset ⟨rfl, Or.inl rfl⟩
theorem m_skip {μ : ZMem} {q dp : Nat} (h : MP μ T e q dp) : f_X12_skip μ = some (mset μ MO0 11 (nI q)) := by
  obtain ⟨hT, h2, h3, p, h4, hr⟩ := id h
  have he := hT.1
  obtain ⟨r1, r2, r3⟩ := RS_le he hr
  unfold f_X12_skip
  refine ok_val (ok_b1 (ok_lp (fun m s => ∃ p', s = mset μ MO0 11 (nI p') ∧ p ≤ p' ∧ p' + m = q) (Q := fun μ' => μ' = mset μ MO0 11 (nI q)) ?_ (N := q - p) ⟨p, (mset_self h4).symm, Nat.le_refl _, by omega⟩ (FU_lt (by omega))) (fun a ha => ok_some ha))
  rintro m s ⟨p', rfl, h5, h6⟩
  have hTs : TX T e (mset μ MO0 11 (nI p')) := TX_mp hT at_fr
  have eN : (mset μ MO0 11 (nI p')) (0, 32, 0) 10 = nI e := hTs.2.1
  have eA : (mset μ MO0 11 (nI p')) (0, 32, 0) 11 = nI p' := mset_at
  rw [eN, eA]
  by_cases hp : p' < e
  · rw [if_neg (nI_ge hp (by omega)), bd_eq (m_letter hTs hp)]
    by_cases hq : p' < q
    · rw [if_pos (hr.2.2 p' h5 hq), nI_1, zlt_s, show ((0, 32, 0) : ZId) = MO0 from rfl, mset_mset]
      exact ok_some ⟨m - 1, by omega, p' + 1, rfl, by omega, by omega⟩
    · have ep : p' = q := by omega
      subst ep
      rw [if_neg (by
        rcases r3 with r3 | r3
        · omega
        · unfold bgn at r3
          intro q
          rw [q] at r3
          simp at r3)]
      exact ok_some rfl
  · rw [if_pos (nI_le (by omega) (by omega))]
    have ep : p' = q := by omega
    subst ep
    exact ok_some rfl
theorem MP_at {μ : ZMem} {q dp : Nat} : (mset μ MO0 11 (nI q)) (0, 32, 0) 11 = nI q := mset_at
theorem MP_end {μ : ZMem} {q dp : Nat} (h : MP μ T e q dp) : μ (0, 32, 0) 10 = nI e := h.1.2.1
theorem m_isSign {μ : ZMem} {q dp c : Nat} (hB : HB T e) (h : MP μ T e q dp) (hc : c < 256) (c1 : isLt (nI c) = false) (c2 : isDg (nI c) = false) : f_X12_isSign (nI c) μ = some (b2i (decide (cd T e q = nI (2000 + c))), mset μ MO0 11 (nI q)) := by
  have hg := MP_gq h
  have hR := MP_rest h
  have he := h.1.1
  have hs := cd_sign (q := q) hB hc c1 c2
  unfold f_X12_isSign
  rw [bd_eq (m_skip h), jk_s, MP_end hR, MP_at (dp := dp)]
  by_cases hq : q < e
  · rw [if_neg (nI_ge hq (by omega)), bd_eq (m_letter hR.1 hq)]
    by_cases hc : T q = nI c
    · rw [if_pos hc, decide_eq_true (hs.mpr ⟨hq, hc⟩)]; rfl
    · rw [if_neg hc, decide_eq_false (fun q => hc (hs.mp q).2)]; rfl
  · have hqe := hg.1
    rw [if_pos (nI_le (by omega) (by omega)), decide_eq_false (fun q => hq (hs.mp q).1)]; rfl
theorem m_here {μ : ZMem} {q dp : Nat} (h : MP μ T e q dp) : f_X12_here μ = some (nI q, mset μ MO0 11 (nI q)) := by
  unfold f_X12_here
  rw [bd_eq (m_skip h), MP_at (dp := dp)]
theorem m_wrong {μ : ZMem} {x : Int32} (h : μ MO0 12 = -1) : f_X12_wrong x μ = some (mset μ MO0 12 x) := by
  unfold f_X12_wrong
  rw [if_pos (show μ (0, 32, 0) 12 = -1 from h)]
  rfl
def jmL : List Nat := [0, 17, 18, 1, 2, 9, 10, 19, 20, 21, 22, 0, 23, 24, 25, 3, 4, 5, 6, 7, 8, 16, 15, 14, 11, 12, 13]
theorem jm_all : ∀ w : Fin 27, 1 ≤ w.val → zByt.getD w.val [] = WL.getD (jmL.getD w.val 0) [] ∧ zLen.getD w.val 0 = (WL.getD (jmL.getD w.val 0) []).length ∧ jmL.getD w.val 0 < 26 := by decide +kernel
theorem m_has {μ : ZMem} {q dp w : Nat} (hB : HB T e) (h : MP μ T e q dp) (hw : 1 ≤ w ∧ w < 27) :
    f_X12_has w μ = some (b2i (decide (cd T e q = nI (1000 + jmL.getD w 0))), mset μ MO0 11 (nI (if cd T e q = nI (1000 + jmL.getD w 0) then tend T e q else q))) := by
  have hg := MP_gq h
  have hR := MP_rest h
  have he := h.1.1
  have hqe := hg.1
  obtain ⟨j1, j2, j3⟩ := jm_all ⟨w, hw.2⟩ hw.1
  dsimp only at j1 j2 j3
  obtain ⟨j, hj⟩ : ∃ j, j = jmL.getD w 0 := ⟨_, rfl⟩
  rw [← hj] at j1 j2 j3 ⊢
  obtain ⟨ww, hww⟩ : ∃ ww, ww = WL.getD j [] := ⟨_, rfl⟩
  have hlen := (WL_len ⟨j, j3⟩)
  dsimp only at hlen
  have hcd := cd_word (q := q) hB j3
  have hlt : ∀ i, i < (WL.getD j []).length → isLt ((WL.getD j []).getD i 0) = true := fun i hi => WL_c j3 hi
  rw [← hww] at j1 j2 hlen hcd hlt
  have ezl : zsl w = nI ww.length := by unfold zsl; rw [j2]; rfl
  have ezc : ∀ i, i < 2 ^ 31 → zchr w (nI i) = ww.getD i 0 := fun i hi => by unfold zchr; rw [j1, nI_cl hi]
  obtain ⟨r, hr⟩ : ∃ r, r = adv (ltB T e) 401 q := ⟨_, rfl⟩
  obtain ⟨a1, a2, a3, a4⟩ := adv_spec (ltB_lt (T := T) (e := e)) 401 q hqe (by omega)
  rw [← hr] at a1 a2 a3 a4
  have hT : ∀ i, q ≤ i → i < r → i < e ∧ isLt (T i) = true := fun i h1 h2 => by
    have := a4 i h1 h2
    unfold ltB at this
    simpa using Bool.and_eq_true_iff.mp this
  have wmr : wm T e q ww = true → r = q + ww.length := by
    intro hm
    rw [wm_iff] at hm
    rw [hr]
    refine adv_uniq (ltB_lt (T := T) (e := e)) hqe (by omega) (by omega) hm.2 (fun i h1 h2 => ?_)
    obtain ⟨b1, b2⟩ := hm.1 (i - q) (by omega)
    rw [show q + (i - q) = i by omega] at b1 b2
    unfold ltB
    rw [b2, hlt _ (by omega), decide_eq_true b1]
    rfl
  have wmr2 : r = q + ww.length → (∀ i, i < ww.length → T (q + i) = ww.getD i 0) → wm T e q ww = true := by
    intro h1 h2
    rw [wm_iff]
    exact ⟨fun i hi => ⟨(hT (q + i) (by omega) (by omega)).1, h2 i hi⟩, by rw [← h1]; exact a3⟩
  unfold f_X12_has
  rw [bd_eq (m_skip h), zlt_s, MP_end hR, MP_at (dp := dp)]
  rw [bd_eq (lp_seq (r := nI r) (r - q) (fun k => nI (q + k)) ?_ ?_ (FU_lt (by omega)) (by rw [Nat.add_zero]))]
  · rw [nI_sub a1, ezl]
    by_cases hl : r - q = ww.length
    · rw [if_pos (by rw [hl])]
      refine ok_val (ok_b1 (ok_lp (fun m s => ∃ i, s = nI i ∧ i + m = ww.length ∧ ∀ i', i' < i → T (q + i') = ww.getD i' 0) (Q := fun z => (z = .inl () ∧ ∀ i, i < ww.length → T (q + i) = ww.getD i 0) ∨ (z = .inr (0, mset μ MO0 11 (nI q)) ∧ ¬ ∀ i, i < ww.length → T (q + i) = ww.getD i 0)) ?_ (N := ww.length) ⟨0, rfl, by omega, fun i hi => absurd hi (by omega)⟩ (FU_lt (by omega))) ?_)
      · rintro m s ⟨i, rfl, hm, hi⟩
        by_cases hend : m = 0
        · rw [if_pos (nI_le (by omega) (by omega))]
          exact ok_some (Or.inl ⟨rfl, fun i' hi' => hi i' (by omega)⟩)
        · rw [if_neg (nI_ge (by omega) (by omega)), nI_add, bd_eq (m_letter hR.1 (hT (q + i) (by omega) (by omega)).1), j2, gd_eq (zin_nI (by omega) (by omega)), ezc i (by omega)]
          by_cases hc : T (q + i) = ww.getD i 0
          · rw [if_pos hc]
            refine ok_some ⟨m - 1, by omega, i + 1, nI_1 i, by omega, fun i' hi' => ?_⟩
            by_cases ei : i' = i
            · rw [ei]; exact hc
            · exact hi i' (by omega)
          · rw [if_neg hc]
            exact ok_some (Or.inr ⟨rfl, fun q => hc (q i (by omega))⟩)
      · rintro z (⟨rfl, hz⟩ | ⟨rfl, hz⟩)
        · have hm := wmr2 (by omega) hz
          have hc := hcd.mpr hm
          have ht : tend T e q = r := by
            unfold tend
            rw [if_pos (wm_lt j3 (by rw [← hww]; exact hm)).2, hr]
          refine ok_some ?_
          rw [decide_eq_true hc, if_pos hc, ht, show ((0, 32, 0) : ZId) = MO0 from rfl, mset_mset]
          rfl
        · have hc : ¬ cd T e q = nI (1000 + j) := fun q => hz (by
            have hm := hcd.mp q
            rw [wm_iff] at hm
            exact fun i hi => (hm.1 i hi).2)
          refine ok_some ?_
          rw [decide_eq_false hc, if_neg hc]
          rfl
    · rw [if_neg (by rw [nI_eq (by omega) (by omega)]; exact hl)]
      have hc : ¬ cd T e q = nI (1000 + j) := fun q => hl (by have := wmr (hcd.mp q); omega)
      rw [decide_eq_false hc, if_neg hc]
      rfl
  · intro k hk
    obtain ⟨b1, b2⟩ := hT (q + k) (by omega) (by omega)
    rw [if_neg (nI_ge b1 (by omega)), bd_eq (m_letter hR.1 b1), bd_eq m_isIn, show decide (97 ≤ T (q + k) ∧ T (q + k) ≤ 122) = true from b2, if_neg (by decide), nI_1]
    rfl
  · rw [show q + (r - q) = r by omega]
    by_cases hre : r < e
    · rw [if_neg (nI_ge hre (by omega)), bd_eq (m_letter hR.1 hre), bd_eq m_isIn]
      have : isLt (T r) = false := by
        unfold ltB at a3
        rw [decide_eq_true hre, Bool.true_and] at a3
        exact a3
      rw [show decide (97 ≤ T r ∧ T r ≤ 122) = false from this, if_pos (by decide)]
    · rw [if_pos (nI_le (by omega) (by omega))]
/-- behind what was read -/
theorem MP_nx {μ : ZMem} {q dp : Nat} (h : MP μ T e q dp) (hq : q < e) : MP (mset μ MO0 11 (nI (tend T e q))) T e (nx T e q) dp := MP_to h (tend_RS h.1.1 hq).2
theorem tend_sign {q c : Nat} (hT : T q = nI c) (c1 : isLt (nI c) = false) (c2 : isDg (nI c) = false) : tend T e q = q + 1 := by
  unfold tend
  rw [hT, c1, c2]
  rfl
theorem m_figures {μ : ZMem} {q dp : Nat} {lo hi : Int32} (hB : HB T e) (h : MP μ T e q dp) (hlo : 0 ≤ lo) (hhi : hi ≤ 999) :
    ok (f_X12_figures lo hi μ) (fun r => fr mpP μ r.2 ∧ (lo ≤ cd T e q ∧ cd T e q ≤ hi → r.1 = cd T e q ∧ MP r.2 T e (nx T e q) dp) ∧ (¬ (lo ≤ cd T e q ∧ cd T e q ≤ hi) → r.2 MO0 12 = nI q ∧ ∃ p, p ≤ 400 ∧ r.2 MO0 11 = nI p)) := by
  have hg := MP_gq h
  have hR := MP_rest h
  have he := h.1.1
  have hqe := hg.1
  unfold f_X12_figures
  rw [if_pos (show μ (0, 32, 0) 12 = -1 from h.2.1), bd2_eq (m_here h)]
  refine ok_b2 (ok_lp (fun m s => ∃ k, s = (VV T q k, mset μ MO0 11 (nI (q + k))) ∧ k + m = 4 ∧ (∀ i, i < k → dgB T e (q + i) = true)) (Q := fun z => ∃ k, z = (VV T q k, mset μ MO0 11 (nI (q + k))) ∧ k ≤ 4 ∧ (∀ i, i < k → dgB T e (q + i) = true) ∧ (k = 4 ∨ dgB T e (q + k) = false)) ?_ (N := 4) ⟨0, rfl, rfl, fun i hi => absurd hi (by omega)⟩ (FU_lt (by omega))) ?_
  · rintro m s ⟨k, rfl, hm, hk⟩
    have hTs : TX T e (mset μ MO0 11 (nI (q + k))) := TX_mp h.1 at_fr
    have eN : (mset μ MO0 11 (nI (q + k))) (0, 32, 0) 10 = nI e := hTs.2.1
    have eA : (mset μ MO0 11 (nI (q + k))) (0, 32, 0) 11 = nI (q + k) := mset_at
    rw [un2_s, eN, eA]
    by_cases hqk : q + k < e
    · rw [if_neg (nI_ge hqk (by omega)), bd_eq (m_letter hTs hqk), bd_eq m_isIn]
      cases hd : isDg (T (q + k))
      · rw [show decide (48 ≤ T (q + k) ∧ T (q + k) ≤ 57) = false from hd, if_pos (by decide)]
        exact ok_some ⟨k, rfl, by omega, hk, Or.inr (by unfold dgB; rw [hd, Bool.and_false])⟩
      · rw [show decide (48 ≤ T (q + k) ∧ T (q + k) ≤ 57) = true from hd, if_neg (by decide), nI_sub (by omega), Nat.add_sub_cancel_left]
        by_cases h4 : k = 4
        · rw [if_pos (show (3 : Int32) < nI k by rw [h4]; decide)]
          exact ok_some ⟨k, rfl, by omega, hk, Or.inl h4⟩
        · rw [if_neg (show ¬ (3 : Int32) < nI k from nI_nlt (b := k) (a := 3) (by omega) (by omega)), bd_eq (m_letter hTs hqk), zlt_s, zlt_s, nI_1, show ((0, 32, 0) : ZId) = MO0 from rfl, mset_mset]
          refine ok_some ⟨m - 1, by omega, k + 1, ?_, by omega, fun i hi => ?_⟩
          · rw [show q + (k + 1) = q + k + 1 by omega]
            rfl
          · by_cases ei : i = k
            · rw [ei]; unfold dgB; rw [hd, decide_eq_true hqk]; rfl
            · exact hk i (by omega)
    · rw [if_pos (nI_le (by omega) (by omega))]
      exact ok_some ⟨k, rfl, by omega, hk, Or.inr (by unfold dgB; rw [decide_eq_false hqk]; rfl)⟩
  · rintro x μ1 ⟨k, hz, hk4, hk, hend⟩
    cases hz
    have eA : (mset μ MO0 11 (nI (q + k))) (0, 32, 0) 11 = nI (q + k) := mset_at
    have e12 : (mset μ MO0 11 (nI (q + k))) MO0 12 = -1 := by rw [mset_k (by decide)]; exact h.2.1
    rw [jk_s, eA, bd_eq (m_wrong e12), nI_sub (by omega), Nat.add_sub_cancel_left]
    have hqk : q + k ≤ e := by
      by_cases hk0 : k = 0
      · omega
      · have := (dgB_T (hk (k - 1) (by omega))).1
        omega
    have bad : ¬ (lo ≤ cd T e q ∧ cd T e q ≤ hi) → ok (bd (α := ZMem) (some (mset (mset μ MO0 11 (nI (q + k))) MO0 12 (nI q))) (fun (μ21 : ZMem) => some (VV T q k, μ21))) (fun r => fr mpP μ r.2 ∧ (lo ≤ cd T e q ∧ cd T e q ≤ hi → r.1 = cd T e q ∧ MP r.2 T e (nx T e q) dp) ∧ (¬ (lo ≤ cd T e q ∧ cd T e q ≤ hi) → r.2 MO0 12 = nI q ∧ ∃ p, p ≤ 400 ∧ r.2 MO0 11 = nI p)) := by
      intro hn
      refine ok_some ⟨fr_trans at_fr (fr_mset ⟨rfl, by omega⟩), fun q => absurd q hn, fun _ => ⟨?_, q + k, by omega, ?_⟩⟩
      · dsimp only
        rw [mset_at]
      · dsimp only
        rw [mset_k (by decide), mset_at]
    have no_of : ∀ n : Nat, 1000 ≤ n → n < 3002 → cd T e q = nI n → ¬ (lo ≤ cd T e q ∧ cd T e q ≤ hi) := by
      rintro n h1 h2 h3 ⟨-, h4⟩
      rw [h3, Int32.le_iff_toInt_le, nI_toInt (by omega)] at h4
      rw [Int32.le_iff_toInt_le] at hhi
      have e1 : (999 : Int32).toInt = 999 := by decide
      omega
    by_cases hk0 : k = 0
    · rw [if_pos (by rw [hk0]; rfl)]
      refine bad ?_
      obtain ⟨n, n1, n2, n3, -⟩ := cd_nat (q := q) hB
      by_cases hn : n < 1000
      · obtain ⟨d1, d2⟩ := n3 hn
        rcases hend with hend | hend
        · omega
        · rw [hk0, Nat.add_zero] at hend
          unfold dgB at hend
          rw [decide_eq_true d1, d2] at hend
          exact absurd hend (by decide)
      · exact no_of n (by omega) n1 n2
    · rw [if_neg (by rw [nI_eq (by omega) (by omega)]; omega)]
      have hd0 := dgB_T (hk 0 (by omega))
      rw [Nat.add_zero] at hd0
      have ecd := cd_n hd0.1 hd0.2
      by_cases hk3 : k = 4
      · rw [if_pos (show (3 : Int32) < nI k by rw [hk3]; decide)]
        refine bad (no_of 3000 (by omega) (by omega) ?_)
        rw [ecd]
        unfold ncode
        rw [if_neg (by rw [hk 1 (by omega)]; decide), if_neg (by rw [hk 2 (by omega)]; decide), if_neg (by rw [hk 3 (by omega)]; decide)]
        rfl
      · rw [if_neg (show ¬ (3 : Int32) < nI k from nI_nlt (b := k) (a := 3) (by omega) (by omega))]
        have hde : dgB T e (q + k) = false := by
          rcases hend with hend | hend
          · omega
          · exact hend
        have eV : cd T e q = VV T q k := by
          rw [ecd]
          unfold ncode
          have h123 : k = 1 ∨ k = 2 ∨ k = 3 := by omega
          rcases h123 with rfl | rfl | rfl
          · rw [if_pos hde]
          · rw [if_neg (by rw [hk 1 (by omega)]; decide), if_pos hde]
          · rw [if_neg (by rw [hk 1 (by omega)]; decide), if_neg (by rw [hk 2 (by omega)]; decide), if_pos hde]
        rw [eV] at bad ⊢
        by_cases h1 : VV T q k < lo
        · rw [if_pos h1]
          exact bad (fun q => Int32.not_lt.mpr q.1 h1)
        · rw [if_neg h1]
          by_cases h2 : VV T q k ≤ hi
          · rw [if_pos h2, bd_s]
            refine ok_some ⟨at_fr, fun _ => ⟨rfl, ?_⟩, fun q => absurd ⟨Int32.not_lt.mp h1, h2⟩ q⟩
            have et : tend T e q = q + k := by
              unfold tend
              rw [if_neg (by rw [dg_lt hd0.2]; decide), if_pos hd0.2]
              exact adv_uniq (dgB_lt (T := T) (e := e)) hqe (by omega) (by omega) hde (fun i h3 h4 => by
                have := hk (i - q) (by omega)
                rw [show q + (i - q) = i by omega] at this
                exact this)
            rw [← et]
            exact MP_nx h hd0.1
          · rw [if_neg h2]
            exact bad (fun q => h2 q.2)
end MT
