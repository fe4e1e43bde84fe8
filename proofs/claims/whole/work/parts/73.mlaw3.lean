/-! the model reads a law's condition, whole; lines -/
section ME
variable {T : Vec} {e : Nat} {E : Nat → Int32}
theorem dp_fr {μ : ZMem} {x : Int32} : fr mpP μ (mset μ MO0 13 x) := fr_mset ⟨rfl, Or.inr (Or.inr rfl)⟩
theorem MP_dp {μ : ZMem} {q dp d' : Nat} (h : MP μ T e q dp) : MP (mset μ MO0 13 (nI d')) T e q d' := by
  obtain ⟨h1, h2, h3, p, h4, h5⟩ := h
  exact ⟨TX_mp h1 dp_fr, by rw [mset_k (by decide)]; exact h2, by rw [mset_at], p, by rw [mset_k (by decide)]; exact h4, h5⟩
theorem FA_dp {μ : ZMem} {dp f : Nat} {x : Int32} (h : FA μ (dp + 1) f) : FA (mset μ MO0 13 x) dp f := by
  obtain ⟨h1, p, h2, h3⟩ := h
  exact ⟨by rw [mset_k (by decide)]; exact h1, p, by omega, by rw [mset_k (by decide)]; exact h3⟩
theorem FA_at {μ : ZMem} {dp f : Nat} (h : FA μ (dp + 1) f) : FA (mset (mset μ MO0 11 (μ (0, 32, 0) 11 + 1)) MO0 13 ((mset μ MO0 11 (μ (0, 32, 0) 11 + 1)) (0, 32, 0) 13 - 1)) dp f := by
  obtain ⟨h1, p, h2, h3⟩ := h
  refine ⟨by rw [mset_k (by decide), mset_k (by decide)]; exact h1, p + 1, by omega, ?_⟩
  rw [mset_k (by decide), mset_at, show μ (0, 32, 0) 11 = nI p from h3, nI_1]
theorem RB_atomG (hB : HB T e) (he : e ≤ 400) {recAtom recSome : ZMem → Option (Int32 × ZMem)} {r dp : Nat} (hd : dp + r = 6)
    (hrec : ∀ r', r = r' + 1 → RB T e E (dp + 1) (5 + 2 * r') recSome (pSome T e (pAtom T e r')) ∧ RB T e E (dp + 1) (3 + 2 * r') recAtom (pAtom T e r')) :
    RB T e E dp (3 + 2 * r) (g_X12_atom recAtom recSome) (pAtom T e r) := by
  intro μ q h hE
  have hg := MP_gq h
  have hqe := hg.1
  have hR := MR_of h
  unfold g_X12_atom
  rw [if_pos (show μ (0, 32, 0) 12 = -1 from h.2.1), bd2_eq (m_here h)]
  refine ok_mono (Q := fun r' => mOut T e E (mset μ MO0 11 (nI q)) dp (3 + 2 * r) (pAtom T e r q) r' ∧ zbo r'.1 = true) ?_ (fun r' h => ⟨mOut_mp at_fr h.1, h.2⟩)
  have hE1 := EF_mp hE (at_fr (μ := μ) (x := nI q))
  generalize mset μ MO0 11 (nI q) = μ1 at hR hE1 ⊢
  by_cases h16 : cd T e q = nI (1000 + 16)
  · have hq : q < e := cd_lt (ne_code h16 (by omega) (b := 3001) (by omega) (by omega))
    have h16' : cd T e q = 1016 := h16
    rw [has_t hB hR (by omega) (show jmL.getD 21 0 = 16 by decide) h16, jk_s, if_neg (by decide)]
    have m2 := MP_nx hR.1 hq
    have f2 : fr mpP μ1 (mset μ1 MO0 11 (nI (tend T e q))) := at_fr
    have a2 : (mset μ1 MO0 11 (nI (tend T e q))) (0, 32, 0) 11 = nI (tend T e q) := mset_at
    have ht := (tend_RS (T := T) he hq).2.1
    generalize mset μ1 MO0 11 (nI (tend T e q)) = μ2 at m2 f2 a2 ⊢
    dsimp only
    rw [show μ2 (0, 32, 0) 13 = nI dp from m2.2.2.1]
    cases r with
    | zero =>
      rw [if_pos (show nI dp = 6 by rw [show dp = 6 by omega]; rfl), bd_eq (m_wrong m2.2.1)]
      refine ok_some ⟨mOut_f (by unfold pAtom; rw [if_pos (Or.inl h16')]) (fr_trans f2 wrong_fr) ⟨mset_at, tend T e q, by omega, by rw [mset_k (by decide)]; exact a2⟩, (show zbo (0 : Int32) = true by decide)⟩
    | succ r =>
      obtain ⟨rs, ra⟩ := hrec r rfl
      rw [if_neg (show ¬ nI dp = 6 from ne_code (a := dp) (b := 6) rfl (by omega) (by omega) (by omega)), nI_1, zlt_s, if_neg (by decide)]
      have m3 := MP_dp (d' := dp + 1) m2
      have f3 : fr mpP μ1 (mset μ2 MO0 13 (nI (dp + 1))) := fr_trans f2 dp_fr
      refine ok_b2 (P := fun (r' : Int32 × ZMem) => ∃ x, r'.1 = (if x = 0 then 1 else 0) ∧ mOut T e E (mset μ2 MO0 13 (nI (dp + 1))) (dp + 1) (3 + 2 * r) (pAtom T e r (nx T e q)) (x, r'.2) ∧ zbo x = true) (ok_b2 (ra _ _ m3 (EF_mp hE1 f3)) (fun x37 μ38 h => by rw [zlt_s]; exact ok_some ⟨x37, rfl, h.1, h.2⟩)) ?_
      rintro x21 μ22 ⟨x, hx, ⟨o1, o2, o3⟩, o4⟩
      dsimp only at hx o1 o2 o3
      have hx1 : x21 = 1 - x := by rw [hx]; rcases zbo_cases o4 with rfl | rfl <;> decide
      have hz : zbo x21 = true := by rw [hx]; rcases zbo_cases o4 with rfl | rfl <;> decide
      rw [zlt_s, gd_eq hz]
      refine ok_some ⟨?_, hz⟩
      have f4 : fr mpP μ1 (mset μ22 MO0 13 (μ22 (0, 32, 0) 13 - 1)) := fr_trans f3 (fr_trans o1 dp_fr)
      rw [pAtom, if_pos h16']
      cases hp : pAtom T e r (nx T e q) with
      | inl f => exact mOut_f rfl f4 (FA_dp (o2 f hp))
      | inr qc =>
        obtain ⟨q', c⟩ := qc
        obtain ⟨a, b⟩ := o3 q' c hp
        have m5 := MP_dp (d' := dp) a
        have e13 : μ22 (0, 32, 0) 13 - 1 = nI dp := by
          rw [show μ22 (0, 32, 0) 13 = nI (dp + 1) from a.2.2.1]
          exact nI_pred dp
        rw [e13] at f4 ⊢
        refine mOut_r rfl f4 m5 ?_
        rw [hx1]
        exact EV_not (EV_mono b (by omega))
  · have h16' : ¬ cd T e q = 1016 := h16
    rw [has_f hB hR (by omega) (show jmL.getD 21 0 = 16 by decide) h16, jk_s, if_pos rfl, bd2_eq (show f_X12_isSign 40 μ1 = _ from m_isSign hB hR.1 (c := 40) (by omega) (by decide) (by decide)), mset_self hR.2]
    by_cases h40 : cd T e q = nI (2000 + 40)
    · have h40' : cd T e q = 2040 := h40
      obtain ⟨hq, ht⟩ := (cd_sign hB (c := 40) (by omega) (by decide) (by decide)).mp h40
      rw [decide_eq_true h40, if_neg (show ¬ b2i true = 0 by decide)]
      dsimp only
      rw [show μ1 (0, 32, 0) 13 = nI dp from hR.1.2.2.1]
      cases r with
      | zero =>
        rw [if_pos (show nI dp = 6 by rw [show dp = 6 by omega]; rfl), bd_eq (m_wrong hR.1.2.1)]
        exact ok_some ⟨mOut_f (by unfold pAtom; rw [if_pos (Or.inr h40')]) wrong_fr (FA_wrong (by omega) (by omega) hR.2), (show zbo (0 : Int32) = true by decide)⟩
      | succ r =>
        obtain ⟨rs, ra⟩ := hrec r rfl
        have hA := some_g he (atom_g (T := T) he r)
        rw [if_neg (show ¬ nI dp = 6 from ne_code (a := dp) (b := 6) rfl (by omega) (by omega) (by omega)), nI_1, zlt_s, if_pos rfl, zlt_s]
        have m2 := MP_dp (d' := dp + 1) (MP_nx hR.1 hq)
        rw [tend_sign ht (by decide) (by decide)] at m2
        have e2 : mset (mset μ1 (0, 32, 0) 13 (nI (dp + 1))) (0, 32, 0) 11 ((mset μ1 (0, 32, 0) 13 (nI (dp + 1))) (0, 32, 0) 11 + 1) = mset (mset μ1 MO0 11 (nI (q + 1))) MO0 13 (nI (dp + 1)) := by
          rw [mset_k (by decide), show μ1 (0, 32, 0) 11 = nI q from hR.2, nI_1]
          funext o k
          unfold mset
          by_cases c1 : o = MO0 ∧ k = 13
          · rw [if_neg (by rintro ⟨-, h⟩; omega), if_pos c1, if_pos c1]
          · rw [if_neg c1, if_neg c1]
        rw [e2]
        have f3 : fr mpP μ1 (mset (mset μ1 MO0 11 (nI (q + 1))) MO0 13 (nI (dp + 1))) := fr_trans at_fr dp_fr
        generalize mset (mset μ1 MO0 11 (nI (q + 1))) MO0 13 (nI (dp + 1)) = μ3 at m2 f3 ⊢
        refine ok_b2 (P := fun r' => mOut T e E μ1 dp (3 + 2 * (r + 1)) (pAtom T e (r + 1) q) (r'.1, mset r'.2 MO0 13 (r'.2 (0, 32, 0) 13 - 1)) ∧ zbo r'.1 = true) ?_ (fun x21 μ22 h => by rw [zlt_s, gd_eq h.2]; exact ok_some h)
        refine ok_b2 (rs _ _ m2 (EF_mp hE1 f3)) ?_
        rintro x25 μ4 ⟨⟨o1, o2, o3⟩, o4⟩
        dsimp only at o1 o2 o3 o4
        have f4 := fr_trans f3 o1
        rw [show pAtom T e (r + 1) q = prB (pSome T e (pAtom T e r) (nx T e q)) (fun q' c => if cd T e q' = 2041 then .inr (nx T e q', c) else .inl q') by rw [pAtom, if_neg h16', if_pos h40']]
        cases hs : pSome T e (pAtom T e r) (nx T e q) with
        | inl f =>
          have hf := (hA _ (gq_nx he hq)).1 f hs
          rw [if_neg (fault_ne (o2 f hs).1 (by omega)), bd_s, zlt_s]
          exact ok_some ⟨mOut_f rfl (fr_trans f4 (fr_trans at_fr dp_fr)) (FA_at (o2 f hs)), o4⟩
        | inr qc =>
          obtain ⟨q', c⟩ := qc
          obtain ⟨m4, v4⟩ := o3 q' c hs
          obtain ⟨p1, p2, p3⟩ := (hA _ (gq_nx he hq)).2 q' c hs
          have hq'e := p1.1
          show ok _ (fun (r' : Int32 × ZMem) => mOut T e E μ1 dp (3 + 2 * (r + 1)) (if cd T e q' = 2041 then .inr (nx T e q', c) else .inl q') (r'.1, mset r'.2 MO0 13 (r'.2 (0, 32, 0) 13 - 1)) ∧ zbo r'.1 = true)
          rw [if_pos (show μ4 (0, 32, 0) 12 = -1 from m4.2.1), bd2_eq (show f_X12_isSign 41 μ4 = _ from m_isSign hB m4 (c := 41) (by omega) (by decide) (by decide))]
          have m5 := MR_of m4
          by_cases h41 : cd T e q' = nI (2000 + 41)
          · have h41' : cd T e q' = 2041 := h41
            obtain ⟨hq', hmp⟩ := sign_go hB m4 (c := 41) (by omega) (by decide) (by decide) h41
            rw [decide_eq_true h41, if_neg (show ¬ b2i true = 0 by decide), if_pos h41', bd_s, zlt_s]
            have m6 := MP_dp (d' := dp) hmp
            have e13 : (mset (mset μ4 MO0 11 (nI q')) MO0 11 ((mset μ4 MO0 11 (nI q')) (0, 32, 0) 11 + 1)) (0, 32, 0) 13 - 1 = nI dp := by
              rw [show (mset (mset μ4 MO0 11 (nI q')) MO0 11 ((mset μ4 MO0 11 (nI q')) (0, 32, 0) 11 + 1)) (0, 32, 0) 13 = nI (dp + 1) from hmp.2.2.1]
              exact nI_pred dp
            refine ok_some ⟨?_, o4⟩
            dsimp only
            rw [e13]
            exact mOut_r rfl (fr_trans f4 (fr_trans at_fr (fr_trans at_fr dp_fr))) m6 (EV_mono v4 (by omega))
          · have h41' : ¬ cd T e q' = 2041 := h41
            rw [decide_eq_false h41, if_pos (show b2i false = 0 by decide), if_neg h41', MP_at (dp := dp), bd_eq (m_wrong m5.1.2.1), bd_s, zlt_s]
            refine ok_some ⟨mOut_f rfl (fr_trans f4 (fr_trans at_fr (fr_trans wrong_fr (fr_trans at_fr dp_fr)))) (FA_at ?_), o4⟩
            exact ⟨mset_at, q', by omega, by rw [mset_k (by decide)]; exact mset_at⟩
    · have h40' : ¬ cd T e q = 2040 := h40
      rw [decide_eq_false h40, if_pos (show b2i false = 0 by decide), atom_pl h16' h40']
      refine ok_b2 (RB_plain hB he (by omega) hR hE1) ?_
      rintro x16 μ2 ⟨a, b⟩
      rw [gd_eq b]
      exact ok_some ⟨⟨a.1, a.2.1, fun q' cs hq' => ⟨(a.2.2 q' cs hq').1, EV_mono (a.2.2 q' cs hq').2 (by omega)⟩⟩, b⟩
theorem RB_atomN (hB : HB T e) (he : e ≤ 400) : ∀ r dp, dp + r = 6 → RB T e E dp (3 + 2 * r) (f_X12_atomN (r + 2)) (pAtom T e r)
  | 0, dp, hd => by
    show RB T e E dp 3 (fun μ => f_X12_atomN 2 μ) _
    exact RB_atomG hB he hd (fun r' h => absurd h (by omega))
  | r + 1, dp, hd => by
    have ih := RB_atomN hB he r (dp + 1) (by omega)
    refine RB_atomG (recAtom := f_X12_atomN (r + 2)) (recSome := g_X12_some (g_X12_every (f_X12_atomN (r + 2)))) hB he hd (fun r' h => ?_)
    obtain rfl : r = r' := by omega
    refine ⟨?_, ih⟩
    have := RB_some hB he (atom_g he r) ih
    rw [show 3 + 2 * r + 2 = 5 + 2 * r by omega] at this
    exact this
theorem RB_top (hB : HB T e) (he : e ≤ 400) : RB T e E 0 17 f_X12_some (pSome T e (pAtom T e 6)) := RB_some hB he (atom_g he 6) (RB_atomN hB he 6 0 rfl)
end ME
