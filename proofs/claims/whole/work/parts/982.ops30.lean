/-! guesses: blame, guilty -/
section PS
variable {y : ZLay} {μ : ZMem} {S S' : SV} {tp tp' : Vec} {tl tl' : Nat} {fa fa' : Int32} {kp kp' : Option SV} {ac ac' : List (Nat × Vec)}
theorem m_judg {n : Nat} {T : Vec} (hn : n ≤ 400) (h8 : μ (0, 32, 0) 8 = nI n) (ht : ∀ i, i < n → μ (0, 37, 0) i = T i) : f_X12_blameMany μ = some (nI n, mset (mset μ MO0 8 0) MO0 0 (if jdB T n = true then 0 else 1)) := by
  unfold f_X12_blameMany jdB
  obtain ⟨g, hg⟩ : ∃ g : Bool, g = (decide (n % 3 = 0) && decide (n ≤ 60)) := ⟨_, rfl⟩
  have e4 : (jk (some (0 : Int32)) (fun k5 => if nI (n % 3) = 0 then if 60 < nI n then k5 else some 1 else k5)) = some (b2i g) := by
    rw [jk_s, hg]
    by_cases h3 : n % 3 = 0
    · rw [if_pos (show nI (n % 3) = 0 by rw [h3]; rfl), decide_eq_true h3, Bool.true_and]
      by_cases h60 : n ≤ 60
      · rw [if_neg (show ¬ (60 : Int32) < nI n from nI_nlt (a := 60) h60 (by omega)), decide_eq_true h60]; rfl
      · rw [if_pos (show (60 : Int32) < nI n from nI_lt (a := 60) (by omega) (by omega)), decide_eq_false h60]; rfl
    · rw [if_neg (show ¬ nI (n % 3) = 0 from ne_code (a := n % 3) (b := 0) rfl (by omega) (by omega) h3), decide_eq_false h3, Bool.false_and]; rfl
  rw [zlt_s, h8, zlt_s, rem3n hn, e4, bd_s, ← hg]
  have key : ok (lp (σ := Int32 × Int32) (fun q => un2 q (fun (x7 : Int32) (x8 : Int32) => if nI n ≤ x8 then some (.inr x7) else if x7 = 0 then some (.inr x7) else gd (zin x8 400) (bd (α := Int32) (jk (some 0) (fun k15 => if 8 ≤ ((mset μ (0, 32, 0) 8 0) (0, 37, 0) x8.toNatClampNeg) then k15 else gd (zin (x8 + 1) 400) (if 8 ≤ ((mset μ (0, 32, 0) 8 0) (0, 37, 0) (x8 + 1).toNatClampNeg) then k15 else if ((mset μ (0, 32, 0) 8 0) (0, 37, 0) x8.toNatClampNeg) = ((mset μ (0, 32, 0) 8 0) (0, 37, 0) (x8 + 1).toNatClampNeg) then k15 else gd (zin (x8 + 2) 400) (if 2 ≤ ((mset μ (0, 32, 0) 8 0) (0, 37, 0) (x8 + 2).toNatClampNeg) then k15 else some 1)))) (fun (x14 : Int32) => some (.inl (x14, (x8 + 3))))))) FU (b2i g, 0)) (fun r => r = b2i (g && alB (jrB T) (n / 3))) := by
    refine ok_lp (fun m s => ∃ k, m + k = n / 3 + 1 ∧ s = (b2i (g && alB (jrB T) (min k (n / 3))), nI (3 * k))) ?_ (N := n / 3 + 1) ⟨0, by omega, by rw [show min 0 (n / 3) = 0 by omega, show alB (jrB T) 0 = true from rfl, Bool.and_true]; rfl⟩ (FU_lt (by omega))
    rintro m ⟨x7, x8⟩ ⟨k, hk, hs⟩
    obtain ⟨rfl, rfl⟩ := Prod.mk.injEq .. ▸ hs
    rw [un2_s]
    by_cases e1 : n ≤ 3 * k
    · rw [if_pos (nI_le e1 (by omega))]
      refine ok_some ?_
      show b2i (g && alB (jrB T) (min k (n / 3))) = _
      by_cases e2 : n / 3 ≤ k
      · rw [show min k (n / 3) = n / 3 by omega]
      · omega
    · rw [if_neg (nI_ge (by omega) (by omega))]
      cases b : (g && alB (jrB T) (min k (n / 3)))
      · rw [if_pos b2i_f]
        refine ok_some ?_
        show _ = _
        congr 1
        cases b2 : (g && alB (jrB T) (n / 3))
        · rfl
        · rw [Bool.and_eq_true] at b2
          rw [b2.1, Bool.true_and] at b
          have := (alB_iff (min k (n / 3))).mpr fun i hi => (alB_iff _).mp b2.2 i (by omega)
          rw [b] at this; cases this
      · rw [Bool.and_eq_true] at b
        obtain ⟨b1, b2⟩ := b
        have hg3 : n % 3 = 0 := by
          have := b1
          rw [hg, Bool.and_eq_true] at this
          exact of_decide_eq_true this.1
        rw [show min k (n / 3) = k by omega] at b2
        have a1 : nI (3 * k) + 1 = nI (3 * k + 1) := nI_1 _
        have a2 : nI (3 * k) + 2 = nI (3 * k + 2) := nI_add (3 * k) 2
        have a3 : nI (3 * k) + 3 = nI (3 * (k + 1)) := nI_add (3 * k) 3
        rw [if_neg b2i_t, a1, a2, a3, gd_eq (zin_nI (by omega) (by omega)), jk_s, gd_eq (zin_nI (by omega) (by omega)), gd_eq (zin_nI (by omega) (by omega)), nI_cl (by omega), nI_cl (by omega), nI_cl (by omega), mset_ne (show ((0, 37, 0) : ZId) ≠ (0, 32, 0) by decide), ht _ (by omega), ht _ (by omega), ht _ (by omega)]
        have e2 : (if 8 ≤ T (3 * k) then some (0 : Int32) else if 8 ≤ T (3 * k + 1) then some 0 else if T (3 * k) = T (3 * k + 1) then some 0 else if 2 ≤ T (3 * k + 2) then some 0 else some 1) = some (b2i (g && alB (jrB T) (min (k + 1) (n / 3)))) := by
          rw [show min (k + 1) (n / 3) = k + 1 by omega, alB_s, b1, b2, Bool.true_and, Bool.true_and]
          unfold jrB
          by_cases c1 : 8 ≤ T (3 * k)
          · rw [if_pos c1, decide_eq_true c1]; rfl
          · rw [if_neg c1, decide_eq_false c1]
            by_cases c2 : 8 ≤ T (3 * k + 1)
            · rw [if_pos c2, decide_eq_true c2]; rfl
            · rw [if_neg c2, decide_eq_false c2]
              by_cases c3 : T (3 * k) = T (3 * k + 1)
              · rw [if_pos c3, decide_eq_true c3]; rfl
              · rw [if_neg c3, decide_eq_false c3]
                by_cases c4 : T (3 * k + 2) ≤ 1
                · rw [if_neg (fun q => two_le_iff.mp q c4), decide_eq_true c4]; rfl
                · rw [if_pos (two_le_iff.mpr c4), decide_eq_false c4]; rfl
        rw [e2, bd_s]
        exact ok_some ⟨m - 1, by omega, k + 1, by omega, rfl⟩
  obtain ⟨r, e1, e2⟩ := key
  rw [e1, bd_s, e2, zlt_s, zlt_s]
  cases (g && alB (jrB T) (n / 3)) <;> rfl
theorem c_weighJ {m : Nat} {T : Vec} (hm : m ≤ 20) (ht : ∀ i, i < 3 * m → μ (0, 1, 0) i = T i) : ok (f_X2_weighBlames y (0, 1, 0) (nI m) μ) (fun μ' => fr gsP μ μ' ∧ gsI (fun h => wrJ T h m) 17 μ') := by
  unfold f_X2_weighBlames
  rw [zlt_s]
  have z1 : zlen y (0, 1, 0) = 400 := rfl
  have e3 : (3 : Int32) * nI m = nI (3 * m) := (Int32.ofNat_mul 3 m).symm
  have tt : ∀ {μ1 : ZMem}, fr gsP μ μ1 → ∀ i, i < 3 * m → μ1 (0, 1, 0) i = T i := fun f i hi => by
    rw [f.1 _ _ (by rintro (⟨h, -⟩ | h) <;> exact absurd h (by decide))]
    exact ht i hi
  rw [e3, z1]
  refine ok_b1i (ok_seq 17 (fun h s => s.1 = nI h ∧ fr gsP μ s.2 ∧ s.2 (0, 17, 0) 2 = nI 17 ∧ ∀ i, i < h → s.2 (0, 18, 0) i = nI (wrJ T i m)) ?_ ?_ ⟨rfl, fr_mset (Or.inl ⟨rfl, rfl⟩), (show (mset μ (0, 17, 0) 2 17) (0, 17, 0) 2 = nI 17 from mset_at), fun i hi => absurd hi (by omega)⟩ (FU_lt (by omega)))
  · rintro h ⟨x, μ1⟩ hh ⟨w1, w2, w3, w4⟩
    dsimp only at w1 w2 w3 w4
    subst w1
    rw [un2_s, w3, if_neg (nI_ge hh (by omega)), gd_eq (zin_nI (by omega) (by omega)), nI_cl (by omega), zlt_s]
    refine ok_b1 (ok_seq m (fun j s => s.1 = nI (3 * j) ∧ fr gsP μ s.2 ∧ s.2 (0, 17, 0) 2 = nI 17 ∧ (∀ i, i < h → s.2 (0, 18, 0) i = nI (wrJ T i m)) ∧ s.2 (0, 18, 0) h = nI (wrJ T h j)) ?_ ?_ (Q := fun μ2 => fr gsP μ μ2 ∧ μ2 (0, 17, 0) 2 = nI 17 ∧ (∀ i, i < h → μ2 (0, 18, 0) i = nI (wrJ T i m)) ∧ μ2 (0, 18, 0) h = nI (wrJ T h m)) ⟨rfl, fr_trans w2 (fr_mset (Or.inr rfl)), (show (mset μ1 (0, 18, 0) h 0) (0, 17, 0) 2 = nI 17 by rw [mset_ne (by decide)]; exact w3), fun i hi => (mset_k (show i ≠ h by omega)).trans (w4 i hi), mset_at⟩ (FU_lt (by omega))) ?_
    · rintro j ⟨x, μ2⟩ hj ⟨u1, u2, u3, u4, u5⟩
      dsimp only at u1 u2 u3 u4 u5
      subst u1
      have a1 : nI (3 * j) + 1 = nI (3 * j + 1) := nI_1 _
      have a2 : nI (3 * j) + 2 = nI (3 * j + 2) := nI_add (3 * j) 2
      have a3 : nI (3 * j) + 3 = nI (3 * (j + 1)) := nI_add (3 * j) 3
      rw [un2_s, a1, a2, a3, if_neg (nI_ge (by omega) (by omega)), if_neg (show ¬ Int32.ofNat 400 ≤ nI (3 * j + 2) from nI_ge (b := 400) (by omega) (by omega)), gd_eq (zin_nI (by omega) (by omega)), gd_eq (zin_nI (by omega) (by omega)), nI_cl (by omega), nI_cl (by omega), nI_cl (by omega), tt u2 _ (by omega), tt u2 _ (by omega), tt u2 _ (by omega), bd_eq c_hr, gd_eq (zin_nI (by omega) (by omega)), zlt_s, u5, zlt_s, zlt_s]
      by_cases e : hrB h (T (3 * j)) (T (3 * j + 1)) = (if T (3 * j + 2) = 1 then 1 else 0)
      · rw [if_pos e]
        refine ok_some ⟨_, rfl, rfl, u2, u3, u4, ?_⟩
        dsimp only
        rw [wrJ_s, if_pos e]; exact u5
      · rw [if_neg e, nI_1 (wrJ T h j)]
        refine ok_some ⟨_, rfl, rfl, fr_trans u2 (fr_mset (Or.inr rfl)), ?_, fun i hi => ?_, ?_⟩
        · dsimp only
          rw [mset_ne (by decide)]; exact u3
        · exact (mset_k (show i ≠ h by omega)).trans (u4 i hi)
        · dsimp only
          rw [mset_at, wrJ_s, if_neg e]
    · rintro ⟨x, μ2⟩ ⟨u1, u2, u3, u4, u5⟩
      dsimp only at u1 u2 u3 u4 u5
      subst u1
      rw [un2_s, if_pos (nI_le (Nat.le_refl _) (by omega))]
      exact ok_some ⟨_, rfl, u2, u3, u4, u5⟩
    · rintro μ2 ⟨u2, u3, u4, u5⟩
      refine ok_some ⟨_, rfl, nI_1 h, u2, u3, fun i hi => ?_⟩
      dsimp only
      by_cases e : i = h
      · rw [e]; exact u5
      · exact u4 i (by omega)
  · rintro ⟨x, μ1⟩ ⟨w1, w2, w3, w4⟩
    dsimp only at w1 w2 w3 w4
    subst w1
    rw [un2_s, w3, if_pos (nI_le (Nat.le_refl _) (by omega))]
    exact ok_some ⟨_, rfl, w2, w3, w4⟩
end PS
