/-! the model reads a law: lines -/
def mlP (o : ZId) (i : Nat) : Prop := o = MO0 ∧ (i = 11 ∨ i = 12 ∨ i = 13 ∨ i = 16 ∨ i = 17 ∨ i = 18)
theorem mp_ml {o : ZId} {i : Nat} (h : mpP o i) : mlP o i := ⟨h.1, by have := h.2; omega⟩
section MF
variable {T : Vec} {e : Nat} {E : Nat → Int32}
theorem TX_ml {μ μ' : ZMem} (h : TX T e μ) (f : fr mlP μ μ') : TX T e μ' :=
  TX_fr h f ⟨by rintro ⟨-, h⟩; omega, by rintro ⟨-, h⟩; omega, fun k => ⟨by rintro ⟨h, -⟩; exact absurd h (by decide), by rintro ⟨h, -⟩; exact absurd h (by decide)⟩⟩
theorem EF_ml {μ μ' : ZMem} (h : EF E μ) (f : fr mlP μ μ') : EF E μ' := by
  obtain ⟨h1, h2, h3, h4, k, h5, h6, h7⟩ := h
  have e38 : μ' (0, 38, 0) = μ (0, 38, 0) := fr_at f (by rintro i ⟨h, -⟩; exact absurd h (by decide))
  have e33 : μ' MV0 = μ MV0 := fr_at f (by rintro i ⟨h, -⟩; exact absurd h (by decide))
  exact ⟨fun t ht => by rw [e38]; exact h1 t ht, by rw [e33]; exact h2, by rw [f.1 _ _ (by rintro ⟨-, h⟩; omega)]; exact h3, h4, k, h5, by rw [e38]; exact h6, by rw [e33]; exact h7⟩
theorem lnB_EV {D : Nat} {cs : List Int32} {x : Int32} (h : EV E D cs x) (hD : D ≤ 32) : lnB E cs = decide (¬ x = 0) := by
  unfold lnB
  rw [h [] (by simpa using hD)]
  rfl
theorem lnB_nil : lnB E [] = true := rfl
/-- what the fields late, omits, hold get -/
def addB (E : Nat → Int32) (l : LN) (t : Nat) : Int32 := if l.1 = t ∧ lnB E l.2.2 = true then l.2.1 else 0
def llOut (T : Vec) (e : Nat) (E : Nat → Int32) (μ : ZMem) (R : Nat ⊕ (Nat × LN)) (μ' : ZMem) : Prop := fr mlP μ μ' ∧ (∀ f, R = .inl f → FA μ' 0 f) ∧ ∀ q' l, R = .inr (q', l) → MP μ' T e q' 0 ∧ ∀ t, t < 3 → μ' MO0 (16 + t) = μ MO0 (16 + t) + addB E l t
theorem m_lawLine (hB : HB T e) {μ : ZMem} {q : Nat} (h : MR μ T e q 0) (hE : EF E μ) : ok (f_X12_lawLine μ) (llOut T e E μ (pLine T e q)) := by
  have he := h.1.1.1
  have hg := MP_gq h.1
  have hqe := hg.1
  unfold f_X12_lawLine
  -- behind the first word
  have tail : ∀ k : Nat, k < 3 → cd T e q = nI (1010 + k) → ok ((fun (x5 : Int32) (μ6 : ZMem) => if x5 = (-1) then bd (f_X12_wrong (μ6 (0, 32, 0) 11) μ6) (fun (μ45 : ZMem) => some μ45) else bd2 (f_X12_figures 0 99 μ6) (fun (x17 : Int32) (μ18 : ZMem) => if (μ18 (0, 32, 0) 12) = (-1) then bd2 (f_X12_has 26 μ18) (fun (x21 : Int32) (μ22 : ZMem) => bd2 (α := Int32) (β := ZMem) (jk (fun (μ26 : ZMem) => some (1, μ26)) (fun k27 => if x21 = 0 then k27 μ22 else bd2 (f_X12_some μ22) (fun (x29 : Int32) (μ30 : ZMem) => if x29 = 0 then some (0, μ30) else k27 μ30))) (fun (x24 : Int32) (μ25 : ZMem) => jk (some μ25) (fun k33 => if (μ25 (0, 32, 0) 12) = (-1) then if x24 = 0 then k33 else zlt (α := Int32) (if x5 = 0 then x17 else 0) (fun (x36 : Int32) => zlt (mset μ25 (0, 32, 0) 16 ((μ25 (0, 32, 0) 16) + x36)) (fun (μ37 : ZMem) => zlt (α := Int32) (if x5 = 1 then x17 else 0) (fun (x39 : Int32) => zlt (mset μ37 (0, 32, 0) 17 ((μ37 (0, 32, 0) 17) + x39)) (fun (μ40 : ZMem) => zlt (α := Int32) (if x5 = 2 then x17 else 0) (fun (x42 : Int32) => zlt (mset μ40 (0, 32, 0) 18 ((μ40 (0, 32, 0) 18) + x42)) (fun (μ43 : ZMem) => some μ43)))))) else k33))) else some μ18)) (nI k) (mset μ MO0 11 (nI (tend T e q)))) (llOut T e E μ (pLine T e q)) := by
    intro k hk hc
    have hp : 1010 ≤ cd T e q ∧ cd T e q ≤ 1012 := by
      rw [hc]
      exact ⟨nI_le (a := 1010) (by omega) (by omega), nI_le (b := 1012) (by omega) (by omega)⟩
    have hq : q < e := cd_lt (n3001 hp.2 (by decide))
    have ek : (cd T e q - 1010).toNatClampNeg = k := by
      rw [hc, show (1010 : Int32) = nI 1010 from rfl, nI_sub (by omega), nI_cl (by omega)]
      omega
    have m1 := MP_nx h.1 hq
    have f1 : fr mpP μ (mset μ MO0 11 (nI (tend T e q))) := at_fr
    dsimp only
    generalize mset μ MO0 11 (nI (tend T e q)) = μ1 at m1 f1 ⊢
    rw [if_neg (neg1 (by omega))]
    unfold pLine
    rw [if_pos hp, ek]
    refine ok_b2 (m_figures hB m1 (by decide) (by decide)) ?_
    rintro x17 μ2 ⟨w1, w2, w3⟩
    dsimp only at w1 w2 w3
    have f2 := fr_trans f1 w1
    by_cases h2 : 0 ≤ cd T e (nx T e q) ∧ cd T e (nx T e q) ≤ 99
    · obtain ⟨w4, m2⟩ := w2 h2
      subst w4
      have hq2 : nx T e q < e := cd_lt (n3001 h2.2 (by decide))
      rw [if_pos h2, if_pos (show μ2 (0, 32, 0) 12 = -1 from m2.2.1), bd2_eq (has_go hB m2 (w := 26) (by omega) (show jmL.getD 26 0 = 13 by decide)), jk_s]
      -- the numbers are added
      have fin : ∀ (μ3 : ZMem) (cs : List Int32) (q' : Nat) (b : Bool), fr mpP μ μ3 → MP μ3 T e q' 0 → lnB E cs = b → ∀ x24 : Int32, (x24 = 0 ↔ b = false) → ok (jk (some μ3) (fun k33 => if (μ3 (0, 32, 0) 12) = (-1) then if x24 = 0 then k33 else zlt (α := Int32) (if nI k = 0 then cd T e (nx T e q) else 0) (fun (x36 : Int32) => zlt (mset μ3 (0, 32, 0) 16 ((μ3 (0, 32, 0) 16) + x36)) (fun (μ37 : ZMem) => zlt (α := Int32) (if nI k = 1 then cd T e (nx T e q) else 0) (fun (x39 : Int32) => zlt (mset μ37 (0, 32, 0) 17 ((μ37 (0, 32, 0) 17) + x39)) (fun (μ40 : ZMem) => zlt (α := Int32) (if nI k = 2 then cd T e (nx T e q) else 0) (fun (x42 : Int32) => zlt (mset μ40 (0, 32, 0) 18 ((μ40 (0, 32, 0) 18) + x42)) (fun (μ43 : ZMem) => some μ43)))))) else k33)) (llOut T e E μ (.inr (q', (k, cd T e (nx T e q), cs)))) := by
        intro μ3 cs q' b f3 m3 hb x24 hx
        have n16 : ∀ t, t < 3 → μ3 MO0 (16 + t) = μ MO0 (16 + t) := fun t ht => f3.1 _ _ (by rintro ⟨-, h⟩; omega)
        rw [jk_s, if_pos (show μ3 (0, 32, 0) 12 = -1 from m3.2.1)]
        cases b
        · rw [if_pos (hx.mpr rfl)]
          refine ok_some ⟨fr_mono f3 (fun o i h => mp_ml h), fun f hf => (by cases hf), fun q2 l hl => ?_⟩
          cases hl
          refine ⟨m3, fun t ht => ?_⟩
          rw [n16 t ht]
          unfold addB
          dsimp only
          rw [hb, if_neg (by simp), Int32.add_zero]
        · rw [if_neg (fun q => by have := hx.mp q; exact absurd this (by decide)), zlt_s, zlt_s, zlt_s, zlt_s, zlt_s, zlt_s]
          have e17 : (mset μ3 (0, 32, 0) 16 (μ3 (0, 32, 0) 16 + if nI k = 0 then cd T e (nx T e q) else 0)) (0, 32, 0) 17 = μ3 (0, 32, 0) 17 := mset_k (by decide)
          have e18 : ∀ z, (mset (mset μ3 (0, 32, 0) 16 (μ3 (0, 32, 0) 16 + if nI k = 0 then cd T e (nx T e q) else 0)) (0, 32, 0) 17 z) (0, 32, 0) 18 = μ3 (0, 32, 0) 18 := fun z => by rw [mset_k (by decide), mset_k (by decide)]
          rw [e17, e18]
          have fl : fr mlP μ3 (mset (mset (mset μ3 (0, 32, 0) 16 (μ3 (0, 32, 0) 16 + if nI k = 0 then cd T e (nx T e q) else 0)) (0, 32, 0) 17 (μ3 (0, 32, 0) 17 + if nI k = 1 then cd T e (nx T e q) else 0)) (0, 32, 0) 18 (μ3 (0, 32, 0) 18 + if nI k = 2 then cd T e (nx T e q) else 0)) := fr_trans (fr_mset ⟨rfl, by omega⟩) (fr_trans (fr_mset ⟨rfl, by omega⟩) (fr_mset ⟨rfl, by omega⟩))
          refine ok_some ⟨fr_trans (fr_mono f3 (fun o i h => mp_ml h)) fl, fun f hf => (by cases hf), fun q2 l hl => ?_⟩
          cases hl
          constructor
          · obtain ⟨a1, a2, a3, p, a4, a5⟩ := m3
            refine ⟨TX_ml a1 fl, ?_, ?_, p, ?_, a5⟩
            · rw [mset_k (by decide), mset_k (by decide), mset_k (by decide)]; exact a2
            · rw [mset_k (by decide), mset_k (by decide), mset_k (by decide)]; exact a3
            · rw [mset_k (by decide), mset_k (by decide), mset_k (by decide)]; exact a4
          · intro t ht
            rw [← n16 t ht]
            unfold addB
            dsimp only
            rw [hb]
            have ei : ∀ i : Nat, i < 3 → ((nI k = nI i) ↔ k = i) := fun i hi => nI_eq (by omega) (by omega)
            have ei0 : nI k = 0 ↔ k = 0 := ei 0 (by omega)
            have ei1 : nI k = 1 ↔ k = 1 := ei 1 (by omega)
            have ei2 : nI k = 2 ↔ k = 2 := ei 2 (by omega)
            have h012 : t = 0 ∨ t = 1 ∨ t = 2 := by omega
            rcases h012 with rfl | rfl | rfl
            · rw [mset_k (by decide), mset_k (by decide)]
              refine mset_at.trans ?_
              congr 1
              by_cases z : k = 0
              · rw [if_pos (ei0.mpr z), if_pos ⟨z, rfl⟩]
              · rw [if_neg (fun q => z (ei0.mp q)), if_neg (fun q => z q.1)]
            · rw [mset_k (by decide)]
              refine mset_at.trans ?_
              congr 1
              by_cases z : k = 1
              · rw [if_pos (ei1.mpr z), if_pos ⟨z, rfl⟩]
              · rw [if_neg (fun q => z (ei1.mp q)), if_neg (fun q => z q.1)]
            · refine mset_at.trans ?_
              congr 1
              by_cases z : k = 2
              · rw [if_pos (ei2.mpr z), if_pos ⟨z, rfl⟩]
              · rw [if_neg (fun q => z (ei2.mp q)), if_neg (fun q => z q.1)]
      by_cases h3 : cd T e (nx T e (nx T e q)) = nI (1000 + 13)
      · have h3' : cd T e (nx T e (nx T e q)) = 1013 := h3
        have hq3 : nx T e (nx T e q) < e := cd_lt (by rw [h3']; decide)
        rw [decide_eq_true h3, if_neg (show ¬ b2i true = 0 by decide), if_pos h3, if_pos h3']
        have m3 := MP_nx m2 hq3
        have f3 := fr_trans f2 (at_fr (μ := μ2) (x := nI (tend T e (nx T e (nx T e q)))))
        refine ok_b2 (ok_b2 (RB_top hB he _ _ m3 (EF_mp hE f3)) (fun x29 μ30 h => (show ok _ (fun (r : Int32 × ZMem) => ∃ x, (r.1 = if x = 0 then 0 else 1) ∧ mOut T e E (mset μ2 MO0 11 (nI (tend T e (nx T e (nx T e q))))) 0 17 (pSome T e (pAtom T e 6) (nx T e (nx T e (nx T e q)))) (x, r.2)) by
          by_cases z : x29 = 0
          · rw [if_pos z]; exact ok_some ⟨x29, by rw [if_pos z], h.1⟩
          · rw [if_neg z]; exact ok_some ⟨x29, by rw [if_neg z], h.1⟩))) ?_
        rintro x24 μ4 ⟨x, hx, o1, o2, o3⟩
        dsimp only at hx o1 o2 o3
        have f4 := fr_trans f3 o1
        cases hs : pSome T e (pAtom T e 6) (nx T e (nx T e (nx T e q))) with
        | inl f =>
          have hf := ((some_g he (atom_g (T := T) he 6)) _ (gq_nx he hq3)).1 f hs
          rw [jk_s, if_neg (fault_ne (o2 f hs).1 (by omega))]
          exact ok_some ⟨fr_mono f4 (fun o i h => mp_ml h), fun f' hf' => (by cases hf'; exact o2 f hs), fun q2 l hl => by cases hl⟩
        | inr qc =>
          obtain ⟨q', cs⟩ := qc
          obtain ⟨m4, v4⟩ := o3 q' cs hs
          refine fin μ4 cs q' _ f4 m4 (lnB_EV v4 (by omega)) x24 ?_
          rw [hx]
          by_cases z : x = 0
          · rw [if_pos z]; simp [z]
          · rw [if_neg z]; simp [z]
      · have h3' : ¬ cd T e (nx T e (nx T e q)) = 1013 := h3
        rw [decide_eq_false h3, if_pos (show b2i false = 0 by decide), if_neg h3, if_neg h3', bd2_s]
        exact fin _ [] _ true (fr_trans f2 at_fr) (MP_rest m2) lnB_nil 1 (by decide)
    · obtain ⟨w4, p, w5, w6⟩ := w3 h2
      have hnq := nx_lt (T := T) he hq
      rw [if_neg h2, if_neg (fault_ne w4 (by omega))]
      exact ok_some ⟨fr_mono f2 (fun o i h => mp_ml h), fun f' hf' => (by cases hf'; exact ⟨w4, p, by omega, w6⟩), fun q2 l hl => by cases hl⟩
  by_cases c10 : cd T e q = nI (1000 + 10)
  · rw [has_t hB h (by omega) (show jmL.getD 6 0 = 10 by decide) c10, if_neg (by decide), bd2_s]
    exact tail 0 (by omega) c10
  rw [has_f hB h (by omega) (show jmL.getD 6 0 = 10 by decide) c10, if_pos rfl]
  by_cases c11 : cd T e q = nI (1000 + 11)
  · rw [has_t hB h (by omega) (show jmL.getD 24 0 = 11 by decide) c11, if_neg (by decide), bd2_s]
    exact tail 1 (by omega) c11
  rw [has_f hB h (by omega) (show jmL.getD 24 0 = 11 by decide) c11, if_pos rfl]
  by_cases c12 : cd T e q = nI (1000 + 12)
  · rw [has_t hB h (by omega) (show jmL.getD 25 0 = 12 by decide) c12, if_neg (by decide), bd2_s]
    exact tail 2 (by omega) c12
  rw [has_f hB h (by omega) (show jmL.getD 25 0 = 12 by decide) c12, if_pos rfl, bd2_s, if_pos rfl, show μ (0, 32, 0) 11 = nI q from h.2, bd_eq (m_wrong h.1.2.1)]
  have hp : ¬ (1010 ≤ cd T e q ∧ cd T e q ≤ 1012) := by
    intro hp
    obtain ⟨k, k1, k2, -⟩ := kd_eq hp
    have hh : k = 0 ∨ k = 1 ∨ k = 2 := by omega
    rcases hh with rfl | rfl | rfl
    · exact c10 k2
    · exact c11 k2
    · exact c12 k2
  unfold pLine
  rw [if_neg hp]
  exact ok_some ⟨fr_mono wrong_fr (fun o i h => mp_ml h), fun f' hf' => (by cases hf'; exact FA_wrong (by omega) (by omega) h.2), fun q2 l hl => by cases hl⟩
end MF
