/-! the model reads a cluster's text -/
section MK
variable {T : Vec} {e : Nat}
theorem TX_mc {μ μ' : ZMem} (h : TX T e μ) (h9 : μ MO0 9 = -1) (f : fr mcP μ μ') : TX T e μ' ∧ μ' MO0 9 = -1 := by
  obtain ⟨h0, h1, h2⟩ := h
  have n32 : ∀ i, i ≠ 11 → i ≠ 12 → i ≠ 13 → μ' MO0 i = μ MO0 i := fun i a b c => f.1 _ _ (by
    rintro (⟨-, h⟩ | ⟨h, -⟩)
    · omega
    · exact absurd h (by decide))
  have e9 : μ' MO0 9 = -1 := by rw [n32 9 (by omega) (by omega) (by omega)]; exact h9
  refine ⟨⟨h0, by rw [n32 10 (by omega) (by omega) (by omega)]; exact h1, Or.inl ⟨e9, fun k hk => ?_⟩⟩, e9⟩
  rw [f.1 _ _ (by rintro (⟨h, -⟩ | ⟨h, -⟩) <;> exact absurd h (by decide))]
  rcases h2 with ⟨a, b⟩ | ⟨a, b⟩
  · exact b k hk
  · rw [h9] at a
    exact absurd a (by decide)
def rcOut (μ : ZMem) (R : Nat ⊕ (Nat × Vec)) (q : Int32 × ZMem) : Prop := fr mcP μ q.2 ∧ (∀ f, R = .inl f → q.2 MO0 12 = nI f) ∧ ∀ c' v', R = .inr (c', v') → q.2 MO0 12 = -1 ∧ q.2 MV0 = v'
theorem m_reads0 (hB : HB T e) {μ : ZMem} {c : Nat} {v : Vec} (h : TX T e μ) (h9 : μ MO0 9 = -1) (h12 : μ MO0 12 = -1) (h11 : μ MO0 11 = 0) (h13 : μ MO0 13 = 0) (hv : μ MV0 = v) (hk : okC c v) : ok (f_X12_reads 0 μ) (rcOut μ (sCl T e c v)) := by
  have he := h.1
  have m0 := MP_begin h h12 h11 h13
  have hg0 := MP_gq m0
  have hge := hg0.1
  unfold f_X12_reads
  rw [bd_eq (m_skip m0), zlt_s, MP_end (MP_rest m0), MP_at (dp := 0)]
  have m1 := MP_rest m0
  have f1 : fr mcP μ (mset μ MO0 11 (nI (nxt T e 0))) := fr_mono at_fr (fun o i h => mp_mc h)
  have v1 : (mset μ MO0 11 (nI (nxt T e 0))) MV0 = v := by rw [mset_ne (by decide)]; exact hv
  obtain ⟨q0, hq0⟩ : ∃ q0, q0 = nxt T e 0 := ⟨_, rfl⟩
  obtain ⟨R, hR⟩ : ∃ R, R = sCl T e c v := ⟨_, rfl⟩
  have hRf : ∀ f, R = .inl f → f ≤ 400 := by
    intro f hf
    have := (sCl_g he hk).1 f (by rw [← hR]; exact hf)
    omega
  rw [← hR]
  unfold sCl at hR
  rw [← hq0] at hR m1 f1 v1 hg0 hge ⊢
  refine ok_b2 (P := rcOut μ R) ?_ (fun a b h => ok_some h)
  obtain ⟨x4, hx4⟩ : ∃ x4 : Int32, x4 = if nI e ≤ nI q0 then 0 else 1 := ⟨_, rfl⟩
  rw [← hx4]
  refine ok_lp (fun j s => (∃ q n c1 v1, s.1 = 1 ∧ s.2.1 = nI n ∧ n + j = 15 ∧ 0 < j ∧ MP s.2.2 T e q 0 ∧ gq T e q ∧ okC c1 v1 ∧ s.2.2 MV0 = v1 ∧ sLines T e (j - 1) q c1 v1 = R ∧ fr mcP μ s.2.2) ∨
      (s.1 = 0 ∧ rcOut μ R s.2 ∧ j = 0) ∨ (∃ f, R = .inl f ∧ s.2.2 MO0 12 = nI f ∧ fr mcP μ s.2.2 ∧ j = 0)) ?_ (N := if nI e ≤ nI q0 then 0 else 15) ?_ (FU_lt (by split <;> omega))
  · rintro j ⟨x, k, μ2⟩ (⟨q, n, c1, v1, h1, h2, h3, h0, m2, hg, hk1, hv2, hr, f2⟩ | ⟨h1, h3, h4⟩ | ⟨f, h1, h2, h3, h4⟩)
    · dsimp only at h1 h2 m2 f2 hv2
      subst h1 h2
      have hqe := hg.1
      rw [un3_s, if_neg (by decide), if_pos (show μ2 (0, 32, 0) 12 = -1 from m2.2.1), bd_eq (m_skip m2), if_pos (show (0 : Int32) = 0 from rfl), zlt_s, MP_at (dp := 0)]
      have r2 := MR_of m2
      have f3 : fr mcP μ (mset μ2 MO0 11 (nI q)) := fr_trans f2 (fr_mono at_fr (fun o i h => mp_mc h))
      have hv3 : (mset μ2 MO0 11 (nI q)) MV0 = v1 := by rw [mset_ne (by decide)]; exact hv2
      generalize mset μ2 MO0 11 (nI q) = μ3 at r2 f3 hv3 ⊢
      -- a fault
      have bad : ∀ (μ4 : ZMem) (f : Nat), R = .inl f → FA μ4 0 f → fr mcP μ μ4 → ok (bd (f_X12_skip μ4) (fun (μ26 : ZMem) => jk (some (.inl (0, (nI n + 1), μ26))) (fun k28 => if (μ26 (0, 32, 0) 12) = (-1) then if (μ26 (0, 32, 0) 11) = (μ26 (0, 32, 0) 10) then k28 else bd2 (f_X12_isSign 59 μ26) (fun (x31 : Int32) (μ32 : ZMem) => if x31 = 0 then bd (f_X12_wrong (μ32 (0, 32, 0) 11) μ32) (fun (μ35 : ZMem) => some (.inl (1, (nI n + 1), μ35))) else zlt (mset μ32 (0, 32, 0) 11 ((μ32 (0, 32, 0) 11) + 1)) (fun (μ36 : ZMem) => some (.inl (1, (nI n + 1), μ36)))) else k28)) : Option ((Int32 × Int32 × ZMem) ⊕ (Int32 × ZMem))) (fun z => ∃ k' x' μ', z = .inl (x', k', μ') ∧ (∃ f, R = .inl f ∧ μ' MO0 12 = nI f ∧ fr mcP μ μ')) := by
        rintro μ4 f hf ⟨a1, p, a2, a3⟩ f4
        refine ok_b1 (m_skipF (TX_mc h h9 f4).1 (by omega) a3) ?_
        rintro μ5 ⟨b1, b2⟩
        have e12 : μ5 MO0 12 = nI f := by rw [b2 12 (by omega)]; exact a1
        rw [jk_s, if_neg (fault_ne e12 (hRf f hf))]
        exact ok_some ⟨_, _, _, rfl, f, hf, e12, fr_trans f4 (fr_mono b1 (fun o i h => mp_mc h))⟩
      by_cases hm : j = 1
      · rw [if_pos (show nI n = 14 by rw [show n = 14 by omega]; rfl), bd_eq (m_wrong r2.1.2.1), bd_s]
        have hf : R = .inl q := by
          rw [← hr, show j - 1 = 0 by omega]
          rfl
        refine ok_mono (bad _ q hf (FA_wrong (by omega) (by omega) r2.2) (fr_trans f3 (fr_mono wrong_fr (fun o i h => mp_mc h)))) ?_
        rintro z ⟨k', x', μ', rfl, f, w1, w2, w3⟩
        exact ⟨0, by omega, Or.inr (Or.inr ⟨f, w1, w2, w3, rfl⟩)⟩
      · obtain ⟨m, rfl⟩ : ∃ m, j = m + 2 := ⟨j - 2, by omega⟩
        rw [show m + 2 - 1 = m + 1 by omega, sLines] at hr
        rw [if_neg (show ¬ nI n = 14 from ne_code (a := n) (b := 14) rfl (by omega) (by omega) (by omega))]
        refine ok_b1 (ok_b1 (m_cline hB he r2.1 (TX_mc h h9 f3).2 hv3 hk1.1.2.1 hk1.1.1) (fun μ22 h => ok_some h)) ?_
        rintro μ4 ⟨o1, o2, o3⟩
        have f4 := fr_trans f3 o1
        obtain ⟨p1, p2⟩ := cline_g (T := T) he hg hk1
        cases hp : sLine T e c1 v1 q with
        | inl f =>
          rw [hp] at hr
          refine ok_mono (bad μ4 f hr.symm (o2 f hp) f4) ?_
          rintro z ⟨k', x', μ', rfl, f, w1, w2, w3⟩
          exact ⟨0, by omega, Or.inr (Or.inr ⟨f, w1, w2, w3, rfl⟩)⟩
        | inr r =>
          obtain ⟨q', c', v'⟩ := r
          obtain ⟨a1, a2, a3, a4⟩ := p2 q' c' v' hp
          obtain ⟨m4, hv4⟩ := o3 q' c' v' hp
          have hq' := a1.1
          rw [hp] at hr
          change (if cd T e q' = 2059 then sLines T e m (nx T e q') c' v' else if cd T e q' = 3001 then Sum.inr (c', v') else Sum.inl q') = R at hr
          rw [bd_eq (m_skip m4), jk_s]
          have r4 := MR_of m4
          have f5 : fr mcP μ (mset μ4 MO0 11 (nI q')) := fr_trans f4 (fr_mono at_fr (fun o i h => mp_mc h))
          have hv5 : (mset μ4 MO0 11 (nI q')) MV0 = v' := by rw [mset_ne (by decide)]; exact hv4
          generalize mset μ4 MO0 11 (nI q') = μ5 at r4 f5 hv5 ⊢
          rw [if_pos (show μ5 (0, 32, 0) 12 = -1 from r4.1.2.1), show μ5 (0, 32, 0) 11 = nI q' from r4.2, MP_end r4.1]
          by_cases hend : q' = e
          · rw [if_pos (by rw [hend])]
            have hc : cd T e q' = 3001 := cd_e (by omega)
            rw [if_neg (show ¬ cd T e q' = 2059 by rw [hc]; decide), if_pos hc] at hr
            refine ok_some ⟨0, by omega, Or.inr (Or.inl ⟨rfl, ?_, rfl⟩)⟩
            rw [← hr]
            exact ⟨f5, fun f hf => (by cases hf), fun c2 v2 hx => by cases hx; exact ⟨r4.1.2.1, hv5⟩⟩
          · rw [if_neg (by rw [nI_eq (by omega) (by omega)]; exact hend), bd2_eq (show f_X12_isSign 59 μ5 = _ from m_isSign hB r4.1 (c := 59) (by omega) (by decide) (by decide)), mset_self r4.2]
            have hq'e : q' < e := by omega
            by_cases h59 : cd T e q' = nI (2000 + 59)
            · have h59' : cd T e q' = 2059 := h59
              obtain ⟨-, ht⟩ := (cd_sign hB (c := 59) (by omega) (by decide) (by decide)).mp h59
              rw [if_pos h59'] at hr
              rw [decide_eq_true h59, if_neg (show ¬ b2i true = 0 by decide), show μ5 (0, 32, 0) 11 = nI q' from r4.2, nI_1, zlt_s]
              have m6 := MP_nx r4.1 hq'e
              rw [tend_sign ht (by decide) (by decide)] at m6
              exact ok_some ⟨m + 1, by omega, Or.inl ⟨nx T e q', n + 1, c', v', rfl, by dsimp only; rw [nI_1], by omega, by omega, m6, gq_nx he hq'e, a3, (show (mset μ5 MO0 11 (nI (q' + 1))) MV0 = v' by rw [mset_ne (by decide)]; exact hv5), hr, fr_trans f5 (fr_mono at_fr (fun o i h => mp_mc h))⟩⟩
            · have h59' : ¬ cd T e q' = 2059 := h59
              have h01 : ¬ cd T e q' = 3001 := fun q => hend (by have := (cd_end hB).mp q; omega)
              rw [if_neg h59', if_neg h01] at hr
              rw [decide_eq_false h59, if_pos (show b2i false = 0 by decide), show μ5 (0, 32, 0) 11 = nI q' from r4.2, bd_eq (m_wrong r4.1.2.1)]
              exact ok_some ⟨0, by omega, Or.inr (Or.inr ⟨q', hr.symm, (show (mset μ5 MO0 12 (nI q')) MO0 12 = nI q' from mset_at), fr_trans f5 (fr_mono wrong_fr (fun o i h => mp_mc h)), rfl⟩)⟩
    · dsimp only at h1
      subst h1
      rw [un3_s, if_pos rfl]
      exact ok_some h3
    · dsimp only at h2 h3
      rw [un3_s]
      have out : rcOut μ R (k, μ2) := by
        rw [h1]
        exact ⟨h3, fun f' hf' => (by cases hf'; exact h2), fun c' v' hl => by cases hl⟩
      by_cases hx : x = 0
      · rw [if_pos hx]; exact ok_some out
      · rw [if_neg hx, if_neg (fault_ne h2 (hRf f h1))]; exact ok_some out
  · by_cases hend : q0 = e
    · have hc : nI e ≤ nI q0 := nI_le (by omega) (by omega)
      have h3 : cd T e q0 = 3001 := cd_e (by omega)
      rw [if_pos hc] at hx4 ⊢
      rw [if_pos h3] at hR
      refine Or.inr (Or.inl ⟨hx4, ?_, rfl⟩)
      rw [hR]
      exact ⟨f1, fun f hf => (by cases hf), fun c' v' hl => by cases hl; exact ⟨m1.2.1, v1⟩⟩
    · have hc : ¬ nI e ≤ nI q0 := nI_ge (by omega) (by omega)
      have h3 : ¬ cd T e q0 = 3001 := fun q => hend (by have := (cd_end hB).mp q; omega)
      rw [if_neg hc] at hx4 ⊢
      rw [if_neg h3] at hR
      exact Or.inl ⟨q0, 0, c, v, hx4, rfl, rfl, by omega, m1, hg0, hk, v1, hR.symm, f1⟩
end MK
