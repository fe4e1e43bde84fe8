/-! the draft: settles, widest, leads, span -/
/-- the first k from k on, n of them, that p holds of -/
def sfd (p : Nat → Bool) (g : Nat → Int32) : Nat → Nat → Int32
  | 0, _ => -1
  | n + 1, k => if p k = true then g k else sfd p g n (k + 1)
theorem sfd_s {p : Nat → Bool} {g : Nat → Int32} {n k : Nat} : sfd p g (n + 1) k = if p k = true then g k else sfd p g n (k + 1) := rfl
section PG
variable {y : ZLay} {μ : ZMem} {S S' : SV} {tp tp' : Vec} {tl tl' : Nat} {fa fa' : Int32} {kp kp' : Option SV} {ac ac' : List (Nat × Vec)}
theorem gt60 {k : Nat} (h : k ≤ 100) : ((60 : Int32) < nI k) ↔ 60 < k := by
  rw [Int32.lt_iff_toInt_lt, nI_toInt (by omega), show (60 : Int32).toInt = 60 by decide]
  omega
/-- settled -/
def setB (S : SV) (a : Int32) (k : Nat) : Bool := decide (2 ≤ pc (actS (aft S 0 k) S.1)) && decide (spreadS (aft S 0 k) S.1 ≤ a)
theorem m_act {d : Int32} {k : Nat} (hv : μ MV0 = aft S d k) (ho : OS S) : f_X12_inState 2 μ = some (actS (aft S d k) S.1) := by
  rw [m_inState_eq (by rw [hv]; exact (aft_ok ho k).1.1.2.1) ho.1.1.1, hv]; rfl
theorem nI_ne1 {k : Nat} (h : k ≤ 1000) : ¬ nI k = -1 := fun e => by
  have := congrArg Int32.toInt e
  rw [nI_toInt (by omega)] at this
  have e3 : (-1 : Int32).toInt = -1 := by decide
  omega
theorem OP_settles {a1 : Int32} : OPx y cm1 (f_X11_settles y a1) (f_X12_settles a1) := by
  rintro μ ⟨S, tp, tl, fa, kp, ac, hc, hm, ho⟩
  have h8 := OA_c ho
  by_cases hr : 0 ≤ a1 ∧ a1 ≤ 999
  · have hpc : ∀ k, pc (actS (aft S 0 k) S.1) ≤ 8 := fun k => pc_le _
    refine op_d (A := sfd (setB S a1) nI 61 0) hc hm ho ?_ ?_
    · unfold f_X11_settles
      rw [jk_s, if_neg (Int32.not_lt.mpr hr.1), if_pos hr.2]
      refine ok_b1 (c_draft hc.1) ?_
      rintro μ1 ⟨-, -, w3⟩
      refine ok_b1 (P := fun z => (∃ μ2, z = .inl μ2 ∧ sfd (setB S a1) nI 61 0 = -1 ∧ fr scP μ μ2) ∨ (∃ μ2, z = .inr (.inl (sfd (setB S a1) nI 61 0), μ2) ∧ fr scP μ μ2)) (ok_early 61 (fun k s => s.1 = nI k ∧ DC y μ S 0 k s.2 ∧ sfd (setB S a1) nI (61 - k) k = sfd (setB S a1) nI 61 0) ?_ ?_ ⟨rfl, w3 0, rfl⟩ (FU_lt (by omega))) ?_
      · rintro k ⟨x, μ2⟩ hk ⟨u1, u2, u3⟩
        dsimp only at u1 u2 u3
        subst u1
        rw [show 61 - k = (61 - (k + 1)) + 1 by omega, sfd_s] at u3
        rw [un2_s, if_neg (by rw [gt60 (by omega)]; omega), bd_eq (show f_X7_inState 1 2 μ2 = some (actS (aft S 0 k) S.1) from CS_act u2.1), jk_s, bc_eq (x := actS (aft S 0 k) S.1) (isS_bset h8), bd_eq (c_spread u2.1)]
        have go : setB S a1 k = false → ok (bd2 (f_X9_play y 1 0 μ2) (fun (x18 : Int32) (μ19 : ZMem) => some (.inl (nI k + 1, μ19) : (Int32 × ZMem) ⊕ (ZMem ⊕ ((Int32 ⊕ Nat) × ZMem))))) (fun z => (∃ s', z = .inl s' ∧ s'.1 = nI (k + 1) ∧ DC y μ S 0 (k + 1) s'.2 ∧ sfd (setB S a1) nI (61 - (k + 1)) (k + 1) = sfd (setB S a1) nI 61 0) ∨ ∃ r, z = .inr r ∧ ((∃ μ2, r = .inl μ2 ∧ sfd (setB S a1) nI 61 0 = -1 ∧ fr scP μ μ2) ∨ (∃ μ2, r = .inr (.inl (sfd (setB S a1) nI 61 0), μ2) ∧ fr scP μ μ2))) := by
          intro hb
          rw [hb, if_neg (by decide)] at u3
          refine ok_b2 (c_dplay u2 ho.1) ?_
          rintro z μ3 p
          exact ok_some (Or.inl ⟨_, rfl, nI_1 k, p, u3⟩)
        by_cases h2 : 2 ≤ pc (actS (aft S 0 k) S.1)
        · rw [if_neg (show ¬ nI (pc (actS (aft S 0 k) S.1)) < (2 : Int32) from nI_nlt (b := 2) h2 (by have := hpc k; omega))]
          by_cases h3 : spreadS (aft S 0 k) S.1 ≤ a1
          · rw [if_neg (Int32.not_lt.mpr h3)]
            have hb : setB S a1 k = true := by unfold setB; rw [decide_eq_true h2, decide_eq_true h3]; rfl
            rw [hb, if_pos rfl] at u3
            exact ok_some (Or.inr ⟨_, rfl, Or.inr ⟨_, by rw [u3], u2.2.2⟩⟩)
          · rw [if_pos (Int32.not_le.mp h3)]
            exact go (by unfold setB; rw [decide_eq_false h3, Bool.and_false])
        · rw [if_pos (show nI (pc (actS (aft S 0 k) S.1)) < (2 : Int32) from nI_lt (b := 2) (by omega) (by omega))]
          exact go (by unfold setB; rw [decide_eq_false h2, Bool.false_and])
      · rintro ⟨x, μ2⟩ ⟨u1, u2, u3⟩
        dsimp only at u1 u2 u3
        subst u1
        rw [un2_s, if_pos (by decide)]
        exact ok_some ⟨_, rfl, Or.inl ⟨_, rfl, u3.symm, u2.2.2⟩⟩
      · rintro z (⟨μ2, rfl, e, f⟩ | ⟨μ2, rfl, f⟩)
        · refine ok_some ⟨?_, f⟩
          rw [e]
        · exact ok_some ⟨rfl, f⟩
    · intro μ1 r1 hv
      unfold f_X12_settles
      rw [bd_eq m_isIn, decide_eq_true hr, if_neg b2i_t, zlt_s, zlt_s, thr_0, if_pos (by decide)]
      refine ok_b1 (m_aside hv) ?_
      intro μ2 w
      refine ok_b2 (P := fun q => q.1 = sfd (setB S a1) nI 61 0 ∧ ∃ k, DM (mset μ1 MO0 0 0) S 0 k q.2) (ok_early 61 (fun k s => s.2.1 = nI k ∧ DM (mset μ1 MO0 0 0) S 0 k s.2.2 ∧ ((s.1 = -1 ∧ sfd (setB S a1) nI (61 - k) k = sfd (setB S a1) nI 61 0) ∨ (¬ s.1 = -1 ∧ s.1 = sfd (setB S a1) nI 61 0))) ?_ ?_ ⟨rfl, w 0, Or.inl ⟨rfl, rfl⟩⟩ (FU_lt (by omega))) ?_
      · rintro k ⟨x9, x10, μ3⟩ hk ⟨u1, u2, u3⟩
        dsimp only at u1 u2 u3
        subst u1
        rw [un3_s, if_neg (by rw [gt60 (by omega)]; omega)]
        rcases u3 with ⟨rfl, u3⟩ | ⟨ne, u3⟩
        · rw [show 61 - k = (61 - (k + 1)) + 1 by omega, sfd_s] at u3
          rw [if_pos rfl, bd_eq (m_act u2.1 ho.1), bd_eq (bits_eq (x := actS (aft S 0 k) S.1) (isS_bset h8)), bd_eq (m_spread u2.1 (aft_ok ho.1 k).1)]
          have e1 : (if nI (pc (actS (aft S 0 k) S.1)) ≤ 1 then some (-1 : Int32) else if a1 < spreadS (aft S 0 k) S.1 then some (-1) else some (nI k)) = some (if setB S a1 k = true then nI k else -1) := by
            unfold setB
            by_cases h2 : 2 ≤ pc (actS (aft S 0 k) S.1)
            · rw [if_neg (show ¬ nI (pc (actS (aft S 0 k) S.1)) ≤ (1 : Int32) from nI_ge (a := 1) (by omega) (by have := hpc k; omega)), decide_eq_true h2, Bool.true_and]
              by_cases h3 : spreadS (aft S 0 k) S.1 ≤ a1
              · rw [if_neg (Int32.not_lt.mpr h3), decide_eq_true h3, if_pos rfl]
              · rw [if_pos (Int32.not_le.mp h3), decide_eq_false h3, if_neg (by decide)]
            · rw [if_pos (show nI (pc (actS (aft S 0 k) S.1)) ≤ (1 : Int32) from nI_le (b := 1) (by omega) (by omega)), decide_eq_false h2, Bool.false_and, if_neg (by decide)]
          rw [e1, bd_s]
          refine ok_b1 (m_dpass u2 ho.1) ?_
          intro μ4 p
          refine ok_some (Or.inl ⟨_, rfl, nI_1 k, p, ?_⟩)
          dsimp only
          cases hb : setB S a1 k
          · rw [if_neg (by decide)]
            rw [hb, if_neg (by decide)] at u3
            exact Or.inl ⟨rfl, u3⟩
          · rw [if_pos rfl]
            rw [hb, if_pos rfl] at u3
            exact Or.inr ⟨nI_ne1 (by omega), u3⟩
        · rw [if_neg ne]
          exact ok_some (Or.inr ⟨_, rfl, u3, k, u2⟩)
      · rintro ⟨x9, x10, μ3⟩ ⟨u1, u2, u3⟩
        dsimp only at u1 u2 u3
        subst u1
        rw [un3_s, if_pos (by decide)]
        refine ok_some ⟨_, rfl, ?_, 61, u2⟩
        rcases u3 with ⟨e, u3⟩ | ⟨-, u3⟩
        · exact e.trans u3
        · exact u3
      · rintro x μ3 ⟨u1, k, u2⟩
        dsimp only at u1 u2
        refine ok_b1 (DM_back u2 ho.1) ?_
        rintro μ4 ⟨p1, p2⟩
        exact ok_some ⟨u1, p1, p2⟩
  · refine op_ref (k := 1) hc hm ho (by decide) ?_ ?_
    · unfold f_X11_settles
      rw [jk_s]
      by_cases h1 : a1 < 0
      · rw [if_pos h1]
      · rw [if_neg h1, if_neg (fun h2 => hr ⟨Int32.not_lt.mp h1, h2⟩)]
    · intro μ1 r1
      unfold f_X12_settles
      rw [bd_eq m_isIn, decide_eq_false hr, if_pos b2i_f, zlt_s, zlt_s, thr_0, if_neg (by decide)]
      rfl
/-- a leader -/
def ledB (S : SV) (k : Nat) : Bool := decide (¬ actS (aft S 0 k) S.1 = 0)
def ledG (S : SV) (a : Int32) (k : Nat) : Int32 := if a = 0 then nI k else nI (lowS (actS (aft S 0 k) S.1))
theorem m_low2 {x : Int32} (hs : isS x) (h0 : ¬ x = 0) : f_X12_lowest x = some (nI (lowS x)) := by
  unfold f_X12_lowest
  rw [bd_eq (m_low hs h0)]
theorem OP_leads {a1 : Int32} : OPn y (f_X11_leads y a1) (f_X12_leads a1) := by
  rintro μ ⟨S, tp, tl, fa, kp, ac, hc, hm, ho⟩
  have h8 := OA_c ho
  have hne : ∀ k, k ≤ 60 → ¬ ledG S a1 k = -1 := fun k hk => by
    unfold ledG
    split
    · exact nI_ne1 (by omega)
    · have := low_lt (actS (aft S 0 k) S.1)
      exact nI_ne1 (by omega)
  refine op_n (A := sfd (ledB S) (ledG S a1) 61 0) (S' := S) (tp' := tp) (tl' := tl) (fa' := fa) (kp' := kp) (ac' := ac) hm ?_ ?_ ho
  · suffices hs : ok (f_X11_leads y a1 μ) (fun r => r.1 = sfd (ledB S) (ledG S a1) 61 0 ∧ fr scP μ r.2) by
      refine ok_mono hs ?_
      rintro r ⟨a, b⟩
      exact ⟨a, RC_sc hc b, fr_mono b (fun o i h => sc_cl h)⟩
    unfold f_X11_leads
    refine ok_b1 (c_draft hc.1) ?_
    rintro μ1 ⟨-, -, w3⟩
    refine ok_b1 (P := fun z => (∃ μ2, z = .inl μ2 ∧ sfd (ledB S) (ledG S a1) 61 0 = -1 ∧ fr scP μ μ2) ∨ (∃ μ2, z = .inr (sfd (ledB S) (ledG S a1) 61 0, μ2) ∧ fr scP μ μ2)) (ok_early 61 (fun k s => s.1 = nI k ∧ DC y μ S 0 k s.2 ∧ sfd (ledB S) (ledG S a1) (61 - k) k = sfd (ledB S) (ledG S a1) 61 0) ?_ ?_ ⟨rfl, w3 0, rfl⟩ (FU_lt (by omega))) ?_
    · rintro k ⟨x, μ2⟩ hk ⟨u1, u2, u3⟩
      dsimp only at u1 u2 u3
      subst u1
      rw [show 61 - k = (61 - (k + 1)) + 1 by omega, sfd_s] at u3
      rw [un2_s, if_neg (by rw [gt60 (by omega)]; omega), bd_eq (show f_X7_inState 1 2 μ2 = some (actS (aft S 0 k) S.1) from CS_act u2.1)]
      by_cases h2 : actS (aft S 0 k) S.1 = 0
      · rw [if_pos h2]
        rw [show ledB S k = false by unfold ledB; rw [decide_eq_false (fun q => q h2)], if_neg (by decide)] at u3
        refine ok_b2 (c_dplay u2 ho.1) ?_
        rintro z μ3 p
        exact ok_some (Or.inl ⟨_, rfl, nI_1 k, p, u3⟩)
      · rw [if_neg h2]
        rw [show ledB S k = true by unfold ledB; rw [decide_eq_true h2], if_pos rfl] at u3
        rw [bd_eq (c_low (x := actS (aft S 0 k) S.1) (isS_bset h8) h2)]
        have e1 : (if a1 = 0 then some (nI k) else some (nI (lowS (actS (aft S 0 k) S.1)))) = some (ledG S a1 k) := by
          unfold ledG
          split <;> rfl
        rw [e1, bd_s]
        exact ok_some (Or.inr ⟨_, rfl, Or.inr ⟨_, by rw [u3], u2.2.2⟩⟩)
    · rintro ⟨x, μ2⟩ ⟨u1, u2, u3⟩
      dsimp only at u1 u2 u3
      subst u1
      rw [un2_s, if_pos (by decide)]
      exact ok_some ⟨_, rfl, Or.inl ⟨_, rfl, u3.symm, u2.2.2⟩⟩
    · rintro z (⟨μ2, rfl, e, f⟩ | ⟨μ2, rfl, f⟩)
      · refine ok_some ⟨?_, f⟩
        rw [e]
      · exact ok_some ⟨rfl, f⟩
  · intro μ1 r1
    have hv : (mset μ1 MO0 0 0) MV0 = S.2.1 := (mset_ne (by decide)).trans r1.1
    suffices hs : ok (f_X12_leads a1 μ1) (fun q => q.1 = sfd (ledB S) (ledG S a1) 61 0 ∧ q.2 MV0 = S.2.1 ∧ fr drP (mset μ1 MO0 0 0) q.2) by
      refine ok_mono hs ?_
      rintro q ⟨a, b, c⟩
      refine ⟨a, RM_put (thr_RM r1) c (fun o i h => drP_ms h) b, fr_trans (ms_fr thr_fr) (fr_mono c ?_)⟩
      intro o i h
      rcases drP_ms h with rfl | h
      · exact ⟨rfl, by decide⟩
      · exact ms_md h
    unfold f_X12_leads
    rw [zlt_s]
    refine ok_b1 (m_aside hv) ?_
    intro μ2 w
    refine ok_b2 (P := fun q => q.1 = sfd (ledB S) (ledG S a1) 61 0 ∧ ∃ k, DM (mset μ1 MO0 0 0) S 0 k q.2) (ok_early 61 (fun k s => s.2.1 = nI k ∧ DM (mset μ1 MO0 0 0) S 0 k s.2.2 ∧ ((s.1 = -1 ∧ sfd (ledB S) (ledG S a1) (61 - k) k = sfd (ledB S) (ledG S a1) 61 0) ∨ (¬ s.1 = -1 ∧ s.1 = sfd (ledB S) (ledG S a1) 61 0))) ?_ ?_ ⟨rfl, w 0, Or.inl ⟨rfl, rfl⟩⟩ (FU_lt (by omega))) ?_
    · rintro k ⟨x9, x10, μ3⟩ hk ⟨u1, u2, u3⟩
      dsimp only at u1 u2 u3
      subst u1
      rw [un3_s, if_neg (by rw [gt60 (by omega)]; omega)]
      rcases u3 with ⟨rfl, u3⟩ | ⟨ne, u3⟩
      · rw [show 61 - k = (61 - (k + 1)) + 1 by omega, sfd_s] at u3
        rw [if_pos rfl, bd_eq (m_act u2.1 ho.1)]
        by_cases h2 : actS (aft S 0 k) S.1 = 0
        · rw [show ledB S k = false by unfold ledB; rw [decide_eq_false (fun q => q h2)], if_neg (by decide)] at u3
          rw [if_pos h2, bd_s]
          refine ok_b1 (m_dpass u2 ho.1) ?_
          intro μ4 p
          exact ok_some (Or.inl ⟨_, rfl, nI_1 k, p, Or.inl ⟨rfl, u3⟩⟩)
        · rw [show ledB S k = true by unfold ledB; rw [decide_eq_true h2], if_pos rfl] at u3
          rw [if_neg h2, bd_eq (m_low2 (x := actS (aft S 0 k) S.1) (isS_bset h8) h2)]
          have e1 : (if a1 = 0 then some (nI k) else some (nI (lowS (actS (aft S 0 k) S.1)))) = some (ledG S a1 k) := by
            unfold ledG
            split <;> rfl
          rw [e1, bd_s, bd_s]
          refine ok_b1 (m_dpass u2 ho.1) ?_
          intro μ4 p
          exact ok_some (Or.inl ⟨_, rfl, nI_1 k, p, Or.inr ⟨hne k (by omega), u3⟩⟩)
      · rw [if_neg ne]
        exact ok_some (Or.inr ⟨_, rfl, u3, k, u2⟩)
    · rintro ⟨x9, x10, μ3⟩ ⟨u1, u2, u3⟩
      dsimp only at u1 u2 u3
      subst u1
      rw [un3_s, if_pos (by decide)]
      refine ok_some ⟨_, rfl, ?_, 61, u2⟩
      rcases u3 with ⟨e, u3⟩ | ⟨-, u3⟩
      · exact e.trans u3
      · exact u3
    · rintro x μ3 ⟨u1, k, u2⟩
      dsimp only at u1 u2
      refine ok_b1 (DM_back u2 ho.1) ?_
      rintro μ4 ⟨p1, p2⟩
      exact ok_some ⟨u1, p1, p2⟩
/-- the widest -/
def wdS (S : SV) : Nat → Int32
  | 0 => spreadS (aft S 0 0) S.1
  | k + 1 => f_X12_greater (wdS S k) (spreadS (aft S 0 (k + 1)) S.1)
theorem wdS_s {k : Nat} : wdS S (k + 1) = f_X12_greater (wdS S k) (spreadS (aft S 0 (k + 1)) S.1) := rfl
theorem OP_widest {a1 : Int32} : OPx y cm1 (f_X11_widest y a1) (f_X12_widest a1) := by
  rintro μ ⟨S, tp, tl, fa, kp, ac, hc, hm, ho⟩
  have h8 := OA_c ho
  by_cases hr : 0 ≤ a1 ∧ a1 ≤ 60
  · obtain ⟨n, hn, rfl⟩ := in_k hr.1 (show a1 ≤ nI 60 from hr.2) (by omega)
    refine op_d (A := wdS S n) hc hm ho ?_ ?_
    · unfold f_X11_widest
      rw [bd_eq ahead_eq, decide_eq_true hr, if_neg b2i_t]
      refine ok_b1 (c_draft hc.1) ?_
      rintro μ1 ⟨-, -, w3⟩
      rw [bd_eq (c_spread (w3 0).1)]
      refine ok_b2 (P := fun q => q.1 = wdS S n ∧ fr scP μ q.2) (ok_seq n (fun k s => s.1 = wdS S k ∧ s.2.1 = nI k ∧ DC y μ S 0 k s.2.2) ?_ ?_ ⟨rfl, rfl, w3 0⟩ (FU_lt (by omega))) ?_
      · rintro k ⟨x8, x9, μ2⟩ hk ⟨u1, u2, u3⟩
        dsimp only at u1 u2 u3
        subst u2
        rw [un3_s, if_neg (nI_ge hk (by omega))]
        refine ok_b2 (c_dplay u3 ho.1) ?_
        rintro z μ3 p
        dsimp only at p
        rw [bd_eq (c_spread p.1), zlt_s, zmax_eq, u1, ← wdS_s]
        exact ok_some ⟨_, rfl, rfl, nI_1 k, p⟩
      · rintro ⟨x8, x9, μ2⟩ ⟨u1, u2, u3⟩
        dsimp only at u1 u2 u3
        subst u2
        rw [un3_s, if_pos (nI_le (Nat.le_refl _) (by omega))]
        exact ok_some ⟨_, rfl, u1, u3.2.2⟩
      · rintro x μ2 ⟨u1, u2⟩
        dsimp only at u1
        rw [u1]
        exact ok_some ⟨rfl, u2⟩
    · intro μ1 r1 hv
      unfold f_X12_widest
      rw [bd_eq m_isIn, decide_eq_true hr, if_neg b2i_t, zlt_s, zlt_s, thr_0, if_pos (by decide)]
      refine ok_b1 (m_aside hv) ?_
      intro μ2 w
      rw [bd_eq (m_spread (w 0).1 (aft_ok ho.1 0).1)]
      refine ok_b2 (P := fun q => q.1 = wdS S n ∧ DM (mset μ1 MO0 0 0) S 0 n q.2) (ok_seq n (fun k s => s.1 = wdS S k ∧ s.2.1 = nI k ∧ DM (mset μ1 MO0 0 0) S 0 k s.2.2) ?_ ?_ ⟨rfl, rfl, w 0⟩ (FU_lt (by omega))) ?_
      · rintro k ⟨x8, x9, μ2⟩ hk ⟨u1, u2, u3⟩
        dsimp only at u1 u2 u3
        subst u2
        rw [un3_s, if_neg (nI_ge hk (by omega))]
        refine ok_b1 (m_dpass u3 ho.1) ?_
        intro μ3 p
        rw [bd_eq (m_spread p.1 (aft_ok ho.1 (k + 1)).1), zlt_s, u1, ← wdS_s]
        exact ok_some ⟨_, rfl, rfl, nI_1 k, p⟩
      · rintro ⟨x8, x9, μ2⟩ ⟨u1, u2, u3⟩
        dsimp only at u1 u2 u3
        subst u2
        rw [un3_s, if_pos (nI_le (Nat.le_refl _) (by omega))]
        exact ok_some ⟨_, rfl, u1, u3⟩
      · rintro x μ3 ⟨u1, u2⟩
        dsimp only at u1 u2
        refine ok_b1 (DM_back u2 ho.1) ?_
        rintro μ4 ⟨p1, p2⟩
        exact ok_some ⟨u1, p1, p2⟩
  · refine op_ref (k := 1) hc hm ho (by decide) ?_ ?_
    · unfold f_X11_widest
      rw [bd_eq ahead_eq, decide_eq_false hr, if_pos b2i_f]
    · intro μ1 r1
      unfold f_X12_widest
      rw [bd_eq m_isIn, decide_eq_false hr, if_pos b2i_f, zlt_s, zlt_s, thr_0, if_neg (by decide)]
      rfl
end PG
