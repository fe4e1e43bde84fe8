/-! acts on both sides: span -/
section PM
variable {y : ZLay} {μ : ZMem} {S S' : SV} {tp tp' : Vec} {tl tl' : Nat} {fa fa' : Int32} {kp kp' : Option SV} {ac ac' : List (Nat × Vec)}
def sdS (S : SV) (k : Nat) : SV := (S.1, vset S.2.1 8 (nI k), S.2.2)
def cnS (S : SV) (n k : Nat) : Int32 := nI (pc (actS (aft (sdS S k) 1 n) S.1))
def spnI (S : SV) (n : Nat) (a : Int32) : Nat → Int32
  | 0 => if a = 0 then 8 else 0
  | k + 1 => if a = 0 then f_X12_lesser (spnI S n a k) (cnS S n (k + 1)) else f_X12_greater (spnI S n a k) (cnS S n (k + 1))
theorem spnI_s {n k : Nat} {a : Int32} : spnI S n a (k + 1) = if a = 0 then f_X12_lesser (spnI S n a k) (cnS S n (k + 1)) else f_X12_greater (spnI S n a k) (cnS S n (k + 1)) := rfl
theorem spnI_n {n : Nat} {a : Int32} : ∀ k, ∃ m, m ≤ 8 ∧ spnI S n a k = nI m
  | 0 => by
    by_cases z : a = 0
    · exact ⟨8, by omega, if_pos z⟩
    · exact ⟨0, by omega, if_neg z⟩
  | k + 1 => by
    obtain ⟨m, hm, e⟩ := spnI_n (n := n) (a := a) k
    have hp := pc_le (actS (aft (sdS S (k + 1)) 1 n) S.1)
    rw [spnI_s, lesser_eq, greater_eq]
    split
    · split
      · exact ⟨m, hm, e⟩
      · exact ⟨_, hp, rfl⟩
    · split
      · exact ⟨m, hm, e⟩
      · exact ⟨_, hp, rfl⟩
theorem spnI_1 {n : Nat} {a : Int32} : spnI S n a 1 = cnS S n 1 := by
  have hp := pc_le (actS (aft (sdS S (0 + 1)) 1 n) S.1)
  rw [spnI_s]
  by_cases z : a = 0
  · rw [if_pos z, show spnI S n a 0 = 8 from if_pos z, lesser_eq, if_neg]
    unfold cnS
    exact nI_nlt (a := 8) hp (by omega)
  · rw [if_neg z, show spnI S n a 0 = 0 from if_neg z, greater_eq, if_neg]
    unfold cnS
    exact nI_pos (by omega)
theorem OS_sd (ho : OS S) (k : Nat) : OS (sdS S k) := OS_v ho (okC_8 ho.1) (fun j hj => vset_ne (by omega)) (vset_ne (by omega))
theorem gt6 {k : Nat} (h : k ≤ 100) : ((6 : Int32) < nI k) ↔ 6 < k := by
  rw [Int32.lt_iff_toInt_lt, nI_toInt (by omega), show (6 : Int32).toInt = 6 by decide]
  omega
theorem OP_span {a1 a2 : Int32} : OPx y cm1 (f_X11_span y a1 a2) (f_X12_span a1 a2) := by
  rintro μ ⟨S, tp, tl, fa, kp, ac, hc, hm, ho⟩
  have h8 := OA_c ho
  by_cases hr : 0 ≤ a1 ∧ a1 ≤ 60
  · obtain ⟨n, hn, rfl⟩ := in_k hr.1 (show a1 ≤ nI 60 from hr.2) (by omega)
    refine op_d (A := spnI S n a2 6) hc hm ho ?_ ?_
    · unfold f_X11_span
      rw [bd_eq ahead_eq, decide_eq_true hr, if_neg b2i_t, zlt_s]
      refine ok_b2 (P := fun q => q.1 = spnI S n a2 6 ∧ fr scP μ q.2) (ok_seq 6 (fun k s => s.1 = spnI S n a2 k ∧ s.2.1 = nI (k + 1) ∧ fr scP μ s.2.2) ?_ ?_ ⟨rfl, rfl, fr_refl⟩ (FU_lt (by omega))) ?_
      · rintro k ⟨x6, x7, μ1⟩ hk ⟨u1, u2, u3⟩
        dsimp only at u1 u2 u3
        subst u2
        rw [un3_s, if_neg (by rw [gt6 (by omega)]; omega)]
        refine ok_b1 (c_draft (RC_sc hc u3).1) ?_
        rintro μ2 ⟨w1, w2, -⟩
        rw [zlt_s]
        have dc : DC y μ (sdS S (k + 1)) 1 0 (mset μ2 (1, 1, 0) 8 (nI (k + 1))) := by
          refine ⟨CS_seed w1.1, ?_, fr_trans u3 (fr_trans w2 (fr_mset (Or.inr (Or.inr (Or.inl ⟨Or.inl rfl, rfl⟩)))))⟩
          have el : lno (mset μ2 (1, 1, 0) 8 (nI (k + 1))) 1 = lno μ2 1 := by unfold lno; rw [mset_k (by decide)]
          rw [el]
          exact LawC_eq w1.2.2.1 (fun j _ => mset_ne (zne (by decide))) (mset_ne (zne (by decide)))
        refine ok_b1 (c_dplays hn dc (OS_sd ho.1 _)) ?_
        rintro μ3 ⟨p1, -, p3⟩
        rw [bd_eq (show f_X7_inState 1 2 μ3 = some (actS (aft (sdS S (k + 1)) 1 n) S.1) from CS_act p1), bc_eq (x := actS (aft (sdS S (k + 1)) 1 n) S.1) (isS_bset h8), zlt_s, zmin_eq, zmax_eq, zlt_s, nI_1]
        refine ok_some ⟨_, rfl, ?_, rfl, p3⟩
        dsimp only
        rw [spnI_s, u1]
        rfl
      · rintro ⟨x6, x7, μ1⟩ ⟨u1, u2, u3⟩
        dsimp only at u1 u2 u3
        subst u2
        rw [un3_s, if_pos (by decide)]
        exact ok_some ⟨_, rfl, u1, u3⟩
      · rintro x μ1 ⟨u1, u2⟩
        dsimp only at u1
        rw [u1]
        exact ok_some ⟨rfl, u2⟩
    · intro μ1 r1 hv
      unfold f_X12_span
      rw [bd_eq m_isIn, decide_eq_true hr, if_neg b2i_t, zlt_s, zlt_s, thr_0, if_pos (by decide)]
      refine ok_b1 (m_aside hv) ?_
      intro μ2 w
      refine ok_b2 (P := fun (q : Int32 × ZMem) => q.1 = spnI S n a2 6 ∧ q.2 MV0 = S.2.1 ∧ fr drP (mset μ1 MO0 0 0) q.2) (ok_seq 6 (fun k s => s.1 = (if k = 0 then -1 else spnI S n a2 k) ∧ s.2.1 = nI (k + 1) ∧ s.2.2 MV0 = S.2.1 ∧ (∀ j, j < 337 → s.2.2 (0, 35, 0) j = S.2.1 j) ∧ fr drP (mset μ1 MO0 0 0) s.2.2) ?_ ?_ ⟨rfl, rfl, (w 1).1, (w 1).2.1, (w 1).2.2⟩ (FU_lt (by omega))) ?_
      · rintro k ⟨x9, x10, μ3⟩ hk ⟨u1, u2, u3, u4, u5⟩
        dsimp only at u1 u2 u3 u4 u5
        subst u2
        rw [un3_s, if_neg (by rw [gt6 (by omega)]; omega), zlt_s]
        have hv4 : (mset μ3 (0, 33, 0) 8 (nI (k + 1))) MV0 = (sdS S (k + 1)).2.1 := by
          rw [mset_eq, mput_at, show μ3 (0, 33, 0) = S.2.1 from u3]; rfl
        have hOs : okV S.1 S.2.1 (sdS S (k + 1)).2.1 := ⟨(OS_sd ho.1 (k + 1)).1.1, fun j hj => vset_ne (by omega)⟩
        refine ok_b2 (m_goes (n := n) (d := 1) (by omega) hv4 ho.1.2.2.1 hOs) ?_
        rintro x μ5 ⟨-, p2, p3, p4⟩
        dsimp only at p2 p3 p4
        have hv5 : μ5 MV0 = aft (sdS S (k + 1)) 1 n := p2
        have e1 : f_X12_inState 2 μ5 = some (actS (aft (sdS S (k + 1)) 1 n) S.1) := by
          rw [m_inState_eq (by rw [hv5]; exact (aft_ok (OS_sd ho.1 (k + 1)) (d := 1) n).1.1.2.1) h8, hv5]; rfl
        rw [bd_eq e1, bd_eq (bits_eq (x := actS (aft (sdS S (k + 1)) 1 n) S.1) (isS_bset h8))]
        have f35 : ∀ j, j < 337 → μ5 (0, 35, 0) j = S.2.1 j := fun j hj => by
          rw [p4.1 _ _ (by unfold rP askP; simp), mset_ne (by decide)]
          exact u4 j hj
        have ff : fr drP (mset μ1 MO0 0 0) μ5 := fr_trans u5 (fr_trans (fr_mset (Or.inl (r_vec rfl))) (fr_mono p4 (fun o i h => Or.inl h)))
        refine ok_b1 (m_comes (S := S) hv5 p3.2 f35 ff) ?_
        rintro μ6 ⟨q1, q2, q3⟩
        rw [zlt_s, nI_1]
        refine ok_some ⟨_, rfl, ?_, rfl, q1, q2, q3⟩
        dsimp only
        rw [if_neg (show ¬ k + 1 = 0 by omega)]
        by_cases z : k = 0
        · subst z
          rw [u1, if_pos rfl, if_pos rfl, spnI_1]; rfl
        · obtain ⟨m, hm', e⟩ := spnI_n (S := S) (n := n) (a := a2) k
          rw [if_neg z] at u1
          rw [if_neg (show ¬ x9 = -1 by rw [u1, e]; exact nI_ne1 (by omega)), spnI_s, u1]; rfl
      · rintro ⟨x9, x10, μ3⟩ ⟨u1, u2, u3, u4, u5⟩
        dsimp only at u1 u2 u3 u4 u5
        subst u2
        rw [un3_s, if_pos (by decide)]
        exact ok_some ⟨_, rfl, u1, u3, u5⟩
      · rintro x μ3 ⟨u1, u2, u3⟩
        exact ok_some ⟨u1, u2, u3⟩
  · refine op_ref (k := 1) hc hm ho (by decide) ?_ ?_
    · unfold f_X11_span
      rw [bd_eq ahead_eq, decide_eq_false hr, if_pos b2i_f]
    · intro μ1 r1
      unfold f_X12_span
      rw [bd_eq m_isIn, decide_eq_false hr, if_pos b2i_f, zlt_s, zlt_s, thr_0, if_neg (by decide)]
      rfl
end PM
