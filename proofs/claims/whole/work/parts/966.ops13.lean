/-! cliques of the model; cliques on both sides -/
section PC
variable {y : ZLay} {μ : ZMem} {S S' : SV} {tp tp' : Vec} {tl tl' : Nat} {fa fa' : Int32} {kp kp' : Option SV} {ac ac' : List (Nat × Vec)}
theorem bset_hi {p : Nat → Bool} {c j : Nat} (h8 : c ≤ 8) (hj : c ≤ j) : tbit (bset p c) j = false := by
  by_cases h : j < 32
  · rw [tbit_bset (by omega) h, decide_eq_false (by omega), Bool.false_and]
  · exact isS_iff.mp (isS_bset h8) j (by omega)
theorem act_v {v : Vec} {c k : Nat} (h8 : c ≤ 8) (hk : k < c) : tbit (actS v c) k = decide (nd v k 3 = 2) := by
  rw [act_bit h8 (by omega), decide_eq_true hk, Bool.true_and]
theorem m_active {v : Vec} {c k : Nat} (h8 : c ≤ 8) (hk : k < c) (hv : μ MV0 = v) : f_X12_isActive (nI k) μ = some (b2i (tbit (actS v c) k)) := by
  rw [isActive_eq (by omega), hv, act_v h8 hk]
theorem m_friends (hv : μ MV0 = S.2.1) (ho : OS S) {k j : Nat} (hk : k < S.1) (hj : j < S.1) : ok (f_X12_areFriends (nI k) (nI j) μ) (fun q => q.1 = b2i (frB S.2.2 S.1 S.2.1 k j) ∧ fr askP μ q.2) := by
  have h8 : S.1 ≤ 8 := ho.1.1.1
  unfold f_X12_areFriends
  refine ok_b2 (P := fun q => q.1 = b2i (frB S.2.2 S.1 S.2.1 k j) ∧ fr askP μ q.2) ?_ ?_
  · rw [jk_s]
    unfold frB
    by_cases z0 : nI k = nI j
    · have : k = j := (nI_inj' (by omega) (by omega)).mp z0
      rw [if_pos z0, decide_eq_false (fun q => q this), Bool.false_and]
      exact ok_some ⟨rfl, fr_refl⟩
    · have z1 : k ≠ j := fun q => z0 (by rw [q])
      rw [if_neg z0, decide_eq_true z1, Bool.true_and, bd_eq (m_active h8 hk hv), bd_eq (m_active h8 hj hv)]
      cases tbit (actS S.2.1 S.1) k
      · rw [if_pos b2i_f, Bool.false_and]
        exact ok_some ⟨rfl, fr_refl⟩
      · rw [if_neg b2i_t, Bool.true_and]
        cases tbit (actS S.2.1 S.1) j
        · rw [if_pos b2i_f, Bool.false_and]
          exact ok_some ⟨rfl, fr_refl⟩
        · rw [if_neg b2i_t, Bool.true_and]
          refine ok_b2 (m_heard hv ho (by omega) (by omega)) ?_
          rintro x μ1 ⟨w1, w2⟩
          dsimp only at w1 w2
          subst w1
          cases hearB S.2.2 S.1 S.2.1 k j
          · rw [if_pos b2i_f, Bool.false_and]
            exact ok_some ⟨rfl, w2⟩
          · rw [if_neg b2i_t, Bool.true_and]
            refine ok_b2 (m_heard ((ask_vec w2).trans hv) ho (by omega) (by omega)) ?_
            rintro x μ2 ⟨u1, u2⟩
            dsimp only at u1 u2
            subst u1
            cases hearB S.2.2 S.1 S.2.1 j k
            · rw [if_pos b2i_f]
              exact ok_some ⟨rfl, fr_trans w2 u2⟩
            · rw [if_neg b2i_t]
              exact ok_some ⟨rfl, fr_trans w2 u2⟩
  · rintro x μ1 ⟨w1, w2⟩
    dsimp only at w1 w2
    subst w1
    rw [gd_eq (zbo_b2i _)]
    exact ok_some ⟨rfl, w2⟩
theorem frM_hi {L : LawS} {c : Nat} {v : Vec} (h8 : c ≤ 8) : ∀ x, x < 8 → ∀ j, c ≤ j → tbit (frM L c v x) j = false := fun _ _ _ hj => bset_hi h8 hj
theorem clq_hi {L : LawS} {c : Nat} {v : Vec} {s : Int32} (h8 : c ≤ 8) (hs : ∀ x, c ≤ x → tbit s x = false) : ∀ n, ∀ x, c ≤ x → tbit (clqI (frM L c v) s n) x = false
  | 0 => hs
  | n + 1 => (pas_stop (clq_hi h8 hs n) (frM_hi h8) 8 (Nat.le_refl _)).1
theorem or_self_bit {s : Int32} {m : Nat} (hs : isS s) (hm : m < 8) (h : tbit s m = true) : s ||| bit1 m = s :=
  isS_ext (isS_or hs (isS_bit1 hm)) hs fun k hk => by
    rw [tbit_or, tbit_bit1 hm]
    by_cases e : k = m
    · subst e; rw [h]; rfl
    · rw [decide_eq_false e, Bool.or_false]
theorem frB_self {L : LawS} {c : Nat} {v : Vec} {k : Nat} : frB L c v k k = false := by
  unfold frB
  rw [decide_eq_false (fun q => q rfl), Bool.false_and]
theorem or_assoc3 {a b d : Int32} : a ||| (b ||| d) = (a ||| b) ||| d := (Int32.or_assoc a b d).symm
def clqM (s : Int32) : Nat := 9 - pc s
theorem clqM_lt {s : Int32} : clqM s < 1000000 := by unfold clqM; omega
theorem clqM_pos {s : Int32} : 0 < clqM s := by have := pc_le s; unfold clqM; omega
theorem clqM_dec {s t : Int32} (h : pc s < pc t) : clqM t < clqM s := by have := pc_le t; unfold clqM; omega
theorem clq_0 {F : Nat → Int32} {s : Int32} : clqI F s 0 = s := rfl
theorem clq_n {F : Nat → Int32} {s : Int32} {n : Nat} : clqI F s (n + 1) = pasN F 8 (clqI F s n) := rfl
theorem m_clique (hv : μ MV0 = S.2.1) (ho : OS S) {k : Nat} (hk : k < S.1) : ok (f_X12_cliqueOf (nI k) μ) (fun q => q.1 = clqS S.2.2 S.1 S.2.1 k ∧ fr askP μ q.2) := by
  have h8 : S.1 ≤ 8 := ho.1.1.1
  have h3 : S.2.1 3 = nI S.1 := ho.1.1.2.1
  obtain ⟨F, hF⟩ : ∃ F, F = frM S.2.2 S.1 S.2.1 := ⟨_, rfl⟩
  have FS : ∀ x, x < 8 → isS (F x) := fun x _ => by rw [hF]; exact isS_frM h8
  have FH : ∀ x, x < 8 → ∀ j, S.1 ≤ j → tbit (F x) j = false := by rw [hF]; exact frM_hi h8
  unfold f_X12_cliqueOf clqS
  rw [bd_eq (m_active h8 hk hv), ← hF]
  cases a : tbit (actS S.2.1 S.1) k
  · rw [if_pos b2i_f, if_neg (by decide)]
    exact ok_some ⟨rfl, fr_refl⟩
  · rw [if_neg b2i_t, if_pos rfl, zlt_s, show (1 : Int32) <<< (nI k &&& 31) = bit1 k from rfl]
    have bS : isS (bit1 k) := isS_bit1 (by omega)
    have bH : ∀ x, S.1 ≤ x → tbit (bit1 k) x = false := fun x hx => by rw [tbit_bit1 (by omega), decide_eq_false (by omega)]
    have b1 : 1 ≤ pc (bit1 k) := by rw [pc_bit (by omega)]; omega
    have cH : ∀ n, ∀ x, S.1 ≤ x → tbit (clqI F (bit1 k) n) x = false := by rw [hF]; exact clq_hi h8 bH
    have v3 : ∀ {μ1 : ZMem}, fr askP μ μ1 → μ1 (0, 33, 0) 3 = nI S.1 := fun f => by rw [show _ = S.2.1 from (ask_vec f).trans hv]; exact h3
    obtain ⟨M, hM⟩ : ∃ M : Int32 → Nat, ∀ s, M s = clqM s := ⟨clqM, fun _ => rfl⟩
    obtain ⟨N, hN⟩ : ∃ N, N = M (bit1 k) := ⟨_, rfl⟩
    refine ok_b2 (P := fun q => q.1 = clqI F (bit1 k) 8 ∧ fr askP μ q.2) (ok_lp (fun m s => fr askP μ s.2.2 ∧ ∃ n, s.1 = clqI F (bit1 k) n ∧ ((s.2.1 = 1 ∧ m = M s.1) ∨ (s.2.1 = 0 ∧ m = 0 ∧ fixd F s.1))) ?_ (N := N) (s := (bit1 k, (1 : Int32), μ)) ⟨fr_refl, 0, clq_0.symm, Or.inl ⟨(rfl : (1 : Int32) = 1), hN⟩⟩ (FU_lt (by rw [hN, hM]; exact clqM_lt))) ?_
    · rintro m ⟨x5, x6, μ1⟩ ⟨w1, n, w2, w3⟩
      dsimp only at w1 w2 w3
      rw [un3_s]
      rcases w3 with ⟨rfl, w3⟩ | ⟨rfl, -, w3⟩
      · rw [if_neg (by decide)]
        refine ok_b2 (P := fun q => q.1 = pasN F 8 x5 ∧ fr askP μ q.2) (ok_seq S.1 (fun i s => s.1 = pasN F i x5 ∧ s.2.1 = nI i ∧ fr askP μ s.2.2) ?_ ?_ ⟨rfl, rfl, w1⟩ (FU_lt (by omega))) ?_
        · rintro i ⟨x11, x12, μ2⟩ hi ⟨u1, u2, u3⟩
          dsimp only at u1 u2 u3
          subst u2
          have tS : isS x11 := by rw [u1, w2]; exact isS_pas FS (isS_clq FS bS n) i (by omega)
          rw [un3_s, v3 u3, if_neg (nI_ge hi (by omega))]
          refine ok_b2 (P := fun q => q.1 = brg F i x11 ∧ fr askP μ q.2) (ok_seq S.1 (fun j s => s.1 = (if tbit x11 i = true then x11 ||| bset (frB S.2.2 S.1 S.2.1 i) j else x11) ∧ s.2.1 = nI j ∧ fr askP μ s.2.2) ?_ ?_ ⟨by split; exact (Int32.or_zero).symm; rfl, rfl, u3⟩ (FU_lt (by omega))) ?_
          · rintro j ⟨x17, x18, μ3⟩ hj ⟨p1, p2, p3⟩
            dsimp only at p1 p2 p3
            subst p2
            rw [un3_s, v3 p3, if_neg (nI_ge hj (by omega)), bd_eq (isOf_eq (by omega))]
            have ti : tbit x17 i = tbit x11 i := by
              rw [p1]
              split
              · rename_i h
                rw [tbit_or, h]; rfl
              · rfl
            rw [ti]
            cases a1 : tbit x11 i
            · rw [if_pos b2i_f, bd2_s]
              rw [a1, if_neg (by decide)] at p1
              refine ok_some ⟨_, rfl, ?_, nI_1 j, p3⟩
              dsimp only
              rw [if_neg (by decide)]; exact p1
            · rw [a1, if_pos rfl] at p1
              have qS : isS x17 := by rw [p1]; exact isS_or tS (isS_bset (by omega))
              rw [if_neg b2i_t, bd_eq (isOf_eq (by omega))]
              have stepv : ∀ b, frB S.2.2 S.1 S.2.1 i j = b → x11 ||| bset (frB S.2.2 S.1 S.2.1 i) (j + 1) = if b = true then x17 ||| bit1 j else x17 := by
                intro b hb
                cases b
                · rw [bset_f hb, if_neg (by decide), p1]
                · rw [bset_t hb, if_pos rfl, p1, or_assoc3]
              cases a2 : tbit x17 j
              · rw [if_pos b2i_f]
                refine ok_b2 (P := fun q => q.1 = (if frB S.2.2 S.1 S.2.1 i j = true then x17 ||| bit1 j else x17) ∧ fr askP μ q.2) (ok_b2 (m_friends ((ask_vec p3).trans hv) ho hi hj) ?_) ?_
                · rintro x μ4 ⟨q1, q2⟩
                  dsimp only at q1 q2
                  subst q1
                  cases frB S.2.2 S.1 S.2.1 i j
                  · rw [if_pos b2i_f]
                    exact ok_some ⟨rfl, fr_trans p3 q2⟩
                  · rw [if_neg b2i_t, zlt_s]
                    exact ok_some ⟨rfl, fr_trans p3 q2⟩
                · rintro x μ4 ⟨q1, q2⟩
                  dsimp only at q1 q2
                  refine ok_some ⟨_, rfl, ?_, nI_1 j, q2⟩
                  dsimp only
                  rw [if_pos rfl, stepv _ rfl]; exact q1
              · rw [if_neg b2i_t, bd2_s]
                refine ok_some ⟨_, rfl, ?_, nI_1 j, p3⟩
                dsimp only
                rw [if_pos rfl, stepv _ rfl]
                split
                · exact (or_self_bit qS (by omega) a2).symm
                · rfl
          · rintro ⟨x17, x18, μ3⟩ ⟨p1, p2, p3⟩
            dsimp only at p1 p2 p3
            subst p2
            rw [un3_s, v3 p3, if_pos (nI_le (Nat.le_refl _) (by omega))]
            refine ok_some ⟨_, rfl, ?_, p3⟩
            dsimp only
            rw [p1, hF]
            rfl
          · rintro x μ3 ⟨p1, p2⟩
            dsimp only at p1 p2
            refine ok_some ⟨_, rfl, ?_, nI_1 i, p2⟩
            dsimp only
            rw [p1, u1]
            rfl
        · rintro ⟨x11, x12, μ2⟩ ⟨u1, u2, u3⟩
          dsimp only at u1 u2 u3
          subst u2
          rw [un3_s, v3 u3, if_pos (nI_le (Nat.le_refl _) (by omega))]
          refine ok_some ⟨_, rfl, ?_, u3⟩
          dsimp only
          rw [u1]
          exact ((pas_stop (by rw [w2]; exact cH n) FH 8 (Nat.le_refl _)).2 h8).symm
        · rintro x14 μ2 ⟨u1, u2⟩
          dsimp only at u1 u2
          rw [zlt_s]
          have xS : isS x5 := by rw [w2]; exact isS_clq FS bS n
          have hn1 : x14 = clqI F (bit1 k) (n + 1) := by rw [u1, w2, clq_n]
          have hp5 := pc_le x5
          by_cases e : x14 = x5
          · rw [if_pos e]
            exact ok_some ⟨0, by rw [w3, hM]; exact clqM_pos, u2, n + 1, hn1, Or.inr ⟨rfl, rfl, by dsimp only; rw [e]; exact u1.symm.trans e⟩⟩
          · rw [if_neg e]
            have := pas_lt FS xS (fun q => e (u1.trans q))
            rw [← u1] at this
            exact ok_some ⟨M x14, by rw [w3, hM, hM]; exact clqM_dec this, u2, n + 1, hn1, Or.inl ⟨rfl, rfl⟩⟩
      · rw [if_pos rfl]
        refine ok_some ⟨?_, w1⟩
        dsimp only
        rw [w2] at w3 ⊢
        exact clq_eq FS bS b1 w3
    · rintro x μ1 ⟨w1, w2⟩
      exact ok_some ⟨w1, w2⟩
/-- how many cliques -/
def cntC (F : Nat → Int32) (a : Int32) : Nat → Int32 × Int32
  | 0 => (a, 0)
  | k + 1 => if tbit (cntC F a k).1 k = true then ((cntC F a k).1 &&& (F k ^^^ (-1)), (cntC F a k).2 + 1) else cntC F a k
theorem cntC_s {F : Nat → Int32} {a : Int32} {k : Nat} : cntC F a (k + 1) = if tbit (cntC F a k).1 k = true then ((cntC F a k).1 &&& (F k ^^^ (-1)), (cntC F a k).2 + 1) else cntC F a k := rfl
theorem cntC_hi {F : Nat → Int32} {a : Int32} {c : Nat} (h : ∀ j, c ≤ j → tbit a j = false) : ∀ k, (∀ j, c ≤ j → tbit (cntC F a k).1 j = false) ∧ (c ≤ k → cntC F a k = cntC F a c)
  | 0 => ⟨h, fun hc => by rw [show c = 0 by omega]⟩
  | k + 1 => by
    obtain ⟨h1, h2⟩ := cntC_hi (F := F) h k
    refine ⟨fun j hj => ?_, fun hc => ?_⟩
    · rw [cntC_s]
      split
      · dsimp only; rw [tbit_and, h1 j hj, Bool.false_and]
      · exact h1 j hj
    · by_cases e : c = k + 1
      · rw [e]
      · rw [cntC_s, h2 (by omega), if_neg]
        rw [← h2 (by omega), h1 k (by omega)]
        decide
theorem OP_cliques : OPn y (f_X11_cliques y) f_X12_cliques := by
  rintro μ ⟨S, tp, tl, fa, kp, ac, hc, hm, ho⟩
  have h8 := OA_c ho
  obtain ⟨F, hF⟩ : ∃ F, F = clqS S.2.2 S.1 S.2.1 := ⟨_, rfl⟩
  have aH : ∀ j, S.1 ≤ j → tbit (actS S.2.1 S.1) j = false := fun j hj => bset_hi h8 hj
  have e8 : (cntC F (actS S.2.1 S.1) 8).2 = (cntC F (actS S.2.1 S.1) S.1).2 := by rw [(cntC_hi (F := F) aH 8).2 h8]
  refine op_n (A := (cntC F (actS S.2.1 S.1) S.1).2) (S' := S) (tp' := tp) (tl' := tl) (fa' := fa) (kp' := kp) (ac' := ac) hm ?_ ?_ ho
  · unfold f_X11_cliques
    refine ok_b1 (c_look0 hc.1 ho.1) ?_
    rintro μ1 ⟨w1, w2, w3, w4⟩
    refine ok_b1 (c_load1 (c := S.1) (v := S.2.1) (L := S.2.2) h8 w3.1 w4) ?_
    rintro μ2 ⟨u1, u2⟩
    have ff : fr scP μ μ2 := fr_trans (fr_mono w2 (fun o i h => vw_sc h)) (fr_mono u2 (fun o i h => grp_sc h))
    have : f_X1_countCliques μ2 = some (cntC F (actS S.2.1 S.1) S.1).2 := by
      unfold f_X1_countCliques
      rw [u1.1, zlt_s, ← e8]
      refine (bd_eq (lp_seq (s0 := (actS S.2.1 S.1, (0 : Int32), (0 : Int32))) 8 (fun k => ((cntC F (actS S.2.1 S.1) k).1, (cntC F (actS S.2.1 S.1) k).2, nI k)) ?_ ?_ (FU_lt (by omega)) rfl)).trans rfl
      · intro k hk
        rw [un3_s, if_neg (show ¬ (8 : Int32) ≤ nI k from nI_ge (b := 8) hk (by omega)), bd_eq (isIn_eq (by omega)), cntC_s, nI_1]
        cases a : tbit (cntC F (actS S.2.1 S.1) k).1 k
        · rw [if_pos b2i_f, if_neg (by decide), bd2_s]
        · rw [if_neg b2i_t, if_pos rfl, bd_eq (c_clique h8 hk u1), zlt_s, bd2_s, ← hF]
      · rw [un3_s, if_pos (by decide)]
    rw [bd_eq this]
    exact ok_some ⟨rfl, RC_sc hc ff, fr_mono ff (fun o i h => sc_cl h)⟩
  · intro μ1 r1
    unfold f_X12_cliques
    have hv : (mset μ1 (0, 32, 0) 0 0) MV0 = S.2.1 := (mset_ne (by decide)).trans r1.1
    have v3 : ∀ {μ2 : ZMem}, fr askP (mset μ1 (0, 32, 0) 0 0) μ2 → μ2 (0, 33, 0) 3 = nI S.1 := fun f => by rw [show _ = S.2.1 from (ask_vec f).trans hv]; exact OA_3 ho
    rw [zlt_s, bd_eq (m_inState_eq (c := S.1) (by rw [hv]; exact OA_3 ho) h8), hv]
    refine ok_b2 (P := fun q => q.1 = (cntC F (actS S.2.1 S.1) S.1).2 ∧ fr askP (mset μ1 (0, 32, 0) 0 0) q.2) (ok_seq S.1 (fun k s => s.1 = (cntC F (actS S.2.1 S.1) k).1 ∧ s.2.1 = (cntC F (actS S.2.1 S.1) k).2 ∧ s.2.2.1 = nI k ∧ fr askP (mset μ1 (0, 32, 0) 0 0) s.2.2.2) ?_ ?_ ⟨rfl, rfl, rfl, fr_refl⟩ (FU_lt (by omega))) ?_
    · rintro k ⟨x4, x5, x6, μ2⟩ hk ⟨p1, p2, p3, p4⟩
      dsimp only at p1 p2 p3 p4
      subst p3
      rw [un4_s, v3 p4, if_neg (nI_ge hk (by omega)), bd_eq (isOf_eq (by omega))]
      cases a : tbit x4 k
      · rw [if_pos b2i_f]
        refine ok_some ⟨_, rfl, ?_, ?_, nI_1 k, p4⟩
        · dsimp only; rw [cntC_s, ← p1, a, if_neg (by decide)]; exact p1
        · dsimp only; rw [cntC_s, ← p1, a, if_neg (by decide)]; exact p2
      · rw [if_neg b2i_t]
        refine ok_bd3 (ok_b2 (m_clique ((ask_vec p4).trans hv) ho.1 hk) ?_)
        rintro x18 μ3 ⟨q1, q2⟩
        dsimp only at q1 q2
        rw [zlt_s]
        refine ok_some ?_
        refine ok_some ⟨_, rfl, ?_, ?_, nI_1 k, fr_trans p4 q2⟩
        · dsimp only; rw [cntC_s, ← p1, a, if_pos rfl, q1, hF]
        · dsimp only; rw [cntC_s, ← p1, a, if_pos rfl, ← p2]
    · rintro ⟨x4, x5, x6, μ2⟩ ⟨p1, p2, p3, p4⟩
      dsimp only at p1 p2 p3 p4
      subst p3
      rw [un4_s, v3 p4, if_pos (nI_le (Nat.le_refl _) (by omega))]
      exact ok_some ⟨_, rfl, p2, p4⟩
    · rintro x μ2 ⟨p1, p2⟩
      have ff : fr msP (mset μ1 MO0 0 0) μ2 := fr_mono p2 (fun o i h => ask_ms h)
      exact ok_some ⟨p1, RM_ms (thr_RM r1) ff, fr_trans (ms_fr thr_fr) (ms_fr ff)⟩
end PC
