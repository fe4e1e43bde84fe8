/-! order: both -/
section QC
variable {y : ZLay} {μ : ZMem} {S S' : SV} {tp tp' : Vec} {tl tl' : Nat} {fa fa' : Int32} {kp kp' : Option SV} {ac ac' : List (Nat × Vec)}
/-- which way -/
noncomputable def dirS (v : Vec) (A : Nat) : Bool := decide (slS (clS v) A < slS (fun j => -clS v j) A)
noncomputable def ordS (v : Vec) (A p : Nat) : Nat := slS (kyD v (dirS v A)) (lftS (kyD v (dirS v A)) A p)
theorem ord_bits {v : Vec} {c A : Nat} (h8 : c ≤ 8) (eA : actS v c = nI A) : (∀ j, j < 8 → A.testBit j = (decide (j < c) && decide (nd v j 3 = 2))) ∧ pc (nI A) = pcn c (fun k => decide (nd v k 3 = 2)) := by
  refine ⟨fun j hj => ?_, ?_⟩
  · rw [← tb_nI (n := A) (show j < 32 by omega), ← eA]
    exact tbit_bset (by omega) (by omega)
  · rw [← eA]; exact pcn_bset h8
theorem row_sc {o : ZId} {i : Nat} (h : oP (0, 16, 0) o i) : scP o i := by
  cases h
  exact Or.inl ⟨rfl, by decide, by decide, rfl⟩
theorem c_order {a1 : Int32} (hc : RC y μ S tp tl fa kp ac) (ho : OA S tp tl kp ac) {A : Nat} (hA : A < 256) (eA : actS S.2.1 S.1 = nI A) : ok (f_X1_inOrder 0 a1 μ) (fun q => q.1 = (if 0 ≤ a1 ∧ a1 < nI (pc (nI A)) then nI (ordS S.2.1 A a1.toNatClampNeg) else -1) ∧ fr scP μ q.2) := by
  have h8 := OA_c ho
  have hB := ho.1.1.2
  obtain ⟨bA, pA⟩ := ord_bits h8 eA
  have k1 : ∀ i, i < S.1 → (nd S.2.1 i 0 * 1).toInt = clS S.2.1 i := fun i hi => by rw [Int32.mul_one]; rfl
  have k2 : ∀ i, i < S.1 → (nd S.2.1 i 0 * (-1)).toInt = (fun j => -clS S.2.1 j) i := fun i hi => by
    rw [Int32.mul_neg, Int32.mul_one]
    exact (rng_neg (hB.1 i hi).1 (by omega) (by omega)).2
  have put : ∀ {W : Int32} {ky : Nat → Int} (μ0 : ZMem), fr scP μ μ0 → (∀ i, i < S.1 → (nd S.2.1 i 0 * W).toInt = ky i) → ok (f_X1_putInOrder 0 W μ0) (fun q => q.1 = nI (pc (nI A)) ∧ fr scP μ q.2 ∧ ∀ p, p < pc (nI A) → q.2 (0, 16, 0) p = nI (slS ky (lftS ky A p))) := by
    intro W ky μ0 f0 hk
    refine ok_mono (c_putO (RC_sc hc f0).1.1 hk) ?_
    rintro q ⟨f1, len, r, e1, e2, e3⟩
    have el : len = pc (nI A) := by rw [pA]; exact e2.1
    refine ⟨by rw [e1, el], fr_trans f0 (fr_mono f1 (fun o i h => row_sc h)), fun p hp => ?_⟩
    rw [← el] at hp
    rw [e3 p hp, (row_sl hA h8 bA e2 p (by omega)).2 hp]
  have hpc := pc_le (nI A)
  unfold f_X1_inOrder
  refine ok_b2 (put μ fr_refl k1) ?_
  rintro x2 μ3 ⟨u1, u2, u3⟩
  dsimp only at u1 u2 u3
  subst u1
  rw [jk_s]
  by_cases c1 : a1 < 0
  · rw [if_pos c1, if_neg (fun q => Int32.not_lt.mpr q.1 c1)]
    exact ok_some ⟨rfl, u2⟩
  · rw [if_neg c1]
    by_cases c2 : a1 < nI (pc (nI A))
    · obtain ⟨at_, hat, rfl⟩ := in_n (by omega) ⟨Int32.not_lt.mp c1, c2⟩
      rw [if_pos c2, if_pos ⟨Int32.not_lt.mp c1, c2⟩, zlt_s, nI_cl (by omega)]
      refine ok_b2 (put μ3 u2 k2) ?_
      rintro x9 μ10 ⟨w1, w2, w3⟩
      dsimp only at w1 w2 w3
      have hA0 : A ≠ 0 := by
        intro q
        rw [q, pc_0'] at hat
        omega
      have hf := slS_ok (ky := clS S.2.1) hA hA0
      have hg := slS_ok (ky := fun j => -clS S.2.1 j) hA hA0
      have f0 := u3 0 (by omega)
      have g0 := w3 0 (by omega)
      have f0' : μ3 (0, 16, 0) 0 = nI (slS (clS S.2.1) A) := f0
      have g0' : μ10 (0, 16, 0) 0 = nI (slS (fun j => -clS S.2.1 j) A) := g0
      rw [f0', g0']
      refine ok_b1 (P := fun μ' => fr scP μ μ' ∧ ∀ p, p < pc (nI A) → μ' (0, 16, 0) p = nI (ordS S.2.1 A p)) ?_ ?_
      · by_cases e : slS (clS S.2.1) A < slS (fun j => -clS S.2.1 j) A
        · rw [if_neg (nI_ge e (by have := hg.1; omega))]
          refine ok_b2 (put μ10 w2 k1) ?_
          rintro x14 μ15 ⟨q1, q2, q3⟩
          refine ok_some ⟨q2, fun p hp => ?_⟩
          have ed : dirS S.2.1 A = true := decide_eq_true e
          unfold ordS
          rw [ed]
          exact q3 p hp
        · rw [if_pos (nI_le (by omega) (by have := hf.1; omega))]
          refine ok_some ⟨w2, fun p hp => ?_⟩
          have ed : dirS S.2.1 A = false := decide_eq_false e
          unfold ordS
          rw [ed]
          exact w3 p hp
      · rintro μ12 ⟨q1, q2⟩
        rw [gd_eq (zin_nI (by omega) (by omega)), q2 at_ hat]
        exact ok_some ⟨rfl, q1⟩
    · rw [if_neg c2, if_neg (fun q => c2 q.2)]
      exact ok_some ⟨rfl, u2⟩
theorem ky_gdP {v : Vec} {d : Bool} {n k : Nat} {x : Int32} (h : gdP v n k x) : rng x 0 2000000000 ∧ PI (kyD v d) n k x.toInt := ⟨h.1, kyD_PI h.2⟩
theorem OP_order {a1 : Int32} : OPn y (f_X11_order a1) (f_X12_order a1) := by
  rintro μ ⟨S, tp, tl, fa, kp, ac, hc, hm, ho⟩
  have h8 := OA_c ho
  have hB := ho.1.1.2
  obtain ⟨A, hA, eA⟩ : isS (actS S.2.1 S.1) := isS_bset h8
  have hAc : A < 2 ^ S.1 := tb_lt_all ⟨S.1, by omega⟩ ⟨A, hA⟩ (fun j hj => by
    have : tbit (nI A) j.val = false := by rw [← eA]; exact bset_hi h8 hj
    rw [tb_nI (by omega)] at this
    exact this)
  obtain ⟨ep, lp2⟩ := pow_nI ⟨S.1, by omega⟩
  dsimp only at ep lp2
  obtain ⟨bA, pA⟩ := ord_bits h8 eA
  have hpc := pc_le (nI A)
  refine op_p (A := if a1 = -1 then spreadS S.2.1 S.1 else if 0 ≤ a1 ∧ a1 < nI (pc (nI A)) then nI (ordS S.2.1 A a1.toNatClampNeg) else -1) hc hm ho ?_ ?_
  · unfold f_X11_order
    by_cases e1 : a1 = -1
    · rw [if_pos e1, if_pos e1, bd_eq (c_spread hc.1.1), bd2_s]
      exact ok_some ⟨rfl, fr_refl⟩
    · rw [if_neg e1, if_neg e1]
      exact ok_b2i (ok_b2i (c_order hc ho hA eA))
  · intro μ1 r1 hv
    unfold f_X12_order
    have e3 : f_X12_inState 2 (mset μ1 (0, 32, 0) 0 0) = some (nI A) := by rw [m_inState_eq (by rw [hv]; exact OA_3 ho) h8, hv, ← eA]; rfl
    rw [zlt_s, bd_eq e3, bd_eq (bits_eq ⟨A, hA, rfl⟩)]
    by_cases e1 : a1 = -1
    · rw [if_pos e1, if_pos e1, bd_eq (m_spread (c := S.1) hv ho.1.1)]
      exact ok_some ⟨rfl, fr_refl⟩
    · rw [if_neg e1, if_neg e1, bd_eq m_isIn]
      have ei : (0 ≤ a1 ∧ a1 ≤ nI (pc (nI A)) - 1) ↔ (0 ≤ a1 ∧ a1 < nI (pc (nI A))) := by rw [le_pred (by omega)]
      by_cases hr : 0 ≤ a1 ∧ a1 < nI (pc (nI A))
      · rw [decide_eq_true (ei.mpr hr), if_neg b2i_t, if_pos hr]
        obtain ⟨at_, hat, rfl⟩ := in_n (by omega) hr
        rw [nI_cl (by omega)]
        have hA0 : A ≠ 0 := by
          intro q
          rw [q, pc_0'] at hat
          omega
        refine ok_b1 (m_allPaths hv ho.1.1) ?_
        rintro μ2 ⟨f2, hP⟩
        have hv2 : μ2 MV0 = S.2.1 := (fr_at f2 (fun i q => absurd (show ((0, 33, 0) : ZId) = (0, 45, 0) from q) (by decide))).trans hv
        have v3 : μ2 (0, 33, 0) 3 = nI S.1 := by rw [show μ2 (0, 33, 0) = S.2.1 from hv2]; exact OA_3 ho
        have hcl : ∀ n, n < 2 ^ S.1 → n ≠ 0 → ∀ k, k < 8 → n.testBit k = true → gdP S.2.1 n k (μ2 (0, 45, 0) (8 * n + k)) := fun n h1 h2 k hk ht => hP n (by omega) h1 k hk ht
        obtain ⟨a, b, hab, hsp⟩ := spread_ext h8 hB bA hA0 hA
        rw [bd_eq (m_spread (c := S.1) hv2 ho.1.1), v3]
        obtain ⟨ky, hky⟩ : ∃ ky, ky = kyD S.2.1 (dirS S.2.1 A) := ⟨_, rfl⟩
        have hne : ∀ p, p < pc (nI A) → lftS ky A p < 256 ∧ lftS ky A p ≠ 0 := fun p hp => lftS_ne hA hp
        have hlt : ∀ p, p ≤ pc (nI A) → lftS ky A p < 2 ^ S.1 := by
          intro p
          induction p with
          | zero => intro _; exact hAc
          | succ p ih =>
            intro hp
            obtain ⟨g1, g2⟩ := hne p (by omega)
            have := rmv_le g1 (slS_ok (ky := ky) g1 g2).1
            have := ih (by omega)
            rw [lftS_s]
            omega
        have hlow : ∀ n, n < 2 ^ S.1 → ∀ j, j < 8 → n.testBit j = true → j < S.1 := fun n hn j hj ht => by
          rcases Nat.lt_or_ge j S.1 with e | e
          · exact e
          · rw [lt_pow_tb hn _ e] at ht; cases ht
        obtain ⟨ea, eb, hext⟩ := exT_ex (ky := ky) hA hA0
        have hrange : ky eb - ky ea = clS S.2.1 b - clS S.2.1 a := by
          rw [hky] at hext ⊢
          have x1 := hab.2.2.2.2 ea hext.1 hext.2.2.1
          have x2 := hab.2.2.2.2 eb hext.2.1 hext.2.2.2.1
          have x3 := hext.2.2.2.2 a hab.1 hab.2.2.1
          have x4 := hext.2.2.2.2 b hab.2.1 hab.2.2.2.1
          rcases Bool.eq_false_or_eq_true (dirS S.2.1 A) with hd | hd
          · rw [hd] at x3 x4 ⊢
            unfold kyD at x3 x4 ⊢
            simp only [if_true] at x3 x4 ⊢
            omega
          · rw [hd] at x3 x4 ⊢
            unfold kyD at x3 x4 ⊢
            simp only [Bool.false_eq_true, if_false] at x3 x4 ⊢
            omega
        refine ok_b1 (ok_seq (at_ + 1) (fun p s => s.2.2.2 = nI p ∧ s.1 = nI (lftS ky A p) ∧ (p = 0 → s.2.1 = spreadS S.2.1 S.1 ∧ s.2.2.1 = -1) ∧ (∀ q, p = q + 1 → s.2.2.1 = nI (slS ky (lftS ky A q)) ∧ rng s.2.1 0 1998 ∧ ∀ a' b', exT ky (lftS ky A p) a' b' → s.2.1.toInt = ky b' - ky (slS ky (lftS ky A q)))) ?_ ?_ (Q := fun x => x = nI (slS ky (lftS ky A at_))) ⟨rfl, rfl, fun _ => ⟨rfl, rfl⟩, fun q h => absurd h (by omega)⟩ (FU_lt (by omega))) ?_
        · rintro p ⟨x14, x15, x16, x17⟩ hp ⟨u1, u2, u3, u4⟩
          dsimp only at u1 u2 u3 u4
          subst u1 u2
          obtain ⟨g1, g2⟩ := hne p (by omega)
          have g3 := hlt p (by omega)
          have hs := slS_ok (ky := ky) g1 g2
          have hsc := hlow _ g3 _ hs.1 hs.2.1
          have hsb : ∀ k, k < S.1 → -999 ≤ clS S.2.1 k ∧ clS S.2.1 k ≤ 999 := fun k hk => (hB.1 k hk).1
          rw [un4_s, if_neg (nI_nlt (by omega) (by omega)), zlt_s]
          have eK : ∀ (a b : Nat), ds (clS S.2.1) a b = ds ky a b := fun a b => by rw [hky]; exact kyD_ds
          have ext' : ∀ a' b', exT ky (lftS ky A (p + 1)) a' b' → ∀ a'' b'', exT ky (lftS ky A p) a'' b'' → ky b' = ky b'' := fun a' b' h' a'' b'' h'' => (left_ext g1 g2 h'' h').1
          by_cases e0 : p = 0
          · subst e0
            obtain ⟨w1, w2⟩ := u3 rfl
            subst w1 w2
            have hpk := pick0 (due := spreadS S.2.1 S.1) (D := fun _ => 0) (M := μ2 (0, 45, 0)) h8 hAc lp2 hA0 (fun k hk ht => hcl A hAc hA0 k hk ht) (fun _ => rfl) hab hsp
            rw [bd_eq (m_pick (n := lftS ky A 0) (D := fun _ => 0) h8 g1 (fun k hk => by rw [if_pos rfl]; rfl)), show fsU (pkQ (lftS ky A 0) (fun _ => 0) (spreadS S.2.1 S.1) (μ2 (0, 45, 0))) S.1 0 = some (slS ky A) from by rw [hky]; exact hpk, if_pos rfl, bd_s, zlt_s, zlt_s]
            have hrm : nI (lftS ky A 0) &&& (((1 : Int32) <<< (onI (some (slS ky A)) &&& 31)) ^^^ (-1)) = nI (lftS ky A 1) := rmv_eq hA hs.1
            rw [hrm]
            refine ok_some ⟨_, rfl, nI_1 0, rfl, fun h => absurd h (by omega), fun q hq => ?_⟩
            have : q = 0 := by omega
            subst this
            dsimp only
            rw [Int32.sub_zero]
            refine ⟨rfl, ?_, fun a' b' h' => ?_⟩
            · have := hsb a (hlow A hAc a hab.1 hab.2.2.1)
              have := hsb b (hlow A hAc b hab.2.1 hab.2.2.2.1)
              have := hab.2.2.2.2 b hab.2.1 hab.2.2.2.1
              unfold rng
              rw [hsp]
              omega
            · have h1 := ext' a' b' h' ea eb hext
              have h2 : ky (slS ky A) = ky ea := by
                have hs' : isSl ky A (slS ky A) := hs
                have := hs'.2.2 ea hext.1 hext.2.2.1
                have := hext.2.2.2.2 _ hs'.1 hs'.2.1
                omega
              rw [hsp, ← hrange, h1]
              show _ = _ - ky (slS ky A)
              rw [h2]
          · obtain ⟨q, rfl⟩ : ∃ q, p = q + 1 := ⟨p - 1, by omega⟩
            obtain ⟨w1, w2, w3⟩ := u4 q rfl
            subst w1
            obtain ⟨l1, l2⟩ := hne q (by omega)
            have hl := slS_ok (ky := ky) l1 l2
            have hlc := hlow _ (hlt q (by omega)) _ hl.1 hl.2.1
            obtain ⟨last, hlast⟩ : ∃ last, last = slS ky (lftS ky A q) := ⟨_, rfl⟩
            rw [← hlast] at hl hlc w3 ⊢
            have hn1 : ¬ nI last = -1 := nI_ne1 (by omega)
            obtain ⟨xa, xb, hx⟩ := exT_ex (ky := ky) l1 l2
            obtain ⟨xa', xb', hx'⟩ := exT_ex (ky := ky) g1 g2
            have hle : ∀ j, j < 8 → (lftS ky A (q + 1)).testBit j = true → ky last ≤ ky j := by
              rw [hlast]
              exact (left_ext l1 l2 hx hx').2
            have hDr : ∀ k, k < S.1 → rng (f_X12_sign (nd S.2.1 last 0 - nd S.2.1 k 0)) 0 1998 ∧ (f_X12_sign (nd S.2.1 last 0 - nd S.2.1 k 0)).toInt = ds ky last k := fun k hk => ⟨apart_rng hB hlc hk, by rw [apart_ds hB hlc hk, eK]⟩
            have hpk := pick1 (v := S.2.1) (due := x15) (last := last) (D := fun k => f_X12_sign (nd S.2.1 last 0 - nd S.2.1 k 0)) (M := μ2 (0, 45, 0)) h8 g3 lp2 g2 (fun k hk ht => by rw [hky]; exact ky_gdP (by rw [← hky]; exact hcl _ g3 g2 k hk ht)) hDr hle w3
            rw [bd_eq (m_pick (n := lftS ky A (q + 1)) (D := fun k => f_X12_sign (nd S.2.1 last 0 - nd S.2.1 k 0)) h8 g1 (fun k hk => by rw [if_neg hn1, bd_eq (m_apart hv2 (by omega) (by omega))]; rfl)), hpk, if_neg hn1, show onI (some (slS ky (lftS ky A (q + 1)))) = nI (slS ky (lftS ky A (q + 1))) from rfl, bd_eq (m_apart hv2 (by omega) hs.1), bd_s, zlt_s, zlt_s]
            have hrm : nI (lftS ky A (q + 1)) &&& (((1 : Int32) <<< (nI (slS ky (lftS ky A (q + 1))) &&& 31)) ^^^ (-1)) = nI (lftS ky A (q + 1 + 1)) := rmv_eq g1 hs.1
            rw [hrm]
            obtain ⟨d1, d2⟩ := hDr _ hsc
            have hsl := hle _ hs.1 hs.2.1
            have dd := w3 xa' xb' hx'
            have sx := hx'.2.2.2.2 _ hs.1 hs.2.1
            have hsub := sub_toInt w2 d1 (by omega) (by omega)
            rw [d2] at hsub
            unfold ds at hsub
            refine ok_some ⟨_, rfl, nI_1 (q + 1), rfl, fun h => absurd h (by omega), fun q' hq' => ?_⟩
            have : q' = q + 1 := by omega
            subst this
            dsimp only
            refine ⟨rfl, ?_, fun a' b' h' => ?_⟩
            · have := w2.2
              unfold rng
              rw [hsub]
              omega
            · have h1 := ext' a' b' h' xa' xb' hx'
              rw [hsub]
              omega
        · rintro ⟨x14, x15, x16, x17⟩ ⟨u1, u2, u3, u4⟩
          dsimp only at u1 u2 u3 u4
          subst u1
          rw [un4_s, if_pos (nI_lt (by omega) (by omega))]
          exact ok_some ⟨_, rfl, (u4 at_ rfl).1⟩
        · rintro x rfl
          refine ok_some ⟨?_, fr_mono f2 (fun o i h => by cases h; exact Or.inr (Or.inr ⟨rfl, by decide⟩))⟩
          dsimp only
          unfold ordS
          rw [← hky]
      · rw [decide_eq_false (fun q => hr (ei.mp q)), if_pos b2i_f, if_neg hr]
        exact ok_some ⟨rfl, fr_refl⟩
end QC
