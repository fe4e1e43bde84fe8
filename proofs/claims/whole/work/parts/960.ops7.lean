/-! acts on both sides: image, back, end, fault -/
section OW
variable {y : ZLay} {μ : ZMem} {S S' : SV} {tp tp' : Vec} {tl tl' : Nat} {fa fa' : Int32} {kp kp' : Option SV} {ac ac' : List (Nat × Vec)}
/-- a void method -/
def OPv (y : ZLay) (F G : ZMem → Option ZMem) : Prop := ∀ μ, INV y μ → ok (F μ) (fun r => ok (G r) (fun q => INV y q))
/-- a loop that copies a vector -/
theorem cp_seq {oa ob : ZId} {n N : Nat} {μ : ZMem} (hab : oa ≠ ob) (hx : ¬ ob = (0, 38, 0) ∧ ¬ ob = (0, 32, 0)) (hn : n ≤ 1000) (hN : n ≤ N) (hN2 : N ≤ 1000) {F : Int32 × ZMem → Option ((Int32 × ZMem) ⊕ ZMem)}
    (hF : ∀ k μ1, k < n → F (nI k, μ1) = some (.inl (nI k + 1, mset μ1 ob k (μ1 oa k)))) (hE : ∀ μ1, F (nI n, μ1) = some (.inr μ1)) :
    ok (lp F FU (0, μ)) (fun μ' => fr (oP ob) μ μ' ∧ ∀ j, μ' ob j = if j < n then μ oa j else μ ob j) := by
  refine ok_seq n (fun k s => s.1 = nI k ∧ fr (oP ob) μ s.2 ∧ ∀ j, s.2 ob j = if j < k then μ oa j else μ ob j) ?_ ?_ ⟨rfl, fr_refl, fun j => by rw [if_neg (by omega)]⟩ (FU_lt (by omega))
  · rintro k ⟨i, μ3⟩ hk ⟨w1, w2, w3⟩
    dsimp only at w1 w2 w3
    subst w1
    rw [hF k μ3 hk, w2.1 oa k hab]
    refine ok_some ⟨_, rfl, nI_1 k, fr_trans w2 (fr_mset rfl ⟨fun h => hx.1 h.1, fun h => hx.2 h.1⟩), fun j => ?_⟩
    dsimp only
    by_cases e : j = k
    · subst e
      rw [mset_at, if_pos (by omega)]
    · rw [mset_k e, w3]
      by_cases hj : j < k
      · rw [if_pos hj, if_pos (by omega)]
      · rw [if_neg hj, if_neg (by omega)]
  · rintro ⟨i, μ3⟩ ⟨w1, w2, w3⟩
    dsimp only at w1 w2 w3
    subst w1
    rw [hE]
    exact ok_some ⟨_, rfl, w2, w3⟩
theorem OP_image : OPv y f_X11_image f_X12_image := by
  rintro μ ⟨S, tp, tl, fa, kp, ac, hc, hm, ho⟩
  obtain ⟨h1, h2, h3, h4, h5, nx, h6, h7, h8, h9⟩ := id hc
  have e1 : ok (f_X11_image μ) (fun μ' => RC y μ' S tp tl fa (some S) ac ∧ fr clO μ μ') := by
    unfold f_X11_image
    refine ok_b1 (c_copy (s0 := 2) (s1 := 0) (by omega) h1) ?_
    rintro μ1 ⟨w1, w2⟩
    rw [zlt_s]
    have f2 : fr (fun o i => o = (0, 0, 0) ∧ i = 6) μ1 (mset μ1 (0, 0, 0) 6 1) := fr_mset ⟨rfl, rfl⟩
    have n2 : ∀ s i, ¬ (fun (o : ZId) (i : Nat) => o = (0, 0, 0) ∧ i = 6) (1, s, 0) i ∧ ¬ (fun (o : ZId) (i : Nat) => o = (0, 0, 0) ∧ i = 6) (4, s, 0) i ∧ (∀ k, ¬ (fun (o : ZId) (i : Nat) => o = (0, 0, 0) ∧ i = 6) (3, s, k) i) ∧ (∀ n, ¬ (fun (o : ZId) (i : Nat) => o = (0, 0, 0) ∧ i = 6) (5, n, 0) i) ∧ ∀ n j, j < 4 → ¬ (fun (o : ZId) (i : Nat) => o = (0, 0, 0) ∧ i = 6) (6, n, j) i := fun s i => ⟨fun h => zne (by decide) h.1, fun h => zne (by decide) h.1, fun k h => zne (by decide) h.1, fun n h => zne (by decide) h.1, fun n j _ h => zne (by decide) h.1⟩
    have k0 : ∀ j i, (j = 0 → i ≠ 6) → (mset μ1 (0, 0, 0) 6 1) (0, j, 0) i = μ (0, j, 0) i := fun j i hj => by
      rw [f2.1 _ _ (by rintro ⟨h, h'⟩; exact hj (congrArg (fun q : ZId => q.2.1) h) h'), w2.1 _ _ st_0]
    have old : ∀ s K, s ≠ 2 → SS y μ s K → SS y (mset μ1 (0, 0, 0) 6 1) s K := fun s K hs hK => SS_fr (SS_fr hK w2 (fun i => st_ne (fun q => hs q.symm))) f2 (n2 s)
    refine ok_some ⟨⟨old 0 S (by omega) h1, fun i hi => by rw [k0 1 i (by omega)]; exact h2 i hi, by rw [k0 0 1 (by omega)]; exact h3, by rw [k0 0 2 (by omega)]; exact h4, ⟨mset_at, SS_fr w1 f2 (n2 2)⟩, nx, h6, by rw [k0 2 1 (by omega)]; exact h7, by rw [k0 2 2 (by omega)]; exact h8, fun i hi => old _ _ (by omega) (h9 i hi)⟩, fr_trans (fr_mono w2 (fun o i h => st_cl h)) (fr_mset (Or.inr (by decide)))⟩
  refine ok_mono e1 ?_
  rintro μ1 ⟨rc, fc⟩
  have r1 := RM_cl hm fc
  unfold f_X12_image
  rw [zlt_s]
  have hv : (mset μ1 (0, 32, 0) 0 0) MV0 = S.2.1 := (mset_ne (by decide)).trans r1.1
  refine ok_b1 (cp_seq (oa := MV0) (ob := (0, 34, 0)) (n := 737) (N := 737) (by decide) (by decide) (by omega) (by omega) (by omega) ?_ ?_) ?_
  · intro k μ3 hk
    rw [un2_s, if_neg (show ¬ (737 : Int32) ≤ nI k from nI_ge (b := 737) hk (by omega)), gd_eq (zin_nI (by omega) (by omega)), nI_cl (by omega), zlt_s]
  · intro μ3
    rw [un2_s, if_pos (by decide)]
  · rintro μ2 ⟨w1, w2⟩
    rw [zlt_s]
    obtain ⟨a1, a2, a3, a4, a5, a6, a7, a8⟩ := thr_RM (x := 0) r1
    have k0 : ∀ o i, o ≠ (0, 34, 0) → (o = MO0 → i ≠ 3) → (mset μ2 (0, 32, 0) 3 1) o i = (mset μ1 MO0 0 0) o i := fun o i ho hi => by
      rw [show (mset μ2 (0, 32, 0) 3 1) o i = μ2 o i from ?_, w1.1 o i ho]
      by_cases e : o = (0, 32, 0)
      · subst e; exact mset_k (hi rfl)
      · rw [mset_ne e]
    have fm : fr mdO (mset μ1 MO0 0 0) (mset μ2 (0, 32, 0) 3 1) := fr_trans (fr_mono w1 (fun o i h => by cases h; exact ⟨rfl, by decide⟩)) (fr_mset ⟨rfl, by decide⟩)
    refine ok_some ⟨S, tp, tl, fa, some S, ac, RC_md rc (fr_trans (ms_fr thr_fr) fm), ⟨funext fun i => (k0 _ i (by decide) (fun h => absurd h (by decide))).trans (congrFun a1 i), fun i hi => (k0 _ i (by decide) (fun h => absurd h (by decide))).trans (a2 i hi), (k0 _ _ (by decide) (fun _ => by decide)).trans a3, (k0 _ _ (by decide) (fun _ => by decide)).trans a4, ⟨mset_at, fun j hj => ?_⟩, (k0 _ _ (by decide) (fun _ => by decide)).trans a6, fun i hi j hj => (k0 _ _ (by decide) (fun h => absurd h (by decide))).trans (a7 i hi j hj), ?_⟩, ⟨ho.1, ho.2.1, ho.2.2.1, fun K hK => by cases hK; exact ho.1, ho.2.2.2.2⟩⟩
    · rw [mset_ne (by decide), w2, if_pos hj, hv]
    · unfold RM0
      rw [k0 _ _ (by decide) (fun h => absurd h (by decide)), k0 _ _ (by decide) (fun _ => by decide)]
      exact a8
theorem OP_back : OPn y f_X11_back f_X12_back := by
  rintro μ ⟨S, tp, tl, fa, kp, ac, hc, hm, ho⟩
  cases kp with
  | none =>
    refine op_n (A := 0) (S' := S) (tp' := tp) (tl' := tl) (fa' := fa) (kp' := none) (ac' := ac) hm ?_ ?_ ho
    · unfold f_X11_back
      rw [if_pos (show μ (0, 0, 0) 6 = 0 from hc.2.2.2.2.1)]
      exact ok_some ⟨rfl, hc, fr_refl⟩
    · intro μ1 r1
      unfold f_X12_back
      rw [zlt_s, mset_k (by decide), if_pos (show μ1 (0, 32, 0) 3 = 0 from r1.2.2.2.2.1)]
      exact ok_some ⟨rfl, thr_RM r1, ms_fr thr_fr⟩
  | some K =>
    obtain ⟨o1, o2, o3, o4, o5, o6⟩ := ho
    have oK := o4 K rfl
    refine op_n (A := 1) (S' := K) (tp' := tp) (tl' := tl) (fa' := fa) (kp' := some K) (ac' := []) hm ?_ ?_ ⟨oK, o2, o3, o4, by simp, fun i hi => absurd hi (by simp)⟩
    · obtain ⟨h1, h2, h3, h4, h5, nx, h6, h7, h8, h9⟩ := id hc
      unfold f_X11_back f_X6_forget
      rw [if_neg (show ¬ μ (0, 0, 0) 6 = 0 by rw [h5.1]; decide)]
      refine ok_b1 (c_copy (s0 := 0) (s1 := 2) (by omega) h5.2) ?_
      rintro μ1 ⟨w1, w2⟩
      rw [zlt_s, bd_s]
      have f2 : fr (fun o i => o = (0, 2, 0) ∧ i = 2) μ1 (mset μ1 (0, 2, 0) 2 0) := fr_mset ⟨rfl, rfl⟩
      have n2 : ∀ s i, ¬ (fun (o : ZId) (i : Nat) => o = (0, 2, 0) ∧ i = 2) (1, s, 0) i ∧ ¬ (fun (o : ZId) (i : Nat) => o = (0, 2, 0) ∧ i = 2) (4, s, 0) i ∧ (∀ k, ¬ (fun (o : ZId) (i : Nat) => o = (0, 2, 0) ∧ i = 2) (3, s, k) i) ∧ (∀ n, ¬ (fun (o : ZId) (i : Nat) => o = (0, 2, 0) ∧ i = 2) (5, n, 0) i) ∧ ∀ n j, j < 4 → ¬ (fun (o : ZId) (i : Nat) => o = (0, 2, 0) ∧ i = 2) (6, n, j) i := fun s i => ⟨fun h => zne (by decide) h.1, fun h => zne (by decide) h.1, fun k h => zne (by decide) h.1, fun n h => zne (by decide) h.1, fun n j _ h => zne (by decide) h.1⟩
      have k0 : ∀ j i, (j = 2 → i ≠ 2) → (mset μ1 (0, 2, 0) 2 0) (0, j, 0) i = μ (0, j, 0) i := fun j i hj => by
        rw [f2.1 _ _ (by rintro ⟨h, h'⟩; exact hj (congrArg (fun q : ZId => q.2.1) h) h'), w2.1 _ _ st_0]
      refine ok_some ?_
      dsimp only
      refine ⟨rfl, ⟨SS_fr w1 f2 (n2 0), fun i hi => by rw [k0 1 i (by omega)]; exact h2 i hi, by rw [k0 0 1 (by omega)]; exact h3, by rw [k0 0 2 (by omega)]; exact h4, ⟨by rw [k0 0 6 (by omega)]; exact h5.1, SS_fr (SS_fr h5.2 w2 (fun i => st_ne (by omega))) f2 (n2 2)⟩, nx, h6, by rw [k0 2 1 (by omega)]; exact h7, mset_at, fun i hi => absurd hi (by simp)⟩, fr_trans (fr_mono w2 (fun o i h => st_cl h)) (fr_mset (Or.inr (by decide)))⟩
    · intro μ1 r1
      unfold f_X12_back
      rw [zlt_s, mset_k (by decide), if_neg (show ¬ μ1 (0, 32, 0) 3 = 0 by rw [show μ1 (0, 32, 0) 3 = 1 from r1.2.2.2.2.1.1]; decide)]
      refine ok_b1 (cp_seq (oa := (0, 34, 0)) (ob := MV0) (n := 737) (N := 737) (by decide) (by decide) (by omega) (by omega) (by omega) ?_ ?_) ?_
      · intro k μ3 hk
        rw [un2_s, if_neg (show ¬ (737 : Int32) ≤ nI k from nI_ge (b := 737) hk (by omega)), gd_eq (zin_nI (by omega) (by omega)), nI_cl (by omega), zlt_s]
      · intro μ3
        rw [un2_s, if_pos (by decide)]
      · rintro μ2 ⟨w1, w2⟩
        rw [zlt_s]
        have hv : μ2 MV0 = K.2.1 := by
          funext j
          rw [w2]
          by_cases hj : j < 737
          · rw [if_pos hj, mset_ne (by decide)]; exact r1.2.2.2.2.1.2 j hj
          · rw [if_neg hj, mset_ne (by decide), show μ1 MV0 = S.2.1 from r1.1, o1.2.2.2.2 j (by omega), oK.2.2.2.2 j (by omega)]
        have r2 := RM_setv (thr_RM (x := 0) r1) w1 (fun o i h => h) hv
        have f3 : fr remP μ2 (mset μ2 (0, 32, 0) 6 0) := fr_mset (Or.inr ⟨rfl, rfl⟩)
        have r3 : RMo (mset μ2 (0, 32, 0) 6 0) (S.1, K.2.1, S.2.2) tp tl fa (some K) [] := RMo_acts r2 f3 mset_at (fun i hi => absurd hi (by simp))
        exact ok_some ⟨rfl, r3, fr_trans (ms_fr thr_fr) (fr_trans (fr_mono w1 (fun o i h => by cases h; exact ⟨rfl, by decide⟩)) (fr_mono f3 (fun o i h => rem_md h)))⟩
theorem OP_end {a1 : Int32} : OPn y (f_X11_end a1) (f_X12_end a1) := by
  rintro μ ⟨S, tp, tl, fa, kp, ac, hc, hm, ho⟩
  have h4 : tl ≤ 400 := ho.2.1
  by_cases ha : 0 ≤ a1 ∧ a1 ≤ nI tl
  · obtain ⟨n, hn, rfl⟩ := in_k ha.1 ha.2 (by omega)
    refine op_n (A := 1) (S' := S) (tp' := tp) (tl' := n) (fa' := fa) (kp' := kp) (ac' := ac) hm ?_ ?_ ⟨ho.1, by omega, fun k hk => ho.2.2.1 k (by omega), ho.2.2.2⟩
    · obtain ⟨h1, h2, h3, h4, h5, nx, h6, h7, h8, h9⟩ := id hc
      unfold f_X11_end
      rw [jk_s, if_neg (nI_pos (by omega)), h3, if_pos ha.2, zlt_s]
      have f2 : fr (fun o i => o = (0, 0, 0) ∧ i = 1) μ (mset μ (0, 0, 0) 1 (nI n)) := fr_mset ⟨rfl, rfl⟩
      have n2 : ∀ s i, ¬ (fun (o : ZId) (i : Nat) => o = (0, 0, 0) ∧ i = 1) (1, s, 0) i ∧ ¬ (fun (o : ZId) (i : Nat) => o = (0, 0, 0) ∧ i = 1) (4, s, 0) i ∧ (∀ k, ¬ (fun (o : ZId) (i : Nat) => o = (0, 0, 0) ∧ i = 1) (3, s, k) i) ∧ (∀ n, ¬ (fun (o : ZId) (i : Nat) => o = (0, 0, 0) ∧ i = 1) (5, n, 0) i) ∧ ∀ n j, j < 4 → ¬ (fun (o : ZId) (i : Nat) => o = (0, 0, 0) ∧ i = 1) (6, n, j) i := fun s i => ⟨fun h => zne (by decide) h.1, fun h => zne (by decide) h.1, fun k h => zne (by decide) h.1, fun n h => zne (by decide) h.1, fun n j _ h => zne (by decide) h.1⟩
      have k0 : ∀ j i, (j = 0 → i ≠ 1) → (mset μ (0, 0, 0) 1 (nI n)) (0, j, 0) i = μ (0, j, 0) i := fun j i hj =>
        f2.1 _ _ (by rintro ⟨h, h'⟩; exact hj (congrArg (fun q : ZId => q.2.1) h) h')
      refine ok_some ?_
      dsimp only
      refine ⟨rfl, ⟨SS_fr h1 f2 (n2 0), fun i hi => by rw [k0 1 i (by omega)]; exact h2 i (by omega), mset_at, by rw [k0 0 2 (by omega)]; exact h4, ?_, nx, h6, by rw [k0 2 1 (by omega)]; exact h7, by rw [k0 2 2 (by omega)]; exact h8, fun i hi => SS_fr (h9 i hi) f2 (n2 _)⟩, fr_mset (Or.inr (by decide))⟩
      cases kp with
      | none => exact (k0 0 6 (by omega)).trans h5
      | some K => exact ⟨(k0 0 6 (by omega)).trans h5.1, SS_fr h5.2 f2 (n2 2)⟩
    · intro μ1 r1
      unfold f_X12_end
      rw [zlt_s, mset_k (by decide), show μ1 (0, 32, 0) 8 = nI tl from r1.2.2.1, bd_eq m_isIn, decide_eq_true ha, if_neg b2i_t, zlt_s]
      obtain ⟨a1, a2, a3, a4, a5, a6, a7, a8⟩ := thr_RM (x := 0) r1
      have k0 : ∀ o i, (o = MO0 → i ≠ 8) → (mset (mset μ1 (0, 32, 0) 0 0) (0, 32, 0) 8 (nI n)) o i = (mset μ1 MO0 0 0) o i := fun o i hi => by
        by_cases e : o = (0, 32, 0)
        · subst e; exact mset_k (hi rfl)
        · rw [mset_ne e]
      refine ok_some ⟨rfl, ⟨funext fun i => (k0 _ i (fun h => absurd h (by decide))).trans (congrFun a1 i), fun i hi => (k0 _ i (fun h => absurd h (by decide))).trans (a2 i (by omega)), (show (mset (mset μ1 (0, 32, 0) 0 0) (0, 32, 0) 8 (nI n)) MO0 8 = nI n from mset_at), (k0 _ _ (fun _ => by decide)).trans a4, ?_, (k0 _ _ (fun _ => by decide)).trans a6, fun i hi j hj => (k0 _ _ (fun h => absurd h (by decide))).trans (a7 i hi j hj), ?_⟩, fr_trans (ms_fr thr_fr) (fr_mset ⟨rfl, by decide⟩)⟩
      · cases kp with
        | none => exact (k0 _ _ (fun _ => by decide)).trans a5
        | some K => exact ⟨(k0 _ _ (fun _ => by decide)).trans a5.1, fun j hj => (k0 _ _ (fun h => absurd h (by decide))).trans (a5.2 j hj)⟩
      · unfold RM0
        dsimp only
        rw [k0 _ _ (fun h => absurd h (by decide)), k0 _ _ (fun _ => by decide)]
        exact a8
  · refine op_n (A := 0) (S' := S) (tp' := tp) (tl' := tl) (fa' := fa) (kp' := kp) (ac' := ac) hm ?_ ?_ ho
    · unfold f_X11_end
      rw [jk_s]
      refine ok_eq (a := (0, μ)) ?_ ⟨rfl, hc, fr_refl⟩
      by_cases h1 : a1 < 0
      · rw [if_pos h1]
      · rw [if_neg h1, hc.2.2.1, if_neg (fun h2 => ha ⟨Int32.not_lt.mp h1, h2⟩)]
    · intro μ1 r1
      unfold f_X12_end
      rw [zlt_s, mset_k (by decide), show μ1 (0, 32, 0) 8 = nI tl from r1.2.2.1, bd_eq m_isIn, decide_eq_false ha, if_pos b2i_f]
      exact ok_some ⟨rfl, thr_RM r1, ms_fr thr_fr⟩
theorem OP_fault : OPr y (fun μ => some (f_X11_fault μ)) f_X12_fault := by
  rintro μ ⟨S, tp, tl, fa, kp, ac, hc, hm, ho⟩
  refine op_r (F := fun μ => some (f_X11_fault μ)) (A := fa) hc ho (congrArg some hc.2.2.2.1) ?_
  unfold f_X12_fault
  rw [zlt_s, mset_k (by decide), show μ (0, 32, 0) 12 = fa from hm.2.2.2.1]
  exact ok_some ⟨rfl, thr_RM hm, ms_fr thr_fr⟩
end OW
