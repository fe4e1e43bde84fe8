/-! acts on both sides: cluster -/
section PJ
variable {y : ZLay} {μ : ZMem} {S S' : SV} {tp tp' : Vec} {tl tl' : Nat} {fa fa' : Int32} {kp kp' : Option SV} {ac ac' : List (Nat × Vec)}
theorem sCl_fault {T : Vec} {e c : Nat} {v : Vec} (he : e ≤ 400) (hv : okC c v) {f : Nat} (h : sCl T e c v = .inl f) : f ≤ 400 := by
  have := (sCl_g he hv).1 f h
  omega
theorem lt12 {v : Int32} (h : rng v 0 12) : (v < 12 ↔ ¬ v = 12) := by
  have e12 : (12 : Int32).toInt = 12 := by decide
  rw [Int32.lt_iff_toInt_lt, e12]
  constructor
  · intro h1 h2
    rw [h2, e12] at h1
    omega
  · intro h1
    have : ¬ v.toInt = 12 := fun q => h1 (Int32.toInt_inj.mp (q.trans e12.symm))
    have := h.2
    omega
/-- what cluster makes of the state: the fault, or the new state, or too many -/
def clR (T : Vec) (e : Nat) (S : SV) : Nat ⊕ (Nat × Vec) := sCl T e S.1 S.2.1
def clN (S : SV) (c' : Nat) (v' : Vec) : SV := (c', vset v' 0 (S.2.1 0 + 1), S.2.2)
theorem okC_0 {c : Nat} {v : Vec} {x : Int32} (h : okC c v) : okC c (vset v 0 x) := by
  obtain ⟨⟨w1, w2, w3⟩, b1, b4, b5, b6⟩ := h
  have hn : ∀ k w, nd (vset v 0 x) k w = nd v k w := fun k w => by unfold nd; rw [vset_ne (by omega)]
  refine ⟨⟨w1, by rw [vset_ne (by omega)]; exact w2, fun k hk => by rw [hn]; exact w3 k hk⟩, fun k hk => ?_, ?_, ?_, ?_⟩
  · unfold BN
    rw [hn, hn, hn, hn, hn, hn, hn]
    exact b1 k hk
  · rw [vset_ne (by omega)]; exact b4
  · rw [vset_ne (by omega)]; exact b5
  · rw [vset_ne (by omega)]; exact b6
theorem OS_cl (ho : OS S) {c' : Nat} {v' : Vec} (h1 : okC c' v') (hs : sameC v' S.2.1) (h12 : S.2.1 0 < 12) : OS (clN S c' v') := by
  obtain ⟨o1, o2, o3, o4, o5⟩ := ho
  have hT : sameT (vset v' 0 (S.2.1 0 + 1)) S.2.1 := fun i hi => by rw [vset_ne (by omega)]; exact hs i (by omega)
  refine ⟨okC_0 h1, o2, LawM_T o3 hT, ?_, fun j hj => ?_⟩
  · show rng (vset v' 0 (S.2.1 0 + 1) 0) 0 12
    rw [vset_at]
    have e12 : (12 : Int32).toInt = 12 := by decide
    have e1 : (1 : Int32).toInt = 1 := by decide
    rw [Int32.lt_iff_toInt_lt, e12] at h12
    have r1 : rng (S.2.1 0) 0 11 := ⟨o4.1, by omega⟩
    have := rng_add r1 (show rng (1 : Int32) 1 1 from ⟨by omega, by omega⟩) (by omega) (by omega)
    exact rng_mono this (by omega) (by omega)
  · show vset v' 0 (S.2.1 0 + 1) j = 0
    rw [vset_ne (by omega), hs j (by omega)]
    exact o5 j hj
/-- the class reads a cluster into the draft -/
theorem c_reads {α : Type} {K : ZMem → Option α} {Q : α → Prop} (hc : RC y μ S tp tl fa kp ac) (ho : OA S tp tl kp ac)
    (hK : ∀ μ9, (RC y μ9 S tp 0 fa kp ac ∧ fr clO μ μ9 ∧ μ9 (1, 1, 0) 9 = S.2.1 0 ∧ (∀ f, clR tp tl S = .inl f → μ9 (0, 20, 0) 0 = nI f) ∧ ∀ c' v', clR tp tl S = .inr (c', v') → μ9 (0, 20, 0) 0 = -1 ∧ SS y μ9 1 (c', v', S.2.2)) → ok (K μ9) Q) :
    ok (bd2 (f_X11_useTape μ) (fun (x2 : Int32) (μ3 : ZMem) => bd (f_X8_load y (0, 1, 0) x2 μ3) (fun (μ5 : ZMem) => bd (f_X7_copyFrom 1 0 μ5) (fun (μ7 : ZMem) => bd (f_X0_readInto 1 μ7) K)))) Q := by
  obtain ⟨μ0, e0, r0, f0, t0⟩ := c_use hc
  rw [bd2_eq e0]
  refine ok_b1 (c_load (y := y) (o := (0, 1, 0)) (T := tp) (e := tl) rfl ho.2.1 (fun i => ?_) t0 ho.2.2.1) ?_
  · rintro (⟨h, -⟩ | h | h) <;> exact absurd h (by decide)
  · rintro μ1 ⟨f1, g1, g2, N, tk⟩
    have r1 := RC_sc r0 (fr_mono f1 (fun o i h => tk_sc h))
    refine ok_b1 (c_copy (s0 := 1) (s1 := 0) (by omega) r1.1) ?_
    rintro μ2 ⟨s2, f2⟩
    have r2 := RC_sc r1 (fr_mono f2 (fun o i h => st1_sc h))
    have cp1 : CP μ1 tp tl N (nxt tp tl 0) := ⟨tk, g1, 0, by have := tk.2.1; omega, g2, rfl⟩
    have cp2 : CP μ2 tp tl N (nxt tp tl 0) := CP_eq cp1 (fr_at f2 (fun i => st_0 (j := 20))) (fr_at f2 (fun i => st_0 (j := 21))) (fr_at f2 (fun i => st_0 (j := 22)))
    refine ok_b1 (c_readInto ho.2.1 ho.1.1 cp2 s2.1) ?_
    rintro μ3 ⟨f3, p1, p2⟩
    have r3 := RC_sc r2 (fr_mono f3 (fun o i h => cr_sc h))
    have n1 : ∀ i, (i = 9 ∨ i = 10) → μ3 (1, 1, 0) i = μ2 (1, 1, 0) i := fun i hi => f3.1 _ _ (by
      rintro (⟨h, -⟩ | ⟨k, h⟩ | ⟨-, h⟩)
      · exact absurd h (by decide)
      · exact zne (by decide) h
      · omega)
    refine hK μ3 ⟨r3, fr_trans f0 (fr_trans (fr_mono f1 (fun o i h => sc_cl (tk_sc h))) (fr_trans (fr_mono f2 (fun o i h => sc_cl (st1_sc h))) (fr_mono f3 (fun o i h => sc_cl (cr_sc h))))), ?_, fun f hf => ?_, fun c' v' h => ?_⟩
    · rw [n1 9 (Or.inl rfl)]; exact s2.2.1
    · exact (p1 f hf).2.2.1
    · obtain ⟨⟨q, cq⟩, cs⟩ := p2 c' v' h
      have hs := (sCl_g ho.2.1 ho.1.1).2 c' v' h
      have el : lno μ3 1 = lno μ2 1 := by unfold lno; rw [n1 10 (Or.inr rfl)]
      have n5 : ∀ n, μ3 (5, n, 0) = μ2 (5, n, 0) := fun n => fr_at f3 (by
        rintro i (⟨h, -⟩ | ⟨k, h⟩ | ⟨h, -⟩) <;> exact zne (by decide) h)
      have n6 : ∀ n j, μ3 (6, n, j) = μ2 (6, n, j) := fun n j => fr_at f3 (by
        rintro i (⟨h, -⟩ | ⟨k, h⟩ | ⟨h, -⟩) <;> exact zne (by decide) h)
      refine ⟨cq.2.1, cs, ?_, ?_, ?_⟩
      · rw [n1 9 (Or.inl rfl)]; exact s2.2.1.trans (hs.2 0 (by omega)).symm
      · rw [el]; exact LawC_eq s2.2.2.1 (fun j _ => n6 _ j) (n5 _)
      · rw [el, n5]; exact s2.2.2.2.trans (hs.2 1 (by omega)).symm
theorem m_readc {α : Type} {K : Int32 → ZMem → Option α} {Q : α → Prop} {μ1 : ZMem} (r1 : RMo μ1 S tp tl fa kp ac) (ho : OA S tp tl kp ac)
    (hK : ∀ (x : Int32) (μ7 : ZMem), (fr bgP μ1 μ7 ∧ μ7 MO0 8 = nI 0 ∧ μ7 MO0 6 = nI ac.length ∧ (∀ j, j < 337 → μ7 (0, 35, 0) j = S.2.1 j) ∧ (∀ j, 337 ≤ j → μ7 MV0 j = S.2.1 j) ∧ (∀ f, clR tp tl S = .inl f → μ7 MO0 12 = nI f) ∧ ∀ c' v', clR tp tl S = .inr (c', v') → μ7 MO0 12 = -1 ∧ μ7 MV0 = v') → ok (K x μ7) Q) : ok (bd (f_X12_putsAside μ1) (fun (μ2 : ZMem) => bd (f_X12_begins μ2) (fun (μ4 : ZMem) => bd2 (f_X12_reads 0 μ4) K))) Q := by
  refine ok_b1 (m_aside r1.1) ?_
  intro μ2 w
  obtain ⟨w1, w2, w3⟩ := w 0
  unfold f_X12_begins
  have n2 : ∀ o i, ¬ drP o i → μ2 o i = μ1 o i := w3.1
  have e8 : μ2 (0, 32, 0) 8 = nI tl := (n2 _ _ (by unfold drP rP askP; simp)).trans r1.2.2.1
  rw [zlt_s, zlt_s, mset_k (by decide), mset_k (by decide), e8, zlt_s, zlt_s, zlt_s, zlt_s, bd_s]
  obtain ⟨μ3, hμ3⟩ : ∃ μ3, μ3 = mset (mset (mset (mset (mset (mset μ2 (0, 32, 0) 12 (-1)) (0, 32, 0) 9 (-1)) (0, 32, 0) 10 (nI tl)) (0, 32, 0) 8 0) (0, 32, 0) 11 0) (0, 32, 0) 13 0 := ⟨_, rfl⟩
  rw [← hμ3]
  have f3 : fr (fun o i => o = MO0 ∧ (i = 8 ∨ i = 9 ∨ i = 10 ∨ i = 11 ∨ i = 12 ∨ i = 13)) μ2 μ3 := by
    rw [hμ3]
    exact fr_trans (fr_mset ⟨rfl, by omega⟩) (fr_trans (fr_mset ⟨rfl, by omega⟩) (fr_trans (fr_mset ⟨rfl, by omega⟩) (fr_trans (fr_mset ⟨rfl, by omega⟩) (fr_trans (fr_mset ⟨rfl, by omega⟩) (fr_mset ⟨rfl, by omega⟩)))))
  have v12 : μ3 MO0 12 = -1 := by rw [hμ3]; simp [mset]
  have v9 : μ3 MO0 9 = -1 := by rw [hμ3]; simp [mset]
  have v10 : μ3 MO0 10 = nI tl := by rw [hμ3]; simp [mset]
  have v8 : μ3 MO0 8 = 0 := by rw [hμ3]; simp [mset]
  have v11 : μ3 MO0 11 = 0 := by rw [hμ3]; simp [mset]
  have v13 : μ3 MO0 13 = 0 := by rw [hμ3]; simp [mset]
  have n3 : ∀ o i, o ≠ MO0 → μ3 o i = μ2 o i := fun o i h => f3.1 o i (fun q => h q.1)
  have hv3 : μ3 MV0 = S.2.1 := (funext fun i => n3 _ i (by decide)).trans w1
  refine ok_bd2 (ok_mono (m_reads0 (T := tp) (e := tl) (c := S.1) (v := S.2.1) ho.2.2.1 ⟨ho.2.1, v10, Or.inl ⟨v9, fun k hk => ?_⟩⟩ v9 v12 v11 v13 hv3 ho.1.1) ?_)
  · rw [n3 _ _ (by decide), n2 _ _ (by unfold drP rP askP; simp)]
    exact r1.2.1 k hk
  · rintro q ⟨p1, p2, p3⟩
    refine hK q.1 q.2 ⟨fr_trans (fr_mono w3 ?_) (fr_trans (fr_mono f3 ?_) (fr_mono p1 ?_)), ?_, ?_, fun j hj => ?_, fun j hj => ?_, p2, p3⟩
    · intro o i h
      rcases drP_ms h with h | ⟨h, h'⟩ | h | h
      · exact Or.inl h
      · exact Or.inr (Or.inr (Or.inl ⟨h, by omega⟩))
      · exact Or.inr (Or.inl h)
      · exact Or.inr (Or.inr (Or.inr h))
    · rintro o i ⟨rfl, h⟩
      exact Or.inr (Or.inr (Or.inl ⟨rfl, by omega⟩))
    · rintro o i (⟨rfl, h⟩ | ⟨rfl, -⟩)
      · exact Or.inr (Or.inr (Or.inl ⟨rfl, by omega⟩))
      · exact Or.inl rfl
    · rw [p1.1 _ _ (by rintro (⟨-, h⟩ | ⟨h, -⟩); omega; exact absurd h (by decide))]
      exact v8
    · rw [p1.1 _ _ (by rintro (⟨-, h⟩ | ⟨h, -⟩); omega; exact absurd h (by decide)), f3.1 _ _ (by rintro ⟨-, h⟩; omega), n2 _ _ (by unfold drP rP askP; simp)]
      exact r1.2.2.2.2.2.1
    · rw [p1.1 _ _ (by rintro (⟨h, -⟩ | ⟨h, -⟩) <;> exact absurd h (by decide)), n3 _ _ (by decide)]
      exact w2 j hj
    · rw [p1.1 _ _ (by rintro (⟨h, -⟩ | ⟨-, h⟩); exact absurd h (by decide); omega), hv3]
theorem OP_cluster : OPx y cmA (f_X11_cluster y) f_X12_cluster := by
  rintro μ ⟨S, tp, tl, fa, kp, ac, hc, hm, ho⟩
  cases hR : clR tp tl S with
  | inl f =>
    have hf := sCl_fault ho.2.1 ho.1.1 hR
    refine op_x (A := .inr 1) (S' := S) (tp' := tp) (tl' := 0) (fa' := nI f) (kp' := kp) (ac' := ac) hm ?_ ?_ (OA_use ho)
    · unfold f_X11_cluster
      refine c_reads hc ho ?_
      rintro μ9 ⟨a1, a2, a3, a4, a5⟩
      rw [zlt_s, mset_at, a4 f hR, if_neg (nI_ne1 (by omega))]
      exact ok_some ⟨rfl, RC_fault a1, fr_trans a2 (fr_mset (Or.inr (by decide)))⟩
    · intro μ1 r1
      unfold f_X12_cluster
      refine m_readc r1 ho ?_
      rintro x μ7 ⟨b1, b2, b3, b4, b5, b6, b7⟩
      skip
      rw [show μ7 (0, 32, 0) 12 = nI f from b6 f hR, if_neg (nI_ne1 (by omega)), zlt_s, zlt_s, thr_0, if_neg (by decide)]
      refine ok_b1 (m_comes0 (S := S) (fun j hj => by rw [mset_ne (by decide)]; exact b5 j hj) (fun j hj => by rw [mset_ne (by decide)]; exact b4 j hj)) ?_
      rintro μ8 ⟨p1, p2⟩
      have n8 : ∀ i, i ≠ 0 → μ8 MO0 i = μ7 MO0 i := fun i hi => by rw [p2.1 _ _ (show ¬ MO0 = MV0 by decide)]; exact mset_k hi
      have ff : fr bgP μ1 μ8 := fr_trans b1 (fr_trans (fr_mset (Or.inr (Or.inr (Or.inl ⟨rfl, by decide⟩)))) (fr_mono p2 (fun o i h => Or.inl h)))
      refine ok_some ⟨⟨?_, by decide⟩, RM_big r1 ff p1 ((n8 8 (by decide)).trans b2) ((n8 12 (by decide)).trans (b6 f hR)) ((n8 6 (by decide)).trans b3) (Or.inl rfl), fr_mono ff (fun o i h => bg_md h)⟩
      dsimp only
      rw [p2.1 _ _ (show ¬ MO0 = MV0 by decide)]
      exact mset_at
  | inr q =>
    obtain ⟨c', v'⟩ := q
    obtain ⟨g1, g2⟩ := (sCl_g ho.2.1 ho.1.1).2 c' v' hR
    have o12 := lt12 ho.1.2.2.2.1
    by_cases h12 : S.2.1 0 < 12
    · refine op_x (A := .inl (S.2.1 0 + 1)) (S' := clN S c' v') (tp' := tp) (tl' := 0) (fa' := -1) (kp' := kp) (ac' := []) hm ?_ ?_ ⟨OS_cl ho.1 g1 g2 h12, by omega, fun k hk => absurd hk (by omega), ho.2.2.2.1, by simp, fun i hi => absurd hi (by simp)⟩
      · unfold f_X11_cluster
        refine c_reads hc ho ?_
        rintro μ9 ⟨a1, a2, a3, a4, a5⟩
        obtain ⟨a6, a7⟩ := a5 c' v' hR
        rw [zlt_s, mset_at, a6, if_pos rfl, mset_ne (by decide), show μ9 (1, 0, 0) 9 = S.2.1 0 from a1.1.2.1, if_pos h12]
        refine ok_b1 (c_copy (s0 := 0) (s1 := 1) (by omega) (SS_ctl (μ := μ9) (j := 0) a7)) ?_
        rintro μ1 ⟨s1, f1⟩
        unfold f_X6_forget
        have v9 : μ1 (1, 0, 0) 9 = S.2.1 0 := s1.2.1.trans (g2 0 (by omega))
        rw [zlt_s, v9, zlt_s, bd_s]
        have f2 : fr newP μ1 (mset (mset μ1 (1, 0, 0) 9 (S.2.1 0 + 1)) (0, 2, 0) 2 0) := fr_trans (fr_mset (Or.inl (Or.inl rfl))) (fr_mset (Or.inr ⟨rfl, rfl⟩))
        have s2 : SS y (mset (mset μ1 (1, 0, 0) 9 (S.2.1 0 + 1)) (0, 2, 0) 2 0) 0 (clN S c' v') := by
          refine SS_ctl (μ := mset μ1 (1, 0, 0) 9 (S.2.1 0 + 1)) ?_
          obtain ⟨q1, q2, q3, q4⟩ := s1
          have el : lno (mset μ1 (1, 0, 0) 9 (S.2.1 0 + 1)) 0 = lno μ1 0 := by unfold lno; rw [mset_k (by decide)]
          refine ⟨CS_v0 q1, ?_, ?_, ?_⟩
          · show _ = vset v' 0 (S.2.1 0 + 1) 0
            rw [mset_at, vset_at]
          · rw [el]; exact LawC_eq q3 (fun j _ => mset_ne (zne (by decide))) (mset_ne (zne (by decide)))
          · show _ = vset v' 0 (S.2.1 0 + 1) 1
            rw [el, mset_ne (zne (by decide)), vset_ne (by omega)]; exact q4
        refine ok_some ⟨?_, RC_new (RC_fault a1) (fr_trans (fr_mono f1 (fun o i h => Or.inl h)) f2) s2 (show (mset (mset μ1 (1, 0, 0) 9 (S.2.1 0 + 1)) (0, 2, 0) 2 0) (0, 2, 0) 2 = 0 from mset_at), fr_trans a2 (fr_trans (fr_mset (Or.inr (by decide))) (fr_trans (fr_mono f1 (fun o i h => st_cl h)) (fr_mono f2 (fun o i h => new_cl h))))⟩
        dsimp only
        rw [mset_ne (by decide), mset_at]
      · intro μ1 r1
        unfold f_X12_cluster
        refine m_readc r1 ho ?_
        rintro x μ7 ⟨b1, b2, b3, b4, b5, b6, b7⟩
        skip
        obtain ⟨b8, b9⟩ := b7 c' v' hR
        have e0 : μ7 (0, 33, 0) 0 = S.2.1 0 := (congrFun b9 0).trans (g2 0 (by omega))
        rw [show μ7 (0, 32, 0) 12 = -1 from b8, if_pos rfl, e0, if_neg (o12.mp h12), zlt_s, zlt_s, thr_0, if_pos (by decide), zlt_s, zlt_s, mset_ne (show ((0, 33, 0) : ZId) ≠ (0, 32, 0) by decide), mset_ne (show ((0, 33, 0) : ZId) ≠ (0, 32, 0) by decide), e0]
        obtain ⟨μ8, hμ8⟩ : ∃ μ8, μ8 = mset (mset (mset μ7 (0, 32, 0) 0 0) (0, 33, 0) 0 (S.2.1 0 + 1)) (0, 32, 0) 6 0 := ⟨_, rfl⟩
        rw [← hμ8]
        have hv8 : μ8 MV0 = vset v' 0 (S.2.1 0 + 1) := by
          rw [hμ8, mset_ne (by decide), mset_eq, mput_at, mset_ne (by decide)]
          exact congrArg (fun f => vset f 0 (S.2.1 0 + 1)) b9
        have n8 : ∀ i, i ≠ 0 → i ≠ 6 → μ8 MO0 i = μ7 MO0 i := fun i hi h6 => by
          rw [hμ8, show (mset (mset (mset μ7 (0, 32, 0) 0 0) (0, 33, 0) 0 (S.2.1 0 + 1)) (0, 32, 0) 6 0) MO0 i = _ from mset_k h6, mset_ne (by decide)]
          exact mset_k hi
        have z8 : μ8 MO0 0 = 0 := by
          rw [hμ8, show (mset (mset (mset μ7 (0, 32, 0) 0 0) (0, 33, 0) 0 (S.2.1 0 + 1)) (0, 32, 0) 6 0) MO0 0 = _ from mset_k (by decide), mset_ne (by decide)]
          exact mset_at
        have z6 : μ8 MO0 6 = nI 0 := by rw [hμ8]; exact mset_at
        have ff : fr bgP μ1 μ8 := by
          rw [hμ8]
          exact fr_trans b1 (fr_trans (fr_mset (Or.inr (Or.inr (Or.inl ⟨rfl, by decide⟩)))) (fr_trans (fr_mset (Or.inl rfl)) (fr_mset (Or.inr (Or.inr (Or.inl ⟨rfl, by decide⟩))))))
        refine ok_some ⟨⟨z8, ?_⟩, RM_big r1 ff hv8 ((n8 8 (by decide) (by decide)).trans b2) ((n8 12 (by decide) (by decide)).trans b8) z6 (Or.inr rfl), fr_mono ff (fun o i h => bg_md h)⟩
        dsimp only
        exact mset_at
    · refine op_x (A := .inr 2) (S' := S) (tp' := tp) (tl' := 0) (fa' := -1) (kp' := kp) (ac' := ac) hm ?_ ?_ (OA_use ho)
      · unfold f_X11_cluster
        refine c_reads hc ho ?_
        rintro μ9 ⟨a1, a2, a3, a4, a5⟩
        rw [zlt_s, mset_at, (a5 c' v' hR).1, if_pos rfl, mset_ne (by decide), show μ9 (1, 0, 0) 9 = S.2.1 0 from a1.1.2.1, if_neg h12]
        exact ok_some ⟨rfl, RC_fault a1, fr_trans a2 (fr_mset (Or.inr (by decide)))⟩
      · intro μ1 r1
        unfold f_X12_cluster
        refine m_readc r1 ho ?_
        rintro x μ7 ⟨b1, b2, b3, b4, b5, b6, b7⟩
        skip
        obtain ⟨b8, b9⟩ := b7 c' v' hR
        have e0 : μ7 (0, 33, 0) 0 = S.2.1 0 := (congrFun b9 0).trans (g2 0 (by omega))
        have e12 : S.2.1 0 = 12 := Classical.byContradiction fun q => h12 (o12.mpr q)
        rw [show μ7 (0, 32, 0) 12 = -1 from b8, if_pos rfl, e0, if_pos e12, zlt_s, zlt_s, thr_0, if_neg (by decide)]
        refine ok_b1 (m_comes0 (S := S) (fun j hj => by rw [mset_ne (by decide)]; exact b5 j hj) (fun j hj => by rw [mset_ne (by decide)]; exact b4 j hj)) ?_
        rintro μ8 ⟨p1, p2⟩
        have n8 : ∀ i, i ≠ 0 → μ8 MO0 i = μ7 MO0 i := fun i hi => by rw [p2.1 _ _ (show ¬ MO0 = MV0 by decide)]; exact mset_k hi
        have ff : fr bgP μ1 μ8 := fr_trans b1 (fr_trans (fr_mset (Or.inr (Or.inr (Or.inl ⟨rfl, by decide⟩)))) (fr_mono p2 (fun o i h => Or.inl h)))
        refine ok_some ⟨⟨?_, by decide⟩, RM_big r1 ff p1 ((n8 8 (by decide)).trans b2) ((n8 12 (by decide)).trans b8) ((n8 6 (by decide)).trans b3) (Or.inl rfl), fr_mono ff (fun o i h => bg_md h)⟩
        dsimp only
        rw [p2.1 _ _ (show ¬ MO0 = MV0 by decide)]
        exact mset_at
end PJ
