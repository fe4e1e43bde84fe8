/-! the model's side of law -/
section LMo
variable {μ : ZMem} {S : SV} {tp : Vec} {tl : Nat} {fa : Int32} {kp : Option SV} {ac : List (Nat × Vec)}
def lawV (v : Vec) (x : Int32) (tl : Nat) (tp : Vec) : Vec := fun i => if i = 1 then x else if i = 2 then nI tl else if 337 ≤ i ∧ i < 337 + tl then tp (i - 337) else v i
def lawE (μ : ZMem) : Nat → Int32 := fun t => if t < 7 then μ (0, 38, 0) t else if t = 7 then b2i (decide (zrem (μ MV0 6) 2 = 0)) else if t = 8 then μ MO0 15 else b2i (decide (0 < nd (μ MV0) (μ (0, 38, 0) 0).toNatClampNeg 8))
theorem EF_lawE (h : RM0 μ) : EF (lawE μ) μ := by
  obtain ⟨⟨j, hj, e⟩, hz⟩ := h
  refine ⟨fun t ht => ?_, ?_, ?_, ?_, j, hj, e, ?_⟩
  · unfold lawE; rw [if_pos ht]
  · unfold lawE; rw [if_neg (by omega), if_pos rfl]
  · unfold lawE; rw [if_neg (by omega), if_neg (by omega), if_pos rfl]
  · unfold lawE; rw [if_neg (by omega), if_neg (by omega), if_pos rfl]; exact hz
  · unfold lawE; rw [if_neg (by omega), if_neg (by omega), if_neg (by omega), e, nI_cl (by omega)]
theorem ml_bg {o : ZId} {i : Nat} (h : mlP o i) : bgP o i := Or.inr (Or.inr (Or.inl ⟨h.1, by have := h.2; omega⟩))
theorem m_lawX (hm : RMo μ S tp tl fa kp ac) (ho : OA S tp tl kp ac) (hf : ∀ f, pLaw tp tl = .inl f → f ≤ 400) : ok (f_X12_law μ) (fun q => fr mdO μ q.2 ∧ (∀ f, pLaw tp tl = .inl f → q.2 MO0 0 = 1 ∧ RMo q.2 S tp 0 (nI f) kp ac) ∧
    ∀ ls, pLaw tp tl = .inr ls → q.2 MO0 0 = 0 ∧ q.1 = nI ls.length ∧ RMo q.2 (S.1, lawV S.2.1 (nI ls.length) tl tp, lawOf ls) tp 0 (-1) kp []) := by
  unfold f_X12_law f_X12_begins
  rw [zlt_s, zlt_s, mset_k (by decide), mset_k (by decide), show μ (0, 32, 0) 8 = nI tl from hm.2.2.1, zlt_s, zlt_s, zlt_s, zlt_s, bd_s]
  obtain ⟨μ3, hμ3⟩ : ∃ μ3, μ3 = mset (mset (mset (mset (mset (mset μ (0, 32, 0) 12 (-1)) (0, 32, 0) 9 (-1)) (0, 32, 0) 10 (nI tl)) (0, 32, 0) 8 0) (0, 32, 0) 11 0) (0, 32, 0) 13 0 := ⟨_, rfl⟩
  rw [← hμ3]
  have f3 : fr (fun o i => o = MO0 ∧ (i = 8 ∨ i = 9 ∨ i = 10 ∨ i = 11 ∨ i = 12 ∨ i = 13)) μ μ3 := by
    rw [hμ3]
    exact fr_trans (fr_mset ⟨rfl, by omega⟩) (fr_trans (fr_mset ⟨rfl, by omega⟩) (fr_trans (fr_mset ⟨rfl, by omega⟩) (fr_trans (fr_mset ⟨rfl, by omega⟩) (fr_trans (fr_mset ⟨rfl, by omega⟩) (fr_mset ⟨rfl, by omega⟩)))))
  have b3 : fr bgP μ μ3 := fr_mono f3 (fun o i h => Or.inr (Or.inr (Or.inl ⟨h.1, by have := h.2; omega⟩)))
  have v12 : μ3 MO0 12 = -1 := by rw [hμ3]; simp [mset]
  have v9 : μ3 MO0 9 = -1 := by rw [hμ3]; simp [mset]
  have v10 : μ3 MO0 10 = nI tl := by rw [hμ3]; simp [mset]
  have v8 : μ3 MO0 8 = 0 := by rw [hμ3]; simp [mset]
  have v11 : μ3 MO0 11 = 0 := by rw [hμ3]; simp [mset]
  have v13 : μ3 MO0 13 = 0 := by rw [hμ3]; simp [mset]
  have v6 : μ3 MO0 6 = nI ac.length := by rw [f3.1 _ _ (by rintro ⟨-, h⟩; omega)]; exact hm.2.2.2.2.2.1
  have n3 : ∀ o i, o ≠ MO0 → μ3 o i = μ o i := fun o i h => f3.1 o i (fun q => h q.1)
  have hv3 : μ3 MV0 = S.2.1 := (funext fun i => n3 _ i (by decide)).trans hm.1
  have h37 : ∀ k, k < tl → μ3 (0, 37, 0) k = tp k := fun k hk => by rw [n3 _ _ (by decide)]; exact hm.2.1 k hk
  have rm3 : RM0 μ3 := by
    obtain ⟨⟨j, hj, e⟩, hz⟩ := hm.2.2.2.2.2.2.2
    refine ⟨⟨j, hj, by rw [n3 _ _ (by decide)]; exact e⟩, ?_⟩
    rw [show μ3 (0, 32, 0) 15 = μ (0, 32, 0) 15 from f3.1 _ _ (by rintro ⟨-, h⟩; omega)]
    exact hz
  refine ok_bd2 (ok_mono (m_reads1 (T := tp) (e := tl) ho.2.2.1 ⟨ho.2.1, v10, Or.inl ⟨v9, h37⟩⟩ v12 v11 v13 (EF_lawE rm3)) ?_)
  rintro ⟨x, μ7⟩ ⟨p1, p2, p3⟩
  dsimp only at p1 p2 p3 ⊢
  have b7 : fr bgP μ μ7 := fr_trans b3 (fr_mono p1 (fun o i h => ml_bg h))
  have n7 : ∀ o i, o ≠ MO0 → μ7 o i = μ3 o i := fun o i h => p1.1 o i (fun q => h q.1)
  have m7 : ∀ i, ¬ (i = 11 ∨ i = 12 ∨ i = 13 ∨ i = 16 ∨ i = 17 ∨ i = 18) → μ7 MO0 i = μ3 MO0 i := fun i hi => p1.1 _ _ (fun q => hi q.2)
  have hv7 : μ7 MV0 = S.2.1 := (funext fun i => n7 _ i (by decide)).trans hv3
  cases hp : pLaw tp tl with
  | inl f =>
    rw [if_neg (show ¬ (μ7 (0, 32, 0) 12 = -1) from fun q => nI_ne1 (show f ≤ 1000 by have := hf f hp; omega) ((p2 f hp).symm.trans q)), zlt_s, zlt_s, mset_at, if_neg (by decide)]
    have ff : fr bgP μ (mset μ7 (0, 32, 0) 0 1) := fr_trans b7 (fr_mset (Or.inr (Or.inr (Or.inl ⟨rfl, by decide⟩))))
    refine ok_some ⟨fr_mono ff (fun o i h => bg_md h), fun f' hf' => ?_, (fun ls hls => by cases hls)⟩
    cases hf'
    dsimp only
    refine ⟨mset_at, RM_big hm ff ?_ ?_ ?_ ?_ (Or.inl rfl)⟩
    · rw [mset_ne (by decide)]
      exact hv7
    · exact (mset_k (by decide)).trans ((m7 8 (by decide)).trans v8)
    · exact (mset_k (by decide)).trans (p2 f hp)
    · exact (mset_k (by decide)).trans ((m7 6 (by decide)).trans v6)
  | inr ls =>
    obtain ⟨q1, q2, q3, -⟩ := p3 ls hp
    rw [if_pos (show μ7 (0, 32, 0) 12 = -1 from q2), zlt_s, zlt_s, mset_at, if_pos (by decide), zlt_s, zlt_s]
    have e10 : mset (mset μ7 (0, 32, 0) 0 0) (0, 33, 0) 1 x (0, 32, 0) 10 = nI tl := by
      rw [mset_ne (by decide), mset_k (by decide)]
      exact (m7 10 (by decide)).trans v10
    rw [e10]
    obtain ⟨μ8, hμ8⟩ : ∃ μ8, μ8 = mset (mset (mset μ7 (0, 32, 0) 0 0) (0, 33, 0) 1 x) (0, 33, 0) 2 (nI tl) := ⟨_, rfl⟩
    rw [← hμ8]
    have f8 : fr bgP μ μ8 := by
      rw [hμ8]
      exact fr_trans b7 (fr_trans (fr_mset (Or.inr (Or.inr (Or.inl ⟨rfl, by decide⟩)))) (fr_trans (fr_mset (Or.inl rfl)) (fr_mset (Or.inl rfl))))
    have o8 : ∀ i, i ≠ 0 → μ8 MO0 i = μ7 MO0 i := fun i hi => by
      rw [hμ8, mset_ne (by decide), mset_ne (by decide)]
      exact mset_k hi
    have z8 : μ8 MO0 0 = 0 := by
      rw [hμ8, mset_ne (by decide), mset_ne (by decide)]
      exact mset_at
    have w37 : ∀ k, k < tl → μ8 (0, 37, 0) k = tp k := fun k hk => by
      rw [hμ8, mset_ne (by decide), mset_ne (by decide), mset_ne (by decide), n7 _ _ (by decide)]
      exact h37 k hk
    have hv8 : ∀ i, μ8 MV0 i = if i = 1 then x else if i = 2 then nI tl else S.2.1 i := fun i => by
      rw [hμ8]
      by_cases h2 : i = 2
      · subst h2; exact mset_at
      · by_cases h1 : i = 1
        · subst h1; rw [if_pos rfl]; exact (mset_k (by decide)).trans mset_at
        · rw [if_neg h1, if_neg h2]
          refine (mset_k h2).trans ((mset_k h1).trans ?_)
          rw [mset_ne (by decide), hv7]
    have htl := ho.2.1
    refine ok_b1 (ok_seq (Q := fun μ9 => fr (oP MV0) μ8 μ9 ∧ ∀ i, μ9 MV0 i = if 337 ≤ i ∧ i < 337 + tl then tp (i - 337) else μ8 MV0 i) tl (fun k s => s.1 = nI k ∧ fr (oP MV0) μ8 s.2 ∧ ∀ i, s.2 MV0 i = if 337 ≤ i ∧ i < 337 + k then tp (i - 337) else μ8 MV0 i) ?_ ?_ ⟨rfl, fr_refl, fun i => by rw [if_neg (by omega)]⟩ (FU_lt (by omega))) ?_
    · rintro k ⟨i, μ9⟩ hk ⟨w1, w2, w3⟩
      dsimp only at w1 w2 w3
      subst w1
      rw [un2_s, show μ9 (0, 32, 0) 10 = nI tl from (w2.1 _ _ (show ¬ (0, 32, 0) = MV0 by decide)).trans ((o8 10 (by decide)).trans ((m7 10 (by decide)).trans v10)), if_neg (nI_ge hk (by omega)), gd_eq (zin_nI (show k < 400 by omega) (by omega)), show (337 : Int32) + nI k = nI (337 + k) from nI_add 337 k, gd_eq (zin_nI (show 337 + k < 737 by omega) (by omega)), zlt_s, nI_cl (by omega), nI_cl (by omega)]
      refine ok_some ⟨_, rfl, nI_1 k, fr_trans w2 (fr_mset rfl), fun j => ?_⟩
      dsimp only
      have e37 : μ9 (0, 37, 0) k = tp k := (w2.1 _ _ (show ¬ ((0, 37, 0) : ZId) = MV0 by decide)).trans (w37 k hk)
      by_cases e : j = 337 + k
      · subst e
        rw [if_pos (by omega), show 337 + k - 337 = k by omega]
        exact mset_at.trans e37
      · refine (mset_k e).trans ((w3 j).trans ?_)
        by_cases hj : 337 ≤ j ∧ j < 337 + k
        · rw [if_pos hj, if_pos (by omega)]
        · rw [if_neg hj, if_neg (by omega)]
    · rintro ⟨i, μ9⟩ ⟨w1, w2, w3⟩
      dsimp only at w1 w2 w3
      subst w1
      rw [un2_s, show μ9 (0, 32, 0) 10 = nI tl from (w2.1 _ _ (show ¬ (0, 32, 0) = MV0 by decide)).trans ((o8 10 (by decide)).trans ((m7 10 (by decide)).trans v10)), if_pos (nI_le (Nat.le_refl _) (by omega))]
      exact ok_some ⟨_, rfl, w2, w3⟩
    · rintro μ9 ⟨f9, g9⟩
      rw [zlt_s]
      have ff : fr bgP μ (mset μ9 (0, 32, 0) 6 0) := fr_trans f8 (fr_trans (fr_mono f9 (fun o i h => Or.inl h)) (fr_mset (Or.inr (Or.inr (Or.inl ⟨rfl, by decide⟩)))))
      refine ok_some ⟨fr_mono ff (fun o i h => bg_md h), (fun f' hf' => by cases hf'), fun ls' hls => ?_⟩
      cases hls
      dsimp only
      have o9 : ∀ i, i ≠ 6 → mset μ9 (0, 32, 0) 6 0 MO0 i = μ8 MO0 i := fun i hi => (mset_k hi).trans (f9.1 _ _ (show ¬ MO0 = MV0 by decide))
      refine ⟨(o9 0 (by decide)).trans z8, q1, RM_big (ac' := []) hm ff ?_ ?_ ?_ mset_at (Or.inr rfl)⟩
      · funext i
        rw [mset_ne (by decide), g9, hv8]
        show _ = lawV S.2.1 (nI ls.length) tl tp i
        unfold lawV
        rw [q1]
        by_cases h1 : i = 1
        · rw [if_neg (by omega), if_pos h1, if_pos h1]
        · by_cases h2 : i = 2
          · rw [if_neg (by omega), if_neg h1, if_pos h2, if_neg h1, if_pos h2]
          · rw [if_neg h1, if_neg h2, if_neg h1, if_neg h2]
      · exact (o9 8 (by decide)).trans ((o8 8 (by decide)).trans ((m7 8 (by decide)).trans v8))
      · exact (o9 12 (by decide)).trans ((o8 12 (by decide)).trans q2)
end LMo
