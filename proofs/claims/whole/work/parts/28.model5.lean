/-! the model's round: all the shifts -/
theorem i8 {a b : Nat} : (8 : Int32) * nI a + nI b = nI (8 * a + b) := by
  rw [show (8 : Int32) = nI 8 from rfl, show nI 8 * nI a = nI (8 * a) from (Int32.ofNat_mul 8 _).symm, nI_add]
theorem zrow {α β : Type} {b : Bool} {x y : α} {f : α → β} : zlt (if b2i b = 0 then x else y) f = f (if b then y else x) := by cases b <;> rfl
def inP (k : Nat) (o : ZId) (i : Nat) : Prop := askP o i ∨ (o = (0, 39, 0) ∧ ∃ j, j < 8 ∧ i = 8 * j + k) ∨ (o = (0, 40, 0) ∧ i = k)
def shP (o : ZId) (i : Nat) : Prop := askP o i ∨ o = (0, 39, 0) ∨ o = (0, 40, 0) ∨ o = (0, 41, 0) ∨ (o = MO0 ∧ i = 24)
theorem in_vec {k : Nat} {μ μ' : ZMem} (h : fr (inP k) μ μ') : μ' MV0 = μ MV0 := fr_at h (by
  rintro i (h | ⟨h, -⟩ | ⟨h, -⟩)
  · exact not_ask (by decide) (by decide) i h
  · exact absurd h (by decide)
  · exact absurd h (by decide))
theorem sh_vec {μ μ' : ZMem} (h : fr shP μ μ') : μ' MV0 = μ MV0 := fr_at h (by
  rintro i (h | h | h | h | ⟨h, -⟩)
  · exact not_ask (by decide) (by decide) i h
  all_goals exact absurd h (by decide))
theorem m_inner {μ : ZMem} {L : LawS} {c k : Nat} {v v0 : Vec} (hv : μ MV0 = v) (hL : LawM v0 L) (hT : sameT v v0) (hW : WFv c v) (hk : k < 8) (hz : μ (0, 40, 0) k = 0) :
    ok (lp (σ := Int32 × ZMem) (fun q => un2 q (fun (x17 : Int32) (μ18 : ZMem) => if (μ18 (0, 33, 0) 3) ≤ x17 then some (.inr μ18) else bd (α := ZMem) (if x17 = nI k then some μ18 else bd2 (f_X12_shiftOf x17 (nI k) μ18) (fun (x24 : Int32) (μ25 : ZMem) => bd (f_X12_of (nI k) 0 μ25) (fun (x27 : Int32) => gd (zin ((8 * x17) + nI k) 64) (zlt (mset μ25 (0, 39, 0) ((8 * x17) + nI k).toNatClampNeg (x24 - x27)) (fun (μ29 : ZMem) => bd (f_X12_isIn (μ29 (0, 39, 0) ((8 * x17) + nI k).toNatClampNeg) (-(μ29 (0, 33, 0) 5)) (μ29 (0, 33, 0) 5)) (fun (x31 : Int32) => zlt (α := Int32) (if x31 = 0 then 0 else (1 <<< (x17 &&& 31))) (fun (x33 : Int32) => zlt (mset μ29 (0, 40, 0) (nI k).toNatClampNeg ((μ29 (0, 40, 0) (nI k).toNatClampNeg) ||| x33)) (fun (μ34 : ZMem) => some μ34)))))))) (fun (μ22 : ZMem) => some (.inl ((x17 + 1), μ22))))) FU (0, μ))
      (fun μ' => fr (inP k) μ μ' ∧ μ' (0, 40, 0) k = heardS L c v k ∧ ∀ o, o < c → o ≠ k → μ' (0, 39, 0) (8 * o + k) = offS L c v o k) := by
  obtain ⟨h8, h3, hm⟩ := id hW
  refine ok_seq c (fun o s => s.1 = nI o ∧ fr (inP k) μ s.2 ∧ s.2 (0, 40, 0) k = bset (fun o => decide (o ≠ k) && hearB L c v k o) o ∧ ∀ j, j < o → j ≠ k → s.2 (0, 39, 0) (8 * j + k) = offS L c v j k) ?_ ?_ ⟨rfl, fr_refl, hz, fun j h => absurd h (by omega)⟩ (FU_lt (by omega))
  · rintro o ⟨i, μ1⟩ ho ⟨h1, h2, h4, h5⟩
    dsimp only at h1 h2 h4 h5
    subst h1
    have hv1 : μ1 MV0 = v := (in_vec h2).trans hv
    simp only [un2]
    rw [if_neg (cond_le (by rw [hv1]; exact h3) h8 ho)]
    by_cases e : o = k
    · subst e
      rw [if_pos rfl, bd_s]
      refine ok_some ⟨_, rfl, nI_1 o, h2, ?_, ?_⟩
      · show μ1 (0, 40, 0) o = bset _ _ ||| _
        rw [h4]
        simp
      · intro j hj hjk
        exact h5 j (by omega) hjk
    · rw [if_neg (by rw [nI_eq (by omega) (by omega)]; exact e)]
      refine ok_bd (ok_bd2 (ok_mono (m_shiftOf hv1 hL hT hW (by omega) hk) ?_))
      rintro ⟨x, μ2⟩ ⟨e1, f1⟩
      dsimp only at e1 f1 ⊢
      have hv2 : μ2 MV0 = v := (ask_vec f1).trans hv1
      have h40 : μ2 (0, 40, 0) = μ1 (0, 40, 0) := fr_at f1 (not_ask (by decide) (by decide))
      have h39 : μ2 (0, 39, 0) = μ1 (0, 39, 0) := fr_at f1 (not_ask (by decide) (by decide))
      rw [bd_eq (of0 hk), i8, gd_eq (zin_nI (by omega) (by omega)), nI_cl (by omega), nI_cl (by omega), zlt_s, bd_eq m_isIn, zrow, zlt_s]
      refine ok_some (ok_some ⟨_, rfl, nI_1 o, ?_, ?_, ?_⟩)
      · refine fr_trans h2 (fr_trans (fr_mono f1 (fun o k h => Or.inl h)) (fr_trans (fr_mset (Or.inr (Or.inl ⟨rfl, o, by omega, rfl⟩))) (fr_mset (Or.inr (Or.inr ⟨rfl, rfl⟩)))))
      · show mset _ _ _ _ _ _ = bset _ _ ||| _
        rw [mset_at, mset_at, mset_ne (show (0, 40, 0) ≠ ((0, 39, 0) : ZId) by decide), mset_ne (show (0, 33, 0) ≠ ((0, 39, 0) : ZId) by decide), h40, h4, e1]
        have e5 : μ2 (0, 33, 0) = v := hv2
        rw [e5]
        congr 1
        simp only [hearB, offS, e, ne_eq, not_false_eq_true, decide_true, Bool.true_and]
        first | rfl | congr
      · intro j hj hjk
        show mset _ _ _ _ _ _ = _
        by_cases e2 : j = o
        · subst e2
          rw [mset_at, e1, hv2]
          rfl
        · rw [mset_k (by omega), h39]
          exact h5 j (by omega) hjk
  · rintro ⟨i, μ1⟩ ⟨h1, h2, h4, h5⟩
    dsimp only at h1 h2 h4 h5
    subst h1
    have hv1 : μ1 MV0 = v := (in_vec h2).trans hv
    simp only [un2]
    rw [if_pos (cond_end (by rw [hv1]; exact h3) h8)]
    exact ok_some ⟨_, rfl, h2, h4, h5⟩
theorem m_allShifts {μ : ZMem} {L : LawS} {c : Nat} {v v0 : Vec} (hv : μ MV0 = v) (hL : LawM v0 L) (hT : sameT v v0) (hW : WFv c v) :
    ok (f_X12_allShifts μ) (fun μ' => fr shP μ μ' ∧ μ' MO0 24 = passS L c v ∧ (∀ k, k < c → μ' (0, 40, 0) k = heardS L c v k ∧ μ' (0, 41, 0) k = omitS L c v k) ∧ ∀ k, k < c → ∀ o, o < c → o ≠ k → μ' (0, 39, 0) (8 * o + k) = offS L c v o k) := by
  obtain ⟨h8, h3, hm⟩ := id hW
  unfold f_X12_allShifts
  rw [zlt_s]
  refine ok_bd (ok_mono (ok_seq c (fun k s => s.1 = nI k ∧ fr shP μ s.2 ∧ s.2 MO0 24 = bset (passB L c v) k ∧ (∀ j, j < k → s.2 (0, 40, 0) j = heardS L c v j ∧ s.2 (0, 41, 0) j = omitS L c v j) ∧ ∀ j, j < k → ∀ o, o < c → o ≠ j → s.2 (0, 39, 0) (8 * o + j) = offS L c v o j) ?_ ?_ ⟨rfl, fr_mset (Or.inr (Or.inr (Or.inr (Or.inr ⟨rfl, rfl⟩)))), ?_, fun j h => absurd h (by omega), fun j h => absurd h (by omega)⟩ (FU_lt (by omega))) (fun _ h => ok_some h))
  · rintro k ⟨i, μ1⟩ hk ⟨h1, h2, h4, h5, h6⟩
    dsimp only at h1 h2 h4 h5 h6
    subst h1
    have hv1 : μ1 MV0 = v := (sh_vec h2).trans hv
    have hk8 : k < 8 := by omega
    simp only [un2]
    rw [if_neg (cond_le (by rw [hv1]; exact h3) h8 hk)]
    refine ok_bd2 (ok_mono (m_isPassing hv1 hL hT hW hk8) ?_)
    rintro ⟨x, μ2⟩ ⟨e1, f1⟩
    dsimp only at e1 f1 ⊢
    have hv2 : μ2 MV0 = v := (ask_vec f1).trans hv1
    rw [e1, zrow, zlt_s]
    have e7 : ∀ x, (mset μ2 (0, 32, 0) 24 x) MV0 = v := fun x => by rw [mset_ne (by decide)]; exact hv2
    refine ok_bd (ok_mono (hL c _ (by rw [e7]; exact hT) (by rw [e7]; exact hW) k hk8) ?_)
    rintro μ3 ⟨f2, -, g2, -⟩
    rw [e7] at g2
    have hv3 : μ3 MV0 = v := (ask_vec f2).trans (e7 _)
    rw [gd_eq (zin_nI hk8 (by omega)), nI_cl (by omega), zlt_s, zlt_s]
    have hin := fun (μ : ZMem) (h1 : μ MV0 = v) (h2 : μ (0, 40, 0) k = 0) => m_inner h1 hL hT hW hk8 h2
    simp only [un2] at hin
    rw [nI_cl (show k < 2 ^ 31 by omega)] at hin
    refine ok_bd (ok_mono (hin _ ?_ ?_) ?_)
    · rw [mset_ne (by decide), mset_ne (by decide)]; exact hv3
    · rw [mset_at]
    · rintro μ4 ⟨g3, g4, g5⟩
      have n24 : ¬ askP MO0 24 := by
        rintro (h | ⟨-, h⟩)
        · exact absurd h (by decide)
        · omega
      have x24 : ∀ k, ¬ inP k MO0 24 := by
        rintro k (h | ⟨h, -⟩ | ⟨h, -⟩)
        · exact n24 h
        · exact absurd h (by decide)
        · exact absurd h (by decide)
      have f4 : fr shP μ1 μ4 := by
        refine fr_trans (fr_mono f1 (fun o k h => Or.inl h)) (fr_trans (fr_mset (Or.inr (Or.inr (Or.inr (Or.inr ⟨rfl, rfl⟩))))) (fr_trans (fr_mono f2 (fun o k h => Or.inl h)) (fr_trans (fr_mset (Or.inr (Or.inr (Or.inr (Or.inl rfl))))) (fr_trans (fr_mset (Or.inr (Or.inr (Or.inl rfl)))) (fr_mono g3 ?_)))))
        rintro o i (h | ⟨h, -⟩ | ⟨h, -⟩)
        · exact Or.inl h
        · exact Or.inr (Or.inl h)
        · exact Or.inr (Or.inr (Or.inl h))
      refine ok_some ⟨_, rfl, nI_1 k, fr_trans h2 f4, ?_, ?_, ?_⟩
      · show μ4 MO0 24 = bset _ _ ||| _
        rw [g3.1 MO0 24 (x24 k), mset_ne (by decide), mset_ne (by decide), f2.1 MO0 24 n24]
        show mset _ MO0 24 _ MO0 24 = _
        rw [mset_at]
        show μ1 MO0 24 ||| _ = _
        rw [h4]
      · intro j hj
        have hn40 : ∀ j, j ≠ k → ¬ inP k (0, 40, 0) j := by
          rintro j hjk (h | ⟨h, -⟩ | ⟨-, h⟩)
          · exact not_ask (by decide) (by decide) j h
          · exact absurd h (by decide)
          · exact hjk h
        have hn41 : ∀ j, ¬ inP k (0, 41, 0) j := by
          rintro j (h | ⟨h, -⟩ | ⟨h, -⟩)
          · exact not_ask (by decide) (by decide) j h
          · exact absurd h (by decide)
          · exact absurd h (by decide)
        by_cases e : j = k
        · subst e
          refine ⟨g4, ?_⟩
          show μ4 _ _ = _
          rw [g3.1 _ _ (hn41 j), mset_ne (by decide), mset_at]
          exact g2
        · obtain ⟨a1, a2⟩ := h5 j (by omega)
          constructor
          · show μ4 _ _ = _
            rw [g3.1 _ _ (hn40 j e), mset_k e, mset_ne (by decide), fr_at f2 (not_ask (by decide) (by decide)), mset_ne (by decide), fr_at f1 (not_ask (by decide) (by decide))]
            exact a1
          · show μ4 _ _ = _
            rw [g3.1 _ _ (hn41 j), mset_ne (by decide), mset_k e, fr_at f2 (not_ask (by decide) (by decide)), mset_ne (by decide), fr_at f1 (not_ask (by decide) (by decide))]
            exact a2
      · intro j hj o ho hoj
        show μ4 _ _ = _
        by_cases e : j = k
        · subst e
          exact g5 o ho hoj
        · have hn39 : ¬ inP k (0, 39, 0) (8 * o + j) := by
            rintro (h | ⟨-, i, hi, h⟩ | ⟨h, -⟩)
            · exact not_ask (by decide) (by decide) _ h
            · omega
            · exact absurd h (by decide)
          rw [g3.1 _ _ hn39, mset_ne (by decide), mset_ne (by decide), fr_at f2 (not_ask (by decide) (by decide)), mset_ne (by decide), fr_at f1 (not_ask (by decide) (by decide))]
          exact h6 j (by omega) o ho hoj
  · rintro ⟨i, μ1⟩ ⟨h1, h2, h4, h5, h6⟩
    dsimp only at h1 h2 h4 h5 h6
    subst h1
    have hv1 : μ1 MV0 = v := (sh_vec h2).trans hv
    simp only [un2]
    rw [if_pos (cond_end (by rw [hv1]; exact h3) h8)]
    exact ok_some ⟨_, rfl, h2, h4, h5, h6⟩
  · show (mset μ MO0 24 0) MO0 24 = _
    rw [mset_at]
    rfl
