/-! the class: correcting -/
def corP (s : Nat) (o : ZId) (i : Nat) : Prop := clsP s o i ∨ o = (0, 10, 0)
theorem cor_far {b : Nat → Int32} {old : Int32} {x : Nat} (hx : x < 11) (k : Nat) (u : Vec) (w : Nat) (hw : w < 8) (h : w ≠ k) : nd (corStep b old k u) w x = nd u w x := by
  unfold corStep
  split
  · split
    · exact ns_far (by omega) hx h
    · exact ns_far (by omega) hx h
  · rfl
theorem c_correct {y : ZLay} {μ : ZMem} {s c : Nat} {v : Vec} {set old snd : Int32} {off : Nat → Nat → Int32} {heard : Nat → Int32} (hz : 8 ≤ zlen y (0, 10, 0) ∧ zlen y (0, 10, 0) ≤ 1000) (h : CS μ s c v) (hset : ∀ k, k < c → tbit set k = (tbit old k && decide (nd v k 3 = 2)))
    (hh : ∀ k, k < c → μ (0, 7, 0) k = heard k) (hoff : ∀ k, k < c → tbit set k = true → ∀ o, o < c → o ≠ k → μ (7, o, 0) k = off o k + nd v k 0) :
    ok (f_X9_correct y s set snd μ) (fun μ' => CS μ' s c (itS (corStep (midK off heard snd c) old) c v) ∧ fr (corP s) μ μ') := by
  have h8 := h.1
  unfold f_X9_correct
  refine ok_bd (ok_mono (c_loop (P := corP s) (corStep (midK off heard snd c) old) h ?_ ?_) (fun _ h => ok_some h))
  · intro k μ1 v1 hk h1 e f
    have hk8 : k < 8 := by omega
    have e0 : ∀ x, x < 11 → nd v1 k x = nd v k x := fun x hx => by rw [e]; exact itS_far (fun k u w => cor_far hx k u w) v k k (Nat.le_refl _) hk8
    have n7 : ∀ i, ¬ corP s (0, 7, 0) i := by
      rintro i (h | h)
      · exact not_cls0 i h
      · exact absurd h (by decide)
    have n70 : ∀ o i, ¬ corP s (7, o, 0) i := by
      rintro o i (h | h)
      · exact not_cls (zne (by decide)) (zne (by decide)) (fun k => zne (by decide)) i h
      · exact zne (by decide) h
    simp only [un2]
    rw [if_neg (cond_le (CS_c h1) h8 hk), bd_eq (isIn_eq (by omega))]
    unfold corStep
    by_cases hb : tbit set k = true
    · have hc : (tbit old k && decide (nd v1 k 3 = 2)) = true := by rw [e0 3 (by omega), ← hset k hk]; exact hb
      rw [if_neg (by rw [hb]; decide), if_pos hc, gd_eq (zin_nI hk8 (by omega))]
      refine ok_bd (ok_bd2 (ok_mono (c_middleOf (off := off) (heard := heard) hz h1 hk (by rw [fr_at f n7]; exact hh k hk) (fun o ho hok => by rw [fr_at f (n70 o), e0 0 (by omega)]; exact hoff k hk hb o ho hok)) ?_))
      rintro ⟨x, μ2⟩ ⟨g1, g2⟩
      dsimp only at g1 g2 ⊢
      have hC : CS μ2 s c v1 := CS_fr h1 g2 (fun i => ⟨zne (by decide), zne (by decide), fun k => zne (by decide)⟩)
      have f2 : fr (corP s) μ1 μ2 := fr_mono g2 (fun o i h => Or.inr h)
      have e6 : zrem (μ2 (1, s, 0) 7) 2 = zrem (v1 6) 2 := congrArg (fun x => zrem x 2) (CS_rd hC)
      rw [nI_cl (by omega), CS_nd hC hk (by omega), CS_nd hC hk (by omega), g1, keep_eq]
      by_cases hr : zrem (v1 6) 2 = 0
      · rw [if_pos (e6.trans hr), if_pos hr, zlt_s]
        exact ok_some (ok_some ⟨_, by rw [nI_1], CS_ns hC hk (by omega), fr_trans f2 (fr_mset (Or.inl cls_nd))⟩)
      · rw [if_neg (fun q => hr (e6.symm.trans q)), if_neg hr, zlt_s]
        exact ok_some (ok_some ⟨_, by rw [nI_1], CS_ns hC hk (by omega), fr_trans f2 (fr_mset (Or.inl cls_nd))⟩)
    · have hb' : tbit set k = false := by simpa using hb
      have hc : ¬ (tbit old k && decide (nd v1 k 3 = 2)) = true := by rw [e0 3 (by omega), ← hset k hk]; exact hb
      rw [if_pos (by rw [hb']; decide), if_neg hc, bd_s]
      exact ok_some ⟨_, by rw [nI_1], h1, fr_refl⟩
  · intro μ1 v1 h1
    simp only [un2]
    rw [if_pos (cond_end (CS_c h1) h8)]
