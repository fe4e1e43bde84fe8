/-! the class: calling or waiting, whole -/
def cowP (s : Nat) (o : ZId) (i : Nat) : Prop := clsP s o i ∨ ∃ n, o = (6, n, 4)
theorem cls_cow {s : Nat} {o : ZId} {i : Nat} (h : clsP s o i) : cowP s o i := Or.inl h
theorem not_cow {s : Nat} {o : ZId} (h1 : o ≠ (4, s, 0)) (h2 : o ≠ (1, s, 0)) (h3 : ∀ k, o ≠ (3, s, k)) (h4 : ∀ n, o ≠ (6, n, 4)) : ∀ i, ¬ cowP s o i := by
  rintro i (h | ⟨n, h⟩)
  · exact not_cls h1 h2 h3 i h
  · exact h4 n h
theorem n64 {n j m : Nat} (h : j < 4) : ((6, n, j) : ZId) ≠ (6, m, 4) := by
  intro e
  have : j = 4 := congrArg (fun q : ZId => q.2.2) e
  omega
theorem LawC_cow {y : ZLay} {μ0 μ1 : ZMem} {n s : Nat} {L : LawS} (h : LawC y μ0 n L) (f : fr (cowP s) μ0 μ1) : LawC y μ1 n L :=
  LawC_fr h f (fun i => ⟨fun j hj => not_cow (zne (by decide)) (zne (by decide)) (fun k => zne (by decide)) (fun m => n64 hj) i, not_cow (zne (by decide)) (zne (by decide)) (fun k => zne (by decide)) (fun m => zne (by decide)) i⟩)
theorem cow_law {s n : Nat} {μ0 μ1 : ZMem} (f : fr (cowP s) μ0 μ1) (h : (μ0 (1, s, 0) 10).toNatClampNeg = n) : (μ1 (1, s, 0) 10).toNatClampNeg = n := by
  rw [f.1 (1, s, 0) 10 ?_]
  · exact h
  · rintro (h | ⟨m, h⟩)
    · rcases h with h | ⟨-, h⟩ | ⟨k, h⟩
      · exact zne (by decide) h
      · omega
      · exact zne (by decide) h
    · exact zne (by decide) h
theorem coll_nd {w : Nat → Int32} {x : Int32} {k j f : Nat} {v : Vec} (hj : j < 8) (hf : f < 11) (h4 : f ≠ 4 ∨ j ≠ k) : nd (collStep w x k v) j f = nd v j f := by
  unfold collStep
  split
  · rw [note_nd hj hf, nd_ns (by omega) hf, if_neg (by omega)]
  · rfl
theorem colls_nd {w : Nat → Int32} {x : Int32} {n j f : Nat} {v : Vec} (hj : j < 8) (hf : f < 11) (h4 : f ≠ 4 ∨ n ≤ j) : nd (itS (collStep w x) n v) j f = nd v j f := by
  induction n with
  | zero => rfl
  | succ n ih => rw [itS_s, coll_nd hj hf (by omega), ih (by omega)]
theorem coll_6 {w : Nat → Int32} {x : Int32} {k : Nat} {v : Vec} : collStep w x k v 6 = v 6 := by
  unfold collStep
  split
  · show (if (6 : Nat) = 7 then _ else _) = _
    simp only [ns, vset]
    simp
    omega
  · rfl
theorem callX_c {v : Vec} {c k : Nat} (h8 : c ≤ 8) (h : tbit (callX v c) k = true) : k < c := by
  by_cases h32 : k < 32
  · unfold callX at h
    rw [tbit_bset (by omega) h32] at h
    simpa using (Bool.and_eq_true_iff.mp h).1
  · have := isS_iff.mp (callX_S (v := v) h8) k (by omega)
    rw [this] at h
    exact absurd h (by decide)
theorem pc0_all : ∀ n : Fin 256, pc (nI n.val) = 0 → nI n.val = 0 := by decide +kernel
theorem pc0 {x : Int32} (hs : isS x) (h : pc x = 0) : x = 0 := by
  obtain ⟨n, hn, rfl⟩ := hs
  exact pc0_all ⟨n, hn⟩ h
theorem coll_0 {w : Nat → Int32} {v : Vec} : ∀ n, itS (collStep w 0) n v = v
  | 0 => rfl
  | n + 1 => by
    rw [itS_s, coll_0 n]
    unfold collStep
    rw [tbit_zero]
    rfl
theorem c_callOrWait {y : ZLay} {μ : ZMem} {s c n : Nat} {v : Vec} {L : LawS} (h : CS μ s c v) (hW : WFv c v) (hL : LawC y μ n L) (hn : (μ (1, s, 0) 10).toNatClampNeg = n) :
    ok (f_X9_callOrWait y s μ) (fun μ' => CS μ' s c (callsS L c v) ∧ fr (cowP s) μ μ') := by
  have h8 := h.1
  unfold f_X9_callOrWait
  refine ok_bd2 (ok_mono (c_waits h) ?_)
  rintro ⟨x, μ1⟩ ⟨g1, g2, g3⟩
  dsimp only at g1 g2 g3 ⊢
  subst g1
  obtain ⟨u, hu⟩ : ∃ u, u = itS waitStep c v := ⟨_, rfl⟩
  have hWu : WFv c u := by rw [hu]; exact waits_wf hW
  have f1 : fr (cowP s) μ μ1 := fr_mono g3 (fun o i h => Or.inl h)
  have hS := callX_S (v := v) h8
  have hle := pc_le (callX v c)
  unfold callsS
  rw [← hu] at g2 ⊢
  rw [zlt_s, bc_eq hS]
  by_cases h1 : pc (callX v c) = 1
  · have h0 : ¬ callX v c = 0 := by
      intro e
      rw [e] at h1
      revert h1
      decide
    have hlow : lowS (callX v c) < c := callX_c h8 (low_bit hS h0)
    have e0 := start_it (v := u) hS h1 c h8
    rw [if_pos hlow] at e0
    rw [if_pos h1, if_pos (show nI (pc (callX v c)) ≤ 1 by rw [h1]; decide), ← e0]
    refine ok_bd (ok_mono (c_loop (P := cowP s) (startT (callX v c)) g2 ?_ ?_) (fun _ h => ok_some ⟨h.1, fr_trans f1 h.2⟩))
    · intro k μ2 v2 hk k1 e f
      simp only [un2]
      rw [if_neg (cond_le (CS_c k1) h8 hk), gd_eq (zin_nI (by omega) (by omega)), nI_cl (by omega), bd_eq (isIn_eq (by omega)), bd_eq (isIn_eq (by omega))]
      simp only [jk]
      unfold startT
      by_cases hb : tbit (callX v c) k = true
      · rw [if_neg (by rw [hb]; decide), if_pos trivial, if_neg (by rw [hb]; decide), if_pos hb, zlt_s, zlt_s, zlt_s, x11_bit]
        refine ok_bd (ok_bd (ok_mono (c_note (CS_ns (CS_ns (CS_ns k1 hk (by omega)) hk (by omega)) hk (by omega))) ?_))
        rintro μ3 ⟨a1, a2⟩
        refine ok_some (ok_some ⟨_, by rw [nI_1], a1, ?_⟩)
        exact fr_trans (fr_mset (cls_cow cls_nd)) (fr_trans (fr_mset (cls_cow cls_nd)) (fr_trans (fr_mset (cls_cow cls_nd)) (fr_mono a2 (fun o i h => cls_cow (not_clsP h)))))
      · have hb' : tbit (callX v c) k = false := by simpa using hb
        rw [if_pos (by rw [hb']; decide), if_pos (by rw [hb']; decide), if_neg hb, bd_s]
        exact ok_some ⟨_, by rw [nI_1], k1, fr_refl⟩
    · intro μ2 v2 k1
      simp only [un2]
      rw [if_pos (cond_end (CS_c k1) h8)]
  · rw [if_neg h1]
    refine ok_bd (ok_mono (c_loop (P := cowP s) (collStep (collW L c u) (callX v c)) g2 ?_ ?_) (fun _ h => ok_some ⟨h.1, fr_trans f1 h.2⟩))
    · intro k μ2 v2 hk k1 e f
      simp only [un2]
      rw [if_neg (cond_le (CS_c k1) h8 hk), gd_eq (zin_nI (by omega) (by omega)), nI_cl (by omega), bd_eq (isIn_eq (by omega)), bd_eq (isIn_eq (by omega))]
      simp only [jk]
      unfold collStep
      by_cases hb : tbit (callX v c) k = true
      · have hp : ¬ pc (callX v c) = 0 := by
          intro hp
          rw [pc0 hS hp, tbit_zero] at hb
          exact absurd hb (by decide)
        rw [if_neg (by rw [hb]; decide), if_neg (show ¬ (if nI (pc (callX v c)) ≤ 1 then (0 : Int32) else 1) = 0 by rw [if_neg (show ¬ nI (pc (callX v c)) ≤ 1 from nI_ge (a := 1) (by omega) (by omega))]; decide), if_pos hb]
        have eu : envS c v2 k = envS c u k := by
          refine env_congr ?_ ?_ ?_
          · rw [e]; exact itS_pres (α := Vec) (fun u => u 6) (fun k v => coll_6) _ _
          · intro j hj; rw [e]; exact colls_nd (by omega) (by omega) (Or.inl (by omega))
          · intro x hx; rw [e]; exact colls_nd (by omega) (by omega) (Or.inr (Nat.le_refl _))
        have m5 : ∀ j, j < 8 → isS (nd v2 j 5) := by
          intro j hj
          rw [e, colls_nd hj (by omega) (Or.inl (by omega))]
          exact hWu.2.2 j hj
        have fl : fr (cowP s) μ μ2 := fr_trans f1 f
        rw [cow_law fl hn]
        refine ok_bd (ok_bd2 (ok_mono (LawC_cow hL fl μ2 s c v2 (fun _ _ => rfl) rfl k1 m5 k hk 2 (by omega)) ?_))
        rintro ⟨z, μ3⟩ ⟨a1, a2⟩
        dsimp only at a1 a2 ⊢
        have k2 := CS_ns (x := 4) (a := collW L c u k) (CS_st k1 a2) hk (by omega)
        have ew : zmin 99 (3 + nI k + z) = collW L c u k := by
          rw [zmin_eq, a1, eu]
          rfl
        rw [zlt_s, ew, mset_at]
        refine ok_bd (ok_mono (c_note k2) ?_)
        rintro μ4 ⟨b1, b2⟩
        refine ok_some (ok_some ⟨_, by rw [nI_1], b1, ?_⟩)
        exact fr_trans (fr_mono a2 (fun o i h => Or.inr ⟨n, h⟩)) (fr_trans (fr_mset (cls_cow cls_nd)) (fr_mono b2 (fun o i h => cls_cow (not_clsP h))))
      · have hb' : tbit (callX v c) k = false := by simpa using hb
        rw [if_pos (by rw [hb']; decide), if_pos (by rw [hb']; decide), if_neg hb, bd_s]
        exact ok_some ⟨_, by rw [nI_1], k1, fr_refl⟩
    · intro μ2 v2 k1
      simp only [un2]
      rw [if_pos (cond_end (CS_c k1) h8)]
