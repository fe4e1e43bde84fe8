/-! the class: waiting -/
theorem c_waits {μ : ZMem} {s0 c : Nat} {v : Vec} (h : CS μ s0 c v) :
    ok (lp (σ := Int32 × Int32 × ZMem) (fun q => un3 q (fun (x1 : Int32) (x2 : Int32) (μ3 : ZMem) => if (μ3 (1, s0, 0) 4) ≤ x2 then some (.inr (x1, μ3)) else gd (zin x2 8) (zl2 (α := Int32) (β := ZMem) (if (μ3 (3, s0, x2.toNatClampNeg) 3) = 1 then zlt (mset μ3 (3, s0, x2.toNatClampNeg) 4 (zmax 0 ((μ3 (3, s0, x2.toNatClampNeg) 4) - 1))) (fun (μ11 : ZMem) => zlt (α := Int32) (if (μ11 (3, s0, x2.toNatClampNeg) 4) = 0 then (f_X11_bit x2) else 0) (fun (x13 : Int32) => zlt (x1 ||| x13) (fun (x14 : Int32) => (x14, μ11)))) else (x1, μ3)) (fun (x9 : Int32) (μ10 : ZMem) => some (.inl (x9, (x2 + 1), μ10)))))) FU (0, 0, μ))
      (fun q => q.1 = callX v c ∧ CS q.2 s0 c (itS waitStep c v) ∧ fr (clsP s0) μ q.2) := by
  have h8 := h.1
  refine ok_mono (c_loop3 (P := clsP s0) callT h ?_ ?_) ?_
  · intro k μ1 q hk h1 e f
    simp only [un3]
    rw [if_neg (cond_le (CS_c h1) h8 hk), gd_eq (zin_nI (by omega) (by omega)), nI_cl (by omega), CS_nd h1 hk (by omega), CS_nd h1 hk (by omega), zmax_eq]
    simp only [zlt, mset_at, x11_bit]
    unfold callT waitStep
    by_cases h3 : nd q.1 k 3 = 1
    · rw [if_pos h3, if_pos h3, if_pos h3, ns_near (by omega)]
      exact ok_some ⟨_, by rw [nI_1], CS_ns h1 hk (by omega), fr_mset cls_nd⟩
    · rw [if_neg h3, if_neg h3, if_neg h3]
      exact ok_some ⟨_, by rw [nI_1], h1, fr_refl⟩
  · intro x μ1 v1 h1
    simp only [un3]
    rw [if_pos (cond_end (CS_c h1) h8)]
  · rintro q ⟨g1, g2, g3⟩
    rw [call_sets c h8] at g1 g2
    exact ⟨g1, g2, g3⟩
