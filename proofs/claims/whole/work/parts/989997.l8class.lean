/-! the class's side of law, before the new Law -/
section LCl
variable {y : ZLay} {μ : ZMem} {S : SV} {tp : Vec} {tl : Nat} {fa : Int32} {kp : Option SV} {ac : List (Nat × Vec)}
def lpP (o : ZId) (i : Nat) : Prop := scP o i ∨ (o = (0, 0, 0) ∧ (i = 1 ∨ i = 2))
theorem ll_sc {o : ZId} {i : Nat} (h : llP o i) : scP o i := by
  rcases h with (⟨rfl, -⟩ | ⟨rfl, -⟩ | rfl) | ⟨rfl, -⟩ | rfl | rfl | rfl <;> exact Or.inl ⟨rfl, by decide, by decide, rfl⟩
theorem c_lawPre (hc : RC y μ S tp tl fa kp ac) (ho : OA S tp tl kp ac) : ok (lawPre y μ) (fun μ8 => fr lpP μ μ8 ∧ (∀ f, pLaw tp tl = .inl f → f ≤ 400 ∧ μ8 (0, 0, 0) 2 = nI f ∧ RC y μ8 S tp 0 (nI f) kp ac) ∧
    ∀ ls, pLaw tp tl = .inr ls → μ8 (0, 0, 0) 2 = -1 ∧ RC y μ8 S tp 0 (-1) kp ac ∧ LL μ8 ls ∧ μ8 (0, 24, 0) 5 = nI ls.length ∧ lnG ls) := by
  have e0 : f_X11_useTape μ = some (nI tl, mset μ (0, 0, 0) 1 0) := by
    unfold f_X11_useTape
    rw [zlt_s, zlt_s, hc.2.2.1]
  obtain ⟨μ0, hμ0⟩ : ∃ μ0, μ0 = mset μ (0, 0, 0) 1 0 := ⟨_, rfl⟩
  have f0 : fr lpP μ μ0 := by rw [hμ0]; exact fr_mset (Or.inr ⟨rfl, Or.inl rfl⟩)
  have r0 : RC y μ0 S tp 0 fa kp ac := by rw [hμ0]; exact RC_tape hc (fr_mset (Or.inr ⟨rfl, rfl⟩)) mset_at (fun i hi => absurd hi (by omega))
  have t0 : ∀ i, i < tl → μ0 (0, 1, 0) i = tp i := fun i hi => by rw [hμ0, mset_ne (by decide)]; exact hc.2.1 i hi
  unfold lawPre
  rw [bd2_eq e0, ← hμ0]
  refine ok_b1 (c_load (y := y) (o := (0, 1, 0)) (T := tp) (e := tl) rfl ho.2.1 (fun i => ?_) t0 ho.2.2.1) ?_
  · rintro (⟨h, -⟩ | h | h) <;> exact absurd h (by decide)
  · rintro μ1 ⟨f1, g1, g2, N, tk⟩
    have r1 := RC_sc r0 (fr_mono f1 (fun o i h => tk_sc h))
    have cp1 : CP μ1 tp tl N (nxt tp tl 0) := ⟨tk, g1, 0, by have := tk.2.1; omega, g2, rfl⟩
    refine ok_b1 (c_readAll ho.2.1 cp1) ?_
    rintro μ2 ⟨f2, p1, p2⟩
    have r2 := RC_sc r1 (fr_mono f2 (fun o i h => ll_sc h))
    refine ok_some ⟨?_, fun f hf => ?_, fun ls hls => ?_⟩
    · exact fr_trans f0 (fr_trans (fr_mono f1 (fun o i h => Or.inl (tk_sc h))) (fr_trans (fr_mono f2 (fun o i h => Or.inl (ll_sc h))) (fr_mset (Or.inr ⟨rfl, Or.inr rfl⟩))))
    · obtain ⟨⟨-, q1, q2, -⟩, -⟩ := p1 f hf
      rw [q2]
      exact ⟨q1, mset_at, RC_fault r2⟩
    · obtain ⟨⟨q, -, cq, -⟩, l1, l2, l3⟩ := p2 ls hls
      rw [cq]
      refine ⟨mset_at, RC_fault r2, ?_, ?_, l3⟩
      · obtain ⟨m1, m2, m3⟩ := l1
        refine ⟨by rw [mset_ne (by decide)]; exact m1, fun i hi => by rw [mset_ne (by decide)]; exact m2 i hi, fun j hj => ?_⟩
        rw [mset_ne (by decide), mset_ne (by decide), mset_ne (by decide)]
        exact m3 j hj
      · rw [mset_ne (by decide)]; exact l2
end LCl
