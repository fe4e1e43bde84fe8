/-! the class reads a law's condition, whole -/
section CA
variable {T : Vec} {e N : Nat}
theorem cOut_rd {μ μ' μ2 : ZMem} {n : Nat} {R : PR} (f : fr rdP μ μ') (h : cOut T e N μ' n R μ2) : cOut T e N μ n R μ2 :=
  ⟨fr_trans (fr_mono f (fun o i h => rd_lr h)) h.1, h.2.1, fun q' cs hr => ⟨(h.2.2 q' cs hr).1, EM_rd0 f (h.2.2 q' cs hr).2⟩⟩
theorem CQ_rd {μ μ' : ZMem} {q q' n : Nat} (h : CQ μ T e N q n) (f : fr rdP μ μ') (h2 : CP μ' T e N q') (hq : n ≤ q') (hg : gq T e q') : CQ μ' T e N q' n :=
  ⟨h2, by rw [f.1 _ _ (by rintro ⟨h, -⟩; exact absurd h (by decide))]; exact h.2.1, hq, hg⟩
theorem cOut_f {μ0 μ : ZMem} {n f : Nat} {R : PR} (hr : R = .inl f) (f0 : fr lrP μ0 μ) (h : FQ μ T e N f) : cOut T e N μ0 n R μ := by
  rw [hr]
  exact ⟨f0, fun f' h' => (by cases h'; exact h), fun q' cs' h => by cases h⟩
theorem cOut_r {μ0 μ : ZMem} {n q : Nat} {cs : List Int32} {R : PR} (hr : R = .inr (q, cs)) (f0 : fr lrP μ0 μ) (h : CP μ T e N q) (h2 : EM μ0 μ n cs) : cOut T e N μ0 n R μ := by
  rw [hr]
  exact ⟨f0, fun f' h' => (by cases h'), fun q' cs' h' => by cases h'; exact ⟨h, h2⟩⟩
/-- reading something, then writing its sign down -/
theorem c_then {op : Int32} {F : ZMem → Option ZMem} {P : Nat → PR} (he : e ≤ 400) (hP : PG T e P) (hF : RD T e N F P) {μ0 μ : ZMem} {q n : Nat} {a : List Int32} (hC : CP μ T e N q) (hE : EM μ0 μ n a) (hl : n + a.length < q) (hg : gq T e q) (f0 : fr lrP μ0 μ) :
    ok (bd (F μ) (fun μ2 => bd (f_X4_emit op μ2) (fun μ3 => some μ3))) (cOut T e N μ0 n (prB (P q) (fun q2 b => .inr (q2, a ++ (b ++ [op]))))) := by
  refine ok_b1 (hF μ q _ ⟨hC, hE.1, by omega, hg⟩) ?_
  rintro μ2 ⟨o1, o2, o3⟩
  cases hp : P q with
  | inl f =>
    refine ok_b1 (f_emit (c := op) (o2 f hp)) ?_
    rintro μ3 ⟨a1, a2⟩
    exact ok_some (cOut_f rfl (fr_trans f0 (fr_trans o1 a1)) a2)
  | inr qc =>
    obtain ⟨q2, b⟩ := qc
    obtain ⟨c3, e3⟩ := o3 q2 b hp
    obtain ⟨p1, p2, p3⟩ := (hP _ hg).2 q2 b hp
    have hq2 := p1.1
    rw [bd_eq (c_emit e3.1 (by omega))]
    exact ok_some (cOut_r rfl (fr_trans f0 (fr_trans o1 (fr_mono emit_fr (fun o i h => Or.inr h)))) (CP_emit c3) (EM_app hE (EM_app e3 EM_emit)))
theorem c_plain (he : e ≤ 400) {μ : ZMem} {q n : Nat} (hq : CQ μ T e N q n) :
    ok (bd2 (f_X8_takeAny 1007 1009 μ) (fun (x23 : Int32) (μ24 : ZMem) => if x23 = (-1) then bd (f_X4_readSum μ24) (fun (μ27 : ZMem) => bd2 (f_X8_takes 2060 μ27) (fun (x29 : Int32) (μ30 : ZMem) => zlt (α := Int32) (if x29 = 0 then 2062 else 2060) (fun (x32 : Int32) => jk (fun (μ34 : ZMem) => bd (f_X4_readSum μ34) (fun (μ43 : ZMem) => bd (f_X4_emit x32 μ43) (fun (μ45 : ZMem) => some μ45))) (fun k35 => if x32 = 2062 then bd2 (f_X8_takes 2062 μ30) (fun (x37 : Int32) (μ38 : ZMem) => if x37 = 0 then bd (f_X8_fail μ38) (fun (μ41 : ZMem) => some μ41) else k35 μ38) else k35 μ30)))) else bd (f_X4_emit x23 μ24) (fun (μ47 : ZMem) => some μ47))) (cOut T e N μ n (pPlain T e q)) := by
  obtain ⟨hC, hl, hnq, hg⟩ := id hq
  have hn4 := CQ_len he hq
  have hqe := hg.1
  refine ok_b2 (c_takeAny hC (by decide)) ?_
  rintro x μ1 ⟨t1, t2, t3⟩
  dsimp only at t1 t2 t3
  have hl1 : μ1 (0, 24, 0) 6 = nI n := by rw [t2.1 _ _ (by rintro ⟨h, -⟩; exact absurd h (by decide))]; exact hl
  unfold pPlain
  by_cases hp : 1007 ≤ cd T e q ∧ cd T e q ≤ 1009
  · rw [if_pos hp] at t1 t3 ⊢
    subst t1
    have hqe : q < e := cd_lt (n3001 hp.2 (by decide))
    rw [if_neg (show ¬ cd T e q = -1 by intro h; rw [h] at hp; exact absurd hp.1 (by decide)), bd_eq (c_emit hl1 (by omega))]
    exact ok_some (cOut_rd t2 (cOut_r rfl (fr_mono emit_fr (fun o i h => Or.inr h)) (CP_emit t3) EM_emit))
  · rw [if_neg hp] at t1 t3 ⊢
    rw [if_pos t1]
    have hS : PG T e (pSum T e) := chain_g he (by decide) (part_g he)
    refine ok_b1 (RD_sum he μ1 q n (CQ_rd hq t2 t3 hnq hg)) ?_
    rintro μ2 ⟨o1, o2, o3⟩
    have f2 : fr lrP μ μ2 := fr_trans (fr_mono t2 (fun o i h => rd_lr h)) o1
    cases hs : pSum T e q with
    | inl f =>
      have hf := o2 f hs
      refine ok_b2 (f_takes (c := 2060) hf.1) ?_
      rintro x2 μ3 ⟨r1, r2, r3⟩
      dsimp only at r1 r2 r3
      have hf3 := FP_rd hf r2 r3
      have f3 := fr_trans f2 (fr_mono r2 (fun o i h => rd_lr h))
      rw [r1, zlt_s, jk_s, if_pos rfl, if_pos rfl]
      refine ok_b2 (f_takes (c := 2062) hf3.1) ?_
      rintro x3 μ4 ⟨r4, r5, r6⟩
      dsimp only at r4 r5 r6
      rw [if_pos r4, bd_eq (f_fail r6)]
      exact ok_some (cOut_f rfl (fr_trans f3 (fr_mono r5 (fun o i h => rd_lr h))) (FP_rd hf3 r5 r6))
    | inr qc =>
      obtain ⟨q1, a⟩ := qc
      obtain ⟨c2, e2⟩ := o3 q1 a hs
      replace e2 := EM_rd0 t2 e2
      obtain ⟨p1, p2, p3⟩ := (hS _ hg).2 q1 a hs
      have hq1 := p1.1
      refine ok_b2 (c_takes c2 (show ¬ (2060 : Int32) = 3001 by decide)) ?_
      rintro x2 μ3 ⟨r1, r2, r3⟩
      dsimp only at r1 r2 r3
      have f3 := fr_trans f2 (fr_mono r2 (fun o i h => rd_lr h))
      have e3 := EM_rd e2 r2
      show ok _ (cOut T e N μ n (if cd T e q1 = 2060 ∨ cd T e q1 = 2062 then prB (pSum T e (nx T e q1)) (fun q2 b => .inr (q2, a ++ (b ++ [cd T e q1]))) else .inl q1))
      rw [r1, zlt_s, jk_s]
      by_cases c60 : cd T e q1 = 2060
      · have hqe1 : q1 < e := cd_lt (by rw [c60]; decide)
        have hn := nx_lt (T := T) he hqe1
        rw [if_pos c60] at r3
        rw [if_pos (Or.inl c60), decide_eq_true c60, if_neg (show ¬ b2i true = 0 by decide), if_neg (by decide), c60]
        exact c_then he hS (RD_sum he) r3 e3 (by omega) (gq_nx he hqe1) f3
      · rw [if_neg c60] at r3
        rw [decide_eq_false c60, if_pos (show b2i false = 0 by decide), if_pos rfl]
        refine ok_b2 (c_takes r3 (show ¬ (2062 : Int32) = 3001 by decide)) ?_
        rintro x4 μ4 ⟨s1, s2, s3⟩
        dsimp only at s1 s2 s3
        have f4 := fr_trans f3 (fr_mono s2 (fun o i h => rd_lr h))
        have e4 := EM_rd e3 s2
        by_cases c62 : cd T e q1 = 2062
        · have hqe1 : q1 < e := cd_lt (by rw [c62]; decide)
          have hn := nx_lt (T := T) he hqe1
          rw [if_pos c62] at s3
          rw [s1, if_pos (Or.inr c62), decide_eq_true c62, if_neg (show ¬ b2i true = 0 by decide), c62]
          exact c_then he hS (RD_sum he) s3 e4 (by omega) (gq_nx he hqe1) f4
        · rw [if_neg c62] at s3
          rw [s1, if_neg (show ¬ (cd T e q1 = 2060 ∨ cd T e q1 = 2062) by rintro (h | h); exact c60 h; exact c62 h), decide_eq_false c62, if_pos (show b2i false = 0 by decide)]
          refine ok_b1 (c_fail (by omega) s3) ?_
          rintro μ5 ⟨u1, u2⟩
          exact ok_some (cOut_f rfl (fr_trans f4 (fr_mono u1 (fun o i h => rd_lr h))) (FQ_of (by omega) e4.1 u1 u2))
theorem atom_pl {r q : Nat} (h1 : ¬ cd T e q = 1016) (h2 : ¬ cd T e q = 2040) : pAtom T e r q = pPlain T e q := by
  cases r with
  | zero => unfold pAtom; rw [if_neg (by rintro (h | h); exact h1 h; exact h2 h)]
  | succ r => unfold pAtom; rw [if_neg h1, if_neg h2]
theorem RD_atomG (he : e ≤ 400) {recAny recAtom : Int32 → ZMem → Option ZMem} {r d : Nat} (hd : d + r = 6) (hrec : ∀ r', r = r' + 1 → RD T e N (recAny (nI (d + 1))) (pSome T e (pAtom T e r')) ∧ RD T e N (recAtom (nI (d + 1))) (pAtom T e r')) :
    RD T e N (g_X4_readAtom recAny recAtom (nI d)) (pAtom T e r) := by
  intro μ q n hq
  obtain ⟨hC, hl, hnq, hg⟩ := id hq
  have hn4 := CQ_len he hq
  have hqe := hg.1
  unfold g_X4_readAtom
  rw [bd_eq (c_isAt hC), jk_s, bd_eq (c_isAt hC)]
  by_cases h16 : cd T e q = 1016
  · have h40 : ¬ cd T e q = 2040 := by rw [h16]; decide
    have hqe1 : q < e := cd_lt (by rw [h16]; decide)
    have hn := nx_lt (T := T) he hqe1
    rw [decide_eq_true h16, decide_eq_false h40, if_pos (show b2i false = 0 by decide), if_neg (show ¬ b2i true = 0 by decide), bd_s, jk_s, if_neg (by decide)]
    cases r with
    | zero =>
      have hd6 : d = 6 := by omega
      subst hd6
      rw [if_neg (show ¬ nI 6 < (6 : Int32) by decide)]
      refine ok_b1 (c_fail (by omega) hC) ?_
      rintro μ1 ⟨a, b⟩
      exact ok_some (cOut_f (by unfold pAtom; rw [if_pos (Or.inl h16)]) (fr_mono a (fun o i h => rd_lr h)) (FQ_of hn4 hl a b))
    | succ r =>
      obtain ⟨ra, rt⟩ := hrec r rfl
      rw [if_pos (show nI d < (6 : Int32) from nI_lt (b := 6) (by omega) (by omega))]
      refine ok_b2 (c_takes hC (show ¬ (1016 : Int32) = 3001 by decide)) ?_
      rintro x μ1 ⟨t1, t2, t3⟩
      dsimp only at t1 t2 t3
      rw [if_pos h16] at t3
      rw [t1, decide_eq_true h16, if_neg (show ¬ b2i true = 0 by decide), nI_1]
      have hl1 : μ1 (0, 24, 0) 6 = nI n := by rw [t2.1 _ _ (by rintro ⟨h, -⟩; exact absurd h (by decide))]; exact hl
      have := c_then (op := 1016) he (atom_g he r) rt (μ0 := μ1) (a := []) t3 (EM_nil hl1) (by simp; omega) (gq_nx he hqe1) fr_refl
      refine ok_mono this (fun μ2 h => ?_)
      rw [show pAtom T e (r + 1) q = prB (pAtom T e r (nx T e q)) (fun q' c => .inr (q', c ++ [1016])) by rw [pAtom, if_pos h16]]
      exact cOut_rd t2 h
  · by_cases h40 : cd T e q = 2040
    · have hqe1 : q < e := cd_lt (by rw [h40]; decide)
      have hn := nx_lt (T := T) he hqe1
      rw [decide_eq_true h40, if_neg (show ¬ b2i true = 0 by decide), bd_s, jk_s, if_neg (by decide)]
      cases r with
      | zero =>
        have hd6 : d = 6 := by omega
        subst hd6
        rw [if_neg (show ¬ nI 6 < (6 : Int32) by decide)]
        refine ok_b1 (c_fail (by omega) hC) ?_
        rintro μ1 ⟨a, b⟩
        exact ok_some (cOut_f (by unfold pAtom; rw [if_pos (Or.inr h40)]) (fr_mono a (fun o i h => rd_lr h)) (FQ_of hn4 hl a b))
      | succ r =>
        obtain ⟨ra, rt⟩ := hrec r rfl
        rw [if_pos (show nI d < (6 : Int32) from nI_lt (b := 6) (by omega) (by omega))]
        refine ok_b2 (c_takes hC (show ¬ (1016 : Int32) = 3001 by decide)) ?_
        rintro x μ1 ⟨t1, t2, t3⟩
        dsimp only at t1 t2 t3
        rw [if_neg h16] at t3
        rw [t1, decide_eq_false h16, if_pos (show b2i false = 0 by decide)]
        refine ok_b2 (c_takes t3 (show ¬ (2040 : Int32) = 3001 by decide)) ?_
        rintro x2 μ2 ⟨u1, u2, u3⟩
        dsimp only at u1 u2 u3
        rw [if_pos h40] at u3
        rw [u1, decide_eq_true h40, if_neg (show ¬ b2i true = 0 by decide), nI_1]
        have f2 := fr_trans t2 u2
        refine ok_mono (Q := cOut T e N μ2 n (pAtom T e (r + 1) q)) ?_ (fun μ3 h => cOut_rd f2 h)
        have hA := some_g he (atom_g (T := T) he r)
        refine ok_b1 (ra μ2 _ n (CQ_rd hq f2 u3 (by omega) (gq_nx he hqe1))) ?_
        rintro μ3 ⟨o1, o2, o3⟩
        rw [show pAtom T e (r + 1) q = prB (pSome T e (pAtom T e r) (nx T e q)) (fun q' c => if cd T e q' = 2041 then .inr (nx T e q', c) else .inl q') by rw [pAtom, if_neg h16, if_pos h40]]
        cases hs : pSome T e (pAtom T e r) (nx T e q) with
        | inl f =>
          have hf := o2 f hs
          refine ok_b2 (f_takes (c := 2041) hf.1) ?_
          rintro x3 μ4 ⟨r1, r2, r3⟩
          dsimp only at r1 r2 r3
          rw [if_pos r1, f_fail r3]
          exact ok_some (cOut_f rfl (fr_trans o1 (fr_mono r2 (fun o i h => rd_lr h))) (FP_rd hf r2 r3))
        | inr qc =>
          obtain ⟨q1, c⟩ := qc
          obtain ⟨c3, e3⟩ := o3 q1 c hs
          obtain ⟨p1, p2, p3⟩ := (hA _ (gq_nx he hqe1)).2 q1 c hs
          have hq1 := p1.1
          refine ok_b2 (c_takes c3 (show ¬ (2041 : Int32) = 3001 by decide)) ?_
          rintro x3 μ4 ⟨r1, r2, r3⟩
          dsimp only at r1 r2 r3
          have f4 := fr_trans o1 (fr_mono r2 (fun o i h => rd_lr h))
          have e4 := EM_rd e3 r2
          show ok _ (cOut T e N μ2 n (if cd T e q1 = 2041 then .inr (nx T e q1, c) else .inl q1))
          by_cases c41 : cd T e q1 = 2041
          · rw [if_pos c41] at r3
            rw [r1, decide_eq_true c41, if_neg (show ¬ b2i true = 0 by decide), if_pos c41]
            exact ok_some (cOut_r rfl f4 r3 e4)
          · rw [if_neg c41] at r3
            rw [r1, decide_eq_false c41, if_pos (show b2i false = 0 by decide), if_neg c41]
            refine ok_b1 (ok_b1 (c_fail (by omega) r3) (fun μ5 h => ok_some h)) ?_
            rintro μ5 ⟨v1, v2⟩
            exact ok_some (cOut_f rfl (fr_trans f4 (fr_mono v1 (fun o i h => rd_lr h))) (FQ_of (by omega) e4.1 v1 v2))
    · rw [decide_eq_false h16, decide_eq_false h40, if_pos (show b2i false = 0 by decide), if_pos (show b2i false = 0 by decide), bd_s, jk_s, if_pos rfl]
      refine ok_b2 (c_takes hC (show ¬ (1016 : Int32) = 3001 by decide)) ?_
      rintro x μ1 ⟨t1, t2, t3⟩
      dsimp only at t1 t2 t3
      rw [if_neg h16] at t3
      rw [t1, decide_eq_false h16, if_pos (show b2i false = 0 by decide)]
      refine ok_b2 (c_takes t3 (show ¬ (2040 : Int32) = 3001 by decide)) ?_
      rintro x2 μ2 ⟨u1, u2, u3⟩
      dsimp only at u1 u2 u3
      rw [if_neg h40] at u3
      rw [u1, decide_eq_false h40, if_pos (show b2i false = 0 by decide), atom_pl h16 h40]
      have f2 := fr_trans t2 u2
      exact ok_mono (c_plain he (CQ_rd hq f2 u3 hnq hg)) (fun μ3 h => cOut_rd f2 h)
theorem RD_atomN (he : e ≤ 400) : ∀ r d, d + r = 6 → RD T e N (f_X4_atomN (r + 2) (nI d)) (pAtom T e r)
  | 0, d, hd => by
    show RD T e N (fun μ => f_X4_atomN 2 (nI d) μ) _
    exact RD_atomG he hd (fun r' h => absurd h (by omega))
  | r + 1, d, hd => by
    have ih := RD_atomN he r (d + 1) (by omega)
    refine RD_atomG (recAny := g_X4_readAny (g_X4_readEach (f_X4_atomN (r + 2)))) (recAtom := f_X4_atomN (r + 2)) he hd (fun r' h => ?_)
    obtain rfl : r = r' := by omega
    exact ⟨RD_any he (atom_g he r) ih, ih⟩
theorem RD_readAny (he : e ≤ 400) : RD T e N (f_X4_readAny 0) (pSome T e (pAtom T e 6)) := RD_any he (atom_g he 6) (RD_atomN he 6 0 rfl)
end CA
