/-! the class reads a law's condition -/
def CQ (μ : ZMem) (T : Vec) (e N q n : Nat) : Prop := CP μ T e N q ∧ μ (0, 24, 0) 6 = nI n ∧ n ≤ q ∧ gq T e q
def cOut (T : Vec) (e N : Nat) (μ : ZMem) (n : Nat) (R : PR) (μ' : ZMem) : Prop := fr lrP μ μ' ∧ (∀ f, R = .inl f → FQ μ' T e N f) ∧ ∀ q' cs, R = .inr (q', cs) → CP μ' T e N q' ∧ EM μ μ' n cs
def RD (T : Vec) (e N : Nat) (F : ZMem → Option ZMem) (P : Nat → PR) : Prop := ∀ μ q n, CQ μ T e N q n → ok (F μ) (cOut T e N μ n (P q))
section CR
variable {T : Vec} {e N : Nat}
theorem FP_rd {μ μ' : ZMem} {f : Nat} (h : FQ μ T e N f) (g : fr rdP μ μ') (h2 : FP μ' T e N f) : FQ μ' T e N f := by
  obtain ⟨-, n, hn, hl⟩ := h
  exact ⟨h2, n, hn, by rw [g.1 _ _ (by rintro ⟨h, -⟩; exact absurd h (by decide))]; exact hl⟩
theorem FQ_of {μ μ' : ZMem} {f n : Nat} (hn : n ≤ 400) (hl : μ (0, 24, 0) 6 = nI n) (g : fr rdP μ μ') (h2 : FP μ' T e N f) : FQ μ' T e N f :=
  ⟨h2, n, hn, by rw [g.1 _ _ (by rintro ⟨h, -⟩; exact absurd h (by decide))]; exact hl⟩
theorem CP_emit {μ : ZMem} {q n : Nat} {c : Int32} (h : CP μ T e N q) : CP (mset (mset μ (0, 28, 0) n c) (0, 24, 0) 6 (nI (n + 1))) T e N q := CP_fr h emit_fr emit_ok
theorem cd_ne {q : Nat} {op : Int32} (hop : ¬ op = 3001) (hq : e ≤ q) : ¬ cd T e q = op := by
  rw [cd_e hq]
  exact fun h => hop h.symm
/-- the loops of readEach and readAny -/
theorem c_loopO {op : Int32} {F : ZMem → Option ZMem} {P : Nat → PR} (he : e ≤ 400) (hop : ¬ op = 3001) (hP : PG T e P) (hF : RD T e N F P) {μ μ0 : ZMem} {q n : Nat} {cs : List Int32} (hC : CP μ T e N q) (hE : EM μ0 μ n cs) (hl : n + cs.length ≤ q) (hg : gq T e q) (f0 : fr lrP μ0 μ) :
    ok (lp (σ := Int32 × ZMem) (fun q => un2 q (fun (x3 : Int32) (μ4 : ZMem) => if 400 ≤ x3 then some (.inr μ4) else bd2 (f_X8_takes op μ4) (fun (x8 : Int32) (μ9 : ZMem) => if x8 = 0 then some (.inr μ9) else bd (F μ9) (fun (μ12 : ZMem) => bd (f_X4_emit op μ12) (fun (μ14 : ZMem) => some (.inl ((x3 + 1), μ14))))))) FU (0, μ)) (cOut T e N μ0 n (opL T e op P 401 q cs)) := by
  obtain ⟨R, hR⟩ : ∃ R, R = opL T e op P 401 q cs := ⟨_, rfl⟩
  rw [← hR]
  refine ok_lp (fun j s => (∃ k m q1 cs1, s.1 = nI k ∧ k ≤ q1 ∧ fr lrP μ0 s.2 ∧ CP s.2 T e N q1 ∧ EM μ0 s.2 n cs1 ∧ n + cs1.length ≤ q1 ∧ gq T e q1 ∧ e < q1 + m ∧ opL T e op P m q1 cs1 = R ∧ j = e - q1 + 1) ∨ (∃ f, R = .inl f ∧ FQ s.2 T e N f ∧ fr lrP μ0 s.2 ∧ j = 0)) ?_ (N := e - q + 1) (Or.inl ⟨0, 401, q, cs, rfl, by omega, f0, hC, hE, hl, hg, by omega, hR.symm, rfl⟩) (FU_lt (by omega))
  rintro j ⟨x, μ1⟩ (⟨k, m, q1, cs1, h1, h2, f1, c1, e1, l1, g1, hm, hr, hj⟩ | ⟨f, h1, h2, h3, h4⟩)
  · dsimp only at h1 f1 c1 e1
    subst h1
    have hq1 : q1 ≤ e := g1.1
    obtain ⟨m', rfl⟩ : ∃ m', m = m' + 1 := ⟨m - 1, by omega⟩
    rw [un2_s]
    unfold opL at hr
    by_cases hk : 400 ≤ k
    · rw [if_pos (show (400 : Int32) ≤ nI k from nI_le (a := 400) hk (by omega))]
      rw [if_neg (cd_ne hop (show e ≤ q1 by omega))] at hr
      subst hr
      exact ok_some ⟨f1, fun f h => (by cases h), fun q' cs' h => by cases h; exact ⟨c1, e1⟩⟩
    · rw [if_neg (show ¬ (400 : Int32) ≤ nI k from nI_ge (b := 400) (by omega) (by omega))]
      refine ok_b2 (c_takes c1 hop) ?_
      rintro x8 μ2 ⟨t1, t2, t3⟩
      dsimp only at t1 t2 t3
      subst t1
      have f2 : fr lrP μ0 μ2 := fr_trans f1 (fr_mono t2 (fun o i h => rd_lr h))
      have e2 := EM_rd e1 t2
      by_cases hc : cd T e q1 = op
      · rw [if_pos hc] at t3 hr
        rw [if_neg (by rw [decide_eq_true hc]; decide)]
        have hqe : q1 < e := cd_lt (by rw [hc]; exact hop)
        have hn := nx_lt (T := T) he hqe
        have hgn := gq_nx (T := T) he hqe
        refine ok_b1 (hF μ2 _ _ ⟨t3, e2.1, by omega, hgn⟩) ?_
        rintro μ3 ⟨o1, o2, o3⟩
        have f3 := fr_trans f2 o1
        cases hp : P (nx T e q1) with
        | inl f =>
          rw [hp] at hr
          refine ok_b1 (f_emit (c := op) (o2 f hp)) ?_
          rintro μ4 ⟨r1, r2⟩
          exact ok_some ⟨0, by omega, Or.inr ⟨f, hr.symm, r2, fr_trans f3 r1, rfl⟩⟩
        | inr qc =>
          obtain ⟨q', c⟩ := qc
          rw [hp] at hr
          change opL T e op P m' q' (cs1 ++ (c ++ [op])) = R at hr
          obtain ⟨p1, p2, p3⟩ := (hP _ hgn).2 q' c hp
          obtain ⟨c3, e3⟩ := o3 q' c hp
          have hq' : q' ≤ e := p1.1
          rw [bd_eq (c_emit e3.1 (by omega))]
          refine ok_some ⟨e - q' + 1, by omega, Or.inl ⟨k + 1, m', q', cs1 ++ (c ++ [op]), nI_1 k, by omega, fr_trans f3 (fr_mono emit_fr (fun o i h => Or.inr h)), CP_emit c3, EM_app e2 (EM_app e3 EM_emit), by simp; omega, p1, by omega, hr, rfl⟩⟩
      · rw [if_neg hc] at t3 hr
        rw [if_pos (by rw [decide_eq_false hc]; decide)]
        subst hr
        exact ok_some ⟨f2, fun f h => (by cases h), fun q' cs' h => by cases h; exact ⟨t3, e2⟩⟩
  · dsimp only at h2 h3
    rw [un2_s]
    have out : ∀ μ2, FQ μ2 T e N f → fr lrP μ0 μ2 → cOut T e N μ0 n R μ2 := by
      intro μ2 a b
      rw [h1]
      exact ⟨b, fun f' h => (by cases h; exact a), fun q' cs' h => by cases h⟩
    by_cases hk : (400 : Int32) ≤ x
    · rw [if_pos hk]
      exact ok_some (out μ1 h2 h3)
    · rw [if_neg hk]
      refine ok_b2 (f_takes (c := op) h2.1) ?_
      rintro x8 μ2 ⟨t1, t2, t3⟩
      dsimp only at t1 t2 t3
      rw [if_pos t1]
      exact ok_some (out μ2 (FP_rd h2 t2 t3) (fr_trans h3 (fr_mono t2 (fun o i h => rd_lr h))))
theorem CQ_len {μ : ZMem} {q n : Nat} (he : e ≤ 400) (h : CQ μ T e N q n) : n ≤ 400 := by
  have h1 := h.2.2.1
  have h2 := h.2.2.2.1
  omega
theorem c_each {op : Int32} {F : ZMem → Option ZMem} {P : Nat → PR} (he : e ≤ 400) (hop : ¬ op = 3001) (hP : PG T e P) (hF : RD T e N F P) {μ : ZMem} {q n : Nat} (hq : CQ μ T e N q n) :
    ok (bd (F μ) (fun (μ2 : ZMem) => bd (lp (σ := Int32 × ZMem) (fun q => un2 q (fun (x3 : Int32) (μ4 : ZMem) => if 400 ≤ x3 then some (.inr μ4) else bd2 (f_X8_takes op μ4) (fun (x8 : Int32) (μ9 : ZMem) => if x8 = 0 then some (.inr μ9) else bd (F μ9) (fun (μ12 : ZMem) => bd (f_X4_emit op μ12) (fun (μ14 : ZMem) => some (.inl ((x3 + 1), μ14))))))) FU (0, μ2)) (fun (μ5 : ZMem) => some μ5))) (cOut T e N μ n (chain T e op P q)) := by
  refine ok_b1 (hF μ q n hq) ?_
  rintro μ2 ⟨o1, o2, o3⟩
  unfold chain
  cases hp : P q with
  | inl f =>
    have hf := o2 f hp
    refine ok_b1 (P := fun μ3 => fr lrP μ μ3 ∧ FQ μ3 T e N f) ?_ ?_
    · refine ok_lp (fun j s => s.1 = 0 ∧ s.2 = μ2 ∧ j = 0) ?_ (N := 0) ⟨rfl, rfl, rfl⟩ (FU_lt (by omega))
      rintro j ⟨x, μ1⟩ ⟨h1, h2, h3⟩
      dsimp only at h1 h2
      subst h1 h2
      rw [un2_s, if_neg (by decide)]
      refine ok_b2 (f_takes (c := op) hf.1) ?_
      rintro x8 μ3 ⟨t1, t2, t3⟩
      dsimp only at t1 t2 t3
      rw [if_pos t1]
      exact ok_some ⟨fr_trans o1 (fr_mono t2 (fun o i h => rd_lr h)), FP_rd hf t2 t3⟩
    · rintro μ3 ⟨a, b⟩
      exact ok_some ⟨a, fun f' h => (by cases h; exact b), fun q' cs' h => by cases h⟩
  | inr qc =>
    obtain ⟨q', c⟩ := qc
    obtain ⟨c3, e3⟩ := o3 q' c hp
    obtain ⟨p1, p2, p3⟩ := (hP _ hq.2.2.2).2 q' c hp
    have := hq.2.2.1
    exact ok_b1 (c_loopO he hop hP hF c3 e3 (by omega) p1 o1) (fun μ5 h => ok_some h)
theorem RD_each {F : Int32 → ZMem → Option ZMem} {d : Int32} {P : Nat → PR} (he : e ≤ 400) (hP : PG T e P) (hF : RD T e N (F d) P) : RD T e N (g_X4_readEach F d) (chain T e 1015 P) :=
  fun μ q n hq => c_each (op := 1015) he (by decide) hP hF hq
theorem RD_any {F : Int32 → ZMem → Option ZMem} {d : Int32} {P : Nat → PR} (he : e ≤ 400) (hP : PG T e P) (hF : RD T e N (F d) P) : RD T e N (g_X4_readAny (g_X4_readEach F) d) (pSome T e P) :=
  fun μ q n hq => c_each (op := 1014) he (by decide) (chain_g he (by decide) hP) (RD_each he hP hF) hq
/-- sums -/
theorem RD_sum (he : e ≤ 400) : RD T e N f_X4_readSum (pSum T e) := by
  intro μ q n hq
  obtain ⟨hC, hl, hnq, hg⟩ := id hq
  have hn4 := CQ_len he hq
  unfold f_X4_readSum
  obtain ⟨R, hR⟩ : ∃ R, R = pSum T e q := ⟨_, rfl⟩
  rw [← hR]
  refine ok_b1 (P := fun z : ZMem ⊕ ZMem => cOut T e N μ n R (sm z (fun a => a) (fun a => a))) (ok_lp (fun j s => (s = (1, 0, μ) ∧ j = e - q + 1) ∨
      (∃ k m q1 cs1, s.1 = 1 ∧ s.2.1 = nI k ∧ 0 < k ∧ 2 * k ≤ q1 ∧ fr lrP μ s.2.2 ∧ CP s.2.2 T e N q1 ∧ EM μ s.2.2 n cs1 ∧ n + cs1.length < q1 ∧ gq T e q1 ∧ e < q1 + m ∧ prB (pPart T e q1) (fun q' c => opL T e 2043 (pPart T e) m q' (cs1 ++ (c ++ [2043]))) = R ∧ j = e - q1 + 1) ∨
      (∃ q1 cs1, s.1 = 0 ∧ fr lrP μ s.2.2 ∧ CP s.2.2 T e N q1 ∧ EM μ s.2.2 n cs1 ∧ R = .inr (q1, cs1) ∧ j = 0)) ?_ (N := e - q + 1) (Or.inl ⟨rfl, rfl⟩) (FU_lt (by omega))) ?_
  · have hfail : ∀ (μ2 : ZMem) (q1 : Nat), q1 ≤ 400 → R = .inl q1 → fr lrP μ μ2 → CP μ2 T e N q1 → (∃ k, k ≤ 400 ∧ μ2 (0, 24, 0) 6 = nI k) → ∀ Q : (Int32 × Int32 × ZMem) ⊕ (ZMem ⊕ ZMem) → Prop, (∀ μ3, cOut T e N μ n R μ3 → Q (.inr (.inr μ3))) → ok (bd (f_X8_fail μ2) (fun (μ21 : ZMem) => some (.inr (.inr μ21)))) Q := by
      rintro μ2 q1 hq4 hr f2 c2 ⟨k, hk, hl2⟩ Q hQ
      refine ok_b1 (c_fail hq4 c2) ?_
      rintro μ3 ⟨a, b⟩
      refine ok_some (hQ μ3 ?_)
      rw [hr]
      exact ⟨fr_trans f2 (fr_mono a (fun o i h => rd_lr h)), fun f' h => (by cases h; exact FQ_of hk hl2 a b), fun q' cs' h => by cases h⟩
    rintro j ⟨x, y, μ1⟩ (⟨hs, hj⟩ | ⟨k, m, q1, cs1, s1, s2, hk0, hk, f1, c1, e1, l1, g1, hm, hr, hj⟩ | ⟨q1, cs1, s1, f1, c1, e1, hr, hj⟩)
    · cases hs
      have hqe := hg.1
      rw [un3_s, if_neg (by decide), if_neg (by decide)]
      refine ok_b2 (c_takeAny hC (by decide)) ?_
      rintro x8 μ2 ⟨t1, t2, t3⟩
      dsimp only at t1 t2 t3
      have f2 : fr lrP μ μ2 := fr_mono t2 (fun o i h => rd_lr h)
      have hl2 : μ2 (0, 24, 0) 6 = nI n := by rw [t2.1 _ _ (by rintro ⟨h, -⟩; exact absurd h (by decide))]; exact hl
      by_cases hp : 0 ≤ cd T e q ∧ cd T e q ≤ 1006
      · rw [if_pos hp] at t1 t3
        subst t1
        have hqe : q < e := cd_lt (n3001 hp.2 (by decide))
        have hn := nx_lt (T := T) he hqe
        rw [if_neg (show ¬ cd T e q = -1 by intro h; rw [h] at hp; exact absurd hp.1 (by decide)), bd_eq (c_emit hl2 (by omega)), if_pos (by decide), bd_s]
        have c3 := CP_emit (n := n) (c := cd T e q) t3
        have e3 : EM μ _ n [cd T e q] := EM_rd0 t2 (EM_emit (μ := μ2) (n := n) (c := cd T e q))
        have f3 : fr lrP μ _ := fr_trans f2 (fr_mono (emit_fr (μ := μ2) (n := n) (c := cd T e q) (x := nI (n + 1))) (fun o i h => Or.inr h))
        have hRR : R = opL T e 2043 (pPart T e) 401 (nx T e q) [cd T e q] := by
          rw [hR]
          unfold pSum chain
          rw [show pPart T e q = .inr (nx T e q, [cd T e q]) by unfold pPart; rw [if_pos hp]]
          rfl
        refine ok_b2 (c_takes c3 (show ¬ (2043 : Int32) = 3001 by decide)) ?_
        rintro x18 μ4 ⟨r1, r2, r3⟩
        dsimp only at r1 r2 r3
        have f4 := fr_trans f3 (fr_mono r2 (fun o i h => rd_lr h))
        have e4 := EM_rd e3 r2
        rw [opL] at hRR
        by_cases hc : cd T e (nx T e q) = 2043
        · rw [if_pos hc] at r3 hRR
          have hqe1 : nx T e q < e := cd_lt (by rw [hc]; decide)
          have hn1 := nx_lt (T := T) he hqe1
          refine ok_some ⟨e - nx T e (nx T e q) + 1, by omega, Or.inr (Or.inl ⟨1, 400, nx T e (nx T e q), [cd T e q], by rw [r1, decide_eq_true hc]; rfl, rfl, by omega, by omega, f4, r3, e4, by simp; omega, gq_nx he hqe1, by omega, hRR.symm, rfl⟩)⟩
        · rw [if_neg hc] at r3 hRR
          exact ok_some ⟨0, by omega, Or.inr (Or.inr ⟨nx T e q, [cd T e q], by rw [r1, decide_eq_false hc]; rfl, f4, r3, e4, hRR, rfl⟩)⟩
      · rw [if_neg hp] at t1 t3
        rw [if_pos t1]
        refine hfail μ2 q (by omega) ?_ f2 t3 ⟨n, hn4, hl2⟩ _ (fun μ3 h => h)
        rw [hR]
        unfold pSum chain
        rw [show pPart T e q = .inl q by unfold pPart; rw [if_neg hp]]
        rfl
    · dsimp only at s1 s2 f1 c1 e1
      subst s1 s2
      have hqe := g1.1
      rw [un3_s, if_neg (show ¬ (400 : Int32) ≤ nI k from nI_ge (b := 400) (by omega) (by omega)), if_neg (by decide)]
      refine ok_b2 (c_takeAny c1 (by decide)) ?_
      rintro x8 μ2 ⟨t1, t2, t3⟩
      dsimp only at t1 t2 t3
      have f2 : fr lrP μ μ2 := fr_trans f1 (fr_mono t2 (fun o i h => rd_lr h))
      have e2 := EM_rd e1 t2
      by_cases hp : 0 ≤ cd T e q1 ∧ cd T e q1 ≤ 1006
      · rw [if_pos hp] at t1 t3
        subst t1
        have hqe1 : q1 < e := cd_lt (n3001 hp.2 (by decide))
        have hn := nx_lt (T := T) he hqe1
        rw [if_neg (show ¬ cd T e q1 = -1 by intro h; rw [h] at hp; exact absurd hp.1 (by decide)), bd_eq (c_emit e2.1 (by omega)), if_neg (show ¬ nI k ≤ (0 : Int32) from nI_ge (a := 0) hk0 (by omega))]
        have c3 := CP_emit (n := n + cs1.length) (c := cd T e q1) t3
        have e3 : EM μ _ n (cs1 ++ [cd T e q1]) := EM_app e2 (EM_emit (μ := μ2) (n := n + cs1.length) (c := cd T e q1))
        have f3 : fr lrP μ _ := fr_trans f2 (fr_mono (emit_fr (μ := μ2) (n := n + cs1.length) (c := cd T e q1) (x := nI (n + cs1.length + 1))) (fun o i h => Or.inr h))
        generalize mset (mset μ2 (0, 28, 0) (n + cs1.length) (cd T e q1)) (0, 24, 0) 6 (nI (n + cs1.length + 1)) = μ3 at c3 e3 f3 ⊢
        rw [bd_eq (c_emit e3.1 (by simp; omega)), bd_s]
        have c4 := CP_emit (n := n + (cs1 ++ [cd T e q1]).length) (c := 2043) c3
        have e4 : EM μ _ n ((cs1 ++ [cd T e q1]) ++ [2043]) := EM_app e3 (EM_emit (μ := μ3) (n := n + (cs1 ++ [cd T e q1]).length) (c := 2043))
        have f4 : fr lrP μ _ := fr_trans f3 (fr_mono (emit_fr (μ := μ3) (n := n + (cs1 ++ [cd T e q1]).length) (c := 2043) (x := nI (n + (cs1 ++ [cd T e q1]).length + 1))) (fun o i h => Or.inr h))
        generalize mset (mset μ3 (0, 28, 0) (n + (cs1 ++ [cd T e q1]).length) 2043) (0, 24, 0) 6 (nI (n + (cs1 ++ [cd T e q1]).length + 1)) = μ4 at c4 e4 f4 ⊢
        rw [List.append_assoc] at e4
        rw [show pPart T e q1 = .inr (nx T e q1, [cd T e q1]) by unfold pPart; rw [if_pos hp]] at hr
        change opL T e 2043 (pPart T e) m (nx T e q1) (cs1 ++ ([cd T e q1] ++ [2043])) = R at hr
        obtain ⟨m', rfl⟩ : ∃ m', m = m' + 1 := ⟨m - 1, by omega⟩
        rw [opL] at hr
        have hlen : (cs1 ++ ([cd T e q1] ++ [2043])).length = cs1.length + 2 := by simp
        refine ok_b2 (c_takes c4 (show ¬ (2043 : Int32) = 3001 by decide)) ?_
        rintro x18 μ5 ⟨r1, r2, r3⟩
        dsimp only at r1 r2 r3
        have f5 := fr_trans f4 (fr_mono r2 (fun o i h => rd_lr h))
        have e5 := EM_rd e4 r2
        by_cases hc : cd T e (nx T e q1) = 2043
        · rw [if_pos hc] at r3 hr
          have hqe2 : nx T e q1 < e := cd_lt (by rw [hc]; decide)
          have hn1 := nx_lt (T := T) he hqe2
          refine ok_some ⟨e - nx T e (nx T e q1) + 1, by omega, Or.inr (Or.inl ⟨k + 1, m', nx T e (nx T e q1), _, by rw [r1, decide_eq_true hc]; rfl, nI_1 k, by omega, by omega, f5, r3, e5, by omega, gq_nx he hqe2, by omega, hr, rfl⟩)⟩
        · rw [if_neg hc] at r3 hr
          exact ok_some ⟨0, by omega, Or.inr (Or.inr ⟨nx T e q1, _, by rw [r1, decide_eq_false hc]; rfl, f5, r3, e5, hr.symm, rfl⟩)⟩
      · rw [if_neg hp] at t1 t3
        rw [if_pos t1]
        refine hfail μ2 q1 (by omega) ?_ f2 t3 ⟨_, by omega, e2.1⟩ _ (fun μ3 h => h)
        rw [← hr, show pPart T e q1 = .inl q1 by unfold pPart; rw [if_neg hp]]
        rfl
    · dsimp only at s1 f1 c1 e1
      subst s1
      rw [un3_s]
      have out : cOut T e N μ n R μ1 := by
        rw [hr]
        exact ⟨f1, fun f' h => (by cases h), fun q' cs' h => by cases h; exact ⟨c1, e1⟩⟩
      by_cases hk : (400 : Int32) ≤ y
      · rw [if_pos hk]; exact ok_some out
      · rw [if_neg hk, if_pos rfl]; exact ok_some out
  · rintro (μ2 | μ2) h
    · exact ok_some h
    · exact ok_some h
end CR
