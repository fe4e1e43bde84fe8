/-! in order: choosing the least again and again; the class's sorting -/
def isSl (ky : Nat → Int) (n k : Nat) : Prop := k < 8 ∧ n.testBit k = true ∧ ∀ j, j < 8 → n.testBit j = true → ky k < ky j ∨ (ky k = ky j ∧ k ≤ j)
theorem isSl_u {ky : Nat → Int} {n k k' : Nat} (h : isSl ky n k) (h' : isSl ky n k') : k = k' := by
  have a := h.2.2 k' h'.1 h'.2.1
  have b := h'.2.2 k h.1 h.2.1
  omega
theorem isSl_ex {ky : Nat → Int} {n : Nat} : ∀ m, m ≤ 8 → (∀ j, j < m → n.testBit j = false) ∨ ∃ k, k < m ∧ n.testBit k = true ∧ ∀ j, j < m → n.testBit j = true → ky k < ky j ∨ (ky k = ky j ∧ k ≤ j)
  | 0, _ => Or.inl (fun j hj => absurd hj (by omega))
  | m + 1, hm => by
    cases hb : n.testBit m
    · rcases isSl_ex (ky := ky) (n := n) m (by omega) with h | ⟨k, h1, h2, h3⟩
      · refine Or.inl (fun j hj => ?_)
        by_cases e : j = m
        · rw [e]; exact hb
        · exact h j (by omega)
      · refine Or.inr ⟨k, by omega, h2, fun j hj ht => ?_⟩
        by_cases e : j = m
        · rw [e, hb] at ht; cases ht
        · exact h3 j (by omega) ht
    · rcases isSl_ex (ky := ky) (n := n) m (by omega) with h | ⟨k, h1, h2, h3⟩
      · refine Or.inr ⟨m, by omega, hb, fun j hj ht => ?_⟩
        by_cases e : j = m
        · rw [e]; exact Or.inr ⟨rfl, Nat.le_refl _⟩
        · rw [h j (by omega)] at ht; cases ht
      · by_cases hk : ky m < ky k
        · refine Or.inr ⟨m, by omega, hb, fun j hj ht => ?_⟩
          by_cases e : j = m
          · rw [e]; exact Or.inr ⟨rfl, Nat.le_refl _⟩
          · have := h3 j (by omega) ht
            omega
        · refine Or.inr ⟨k, by omega, h2, fun j hj ht => ?_⟩
          by_cases e : j = m
          · subst e; omega
          · exact h3 j (by omega) ht
noncomputable def slS (ky : Nat → Int) (n : Nat) : Nat := Classical.epsilon (isSl ky n)
theorem slS_ok {ky : Nat → Int} {n : Nat} (hn : n < 256) (h0 : n ≠ 0) : isSl ky n (slS ky n) := by
  apply Classical.epsilon_spec
  rcases isSl_ex (ky := ky) (n := n) 8 (by omega) with h | ⟨k, h1, h2, h3⟩
  · exact absurd (set_ext hn (by omega) (fun k hk => by rw [h k hk, Nat.zero_testBit])) h0
  · exact ⟨k, h1, h2, h3⟩
theorem slS_eq {ky : Nat → Int} {n k : Nat} (hn : n < 256) (h : isSl ky n k) : slS ky n = k := isSl_u (slS_ok hn (ne0_tb h.2.1)) h
noncomputable def lftS (ky : Nat → Int) (A : Nat) : Nat → Nat
  | 0 => A
  | p + 1 => rmv (lftS ky A p) (slS ky (lftS ky A p))
theorem lftS_s {ky : Nat → Int} {A p : Nat} : lftS ky A (p + 1) = rmv (lftS ky A p) (slS ky (lftS ky A p)) := rfl
theorem pc_rm_all : ∀ n : Fin 256, ∀ k : Fin 8, n.val.testBit k.val = true → pc (nI n.val) = pc (nI (rmv n.val k.val)) + 1 := by decide +kernel
theorem pc_0' : pc (nI 0) = 0 := by decide
theorem lftS_pc {ky : Nat → Int} {A : Nat} (hA : A < 256) : ∀ p, p ≤ pc (nI A) → lftS ky A p < 256 ∧ pc (nI (lftS ky A p)) + p = pc (nI A)
  | 0, _ => ⟨hA, rfl⟩
  | p + 1, hp => by
    obtain ⟨h1, h2⟩ := lftS_pc (ky := ky) hA p (by omega)
    have h0 : lftS ky A p ≠ 0 := by
      intro q
      rw [q, pc_0'] at h2
      omega
    have hs := slS_ok (ky := ky) h1 h0
    have hr := rmv_le h1 hs.1
    have := pc_rm_all ⟨_, h1⟩ ⟨_, hs.1⟩ hs.2.1
    dsimp only at this
    rw [lftS_s]
    exact ⟨by omega, by omega⟩
theorem lftS_ne {ky : Nat → Int} {A p : Nat} (hA : A < 256) (hp : p < pc (nI A)) : lftS ky A p < 256 ∧ lftS ky A p ≠ 0 := by
  obtain ⟨h1, h2⟩ := lftS_pc (ky := ky) hA p (by omega)
  refine ⟨h1, fun q => ?_⟩
  rw [q, pc_0'] at h2
  omega
/-- sorted rows -/
def Lx (ky : Nat → Int) (a b : Nat) : Prop := ky a < ky b ∨ (ky a = ky b ∧ a < b)
def rowI (ky : Nat → Int) (act : Nat → Bool) (i len : Nat) (r : Nat → Nat) : Prop := len = pcn i act ∧ (∀ p, p < len → r p < i ∧ act (r p) = true) ∧ (∀ p q, p < q → q < len → Lx ky (r p) (r q)) ∧ ∀ j, j < i → act j = true → ∃ p, p < len ∧ r p = j
theorem row_sl {ky : Nat → Int} {act : Nat → Bool} {c len A : Nat} {r : Nat → Nat} (hA : A < 256) (h8 : c ≤ 8) (ha : ∀ j, j < 8 → A.testBit j = (decide (j < c) && act j)) (h : rowI ky act c len r) : ∀ p, p ≤ len → (lftS ky A p < 256 ∧ ∀ j, j < 8 → ((lftS ky A p).testBit j = true ↔ ∃ q, p ≤ q ∧ q < len ∧ r q = j)) ∧ (p < len → slS ky (lftS ky A p) = r p)
  | 0, _ => by
    obtain ⟨h1, h2, h3, h4⟩ := h
    have T : ∀ j, j < 8 → ((lftS ky A 0).testBit j = true ↔ ∃ q, 0 ≤ q ∧ q < len ∧ r q = j) := by
      intro j hj
      show A.testBit j = true ↔ _
      rw [ha j hj, Bool.and_eq_true, decide_eq_true_eq]
      constructor
      · rintro ⟨g1, g2⟩
        obtain ⟨p, e1, e2⟩ := h4 j g1 g2
        exact ⟨p, by omega, e1, e2⟩
      · rintro ⟨q, -, e1, rfl⟩
        exact h2 q e1
    refine ⟨⟨hA, T⟩, fun hp => slS_eq hA ⟨?_, (T _ ?_).mpr ⟨0, by omega, hp, rfl⟩, ?_⟩⟩
    · have := (h2 0 hp).1; omega
    · have := (h2 0 hp).1; omega
    · intro j hj ht
      obtain ⟨q, -, e1, rfl⟩ := (T j hj).mp ht
      by_cases e : q = 0
      · rw [e]; exact Or.inr ⟨rfl, Nat.le_refl _⟩
      · rcases h3 0 q (by omega) e1 with g | g
        · exact Or.inl g
        · exact Or.inr ⟨g.1, by omega⟩
  | p + 1, hp => by
    obtain ⟨⟨g0, g1⟩, g2⟩ := row_sl hA h8 ha h p (by omega)
    have g3 := g2 (by omega)
    obtain ⟨h1, h2, h3, h4⟩ := h
    have hr8 : ∀ q, q < len → r q < 8 := fun q hq => by have := (h2 q hq).1; omega
    have hl : lftS ky A (p + 1) < 256 := by
      rw [lftS_s, g3]
      have := rmv_le g0 (hr8 p (by omega))
      omega
    have T : ∀ j, j < 8 → ((lftS ky A (p + 1)).testBit j = true ↔ ∃ q, p + 1 ≤ q ∧ q < len ∧ r q = j) := by
      intro j hj
      rw [lftS_s, g3, rmv_tb g0 (hr8 p (by omega)) hj, Bool.and_eq_true, decide_eq_true_eq, g1 j hj]
      constructor
      · rintro ⟨⟨q, e1, e2, rfl⟩, e3⟩
        refine ⟨q, ?_, e2, rfl⟩
        by_cases e : q = p
        · exact absurd (by rw [e]) e3
        · omega
      · rintro ⟨q, e1, e2, rfl⟩
        refine ⟨⟨q, by omega, e2, rfl⟩, fun e => ?_⟩
        have := h3 p q (by omega) e2
        rw [e] at this
        unfold Lx at this
        omega
    refine ⟨⟨hl, T⟩, fun hp2 => slS_eq hl ⟨hr8 _ hp2, (T _ (hr8 _ hp2)).mpr ⟨p + 1, by omega, hp2, rfl⟩, ?_⟩⟩
    intro j hj ht
    obtain ⟨q, e0, e1, rfl⟩ := (T j hj).mp ht
    by_cases e : q = p + 1
    · rw [e]; exact Or.inr ⟨rfl, Nat.le_refl _⟩
    · rcases h3 (p + 1) q (by omega) e1 with g | g
      · exact Or.inl g
      · exact Or.inr ⟨g.1, by omega⟩
section QA
variable {y : ZLay} {μ : ZMem}
theorem pcn_s {n : Nat} {p : Nat → Bool} : pcn (n + 1) p = pcn n p + (if p n = true then 1 else 0) := rfl
theorem c_putO {c : Nat} {v : Vec} {W : Int32} {ky : Nat → Int} {s1 : Nat} (hcs : CS μ s1 c v) (hk : ∀ i, i < c → (nd v i 0 * W).toInt = ky i) : ok (f_X1_putInOrder s1 W μ) (fun q => fr (oP (0, 16, 0)) μ q.2 ∧ ∃ len r, q.1 = nI len ∧ rowI ky (fun k => decide (nd v k 3 = 2)) c len r ∧ ∀ p, p < len → q.2 (0, 16, 0) p = nI (r p)) := by
  have h8 := hcs.1
  unfold f_X1_putInOrder
  refine ok_b2i (ok_seq c (fun i s => s.2.1 = nI i ∧ fr (oP (0, 16, 0)) μ s.2.2 ∧ ∃ len r, s.1 = nI len ∧ rowI ky (fun k => decide (nd v k 3 = 2)) i len r ∧ ∀ p, p < len → s.2.2 (0, 16, 0) p = nI (r p)) ?_ ?_ ⟨rfl, fr_refl, 0, fun _ => 0, rfl, ⟨rfl, fun p hp => absurd hp (by omega), fun p q _ hq => absurd hq (by omega), fun j hj => absurd hj (by omega)⟩, fun p hp => absurd hp (by omega)⟩ (FU_lt (by omega)))
  · rintro i ⟨x1, x2, μ3⟩ hi ⟨w1, w2, len, r, w3, w4, w5⟩
    dsimp only at w1 w2 w3 w4 w5
    subst w1 w3
    obtain ⟨k1, k2, k3, k4⟩ := w4
    have hlen : len ≤ i := by rw [k1]; exact pcn_le _ _
    have e3 : ∀ {μ4 : ZMem}, fr (oP (0, 16, 0)) μ μ4 → ∀ k x, μ4 (3, s1, k) x = μ (3, s1, k) x := fun f k x => f.1 _ _ (show ¬ oP (0, 16, 0) (3, s1, k) x from zne (by decide))
    have e1 : ∀ {μ4 : ZMem}, fr (oP (0, 16, 0)) μ μ4 → μ4 (1, s1, 0) 4 = nI c := fun f => by rw [f.1 _ _ (show ¬ oP (0, 16, 0) (1, s1, 0) 4 from zne (by decide))]; exact CS_c hcs
    rw [un3_s, e1 w2, if_neg (nI_ge hi (by omega)), gd_eq (zin_nI (by omega) (by omega)), nI_cl (by omega), e3 w2, CS_nd hcs hi (by omega), nI_1]
    by_cases ha : nd v i 3 = 2
    · have hda : (fun k => decide (nd v k 3 = 2)) i = true := decide_eq_true ha
      rw [if_pos ha, zlt_s]
      refine ok_b2 (P := fun q => q.1 = nI (len + 1) ∧ fr (oP (0, 16, 0)) μ q.2 ∧ ∃ r', rowI ky (fun k => decide (nd v k 3 = 2)) (i + 1) (len + 1) r' ∧ ∀ p, p < len + 1 → q.2 (0, 16, 0) p = nI (r' p)) ?_ ?_
      · refine ok_b2 (P := fun q => ∃ m, q.1 = nI m ∧ m ≤ len ∧ fr (oP (0, 16, 0)) μ q.2 ∧ (∀ p, p < m → q.2 (0, 16, 0) p = nI (r p)) ∧ (∀ p, m < p → p ≤ len → q.2 (0, 16, 0) p = nI (r (p - 1))) ∧ (∀ p, m ≤ p → p < len → ky i < ky (r p)) ∧ (0 < m → ky (r (m - 1)) ≤ ky i)) ?_ ?_
        · refine ok_lp (fun m s => s.1 = nI m ∧ s.2.1 = nI m - 1 ∧ m ≤ len ∧ fr (oP (0, 16, 0)) μ s.2.2 ∧ (∀ p, p < m → s.2.2 (0, 16, 0) p = nI (r p)) ∧ (∀ p, m < p → p ≤ len → s.2.2 (0, 16, 0) p = nI (r (p - 1))) ∧ (∀ p, m ≤ p → p < len → ky i < ky (r p))) ?_ (N := len) ⟨rfl, rfl, Nat.le_refl _, w2, w5, fun p h1 h2 => absurd h1 (by omega), fun p h1 h2 => absurd h1 (by omega)⟩ (FU_lt (by omega))
          rintro m ⟨x12, x13, μ14⟩ ⟨u1, u2, u3, u4, u5, u6, u7⟩
          dsimp only at u1 u2 u3 u4 u5 u6 u7
          subst u1 u2
          rw [un3_s]
          by_cases e0 : m = 0
          · subst e0
            rw [if_pos (by decide)]
            exact ok_some ⟨0, rfl, u3, u4, u5, u6, u7, fun h => absurd h (by omega)⟩
          · obtain ⟨t, rfl⟩ : ∃ t, m = t + 1 := ⟨m - 1, by omega⟩
            have ht : r t < i := (k2 t (by omega)).1
            rw [nI_pred, if_neg (nI_pos (by omega)), gd_eq (zin_nI (by omega) (by omega)), nI_cl (by omega), u5 t (by omega), gd_eq (zin_nI (by omega) (by omega)), nI_cl (by omega), e3 u4, e3 u4, CS_nd hcs (show r t < c by omega) (by omega), CS_nd hcs hi (by omega), nI_1, gd_eq (zin_nI (by omega) (by omega)), nI_cl (by omega), zlt_s]
            by_cases ec : nd v (r t) 0 * W ≤ nd v i 0 * W
            · rw [if_pos ec]
              rw [Int32.le_iff_toInt_le, hk _ (by omega), hk _ hi] at ec
              exact ok_some ⟨t + 1, rfl, u3, u4, u5, u6, u7, fun _ => ec⟩
            · rw [if_neg ec]
              rw [Int32.le_iff_toInt_le, hk _ (by omega), hk _ hi] at ec
              refine ok_some ⟨t, by omega, rfl, by dsimp only; rw [Int32.sub_eq_add_neg], by omega, fr_trans u4 (fr_mset rfl), fun p hp => ?_, fun p hp1 hp2 => ?_, fun p hp1 hp2 => ?_⟩
              · dsimp only
                rw [mset_k (by omega)]
                exact u5 p (by omega)
              · dsimp only
                by_cases e : p = t + 1
                · rw [e, mset_at, show t + 1 - 1 = t by omega]
                · rw [mset_k e]
                  exact u6 p (by omega) hp2
              · by_cases e : p = t
                · rw [e]; omega
                · exact u7 p (by omega) hp2
        · rintro x15 μ16 ⟨m, p1, p2, p3, p4, p5, p6, p7⟩
          dsimp only at p1 p2 p3 p4 p5 p6 p7
          subst p1
          rw [gd_eq (zin_nI (by omega) (by omega)), nI_cl (by omega), zlt_s]
          refine ok_some ⟨rfl, fr_trans p3 (fr_mset rfl), fun p => if p < m then r p else if p = m then i else r (p - 1), ⟨?_, fun p hp => ?_, fun p q hpq hq => ?_, fun j hj hja => ?_⟩, fun p hp => ?_⟩
          · rw [pcn_s, if_pos hda, ← k1]
          · dsimp only
            by_cases c1 : p < m
            · rw [if_pos c1]
              have := k2 p (by omega)
              exact ⟨by omega, this.2⟩
            · rw [if_neg c1]
              by_cases c2 : p = m
              · rw [if_pos c2]
                exact ⟨by omega, hda⟩
              · rw [if_neg c2]
                have := k2 (p - 1) (by omega)
                exact ⟨by omega, this.2⟩
          · have lows : ∀ p, p < m → ky (r p) ≤ ky i ∧ r p < i := by
              intro p hp
              refine ⟨?_, (k2 p (by omega)).1⟩
              have g := p7 (by omega)
              by_cases e : p = m - 1
              · rw [e]; exact g
              · have := k3 p (m - 1) (by omega) (by omega)
                unfold Lx at this
                omega
            dsimp only
            by_cases c1 : p < m
            · rw [if_pos c1]
              by_cases c2 : q < m
              · rw [if_pos c2]
                exact k3 p q hpq (by omega)
              · rw [if_neg c2]
                by_cases c3 : q = m
                · rw [if_pos c3]
                  have := lows p c1
                  unfold Lx
                  omega
                · rw [if_neg c3]
                  exact k3 p (q - 1) (by omega) (by omega)
            · rw [if_neg c1, if_neg (show ¬ q < m by omega), if_neg (show ¬ q = m by omega)]
              by_cases c3 : p = m
              · rw [if_pos c3]
                exact Or.inl (p6 (q - 1) (by omega) (by omega))
              · rw [if_neg c3]
                exact k3 (p - 1) (q - 1) (by omega) (by omega)
          · by_cases ej : j = i
            · refine ⟨m, by omega, ?_⟩
              dsimp only
              rw [if_neg (show ¬ m < m by omega), if_pos rfl, ej]
            · obtain ⟨p, g1, g2⟩ := k4 j (by omega) hja
              by_cases c1 : p < m
              · refine ⟨p, by omega, ?_⟩
                dsimp only
                rw [if_pos c1, g2]
              · refine ⟨p + 1, by omega, ?_⟩
                dsimp only
                rw [if_neg (show ¬ p + 1 < m by omega), if_neg (show ¬ p + 1 = m by omega), show p + 1 - 1 = p by omega, g2]
          · dsimp only
            by_cases c2 : p = m
            · subst c2
              rw [mset_at, if_neg (show ¬ p < p by omega), if_pos rfl]
            · rw [mset_k c2]
              by_cases c1 : p < m
              · rw [if_pos c1]; exact p4 p c1
              · rw [if_neg c1, if_neg c2]
                exact p5 p (by omega) (by omega)
      · rintro x9 μ10 ⟨p1, p2, r', p3, p4⟩
        dsimp only at p1 p2 p4
        exact ok_some ⟨_, rfl, nI_1 i, p2, len + 1, r', p1, p3, p4⟩
    · rw [if_neg ha, bd2_s]
      refine ok_some ⟨_, rfl, nI_1 i, w2, len, r, rfl, ⟨?_, fun p hp => ?_, k3, fun j hj hja => ?_⟩, w5⟩
      · rw [pcn_s, if_neg (show ¬ (fun k => decide (nd v k 3 = 2)) i = true from fun q => ha (of_decide_eq_true q))]; exact k1
      · have := k2 p hp
        exact ⟨by omega, this.2⟩
      · by_cases ej : j = i
        · subst ej
          exact absurd (of_decide_eq_true hja) ha
        · exact k4 j (by omega) hja
  · rintro ⟨x1, x2, μ3⟩ ⟨w1, w2, len, r, w3, w4, w5⟩
    dsimp only at w1 w2 w3 w4 w5
    subst w1 w3
    have e1 : μ3 (1, s1, 0) 4 = nI c := by rw [w2.1 _ _ (show ¬ oP (0, 16, 0) (1, s1, 0) 4 from zne (by decide))]; exact CS_c hcs
    rw [un3_s, e1, if_pos (nI_le (Nat.le_refl _) (by omega))]
    exact ok_some ⟨_, rfl, w2, len, r, rfl, w4, w5⟩
end QA
