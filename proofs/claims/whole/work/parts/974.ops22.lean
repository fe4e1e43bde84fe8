/-! acts on both sides: rests, share -/
section PK
variable {y : ZLay} {μ : ZMem} {S S' : SV} {tp tp' : Vec} {tl tl' : Nat} {fa fa' : Int32} {kp kp' : Option SV} {ac ac' : List (Nat × Vec)}
def ghS (v : Vec) (k a b : Nat) : Int32 := if a = 0 then (if b = 0 then nd v k 6 else -(nd v k 6)) else (if b = 0 then -(nd v k 7) - 1 else 2)
def bbS (a b : Nat) : Int32 := if a = 0 then (if b = 0 then -1 else 0) else (if b = 0 then 2 else 1)
def rsB (v : Vec) (k i : Nat) : Bool := !(decide (ghS v k (i / 2) (i % 2) < ghS v k (1 - i / 2) (i % 2))) && !(decide (bbS (i / 2) (i % 2) < bbS (i / 2) (1 - i % 2)))
theorem c_guard {k a b : Nat} (h : SS y μ 0 S) (hk : k < S.1) (ha : a < 2) (hb : b < 2) : f_X11_guardianHas (nI k) (nI a) (nI b) μ = some (ghS S.2.1 k a b) := by
  have h8 := h.1.1
  unfold f_X11_guardianHas ghS
  rw [bd_eq (c_isNode h), nodeB_nI h8 hk, if_neg b2i_t, gd_eq (zin_nI (by omega) (by omega)), nI_cl (by omega), CS_nd h.1 hk (by omega), CS_nd h.1 hk (by omega)]
  have ea : a = 0 ∨ a = 1 := by omega
  have eb : b = 0 ∨ b = 1 := by omega
  rcases ea with rfl | rfl <;> rcases eb with rfl | rfl <;> rfl
theorem m_guard {k a b : Nat} {v : Vec} (hv : μ MV0 = v) (hk : k < 8) (ha : a < 2) (hb : b < 2) : f_X12_guardHas (nI k) (nI a) (nI b) μ = some (ghS v k a b) := by
  unfold f_X12_guardHas ghS
  rw [bd_eq (show f_X12_of (nI k) 6 μ = some (nd v k 6) from ofV (w := 6) hv rfl hk (by omega)), bd_eq (show f_X12_of (nI k) 6 μ = some (nd v k 6) from ofV (w := 6) hv rfl hk (by omega)), bd_eq (show f_X12_of (nI k) 7 μ = some (nd v k 7) from ofV (w := 7) hv rfl hk (by omega))]
  have ea : a = 0 ∨ a = 1 := by omega
  have eb : b = 0 ∨ b = 1 := by omega
  rcases ea with rfl | rfl <;> rcases eb with rfl | rfl <;> rfl
theorem bab_eq {a b : Nat} (ha : a < 2) (hb : b < 2) : f_X11_babblerHas (nI a) (nI b) = bbS a b ∧ f_X12_talkHas (nI a) (nI b) = bbS a b := by
  have ea : a = 0 ∨ a = 1 := by omega
  have eb : b = 0 ∨ b = 1 := by omega
  rcases ea with rfl | rfl <;> rcases eb with rfl | rfl <;> exact ⟨rfl, rfl⟩
theorem one_sub {a : Nat} (h : a < 2) : (1 : Int32) - nI a = nI (1 - a) := by
  have ea : a = 0 ∨ a = 1 := by omega
  rcases ea with rfl | rfl <;> rfl
theorem rs_at {v : Vec} {k a b : Nat} (ha : a < 2) (hb : b < 2) : rsB v k (2 * a + b) = (!(decide (ghS v k a b < ghS v k (1 - a) b)) && !(decide (bbS a b < bbS a (1 - b)))) := by
  unfold rsB
  rw [show (2 * a + b) / 2 = a by omega, show (2 * a + b) % 2 = b by omega]
theorem OP_rests {a1 : Int32} : OPx y cmB (f_X11_rests a1) (f_X12_rests a1) := by
  rintro μ ⟨S, tp, tl, fa, kp, ac, hc, hm, ho⟩
  have h8 := OA_c ho
  cases hn : nodeB S.1 a1
  · refine op_ref (k := 3) hc hm ho (by decide) ?_ ?_
    · unfold f_X11_rests
      rw [bd_eq (c_isNode hc.1), hn, if_pos b2i_f]
    · intro μ1 r1
      unfold f_X12_rests
      rw [bd_eq (m_node0 r1 ho), hn, if_pos b2i_f, zlt_s, zlt_s, thr_0, if_neg (by decide)]
      rfl
  · obtain ⟨k, hk, rfl⟩ := nodeB_t h8 hn
    refine op_q (A := .inl (bset (rsB S.2.1 k) 4)) hc hm ho ?_ ?_
    · unfold f_X11_rests
      rw [bd_eq (c_isNode hc.1), hn, if_neg b2i_t]
      rw [bd_eq (lp_seq (s0 := ((0 : Int32), (0 : Int32))) (r := bset (rsB S.2.1 k) 4) 2 (fun a => (bset (rsB S.2.1 k) (2 * a), nI a)) ?_ ?_ (FU_lt (by omega)) rfl)]
      · exact ok_some ⟨rfl, fr_refl⟩
      · intro a ha
        rw [un2_s, if_neg (show ¬ (2 : Int32) ≤ nI a from nI_ge (b := 2) ha (by omega))]
        rw [bd_eq (lp_seq (s0 := (bset (rsB S.2.1 k) (2 * a), (0 : Int32))) (r := bset (rsB S.2.1 k) (2 * (a + 1))) 2 (fun b => (bset (rsB S.2.1 k) (2 * a + b), nI b)) ?_ ?_ (FU_lt (by omega)) rfl), nI_1]
        · intro b hb
          rw [un2_s, if_neg (show ¬ (2 : Int32) ≤ nI b from nI_ge (b := 2) hb (by omega)), one_sub ha, one_sub hb, bd_eq (c_guard hc.1 hk ha hb), bd_eq (c_guard hc.1 hk (show 1 - a < 2 by omega) hb), jk_s, (bab_eq ha hb).1, (bab_eq ha (show 1 - b < 2 by omega)).1, nI_1]
          have e1 : (if ghS S.2.1 k a b < ghS S.2.1 k (1 - a) b then some (0 : Int32) else if bbS a b < bbS a (1 - b) then some 0 else some 1) = some (b2i (rsB S.2.1 k (2 * a + b))) := by
            rw [rs_at ha hb]
            by_cases c1 : ghS S.2.1 k a b < ghS S.2.1 k (1 - a) b
            · rw [if_pos c1, decide_eq_true c1]; rfl
            · rw [if_neg c1, decide_eq_false c1]
              by_cases c2 : bbS a b < bbS a (1 - b)
              · rw [if_pos c2, decide_eq_true c2]; rfl
              · rw [if_neg c2, decide_eq_false c2]; rfl
          rw [e1, bd_s, zlt_s, zlt_s]
          have e2 : (2 : Int32) * nI a + nI b = nI (2 * a + b) := by rw [show (2 : Int32) * nI a = nI (2 * a) from (Int32.ofNat_mul 2 a).symm, nI_add]
          rw [e2]
          cases c : rsB S.2.1 k (2 * a + b)
          · rw [if_pos b2i_f, show 2 * a + (b + 1) = 2 * a + b + 1 by omega, bset_f c]
          · rw [if_neg b2i_t, show 2 * a + (b + 1) = 2 * a + b + 1 by omega, bset_t c]; rfl
        · rw [un2_s, if_pos (by decide)]; rfl
      · rw [un2_s, if_pos (by decide)]
    · intro μ1 r1
      unfold f_X12_rests
      have hv : (mset μ1 (0, 32, 0) 0 0) MV0 = S.2.1 := (mset_ne (by decide)).trans r1.1
      rw [bd_eq (m_node0 r1 ho), hn, if_neg b2i_t, zlt_s, zlt_s, thr_0, if_pos (by decide)]
      rw [bd_eq (lp_seq (s0 := ((0 : Int32), (0 : Int32))) (r := bset (rsB S.2.1 k) 4) 4 (fun i => (bset (rsB S.2.1 k) i, nI i)) ?_ ?_ (FU_lt (by omega)) rfl)]
      · exact ok_some ⟨⟨(show (mset μ1 MO0 0 0) MO0 0 = 0 from mset_at), rfl⟩, thr_fr⟩
      · intro i hi
        obtain ⟨a, b, ha, hb, rfl⟩ : ∃ a b, a < 2 ∧ b < 2 ∧ i = 2 * a + b := ⟨i / 2, i % 2, by omega, by omega, by omega⟩
        have e1 : nI (2 * a + b) / 2 = nI a ∧ zrem (nI (2 * a + b)) 2 = nI b := by
          have ea : a = 0 ∨ a = 1 := by omega
          have eb : b = 0 ∨ b = 1 := by omega
          rcases ea with rfl | rfl <;> rcases eb with rfl | rfl <;> decide
        rw [un2_s, if_neg (show ¬ (4 : Int32) ≤ nI (2 * a + b) from nI_ge (b := 4) hi (by omega)), e1.1, e1.2, zlt_s, zlt_s, one_sub ha, one_sub hb, bd_eq (m_guard hv (by omega) (show 1 - a < 2 by omega) hb), bd_eq (m_guard hv (by omega) ha hb), (bab_eq ha hb).2, (bab_eq ha (show 1 - b < 2 by omega)).2, nI_1, zlt_s, zlt_s]
        have er := rs_at (v := S.2.1) (k := k) ha hb
        by_cases c1 : ghS S.2.1 k a b < ghS S.2.1 k (1 - a) b
        · rw [if_pos c1, bset_f (by rw [er, decide_eq_true c1]; rfl)]
        · rw [if_neg c1]
          by_cases c2 : bbS a b < bbS a (1 - b)
          · rw [if_pos c2, bset_f (by rw [er, decide_eq_true c2, Bool.not_true, Bool.and_false])]
          · rw [if_neg c2, bset_t (by rw [er, decide_eq_false c1, decide_eq_false c2]; rfl)]; rfl
      · rw [un2_s, if_pos (by decide)]
/-- the shares -/
def shV (v : Vec) (cn : Nat → Nat) (k : Nat) : Int32 := (100 - nd v k 8) / (nI (cn k) + 1)
def pkI (v : Vec) (cn : Nat → Nat) : Nat → Nat
  | 0 => 0
  | k + 1 => if shV v cn k ≤ shV v cn (pkI v cn k) then pkI v cn k else k
theorem pkI_s {v : Vec} {cn : Nat → Nat} {k : Nat} : pkI v cn (k + 1) = if shV v cn k ≤ shV v cn (pkI v cn k) then pkI v cn k else k := rfl
theorem pkI_1 {v : Vec} {cn : Nat → Nat} : pkI v cn 1 = 0 := by rw [pkI_s]; exact if_pos (Int32.le_refl _)
theorem pkI_lt {v : Vec} {cn : Nat → Nat} : ∀ k, 0 < k → pkI v cn k < k
  | 0, h => absurd h (by omega)
  | k + 1, _ => by
    rw [pkI_s]
    split
    · by_cases e : k = 0
      · rw [e]; exact Nat.lt_succ_self 0
      · have := pkI_lt (v := v) (cn := cn) k (by omega); omega
    · omega
def shC (v : Vec) (c : Nat) : Nat → Nat → Nat
  | 0 => fun _ => 0
  | j + 1 => fun i => if i = pkI v (shC v c j) c then shC v c j i + 1 else shC v c j i
theorem shC_s {v : Vec} {c j i : Nat} : shC v c (j + 1) i = if i = pkI v (shC v c j) c then shC v c j i + 1 else shC v c j i := rfl
theorem shC_le {v : Vec} {c : Nat} : ∀ j i, shC v c j i ≤ j
  | 0, _ => Nat.le_refl _
  | j + 1, i => by
    have := shC_le (v := v) (c := c) j i
    rw [shC_s]
    split <;> omega
theorem shV_all : ∀ x : Fin 101, ∀ n : Fin 100, ¬ ((100 - nI x.val) / (nI n.val + 1) ≤ -1) := by decide +kernel
theorem shV_pos {v : Vec} {cn : Nat → Nat} {k : Nat} (h : rng (nd v k 8) 0 100) (hn : cn k < 100) : ¬ shV v cn k ≤ -1 := by
  obtain ⟨n, hn', e⟩ := in_n (a := nd v k 8) (n := 101) (by omega) ⟨by rw [Int32.le_iff_toInt_le]; exact h.1, by rw [Int32.lt_iff_toInt_lt, nI_toInt (by omega)]; have := h.2; omega⟩
  unfold shV
  rw [e]
  exact shV_all ⟨n, hn'⟩ ⟨cn k, hn⟩
end PK
