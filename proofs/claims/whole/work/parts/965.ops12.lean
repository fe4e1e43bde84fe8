/-! cliques -/
theorem pcn_mono {p q : Nat → Bool} (h : ∀ k, p k = true → q k = true) : ∀ n, pcn n p ≤ pcn n q
  | 0 => Nat.le_refl _
  | n + 1 => by
    have := pcn_mono h n
    show pcn n p + _ ≤ pcn n q + _
    by_cases e : p n = true
    · rw [if_pos e, if_pos (h n e)]; omega
    · rw [if_neg e]; split <;> omega
theorem pcn_strict {p q : Nat → Bool} (h : ∀ k, p k = true → q k = true) {j : Nat} (h1 : p j = false) (h2 : q j = true) : ∀ n, j < n → pcn n p < pcn n q
  | 0, hj => absurd hj (by omega)
  | n + 1, hj => by
    show pcn n p + _ < pcn n q + _
    by_cases e : j = n
    · subst e
      have := pcn_mono h j
      rw [if_neg (by rw [h1]; decide), if_pos h2]; omega
    · have := pcn_strict h h1 h2 n (by omega)
      by_cases e1 : p n = true
      · rw [if_pos e1, if_pos (h n e1)]; omega
      · rw [if_neg e1]; split <;> omega
/-- one pass: who is in brings his friends -/
def brg (F : Nat → Int32) (x : Nat) (s : Int32) : Int32 := if tbit s x = true then s ||| F x else s
def pasN (F : Nat → Int32) (n : Nat) (s : Int32) : Int32 := itS (brg F) n s
def clqI (F : Nat → Int32) (s : Int32) : Nat → Int32
  | 0 => s
  | n + 1 => pasN F 8 (clqI F s n)
theorem pasN_s {F : Nat → Int32} {n : Nat} {s : Int32} : pasN F (n + 1) s = brg F n (pasN F n s) := rfl
theorem isS_pas {F : Nat → Int32} (hF : ∀ x, x < 8 → isS (F x)) {s : Int32} (hs : isS s) : ∀ n, n ≤ 8 → isS (pasN F n s)
  | 0, _ => hs
  | n + 1, hn => by
    rw [pasN_s]
    unfold brg
    split
    · exact isS_or (isS_pas hF hs n (by omega)) (hF n (by omega))
    · exact isS_pas hF hs n (by omega)
theorem pas_mono {F : Nat → Int32} {s : Int32} {j : Nat} (h : tbit s j = true) : ∀ n, tbit (pasN F n s) j = true
  | 0 => h
  | n + 1 => by
    rw [pasN_s]
    unfold brg
    split
    · rw [tbit_or, pas_mono h n]; rfl
    · exact pas_mono h n
theorem pas_stop {F : Nat → Int32} {s : Int32} {c : Nat} (hs : ∀ x, c ≤ x → tbit s x = false) (hF : ∀ x, x < 8 → ∀ j, c ≤ j → tbit (F x) j = false) : ∀ n, n ≤ 8 → (∀ x, c ≤ x → tbit (pasN F n s) x = false) ∧ (c ≤ n → pasN F n s = pasN F c s)
  | 0, _ => ⟨hs, fun h => by rw [show c = 0 by omega]⟩
  | n + 1, hn => by
    obtain ⟨h1, h2⟩ := pas_stop hs hF n (by omega)
    refine ⟨fun x hx => ?_, fun h => ?_⟩
    · rw [pasN_s]
      unfold brg
      split
      · rw [tbit_or, h1 x hx, hF n (by omega) x hx]; rfl
      · exact h1 x hx
    · by_cases e : c = n + 1
      · rw [e]
      · rw [pasN_s, h2 (by omega)]
        unfold brg
        rw [if_neg]
        rw [← h2 (by omega), h1 n (by omega)]
        decide
theorem isS_clq {F : Nat → Int32} (hF : ∀ x, x < 8 → isS (F x)) {s : Int32} (hs : isS s) : ∀ n, isS (clqI F s n)
  | 0 => hs
  | n + 1 => isS_pas hF (isS_clq hF hs n) 8 (Nat.le_refl _)
def fixd (F : Nat → Int32) (s : Int32) : Prop := pasN F 8 s = s
theorem clq_fix {F : Nat → Int32} {s : Int32} {m : Nat} (h : fixd F (clqI F s m)) : ∀ d, clqI F s (m + d) = clqI F s m
  | 0 => rfl
  | d + 1 => by
    show pasN F 8 (clqI F s (m + d)) = _
    rw [clq_fix h d]
    exact h
theorem pas_lt {F : Nat → Int32} (hF : ∀ x, x < 8 → isS (F x)) {s : Int32} (hs : isS s) (h : ¬ fixd F s) : pc s < pc (pasN F 8 s) := by
  have hm : ∀ k, tbit s k = true → tbit (pasN F 8 s) k = true := fun k hk => pas_mono hk 8
  have : ∃ j, j < 8 ∧ tbit s j = false ∧ tbit (pasN F 8 s) j = true := by
    refine Classical.byContradiction fun hne => h ?_
    refine isS_ext (isS_pas hF hs 8 (Nat.le_refl _)) hs fun k hk => ?_
    cases e : tbit s k
    · cases e2 : tbit (pasN F 8 s) k
      · rfl
      · exact absurd ⟨k, hk, e, e2⟩ hne
    · exact hm k e
  obtain ⟨j, hj, h1, h2⟩ := this
  exact pcn_strict hm h1 h2 8 hj
theorem clq_8 {F : Nat → Int32} (hF : ∀ x, x < 8 → isS (F x)) {s : Int32} (hs : isS s) : ∀ n, fixd F (clqI F s n) ∨ pc s + n ≤ pc (clqI F s n)
  | 0 => Or.inr (Nat.le_refl _)
  | n + 1 => by
    rcases clq_8 hF hs n with h | h
    · refine Or.inl ?_
      have : clqI F s (n + 1) = clqI F s n := h
      rw [this]; exact h
    · by_cases e : fixd F (clqI F s n)
      · refine Or.inl ?_
        have : clqI F s (n + 1) = clqI F s n := e
        rw [this]; exact e
      · refine Or.inr ?_
        have := pas_lt hF (isS_clq hF hs n) e
        show _ ≤ pc (pasN F 8 (clqI F s n))
        omega
theorem clq_eq {F : Nat → Int32} (hF : ∀ x, x < 8 → isS (F x)) {s : Int32} (hs : isS s) (h1 : 1 ≤ pc s) {m : Nat} (hm : fixd F (clqI F s m)) : clqI F s m = clqI F s 8 := by
  have h8 : fixd F (clqI F s 8) := by
    rcases clq_8 hF hs 8 with h | h
    · exact h
    · have := pc_le (clqI F s 8); omega
  have a := clq_fix hm 8
  have b := clq_fix h8 m
  rw [Nat.add_comm] at a
  exact a.symm.trans b
/-- friends -/
def frB (L : LawS) (c : Nat) (v : Vec) (k j : Nat) : Bool := decide (k ≠ j) && (tbit (actS v c) k && (tbit (actS v c) j && (hearB L c v k j && hearB L c v j k)))
def frM (L : LawS) (c : Nat) (v : Vec) (k : Nat) : Int32 := bset (frB L c v k) c
def clqS (L : LawS) (c : Nat) (v : Vec) (k : Nat) : Int32 := if tbit (actS v c) k = true then clqI (frM L c v) (bit1 k) 8 else 0
theorem act_bit {v : Vec} {c k : Nat} (h8 : c ≤ 8) (hk : k < 32) : tbit (actS v c) k = (decide (k < c) && decide (nd v k 3 = 2)) := tbit_bset (by omega) hk
theorem act_lt {v : Vec} {c k : Nat} (h8 : c ≤ 8) (hk : k < 32) (h : tbit (actS v c) k = true) : k < c := by
  rw [act_bit h8 hk] at h
  simp at h
  exact h.1
theorem isS_frM {L : LawS} {c : Nat} {v : Vec} {k : Nat} (h8 : c ≤ 8) : isS (frM L c v k) := isS_bset h8
theorem isS_bit1 {k : Nat} (h : k < 8) : isS (bit1 k) := isS_one h
section PB
variable {y : ZLay} {μ : ZMem} {S S' : SV} {tp tp' : Vec} {tl tl' : Nat} {fa fa' : Int32} {kp kp' : Option SV} {ac ac' : List (Nat × Vec)}
def grpP (o : ZId) (_ : Nat) : Prop := o = (0, 12, 0) ∨ o = (0, 13, 0)
theorem grp_sc {o : ZId} {i : Nat} (h : grpP o i) : scP o i := by
  rcases h with rfl | rfl <;> exact Or.inl ⟨rfl, by decide, by decide, rfl⟩
def grpI (L : LawS) (c : Nat) (v : Vec) (μ : ZMem) : Prop := μ (0, 12, 0) 0 = actS v c ∧ ∀ k, k < 8 → μ (0, 13, 0) k = frM L c v k
theorem bset_t {p : Nat → Bool} {n : Nat} (h : p n = true) : bset p (n + 1) = bset p n ||| bit1 n := by
  show bset p n ||| (if p n then (1 : Int32) <<< (nI n &&& 31) else 0) = _
  rw [if_pos h]; rfl
theorem bset_f {p : Nat → Bool} {n : Nat} (h : p n = false) : bset p (n + 1) = bset p n := by
  show bset p n ||| (if p n then (1 : Int32) <<< (nI n &&& 31) else 0) = _
  rw [if_neg (by rw [h]; decide), Int32.or_zero]
theorem bset_8 {p : Nat → Bool} {c : Nat} (h8 : c ≤ 8) (hp : ∀ k, c ≤ k → p k = false) : bset p 8 = bset p c :=
  isS_ext (isS_bset (by omega)) (isS_bset h8) fun k hk => by
    rw [tbit_bset (by omega) (by omega), tbit_bset (by omega) (by omega), decide_eq_true (show k < 8 from hk), Bool.true_and]
    by_cases e : k < c
    · rw [decide_eq_true e, Bool.true_and]
    · rw [decide_eq_false e, Bool.false_and, hp k (by omega)]
theorem c_load1 {c : Nat} {v : Vec} {L : LawS} (h8 : c ≤ 8) (h5 : μ (0, 5, 0) 4 = actS v c) (h7 : ∀ k, k < c → μ (0, 7, 0) k = heardS L c v k) : ok (f_X1_load μ) (fun μ' => grpI L c v μ' ∧ fr grpP μ μ') := by
  unfold f_X1_load
  rw [h5, zlt_s]
  have e12 : ∀ {μ1 : ZMem}, fr (oP (0, 13, 0)) (mset μ (0, 12, 0) 0 (actS v c)) μ1 → μ1 (0, 12, 0) 0 = actS v c := fun f => by rw [f.1 _ _ (show ¬ ((0, 12, 0) : ZId) = (0, 13, 0) by decide), mset_at]
  have e7 : ∀ {μ1 : ZMem}, fr (oP (0, 13, 0)) (mset μ (0, 12, 0) 0 (actS v c)) μ1 → ∀ k, k < c → μ1 (0, 7, 0) k = heardS L c v k := fun f k hk => by
    rw [f.1 _ _ (show ¬ ((0, 7, 0) : ZId) = (0, 13, 0) by decide), mset_ne (by decide)]
    exact h7 k hk
  have hb : ∀ j k, j < 8 → k < c → tbit (heardS L c v k) j = (decide (j < c) && (decide (j ≠ k) && hearB L c v k j)) := fun j k hj hk => tbit_bset (by omega) (by omega)
  refine ok_b1i (ok_seq 8 (fun k s => s.1 = nI k ∧ fr (oP (0, 13, 0)) (mset μ (0, 12, 0) 0 (actS v c)) s.2 ∧ ∀ j, j < k → s.2 (0, 13, 0) j = frM L c v j) ?_ ?_ ⟨rfl, fr_refl, fun j hj => absurd hj (by omega)⟩ (FU_lt (by omega)))
  · rintro k ⟨x, μ1⟩ hk ⟨w1, w2, w3⟩
    dsimp only at w1 w2 w3
    subst w1
    rw [un2_s, if_neg (show ¬ (8 : Int32) ≤ nI k from nI_ge (b := 8) hk (by omega)), gd_eq (zin_nI (by omega) (by omega)), nI_cl (by omega), zlt_s]
    refine ok_b1 (ok_seq 8 (fun j s => s.1 = nI j ∧ fr (oP (0, 13, 0)) (mset μ (0, 12, 0) 0 (actS v c)) s.2 ∧ (∀ i, i < k → s.2 (0, 13, 0) i = frM L c v i) ∧ s.2 (0, 13, 0) k = bset (fun j => frB L c v k j) j) ?_ ?_ (Q := fun μ2 => fr (oP (0, 13, 0)) (mset μ (0, 12, 0) 0 (actS v c)) μ2 ∧ (∀ i, i < k → μ2 (0, 13, 0) i = frM L c v i) ∧ μ2 (0, 13, 0) k = bset (fun j => frB L c v k j) 8) ⟨rfl, fr_trans w2 (fr_mset rfl), fun i hi => (mset_k (show i ≠ k by omega)).trans (w3 i hi), mset_at⟩ (FU_lt (by omega))) ?_
    · rintro j ⟨x, μ2⟩ hj ⟨u1, u2, u3, u4⟩
      dsimp only at u1 u2 u3 u4
      subst u1
      rw [un2_s, if_neg (show ¬ (8 : Int32) ≤ nI j from nI_ge (b := 8) hj (by omega)), jk_s, e12 u2, bd_eq (isIn_eq (by omega)), bd_eq (isIn_eq (by omega))]
      have done : ∀ b, frB L c v k j = b → ok (bd (if b2i b = 0 then some μ2 else some (mset μ2 (0, 13, 0) k (μ2 (0, 13, 0) k ||| bit1 j))) (fun (μ22 : ZMem) => some (.inl (nI j + 1, μ22) : (Int32 × ZMem) ⊕ ZMem))) (fun z => ∃ s', z = .inl s' ∧ s'.1 = nI (j + 1) ∧ fr (oP (0, 13, 0)) (mset μ (0, 12, 0) 0 (actS v c)) s'.2 ∧ (∀ i, i < k → s'.2 (0, 13, 0) i = frM L c v i) ∧ s'.2 (0, 13, 0) k = bset (fun j => frB L c v k j) (j + 1)) := by
        intro b hb1
        cases b
        · rw [if_pos b2i_f]
          refine ok_some ⟨_, rfl, nI_1 j, u2, u3, ?_⟩
          dsimp only
          rw [u4]
          exact (bset_f (p := fun j => frB L c v k j) hb1).symm
        · rw [if_neg b2i_t]
          refine ok_some ⟨_, rfl, nI_1 j, fr_trans u2 (fr_mset rfl), fun i hi => by dsimp only; rw [mset_k (by omega)]; exact u3 i hi, ?_⟩
          dsimp only
          rw [mset_at, u4]
          exact (bset_t (p := fun j => frB L c v k j) hb1).symm
      have skip : frB L c v k j = false → ok (bd (some (0 : Int32)) (fun (x13 : Int32) => bd (α := ZMem) (if x13 = 0 then some μ2 else bd (f_X11_isIn (μ2 (0, 7, 0) k) (nI j)) (fun (x24 : Int32) => if x24 = 0 then some μ2 else gd (zin (nI j) 8) (bd (f_X11_isIn (μ2 (0, 7, 0) (nI j).toNatClampNeg) (nI k)) (fun (x28 : Int32) => if x28 = 0 then some μ2 else zlt (mset μ2 (0, 13, 0) k ((μ2 (0, 13, 0) k) ||| (f_X11_bit (nI j)))) (fun (μ30 : ZMem) => some μ30))))) (fun (μ22 : ZMem) => some (.inl (nI j + 1, μ22) : (Int32 × ZMem) ⊕ ZMem)))) (fun z => ∃ s', z = .inl s' ∧ s'.1 = nI (j + 1) ∧ fr (oP (0, 13, 0)) (mset μ (0, 12, 0) 0 (actS v c)) s'.2 ∧ (∀ i, i < k → s'.2 (0, 13, 0) i = frM L c v i) ∧ s'.2 (0, 13, 0) k = bset (fun j => frB L c v k j) (j + 1)) := by
        intro hf
        rw [bd_s, if_pos rfl]
        have := done false hf
        rw [if_pos b2i_f] at this
        exact this
      by_cases z0 : nI k = nI j
      · have : k = j := (nI_inj' (by omega) (by omega)).mp z0
        rw [if_pos z0]
        refine skip ?_
        unfold frB
        rw [decide_eq_false (fun q => q this), Bool.false_and]
      · have z1 : k ≠ j := fun q => z0 (by rw [q])
        rw [if_neg z0]
        cases a1 : tbit (actS v c) k
        · rw [if_pos b2i_f]
          refine skip ?_
          unfold frB
          rw [a1, Bool.false_and, Bool.and_false]
        · rw [if_neg b2i_t]
          cases a2 : tbit (actS v c) j
          · rw [if_pos b2i_f]
            refine skip ?_
            unfold frB
            rw [a1, a2, Bool.false_and, Bool.and_false, Bool.and_false]
          · have k1 := act_lt h8 (by omega) a1
            have k2 := act_lt h8 (by omega) a2
            rw [if_neg b2i_t, bd_s, if_neg (show ¬ (1 : Int32) = 0 by decide), e7 u2 k k1, bd_eq (isIn_eq (by omega)), hb j k hj k1, decide_eq_true k2, decide_eq_true (show j ≠ k from fun q => z1 q.symm), Bool.true_and, Bool.true_and]
            have ef : frB L c v k j = (hearB L c v k j && hearB L c v j k) := by
              unfold frB
              rw [a1, a2, decide_eq_true z1, Bool.true_and, Bool.true_and, Bool.true_and]
            cases b1 : hearB L c v k j
            · rw [if_pos b2i_f]
              rw [b1, Bool.false_and] at ef
              have := done false ef
              rw [if_pos b2i_f] at this
              exact this
            · rw [if_neg b2i_t, gd_eq (zin_nI (by omega) (by omega)), nI_cl (by omega), e7 u2 j k2, bd_eq (isIn_eq (by omega)), hb k j hk k2, decide_eq_true k1, decide_eq_true z1, Bool.true_and, Bool.true_and]
              rw [b1, Bool.true_and] at ef
              exact done _ ef
    · rintro ⟨x, μ2⟩ ⟨u1, u2, u3, u4⟩
      dsimp only at u1 u2 u3 u4
      subst u1
      rw [un2_s, if_pos (by decide)]
      exact ok_some ⟨_, rfl, u2, u3, u4⟩
    · rintro μ2 ⟨u2, u3, u4⟩
      refine ok_some ⟨_, rfl, nI_1 k, u2, fun i hi => ?_⟩
      dsimp only
      by_cases e : i = k
      · subst e
        rw [u4]
        refine bset_8 h8 fun j hj => ?_
        unfold frB
        by_cases hj8 : j < 32
        · rw [act_bit h8 hj8, decide_eq_false (show ¬ j < c by omega), Bool.false_and, Bool.false_and, Bool.and_false, Bool.and_false]
        · have : tbit (actS v c) j = false := isS_iff.mp (isS_bset h8) j (by omega)
          rw [this, Bool.false_and, Bool.and_false, Bool.and_false]
      · exact u3 i (by omega)
  · rintro ⟨x, μ1⟩ ⟨w1, w2, w3⟩
    dsimp only at w1 w2 w3
    subst w1
    rw [un2_s, if_pos (by decide)]
    exact ok_some ⟨_, rfl, ⟨e12 w2, w3⟩, fr_trans (fr_mset (Or.inl rfl)) (fr_mono w2 (fun o i h => Or.inr h))⟩
theorem c_clique {c k : Nat} {v : Vec} {L : LawS} (h8 : c ≤ 8) (hk : k < 8) (h : grpI L c v μ) : f_X1_cliqueOf (nI k) μ = some (clqS L c v k) := by
  unfold f_X1_cliqueOf
  rw [zlt_s, h.1, show f_X11_bit (nI k) = bit1 k from rfl]
  have e0 : (actS v c) &&& (bit1 k) = if tbit (actS v c) k = true then bit1 k else 0 := by
    refine isS_ext (isS_and (isS_bset h8)) (by split; exact isS_bit1 hk; exact isS_0) fun j hj => ?_
    rw [tbit_and, tbit_bit1 hk]
    by_cases e : j = k
    · subst e
      rw [decide_eq_true rfl, Bool.and_true]
      cases a : tbit (actS v c) j
      · rw [if_neg (by decide), tbit_zero]
      · rw [if_pos rfl, tbit_bit1 hk, decide_eq_true rfl]
    · rw [decide_eq_false e, Bool.and_false]
      split
      · rw [tbit_bit1 hk, decide_eq_false e]
      · rw [tbit_zero]
  have inner : ∀ s : Int32, lp (σ := Int32 × Int32) (fun q => un2 q (fun (x6 : Int32) (x7 : Int32) => if 8 ≤ x7 then some (.inr x6) else bd (f_X11_isIn x6 x7) (fun (x11 : Int32) => bd (α := Int32) (if x11 = 0 then some x6 else gd (zin x7 8) (zlt (x6 ||| (μ (0, 13, 0) x7.toNatClampNeg)) (fun (x15 : Int32) => some x15))) (fun (x13 : Int32) => some (.inl (x13, (x7 + 1))))))) FU (s, 0) = some (pasN (frM L c v) 8 s) := by
    intro s
    refine lp_seq 8 (fun n => (pasN (frM L c v) n s, nI n)) ?_ ?_ (FU_lt (by omega)) rfl
    · intro n hn
      rw [un2_s, if_neg (show ¬ (8 : Int32) ≤ nI n from nI_ge (b := 8) hn (by omega)), bd_eq (isIn_eq (by omega)), pasN_s]
      unfold brg
      cases a : tbit (pasN (frM L c v) n s) n
      · rw [if_pos b2i_f, if_neg (by decide), bd_s, nI_1]
      · rw [if_neg b2i_t, if_pos rfl, gd_eq (zin_nI (by omega) (by omega)), nI_cl (by omega), h.2 n hn, zlt_s, bd_s, nI_1]
    · rw [un2_s, if_pos (by decide)]
  have outer : ∀ s : Int32, (lp (σ := Int32 × Int32) (fun q => un2 q (fun (x2 : Int32) (x3 : Int32) => if 8 ≤ x3 then some (.inr x2) else bd (lp (σ := Int32 × Int32) (fun q => un2 q (fun (x6 : Int32) (x7 : Int32) => if 8 ≤ x7 then some (.inr x6) else bd (f_X11_isIn x6 x7) (fun (x11 : Int32) => bd (α := Int32) (if x11 = 0 then some x6 else gd (zin x7 8) (zlt (x6 ||| (μ (0, 13, 0) x7.toNatClampNeg)) (fun (x15 : Int32) => some x15))) (fun (x13 : Int32) => some (.inl (x13, (x7 + 1))))))) FU (x2, 0)) (fun (x8 : Int32) => some (.inl (x8, (x3 + 1)))))) FU (s, 0)) = some (clqI (frM L c v) s 8) := by
    intro s
    refine lp_seq 8 (fun n => (clqI (frM L c v) s n, nI n)) ?_ ?_ (FU_lt (by omega)) rfl
    · intro n hn
      rw [un2_s, if_neg (show ¬ (8 : Int32) ≤ nI n from nI_ge (b := 8) hn (by omega)), inner, bd_s, nI_1]
      rfl
    · rw [un2_s, if_pos (by decide)]
  rw [e0, outer, bd_s]
  unfold clqS
  cases a : tbit (actS v c) k
  · rw [if_neg (by decide), if_neg (by decide)]
    refine congrArg some ?_
    have z : ∀ n, pasN (frM L c v) n 0 = 0 := fun n => by
      induction n with
      | zero => rfl
      | succ n ih =>
        rw [pasN_s, ih]
        unfold brg
        rw [tbit_zero, if_neg (by decide)]
    have : ∀ n, clqI (frM L c v) 0 n = 0 := fun n => by
      induction n with
      | zero => rfl
      | succ n ih =>
        show pasN (frM L c v) 8 (clqI (frM L c v) 0 n) = 0
        rw [ih]; exact z 8
    exact this 8
  · rw [if_pos rfl, if_pos rfl]
end PB
