/-! acts on both sides: shift, hears, spread, agreed, mid -/
section PA
variable {y : ZLay} {μ : ZMem} {S S' : SV} {tp tp' : Vec} {tl tl' : Nat} {fa fa' : Int32} {kp kp' : Option SV} {ac ac' : List (Nat × Vec)}
theorem c_look0 {s : Nat} (h : SS y μ s S) (ho : OS S) : ok (f_X10_look y s μ) (fun μ' => CS μ' s S.1 S.2.1 ∧ fr viewP μ μ' ∧ lookI S.2.2 S.1 S.2.1 S.1 μ' ∧ ∀ k, k < S.1 → μ' (0, 7, 0) k = heardS S.2.2 S.1 S.2.1 k) :=
  c_look (n := lno μ s) h.1 ho.1.1 ho.1.2 ho.2.1 h.2.2.1 rfl
theorem m_law {μ1 : ZMem} (h : μ1 MV0 = S.2.1) (ho : OS S) {k o : Nat} (hk : k < 8) (hq : o < 8) : ok (f_X12_shiftOf (nI k) (nI o) μ1) (fun q => q.1 = shiftS S.2.2 S.1 S.2.1 k o ∧ fr askP μ1 q.2) :=
  m_shiftOf h ho.2.2.1 (fun _ _ => rfl) ho.1.1 hk hq
theorem m_heard {μ1 : ZMem} (h : μ1 MV0 = S.2.1) (ho : OS S) {k o : Nat} (hk : k < 8) (hq : o < 8) : ok (f_X12_isHeard (nI k) (nI o) μ1) (fun q => q.1 = b2i (hearB S.2.2 S.1 S.2.1 k o) ∧ fr askP μ1 q.2) := by
  unfold f_X12_isHeard
  refine ok_b2 (m_law h ho hq hk) ?_
  rintro x μ2 ⟨w1, w2⟩
  dsimp only at w1 w2
  have hv : μ2 MV0 = S.2.1 := (ask_vec w2).trans h
  rw [bd_eq (show f_X12_of (nI k) 0 μ2 = some (nd S.2.1 k 0) from ofV (w := 0) hv rfl hk (by omega)), show μ2 (0, 33, 0) = S.2.1 from hv, bd_eq m_isIn, gd_eq (zbo_b2i _), w1]
  exact ok_some ⟨rfl, w2⟩
/-- two nodes -/
def twoN (c : Nat) (a b : Int32) : Nat := if nodeB c a = true ∧ nodeB c b = true then (if a = b then 2 else 0) else 1
theorem m_areTwo {a b : Int32} {μ1 : ZMem} (h : RMo μ1 S tp tl fa kp ac) (ho : OA S tp tl kp ac) : f_X12_areTwo a b μ1 = some (mset μ1 MO0 0 (nI (twoN S.1 a b))) := by
  unfold f_X12_areTwo twoN
  rw [bd_eq (m_node0 h ho), jk_s, bd_eq (m_node0 h ho)]
  cases hA : nodeB S.1 a
  · rw [if_pos b2i_f, if_neg (by rintro ⟨h, -⟩; cases h)]; rfl
  · rw [if_neg b2i_t]
    cases hB : nodeB S.1 b
    · rw [if_pos b2i_f, if_neg (by rintro ⟨-, h⟩; cases h)]; rfl
    · rw [if_neg b2i_t, if_pos (show true = true ∧ true = true from ⟨rfl, rfl⟩)]
      by_cases e : a = b
      · rw [if_pos e, if_pos e]; rfl
      · rw [if_neg e, if_neg e]; rfl
theorem two_0 {c : Nat} (h8 : c ≤ 8) {a b : Int32} (h : twoN c a b = 0) : ∃ k o, k < c ∧ o < c ∧ k ≠ o ∧ a = nI k ∧ b = nI o := by
  unfold twoN at h
  split at h
  · rename_i hn
    split at h
    · omega
    · rename_i e
      obtain ⟨k, hk, rfl⟩ := nodeB_t h8 hn.1
      obtain ⟨o, hq, rfl⟩ := nodeB_t h8 hn.2
      exact ⟨k, o, hk, hq, fun q => e (by rw [q]), rfl, rfl⟩
  · omega
theorem two_ref {F : ZMem → Option ((Int32 ⊕ Nat) × ZMem)} {G : ZMem → Option (Int32 × ZMem)} {a b : Int32} {K : Option ((Int32 ⊕ Nat) × ZMem)} (hc : RC y μ S tp tl fa kp ac) (hm : RMo μ S tp tl fa kp ac) (ho : OA S tp tl kp ac)
    (hF : F μ = bd (f_X11_isNode a μ) (fun (x2 : Int32) => jk (some (.inr 3, μ)) (fun k4 => if x2 = 0 then k4 else bd (f_X11_isNode b μ) (fun (x6 : Int32) => if x6 = 0 then k4 else if a = b then some (.inr 1, μ) else K))))
    (hG : ∀ μ1, ¬ twoN S.1 a b = 0 → RMo μ1 S tp tl fa kp ac → G μ1 = some (0, mset μ1 MO0 0 (nI (twoN S.1 a b)))) (hK : ∀ k o, k < S.1 → o < S.1 → k ≠ o → a = nI k → b = nI o → F μ = K → twoN S.1 a b = 0 → ok (F μ) (fun r => ∀ μ1, fr outP r.2 μ1 → ok (G μ1) (fun q => agr cmB r.1 (q.2 MO0 0) q.1 ∧ INV y q.2))) :
    ok (F μ) (fun r => ∀ μ1, fr outP r.2 μ1 → ok (G μ1) (fun q => agr cmB r.1 (q.2 MO0 0) q.1 ∧ INV y q.2)) := by
  have h8 := OA_c ho
  rw [bd_eq (c_isNode hc.1), jk_s, bd_eq (c_isNode hc.1)] at hF
  by_cases hA : nodeB S.1 a = true
  · rw [hA, if_neg b2i_t] at hF
    by_cases hB : nodeB S.1 b = true
    · rw [hB, if_neg b2i_t] at hF
      by_cases e : a = b
      · rw [if_pos e] at hF
        have e2 : twoN S.1 a b = 2 := by unfold twoN; rw [if_pos ⟨hA, hB⟩, if_pos e]
        exact op_ref (k := 1) hc hm ho (by decide) hF (fun μ1 r1 => by rw [hG μ1 (by omega) r1, e2]; rfl)
      · rw [if_neg e] at hF
        have e2 : twoN S.1 a b = 0 := by unfold twoN; rw [if_pos ⟨hA, hB⟩, if_neg e]
        obtain ⟨k, o, h1, h2, h3, h4, h5⟩ := two_0 h8 e2
        exact hK k o h1 h2 h3 h4 h5 hF e2
    · have e0 : nodeB S.1 b = false := by cases hb : nodeB S.1 b; rfl; exact absurd hb hB
      rw [e0, if_pos b2i_f] at hF
      have e2 : twoN S.1 a b = 1 := by unfold twoN; rw [if_neg (fun q => hB q.2)]
      exact op_ref (k := 3) hc hm ho (by decide) hF (fun μ1 r1 => by rw [hG μ1 (by omega) r1, e2]; rfl)
  · have e0 : nodeB S.1 a = false := by cases hb : nodeB S.1 a; rfl; exact absurd hb hA
    rw [e0, if_pos b2i_f] at hF
    have e2 : twoN S.1 a b = 1 := by unfold twoN; rw [if_neg (fun q => hA q.1)]
    exact op_ref (k := 3) hc hm ho (by decide) hF (fun μ1 r1 => by rw [hG μ1 (by omega) r1, e2]; rfl)
theorem two_le {c : Nat} {a b : Int32} : twoN c a b ≤ 2 := by unfold twoN; split <;> (try split) <;> omega
theorem OP_shift {a1 a2 : Int32} : OPx y cmB (f_X11_shift y a1 a2) (f_X12_shift a1 a2) := by
  rintro μ ⟨S, tp, tl, fa, kp, ac, hc, hm, ho⟩
  have h8 := OA_c ho
  refine two_ref (a := a1) (b := a2) hc hm ho (by unfold f_X11_shift; rfl) ?_ ?_
  · intro μ1 ht r1
    unfold f_X12_shift
    have hl := two_le (c := S.1) (a := a1) (b := a2)
    rw [bd_eq (m_areTwo r1 ho), thr_0, if_neg (nI_nle (by omega) (by omega))]
    rfl
  · intro k o hk hq hne ea eb hF h2
    subst ea eb
    refine op_q (A := .inl (shiftS S.2.2 S.1 S.2.1 k o)) hc hm ho ?_ ?_
    · rw [hF]
      refine ok_b1 (c_look0 hc.1 ho.1) ?_
      rintro μ1 ⟨w1, w2, w3, w4⟩
      rw [gd_eq (zin_nI (by omega) (by omega)), gd_eq (zin_nI (by omega) (by omega)), nI_cl (by omega), nI_cl (by omega), (w3.2.2 k hk).2.2 o hq]
      exact ok_some ⟨rfl, fr_mono w2 (fun o i h => vw_sc h)⟩
    · intro μ1 r1
      unfold f_X12_shift
      rw [bd_eq (m_areTwo r1 ho), h2, thr_0, if_pos (by decide)]
      refine ok_b2 (ok_b2i (m_law ((mset_ne (by decide)).trans r1.1) ho.1 (by omega) (by omega))) ?_
      rintro x μ2 ⟨w1, w2⟩
      dsimp only at w1 w2
      refine ok_some ⟨⟨?_, w1⟩, fr_trans thr_fr (fr_mono w2 (fun o i h => ask_ms h))⟩
      dsimp only
      rw [w2.1 _ _ ask_0]
      exact thr_0
theorem OP_hears {a1 a2 : Int32} : OPx y cmB (f_X11_hears y a1 a2) (f_X12_hears a1 a2) := by
  rintro μ ⟨S, tp, tl, fa, kp, ac, hc, hm, ho⟩
  have h8 := OA_c ho
  refine two_ref (a := a1) (b := a2) hc hm ho (by unfold f_X11_hears; rfl) ?_ ?_
  · intro μ1 ht r1
    unfold f_X12_hears
    have hl := two_le (c := S.1) (a := a1) (b := a2)
    rw [bd_eq (m_areTwo r1 ho), jk_s, thr_0, if_neg (show ¬ nI (twoN S.1 a1 a2) = 0 from ne_code (b := 0) rfl (by omega) (by omega) ht), bd2_s, gd_eq (by decide)]
  · intro k o hk hq hne ea eb hF h2
    subst ea eb
    refine op_q (A := .inl (b2i (hearB S.2.2 S.1 S.2.1 k o))) hc hm ho ?_ ?_
    · rw [hF]
      refine ok_b1 (c_look0 hc.1 ho.1) ?_
      rintro μ1 ⟨w1, w2, w3, w4⟩
      rw [gd_eq (zin_nI (by omega) (by omega)), nI_cl (by omega), w4 k hk, bd_eq (isIn_eq (by omega)), gd_eq (zbo_b2i _)]
      unfold heardS
      rw [tbit_bset (by omega) (by omega), decide_eq_true hq, decide_eq_true (show o ≠ k from fun q => hne q.symm), Bool.true_and, Bool.true_and]
      exact ok_some ⟨rfl, fr_mono w2 (fun o i h => vw_sc h)⟩
    · intro μ1 r1
      unfold f_X12_hears
      rw [bd_eq (m_areTwo r1 ho), h2, jk_s, thr_0, if_pos (by decide)]
      refine ok_b2 (P := fun q => q.1 = b2i (hearB S.2.2 S.1 S.2.1 k o) ∧ fr askP (mset μ1 MO0 0 (nI 0)) q.2) (ok_b2 (m_heard ((mset_ne (by decide)).trans r1.1) ho.1 (by omega) (by omega)) ?_) ?_
      · rintro x μ2 ⟨w1, w2⟩
        dsimp only at w1 w2
        subst w1
        cases hearB S.2.2 S.1 S.2.1 k o
        · rw [if_pos b2i_f]; exact ok_some ⟨rfl, w2⟩
        · rw [if_neg b2i_t]; exact ok_some ⟨rfl, w2⟩
      · rintro x μ2 ⟨w1, w2⟩
        dsimp only at w1 w2
        subst w1
        rw [gd_eq (zbo_b2i _)]
        refine ok_some ⟨⟨?_, rfl⟩, fr_trans thr_fr (fr_mono w2 (fun o i h => ask_ms h))⟩
        dsimp only
        rw [w2.1 _ _ ask_0]
        exact thr_0
/-- how far the clocks lie apart -/
def spI (v : Vec) : Nat → Nat × Int32 × Int32
  | 0 => (0, 0, 0)
  | k + 1 => if nd v k 3 = 2 then ((spI v k).1 + 1, (if (spI v k).1 = 0 then nd v k 0 else f_X12_lesser (spI v k).2.1 (nd v k 0)), (if (spI v k).1 = 0 then nd v k 0 else f_X12_greater (spI v k).2.2 (nd v k 0))) else spI v k
def spreadS (v : Vec) (c : Nat) : Int32 := (spI v c).2.2 - (spI v c).2.1
theorem spI_s {v : Vec} {k : Nat} : spI v (k + 1) = if nd v k 3 = 2 then ((spI v k).1 + 1, (if (spI v k).1 = 0 then nd v k 0 else f_X12_lesser (spI v k).2.1 (nd v k 0)), (if (spI v k).1 = 0 then nd v k 0 else f_X12_greater (spI v k).2.2 (nd v k 0))) else spI v k := rfl
theorem spI_le {v : Vec} : ∀ k, (spI v k).1 ≤ k
  | 0 => Nat.le_refl _
  | k + 1 => by
    have := spI_le (v := v) k
    rw [spI_s]
    split
    · dsimp only; omega
    · omega
theorem c_spread {s c : Nat} {v : Vec} (h : CS μ s c v) : f_X7_spreadOfClocks s μ = some (spreadS v c) := by
  have h8 := h.1
  unfold f_X7_spreadOfClocks
  rw [bd2_eq (lp_seq (s0 := ((0 : Int32), (0 : Int32), (0 : Int32), (0 : Int32))) (r := ((spI v c).2.1, (spI v c).2.2)) c (fun k => ((if (spI v k).1 = 0 then (0 : Int32) else 1), (spI v k).2.1, (spI v k).2.2, nI k)) ?_ ?_ (FU_lt (by omega)) rfl)]
  · rfl
  · intro k hk
    rw [un4_s, CS_c h, if_neg (nI_ge hk (by omega)), gd_eq (zin_nI (by omega) (by omega)), nI_cl (by omega), CS_nd h hk (by omega), CS_nd h hk (by omega), spI_s, nI_1]
    by_cases a : nd v k 3 = 2
    · rw [if_pos a, if_pos a, zlt_s, zmin_eq, zmax_eq]
      by_cases z : (spI v k).1 = 0
      · rw [if_pos z, if_pos rfl, if_pos rfl, if_pos z, if_pos z]
        show _ = some (Sum.inl ((if (spI v k).1 + 1 = 0 then (0 : Int32) else 1), _))
        rw [if_neg (show ¬ (spI v k).1 + 1 = 0 by omega)]; rfl
      · rw [if_neg z, if_neg (show ¬ (1 : Int32) = 0 by decide), if_neg (show ¬ (1 : Int32) = 0 by decide), if_neg z, if_neg z]
        show _ = some (Sum.inl ((if (spI v k).1 + 1 = 0 then (0 : Int32) else 1), _))
        rw [if_neg (show ¬ (spI v k).1 + 1 = 0 by omega)]; rfl
    · rw [if_neg a, if_neg a]; rfl
  · rw [un4_s, CS_c h, if_pos (nI_le (Nat.le_refl _) (by omega))]
theorem pcn_bset {p : Nat → Bool} {c : Nat} (h8 : c ≤ 8) : pc (bset p c) = pcn c p := by
  have e : ∀ n, n ≤ 8 → pcn n (tbit (bset p c)) = pcn (min n c) p := by
    intro n
    induction n with
    | zero => intro _; simp [pcn]
    | succ n ih =>
      intro hn
      show pcn n (tbit (bset p c)) + _ = _
      rw [ih (by omega), tbit_bset (by omega) (by omega)]
      by_cases hc : n < c
      · rw [decide_eq_true hc, Bool.true_and, show min n c = n by omega, show min (n + 1) c = n + 1 by omega]; rfl
      · rw [decide_eq_false hc, Bool.false_and, if_neg (by decide), show min n c = c by omega, show min (n + 1) c = c by omega]; rfl
  rw [show pc (bset p c) = pcn 8 (tbit (bset p c)) from rfl, e 8 (by omega), show min 8 c = c by omega]
theorem spI_pc {v : Vec} : ∀ c, (spI v c).1 = pcn c (fun k => decide (nd v k 3 = 2))
  | 0 => rfl
  | c + 1 => by
    show _ = pcn c (fun k => decide (nd v k 3 = 2)) + _
    rw [spI_s, ← spI_pc c]
    by_cases a : nd v c 3 = 2
    · rw [if_pos a, if_pos (decide_eq_true a)]
    · rw [if_neg a, if_neg (by dsimp only; rw [decide_eq_false a]; decide)]; rfl
theorem spI_1 {v : Vec} : ∀ c, (spI v c).1 ≤ 1 → (spI v c).2.2 = (spI v c).2.1
  | 0, _ => rfl
  | c + 1, h => by
    have ih := spI_1 (v := v) c
    rw [spI_s] at h ⊢
    by_cases a : nd v c 3 = 2
    · rw [if_pos a] at h ⊢
      dsimp only at h ⊢
      rw [if_pos (by omega), if_pos (by omega)]
    · rw [if_neg a] at h ⊢
      exact ih h
theorem big_le {x : Int32} (h : rng x (-999) 999) : f_X12_lesser 2000000000 x = x ∧ f_X12_greater (-2000000000) x = x := by
  rw [lesser_eq, greater_eq]
  constructor
  · rw [if_neg]
    rw [Int32.lt_iff_toInt_lt, show (2000000000 : Int32).toInt = 2000000000 by decide]
    have := h.2
    omega
  · rw [if_neg]
    rw [Int32.lt_iff_toInt_lt, show (-2000000000 : Int32).toInt = -2000000000 by decide]
    have := h.1
    omega
theorem m_spread {c : Nat} {v : Vec} (hv : μ MV0 = v) (ho : okC c v) : f_X12_spreadNow μ = some (spreadS v c) := by
  obtain ⟨⟨h8, h3, hw⟩, hB⟩ := ho
  unfold f_X12_spreadNow
  rw [bd2_eq (lp_seq (s0 := ((2000000000 : Int32), (-2000000000 : Int32), (0 : Int32))) (r := ((if (spI v c).1 = 0 then (2000000000 : Int32) else (spI v c).2.1), (if (spI v c).1 = 0 then (-2000000000 : Int32) else (spI v c).2.2))) c (fun k => ((if (spI v k).1 = 0 then (2000000000 : Int32) else (spI v k).2.1), (if (spI v k).1 = 0 then (-2000000000 : Int32) else (spI v k).2.2), nI k)) ?_ ?_ (FU_lt (by omega)) rfl), bd_eq (m_inState_eq (c := c) (by rw [hv]; exact h3) h8), bd_eq (bits_eq (isS_bset h8)), zlt_s]
  · rw [pcn_bset h8, hv, ← spI_pc]
    have hl := spI_le (v := v) c
    unfold spreadS
    by_cases h2 : 2 ≤ (spI v c).1
    · rw [if_pos (show (2 : Int32) ≤ nI (spI v c).1 from nI_le (a := 2) h2 (by omega)), if_neg (by omega), if_neg (by omega)]
    · rw [if_neg (show ¬ (2 : Int32) ≤ nI (spI v c).1 from nI_ge (b := 2) (by omega) (by omega)), spI_1 c (by omega), Int32.sub_self]
  · intro k hk
    rw [un3_s, show μ (0, 33, 0) 3 = nI c by rw [show μ (0, 33, 0) = v from hv]; exact h3, if_neg (nI_ge hk (by omega)), bd_eq (isActive_eq (by omega)), hv, bd_eq (show f_X12_of (nI k) 0 μ = some (nd v k 0) from ofV (w := 0) hv rfl (by omega) (by omega)), spI_s, nI_1]
    have hr := (hB.1 k hk).1
    by_cases a : nd v k 3 = 2
    · rw [decide_eq_true a, if_neg b2i_t, if_pos a, zlt_s, bd_eq (show f_X12_of (nI k) 0 μ = some (nd v k 0) from ofV (w := 0) hv rfl (by omega) (by omega)), zlt_s, bd2_s]
      show _ = some (Sum.inl ((if (spI v k).1 + 1 = 0 then (2000000000 : Int32) else _), (if (spI v k).1 + 1 = 0 then (-2000000000 : Int32) else _), _))
      rw [if_neg (show ¬ (spI v k).1 + 1 = 0 by omega), if_neg (show ¬ (spI v k).1 + 1 = 0 by omega)]
      by_cases z : (spI v k).1 = 0
      · rw [if_pos z, if_pos z, if_pos z, if_pos z, (big_le hr).1, (big_le hr).2]
      · rw [if_neg z, if_neg z, if_neg z, if_neg z]
    · rw [decide_eq_false a, if_pos b2i_f, if_neg a, bd2_s]
  · rw [un3_s, show μ (0, 33, 0) 3 = nI c by rw [show μ (0, 33, 0) = v from hv]; exact h3, if_pos (nI_le (Nat.le_refl _) (by omega))]
theorem OP_spread : OPr y f_X11_spread f_X12_spread := by
  rintro μ ⟨S, tp, tl, fa, kp, ac, hc, hm, ho⟩
  refine op_r (A := spreadS S.2.1 S.1) hc ho (by unfold f_X11_spread; rw [bd_eq (c_spread hc.1.1)]) ?_
  unfold f_X12_spread
  rw [zlt_s, bd_eq (m_spread (c := S.1) (v := S.2.1) ((mset_ne (by decide)).trans hm.1) ho.1.1)]
  exact ok_some ⟨rfl, thr_RM hm, ms_fr thr_fr⟩
end PA
