/-! acts on both sides: spare -/
def frA (F : Nat → Int32) (s : Int32) (k j : Nat) : Bool := !(tbit s k && tbit s j) || tbit (F k) j
def frS (F : Nat → Int32) (s : Int32) (c : Nat) : Bool := alB (fun k => alB (frA F s k) k) c
theorem frA_t {F : Nat → Int32} {s : Int32} {k j : Nat} : frA F s k j = true ↔ (tbit s k = true → tbit s j = true → tbit (F k) j = true) := by
  unfold frA
  cases tbit s k <;> cases tbit s j <;> simp
theorem frB_sym {L : LawS} {c : Nat} {v : Vec} {k j : Nat} : frB L c v k j = frB L c v j k := by
  unfold frB
  rw [show decide (k ≠ j) = decide (j ≠ k) from decide_eq_decide.mpr ⟨fun h e => h e.symm, fun h e => h e.symm⟩]
  cases tbit (actS v c) k <;> cases tbit (actS v c) j <;> cases hearB L c v k j <;> cases hearB L c v j k <;> rfl
theorem frM_bit {L : LawS} {c : Nat} {v : Vec} {k j : Nat} (h8 : c ≤ 8) (hj : j < c) : tbit (frM L c v k) j = frB L c v k j := by
  unfold frM
  rw [tbit_bset (by omega) (by omega), decide_eq_true hj, Bool.true_and]
theorem frS_iff {L : LawS} {c : Nat} {v : Vec} {s : Int32} (h8 : c ≤ 8) (hs : ∀ j, c ≤ j → tbit s j = false) : frS (frM L c v) s c = true ↔ ∀ k, k < 8 → ∀ j, j < 8 → tbit s k = true → tbit s j = true → k ≠ j → tbit (frM L c v k) j = true := by
  have lt : ∀ k, tbit s k = true → k < c := fun k hk => by
    by_cases e : k < c
    · exact e
    · rw [hs k (by omega)] at hk; cases hk
  unfold frS
  rw [alB_iff]
  constructor
  · intro h k hk j hj tk tj hne
    have k1 := lt k tk
    have j1 := lt j tj
    by_cases e : j < k
    · exact frA_t.mp ((alB_iff k).mp (h k k1) j e) tk tj
    · have := frA_t.mp ((alB_iff j).mp (h j j1) k (by omega)) tj tk
      rw [frM_bit h8 k1] at this
      rw [frM_bit h8 j1, frB_sym]; exact this
  · intro h k hk
    exact (alB_iff k).mpr fun j hj => frA_t.mpr fun tk tj => h k (by omega) j (by omega) tk tj (by omega)
theorem and_not_0 {x y : Int32} (hx : isS x) : x &&& (y ^^^ (-1)) = 0 ↔ ∀ k, k < 8 → tbit x k = true → tbit y k = true := by
  constructor
  · intro h k hk t
    have e : tbit (x &&& (y ^^^ (-1))) k = false := by rw [h, tbit_zero]
    rw [tbit_and, tbit_not _ (by omega), t, Bool.true_and] at e
    cases hy : tbit y k
    · rw [hy] at e; cases e
    · rfl
  · intro h
    refine isS_ext (isS_and hx) isS_0 fun k hk => ?_
    rw [tbit_and, tbit_not _ (by omega), tbit_zero]
    cases t : tbit x k
    · rfl
    · rw [h k hk t]; rfl
section PN
variable {y : ZLay} {μ : ZMem} {S S' : SV} {tp tp' : Vec} {tl tl' : Nat} {fa fa' : Int32} {kp kp' : Option SV} {ac ac' : List (Nat × Vec)}
theorem isS_not {x y : Int32} (h : isS x) : isS (x &&& (y ^^^ (-1))) := isS_and h
theorem c_allFr {L : LawS} {c : Nat} {v : Vec} {s : Int32} (h8 : c ≤ 8) (hS : isS s) (hs : ∀ j, c ≤ j → tbit s j = false) (h : grpI L c v μ) : f_X1_areFriends s μ = some (b2i (frS (frM L c v) s c)) := by
  have key : ok (f_X1_areFriends s μ) (fun r => r = b2i (frS (frM L c v) s c)) := by
    unfold f_X1_areFriends
    refine ok_b1 (P := fun z => (z = .inl () ∧ frS (frM L c v) s c = true) ∨ (z = .inr 0 ∧ frS (frM L c v) s c = false)) (ok_early 8 (fun k x => x = nI k ∧ ∀ i, i < k → tbit s i = true → ∀ j, j < 8 → tbit s j = true → i ≠ j → tbit (frM L c v i) j = true) ?_ ?_ ⟨rfl, fun i hi => absurd hi (by omega)⟩ (FU_lt (by omega))) ?_
    · rintro k x hk ⟨rfl, w⟩
      rw [if_neg (show ¬ (8 : Int32) ≤ nI k from nI_ge (b := 8) hk (by omega)), bd_eq (isIn_eq (by omega)), jk_s]
      cases t : tbit s k
      · rw [if_pos b2i_f]
        refine ok_some (Or.inl ⟨_, rfl, nI_1 k, fun i hi ti => ?_⟩)
        by_cases e : i = k
        · rw [e, t] at ti; cases ti
        · exact w i (by omega) ti
      · rw [if_neg b2i_t, gd_eq (zin_nI (by omega) (by omega)), nI_cl (by omega), h.2 k hk]
        have iff : (s &&& (f_X11_bit (nI k) ^^^ (-1))) &&& ((frM L c v k) ^^^ (-1)) = 0 ↔ ∀ j, j < 8 → tbit s j = true → k ≠ j → tbit (frM L c v k) j = true := by
          rw [and_not_0 (isS_not hS), show f_X11_bit (nI k) = bit1 k from rfl]
          constructor
          · intro hh j hj tj hne
            refine hh j hj ?_
            rw [tbit_and, tbit_not _ (by omega), tj, tbit_bit1 hk, decide_eq_false (fun e => hne e.symm)]; rfl
          · intro hh j hj tj
            rw [tbit_and, tbit_not _ (by omega), tbit_bit1 hk, Bool.and_eq_true] at tj
            refine hh j hj tj.1 fun e => ?_
            have t2 := tj.2
            rw [decide_eq_true e.symm] at t2
            cases t2
        by_cases e : (s &&& (f_X11_bit (nI k) ^^^ (-1))) &&& ((frM L c v k) ^^^ (-1)) = 0
        · rw [if_pos e]
          refine ok_some (Or.inl ⟨_, rfl, nI_1 k, fun i hi ti => ?_⟩)
          by_cases e2 : i = k
          · rw [e2]; exact fun j hj tj hne => iff.mp e j hj tj hne
          · exact w i (by omega) ti
        · rw [if_neg e]
          refine ok_some (Or.inr ⟨_, rfl, Or.inr ⟨rfl, ?_⟩⟩)
          cases b : frS (frM L c v) s c
          · rfl
          · exact absurd (iff.mpr fun j hj tj hne => (frS_iff h8 hs).mp b k hk j hj t tj hne) e
    · rintro x ⟨rfl, w⟩
      rw [if_pos (by decide)]
      exact ok_some ⟨_, rfl, Or.inl ⟨rfl, (frS_iff h8 hs).mpr fun k hk j hj tk tj hne => w k hk tk j hj tj hne⟩⟩
    · rintro z (⟨rfl, e⟩ | ⟨rfl, e⟩)
      · rw [e]; exact ok_some rfl
      · rw [e]; exact ok_some rfl
  obtain ⟨r, e1, e2⟩ := key
  rw [e1, e2]
theorem m_allFr {L : LawS} {c : Nat} {v : Vec} {s : Int32} (hv : μ MV0 = v) (h3 : v 3 = nI c) (h8 : c ≤ 8) (h44 : ∀ k, k < c → μ (0, 44, 0) k = frM L c v k) : f_X12_areAllFriends s μ = some (b2i (frS (frM L c v) s c)) := by
  have e3 : μ (0, 33, 0) 3 = nI c := by rw [show μ (0, 33, 0) = v from hv]; exact h3
  obtain ⟨F, hF⟩ : ∃ F, F = frM L c v := ⟨_, rfl⟩
  unfold f_X12_areAllFriends
  rw [e3, ← hF]
  rw [← hF] at h44
  rw [bd_eq (lp_seq (s0 := ((1 : Int32), (0 : Int32))) (r := b2i (frS F s c)) c (fun k => (b2i (frS F s k), nI k)) ?_ ?_ (FU_lt (by omega)) rfl), gd_eq (zbo_b2i _)]
  · intro k hk
    rw [un2_s, if_neg (nI_ge hk (by omega))]
    rw [bd_eq (lp_seq (s0 := (b2i (frS F s k), (0 : Int32))) (r := b2i (frS F s (k + 1))) k (fun j => (b2i (frS F s k && alB (frA F s k) j), nI j)) ?_ ?_ (FU_lt (by omega)) ?_), nI_1]
    · intro j hj
      rw [un2_s, if_neg (nI_ge hj (by omega)), jk_s, alB_s, ← Bool.and_assoc, nI_1]
      cases b : (frS F s k && alB (frA F s k) j)
      · rw [if_pos b2i_f, bd_s, Bool.false_and]; rfl
      · rw [if_neg b2i_t, Bool.true_and, bd_eq (isOf_eq (by omega)), jk_s, bd_eq (isOf_eq (by omega)), gd_eq (zin_nI (by omega) (by omega)), nI_cl (by omega), h44 k hk, bd_eq (isOf_eq (by omega))]
        unfold frA
        cases tbit s k
        · rw [if_pos b2i_f]; rfl
        · rw [if_neg b2i_t]
          cases tbit s j
          · rw [if_pos b2i_f]; rfl
          · rw [if_neg b2i_t]
            cases tbit (F k) j
            · rw [if_pos b2i_f]; rfl
            · rw [if_neg b2i_t]; rfl
    · rw [un2_s, if_pos (nI_le (Nat.le_refl _) (by omega))]; rfl
    · show (b2i (frS F s k && true), _) = _
      rw [Bool.and_true]; rfl
  · rw [un2_s, if_pos (nI_le (Nat.le_refl _) (by omega))]
end PN
