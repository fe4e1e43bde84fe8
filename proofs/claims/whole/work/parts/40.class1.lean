/-! the class: State s stands for the vector v -/
def ringOK (μ : ZMem) (s : Nat) (v : Vec) : Prop := ∃ n r, n ≤ 60 ∧ r < 60 ∧ μ (1, s, 0) 2 = nI n ∧ v 7 = nI n ∧ μ (1, s, 0) 3 = nI r ∧ ∀ j, j < n → ∀ i, i < 4 → μ (4, s, 0) (4 * ((r + 59 - j) % 60) + i) = v (97 + 4 * j + i)
def CS (μ : ZMem) (s c : Nat) (v : Vec) : Prop :=
  c ≤ 8 ∧ μ (1, s, 0) 4 = nI c ∧ v 3 = nI c ∧ μ (1, s, 0) 5 = v 4 ∧ μ (1, s, 0) 6 = v 5 ∧ μ (1, s, 0) 7 = v 6 ∧ μ (1, s, 0) 8 = v 8 ∧ (∀ k, k < c → ∀ x, x < 11 → μ (3, s, k) x = nd v k x) ∧ ringOK μ s v
theorem zne {a b a' b' i i' : Nat} (h : a ≠ a') : ((a, b, i) : ZId) ≠ (a', b', i') := fun e => h (congrArg (fun q : ZId => q.1) e)
theorem ring_congr {μ μ' : ZMem} {s : Nat} {v v' : Vec} (h : ringOK μ s v) (h1 : μ' (1, s, 0) 2 = μ (1, s, 0) 2) (h2 : μ' (1, s, 0) 3 = μ (1, s, 0) 3) (h3 : μ' (4, s, 0) = μ (4, s, 0)) (h4 : v' 7 = v 7) (h5 : ∀ i, 97 ≤ i → i < 337 → v' i = v i) : ringOK μ' s v' := by
  obtain ⟨n, r, hn, hr, a1, a2, a3, a4⟩ := h
  refine ⟨n, r, hn, hr, h1.trans a1, h4.trans a2, h2.trans a3, ?_⟩
  intro j hj i hi
  rw [h3, h5 _ (by omega) (by omega)]
  exact a4 j hj i hi
theorem CS_ns {μ : ZMem} {s c k x : Nat} {v : Vec} {a : Int32} (h : CS μ s c v) (hk : k < c) (hx : x < 11) : CS (mset μ (3, s, k) x a) s c (ns v k x a) := by
  obtain ⟨h8, h1, h2, h3, h4, h5, h6, h7, h9⟩ := h
  have e1 : (mset μ (3, s, k) x a) (1, s, 0) = μ (1, s, 0) := mset_ne (zne (by decide))
  have e4 : (mset μ (3, s, k) x a) (4, s, 0) = μ (4, s, 0) := mset_ne (zne (by decide))
  refine ⟨h8, by rw [e1, h1], by rw [ns3, h2], by rw [e1, h3, ns_low (by omega)], by rw [e1, h4, ns_low (by omega)], by rw [e1, h5, ns_low (by omega)], by rw [e1, h6, ns_low (by omega)], ?_, ?_⟩
  · intro j hj w hw
    rw [nd_ns hx hw]
    by_cases e : j = k
    · subst e
      by_cases e' : w = x
      · subst e'
        rw [mset_at, if_pos ⟨rfl, rfl⟩]
      · rw [mset_k e', if_neg (fun q => e' q.2)]
        exact h7 j hj w hw
    · rw [mset_ne (by intro q; exact e (congrArg (fun q : ZId => q.2.2) q)), if_neg (fun q => e q.1)]
      exact h7 j hj w hw
  · exact ring_congr h9 (by rw [e1]) (by rw [e1]) e4 (ns_low (by omega)) (fun i hi _ => ns_high (by omega) hx hi)
def notP (s : Nat) (o : ZId) (i : Nat) : Prop := o = (4, s, 0) ∨ (o = (1, s, 0) ∧ (i = 2 ∨ i = 3))
theorem min60 {n : Nat} (hn : n ≤ 60) : zmin 60 (nI n + 1) = nI (min 60 (n + 1)) ∧ f_X12_lesser 60 (nI n + 1) = nI (min 60 (n + 1)) := by
  have : ∀ n : Fin 61, zmin 60 (nI n.val + 1) = nI (min 60 (n.val + 1)) ∧ f_X12_lesser 60 (nI n.val + 1) = nI (min 60 (n.val + 1)) := by decide +kernel
  exact this ⟨n, by omega⟩
theorem rem60 {r : Nat} (hr : r < 60) : zrem (nI r + 1) 60 = nI ((r + 1) % 60) := by
  have : ∀ r : Fin 60, zrem (nI r.val + 1) 60 = nI ((r.val + 1) % 60) := by decide +kernel
  exact this ⟨r, hr⟩
theorem c_note {μ : ZMem} {s c : Nat} {v : Vec} {a b d : Int32} (h : CS μ s c v) : ok (f_X7_note s a b d μ) (fun μ' => CS μ' s c (noteS v a b d) ∧ fr (notP s) μ μ') := by
  obtain ⟨h8, h1, h2, h3, h4, h5, h6, h7, n, r, hn, hr, a1, a2, a3, a4⟩ := h
  have e41 : ((4, s, 0) : ZId) ≠ (1, s, 0) := zne (by decide)
  have e14 : ((1, s, 0) : ZId) ≠ (4, s, 0) := fun e => e41 e.symm
  have e31 : ∀ k, ((3, s, k) : ZId) ≠ (1, s, 0) := fun k => zne (by decide)
  have e34 : ∀ k, ((3, s, k) : ZId) ≠ (4, s, 0) := fun k => zne (by decide)
  have x1 : (4 : Int32) * nI r = nI (4 * r) := (Int32.ofNat_mul 4 _).symm
  have x2 : nI (4 * r) + 3 = nI (4 * r + 3) := nI_add _ _
  have x3 : nI (4 * r) + 1 = nI (4 * r + 1) := nI_add _ _
  have x4 : nI (4 * r) + 2 = nI (4 * r + 2) := nI_add _ _
  unfold f_X7_note
  rw [zlt_s, a3, x1, x2, x3, x4]
  simp only [jk]
  rw [if_neg (by rw [show (0 : Int32) = nI 0 from rfl]; exact nI_nlt (by omega) (by omega)), if_pos (by rw [show (240 : Int32) = nI 240 from rfl]; exact nI_lt (by omega) (by omega))]
  rw [gd_eq (zin_nI (by omega) (by omega)), nI_cl (by omega), zlt_s, gd_eq (zin_nI (by omega) (by omega)), nI_cl (by omega), zlt_s, gd_eq (zin_nI (by omega) (by omega)), nI_cl (by omega), zlt_s, gd_eq (zin_nI (by omega) (by omega)), nI_cl (by omega), zlt_s]
  simp only [zlt]
  have f1 : (mset (mset (mset (mset μ (4, s, 0) (4 * r) (μ (1, s, 0) 7)) (4, s, 0) (4 * r + 1) a) (4, s, 0) (4 * r + 2) b) (4, s, 0) (4 * r + 3) d) (1, s, 0) = μ (1, s, 0) := by
    rw [mset_ne e14, mset_ne e14, mset_ne e14, mset_ne e14]
  refine ok_some ⟨⟨h8, ?_, ?_, ?_, ?_, ?_, ?_, ?_, ?_⟩, ?_⟩
  · rw [mset_k (by decide), mset_k (by decide), f1]; exact h1
  · rw [note3]; exact h2
  · rw [mset_k (by decide), mset_k (by decide), f1]; exact h3
  · rw [mset_k (by decide), mset_k (by decide), f1]; exact h4
  · rw [mset_k (by decide), mset_k (by decide), f1]; exact h5
  · rw [mset_k (by decide), mset_k (by decide), f1]; exact h6
  · intro k hk x hx
    rw [mset_ne (e31 k), mset_ne (e31 k), mset_ne (e34 k), mset_ne (e34 k), mset_ne (e34 k), mset_ne (e34 k), note_nd (by omega) hx]
    exact h7 k hk x hx
  · obtain ⟨m1, m2⟩ := min60 hn
    refine ⟨min 60 (n + 1), (r + 1) % 60, by omega, by omega, ?_, ?_, ?_, ?_⟩
    · rw [mset_at, mset_k (by decide), f1, a1, m1]
    · show (if (7 : Nat) = 7 then _ else _) = _
      rw [if_pos rfl, a2, m2]
    · rw [mset_k (by decide), mset_at, f1, a3, rem60 hr]
    · intro j hj i hi
      rw [mset_ne e41, mset_ne e41]
      by_cases hj0 : j = 0
      · subst hj0
        rw [show 4 * (((r + 1) % 60 + 59 - 0) % 60) + i = 4 * r + i by omega, show 97 + 4 * 0 + i = 97 + i by omega]
        unfold noteS
        have hi4 : i = 0 ∨ i = 1 ∨ i = 2 ∨ i = 3 := by omega
        rcases hi4 with rfl | rfl | rfl | rfl
        · rw [mset_k (by omega), mset_k (by omega), mset_k (by omega), show 4 * r + 0 = 4 * r from rfl, mset_at, if_neg (by decide), if_pos (by decide)]
          exact h5
        · rw [mset_k (by omega), mset_k (by omega), mset_at, if_neg (by decide), if_neg (by decide), if_pos (by decide)]
        · rw [mset_k (by omega), mset_at, if_neg (by decide), if_neg (by decide), if_neg (by decide), if_pos (by decide)]
        · rw [mset_at, if_neg (by decide), if_neg (by decide), if_neg (by decide), if_neg (by decide), if_pos (by decide)]
      · have ej : ((r + 1) % 60 + 59 - j) % 60 = (r + 59 - (j - 1)) % 60 := by omega
        have er : (r + 59 - (j - 1)) % 60 ≠ r := by omega
        rw [ej, mset_k (by omega), mset_k (by omega), mset_k (by omega), mset_k (by omega), a4 (j - 1) (by omega) i hi]
        unfold noteS
        rw [if_neg (by omega), if_neg (by omega), if_neg (by omega), if_neg (by omega), if_neg (by omega), if_pos (by omega)]
        congr 1
        omega
  · refine fr_trans (fr_mset (Or.inl rfl)) (fr_trans (fr_mset (Or.inl rfl)) (fr_trans (fr_mset (Or.inl rfl)) (fr_trans (fr_mset (Or.inl rfl)) (fr_trans (fr_mset (Or.inr ⟨rfl, Or.inr rfl⟩)) (fr_mset (Or.inr ⟨rfl, Or.inl rfl⟩))))))
