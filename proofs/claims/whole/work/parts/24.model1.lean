/-! the model's round, step by step -/
theorem bd_s {α β : Type} {a : α} {f : α → Option β} : bd (some a) f = f a := rfl
theorem bd2_s {α β ρ : Type} {a : α} {b : β} {f : α → β → Option ρ} : bd2 (some (a, b)) f = f a b := rfl
theorem gd_t {α : Type} {x : Option α} : gd true x = x := rfl
theorem itS_pres {α β : Type} {f : Nat → α → α} (g : α → β) (h : ∀ k v, g (f k v) = g v) : ∀ (n : Nat) (v : α), g (itS f n v) = g v
  | 0, _ => rfl
  | n + 1, v => by rw [itS, h, itS_pres g h n v]
theorem itS_inv {α : Type} {f : Nat → α → α} {p : α → Prop} : ∀ (n : Nat), (∀ k v, k < n → p v → p (f k v)) → ∀ (v : α), p v → p (itS f n v)
  | 0, _, _, hv => hv
  | n + 1, h, v, hv => h n _ (by omega) (itS_inv n (fun k v hk => h k v (by omega)) v hv)
theorem m_loop {F : Int32 × ZMem → Option ((Int32 × ZMem) ⊕ ZMem)} {P : ZId → Nat → Prop} (f : Nat → Vec → Vec) {c : Nat} (h8 : c ≤ 8) (hf : ∀ k v, f k v 3 = v 3) {μ : ZMem} {v : Vec} (hv : μ MV0 = v) (h3 : v 3 = nI c)
    (step : ∀ k μ1, k < c → μ1 MV0 3 = nI c → μ1 MV0 = itS f k v → fr P μ μ1 → ok (F (nI k, μ1)) (fun z => ∃ μ2, z = .inl (nI (k + 1), μ2) ∧ μ2 MV0 = f k (μ1 MV0) ∧ fr P μ1 μ2))
    (fin : ∀ μ1 : ZMem, μ1 MV0 3 = nI c → F (nI c, μ1) = some (.inr μ1)) : ok (lp F FU (0, μ)) (fun μ' => μ' MV0 = itS f c v ∧ fr P μ μ') := by
  refine ok_seq c (fun k s => s.1 = nI k ∧ s.2 MV0 = itS f k v ∧ fr P μ s.2) ?_ ?_ ⟨rfl, hv, fr_refl⟩ (FU_lt (by omega))
  · rintro k ⟨i, μ1⟩ hk ⟨h1, h2, h4⟩
    dsimp only at h1 h2 h4
    subst h1
    have h5 : μ1 MV0 3 = nI c := by rw [h2]; exact (itS_pres (α := Vec) (fun u => u 3) hf _ _).trans h3
    refine ok_mono (step k μ1 hk h5 h2 h4) ?_
    rintro z ⟨μ2, rfl, h6, h7⟩
    exact ⟨_, rfl, rfl, by show μ2 MV0 = _; rw [h6, h2]; rfl, fr_trans h4 h7⟩
  · rintro ⟨i, μ1⟩ ⟨h1, h2, h4⟩
    dsimp only at h1 h2 h4
    subst h1
    have h5 : μ1 MV0 3 = nI c := by rw [h2]; exact (itS_pres (α := Vec) (fun u => u 3) hf _ _).trans h3
    exact ⟨_, fin μ1 h5, _, rfl, h2, h4⟩
/-- where the vector lies -/
def vP (o : ZId) (_ : Nat) : Prop := o = MV0
theorem fr_vec {μ : ZMem} {f : Vec} : fr vP μ (mput μ MV0 f) := fr_mput (fun _ => rfl)
theorem ns3 {v : Vec} {k w : Nat} {x : Int32} : ns v k w x 3 = v 3 := vset_ne (by omega)
theorem note3 {v : Vec} {k w x : Int32} : noteS v k w x 3 = v 3 := by simp [noteS]
theorem run3 (k : Nat) (v : Vec) : runStep k v 3 = v 3 := by unfold runStep; split; · rfl
                                                             · exact ns3
theorem cnt3 {old snd : Int32} {heard : Nat → Int32} (k : Nat) (v : Vec) : cntStep old snd heard k v 3 = v 3 := by
  unfold cntStep
  split
  · rw [ns3, ns3, ns3]
  · rfl
theorem join3 {off : Nat → Nat → Int32} {to : Nat} (k : Nat) (v : Vec) : joinStep off to k v 3 = v 3 := by
  unfold joinStep
  split
  · rw [note3, ns3, ns3, ns3]
  · rfl
theorem wait3 (k : Nat) (v : Vec) : waitStep k v 3 = v 3 := by
  unfold waitStep
  split
  · exact ns3
  · rfl
theorem coll3 {w : Nat → Int32} {x : Int32} (k : Nat) (v : Vec) : collStep w x k v 3 = v 3 := by
  unfold collStep
  split
  · rw [note3, ns3]
  · rfl
theorem cor3 {b : Nat → Int32} {old : Int32} (k : Nat) (v : Vec) : corStep b old k v 3 = v 3 := by
  unfold corStep
  split
  · split <;> exact ns3
  · rfl
theorem m_counts {μ : ZMem} {k : Nat} {snd old : Int32} (hk : k < 8) (hs : isS snd) (ho : tbit old k = true) : f_X12_counts (nI k) snd μ = some (mput μ MV0 (cntStep old snd (fun k => μ (0, 40, 0) k) k (μ MV0))) := by
  unfold f_X12_counts cntStep
  rw [if_pos ho]
  simp only [zlt_eq]
  rw [gd_eq (zin_nI (by omega) (by omega)), nI_clamp (by omega)]
  have hb : (1 : Int32) <<< (nI k &&& 31) = bit1 k := rfl
  rw [hb, bd_eq (bits_eq (isS_and (isS_and hs))), bd_eq (bits_eq (isS_and hs)), bd_eq (lays6 hk)]
  rw [mput_ne (show ((0, 40, 0) : ZId) ≠ MV0 by decide), bd_eq (bits_eq (isS_and (isS_and hs))), bd_eq (lays7 hk), mput_at, mput_mput]
  rw [mput_ne (show ((0, 40, 0) : ZId) ≠ MV0 by decide), bd_eq (lays5 hk), mput_at, mput_mput]
theorem m_freezes {μ : ZMem} {k : Nat} {w : Int32} (hk : k < 8) : f_X12_freezes (nI k) w μ = some (mset (mput μ MV0 (frzS (μ MV0) k w)) MO0 25 (μ MO0 25 + 1)) := by
  unfold f_X12_freezes
  rw [bd_eq (lays3 hk), bd_eq (of7 hk), bd_eq logs_eq, zlt_eq, mput_at, mput_mput, mput_ne (show MO0 ≠ MV0 by decide)]
  rfl


theorem low_all : ∀ n : Fin 256, n.val ≠ 0 → lp (σ := Int32) (fun (x1 : Int32) => bd (f_X12_isOf (nI n.val) x1) (fun (x4 : Int32) => if x4 = 0 then some (.inl (x1 + 1)) else some (.inr x1))) FU 0 = some (nI (lowS (nI n.val))) := by decide +kernel
theorem m_low {x : Int32} (hs : isS x) (h0 : ¬ x = 0) : lp (σ := Int32) (fun (x1 : Int32) => bd (f_X12_isOf x x1) (fun (x4 : Int32) => if x4 = 0 then some (.inl (x1 + 1)) else some (.inr x1))) FU 0 = some (nI (lowS x)) := by
  obtain ⟨n, hn, rfl⟩ := hs
  exact low_all ⟨n, hn⟩ (fun h => h0 (by rw [show n = 0 from h]; rfl))
theorem low_lt (x : Int32) : lowS x < 8 := by unfold lowS; (repeat' split) <;> omega
theorem next_all : ∀ n : Fin 256, ∀ k : Fin 8, tbit (nI n.val) k.val = true → f_X12_nextOf (nI n.val) (nI k.val) = some (nI (nextS (nI n.val) k.val)) ∧ tbit (nI n.val) (nextS (nI n.val) k.val) = true ∧ nextS (nI n.val) k.val < 8 := by decide +kernel
theorem m_next {x : Int32} {k : Nat} (hs : isS x) (hk : k < 8) (h : tbit x k = true) : f_X12_nextOf x (nI k) = some (nI (nextS x k)) ∧ tbit x (nextS x k) = true ∧ nextS x k < 8 := by
  obtain ⟨n, hn, rfl⟩ := hs
  exact next_all ⟨n, hn⟩ ⟨k, hk⟩ h
theorem m_denied {μ : ZMem} {k : Nat} {snd : Int32} (hk : k < 8) (hs : isS snd) (h : tbit snd k = true) :
    f_X12_isDenied (nI k) snd μ = some (if denB snd (fun j => μ (0, 43, 0) j) k = true then (if denF snd (fun j => μ (0, 43, 0) j) k = true then (1, μ) else (0, mput μ MV0 (ns (μ MV0) k 5 (nd (μ MV0) k 5 &&& (bit1 (nextS snd k) ^^^ (-1)))))) else (0, μ)) := by
  obtain ⟨n1, n2, n3⟩ := m_next hs hk h
  obtain ⟨n4, n5, n6⟩ := m_next hs n3 n2
  unfold f_X12_isDenied denB denF
  rw [bd_eq n1]
  show (if _ then _ else _) = _
  by_cases h1 : nextS snd k = k
  · rw [if_pos (by rw [h1]), if_neg (by simp [h1])]
  · rw [if_neg (by rw [nI_eq (by omega) (by omega)]; exact h1), gd_eq (zin_nI (by omega) (by omega)), nI_clamp (by omega), bd_eq (isOf_eq (by omega))]
    by_cases h2 : tbit (μ (0, 43, 0) (nextS snd k)) k = true
    · rw [if_neg (by rw [h2]; decide), if_neg (by simp [h2])]
    · rw [if_pos (by rw [b2i_ne]; simpa using h2), if_pos (by simp [h1, h2]), bd_eq n4]
      show (if _ then _ else _) = _
      by_cases h3 : nextS snd (nextS snd k) = k
      · rw [if_pos (by rw [h3]), if_pos (by simp [h3])]
      · rw [if_neg (by rw [nI_eq (by omega) (by omega)]; exact h3), gd_eq (zin_nI (by omega) (by omega)), nI_clamp (by omega), bd_eq (isOf_eq (by omega))]
        by_cases h4 : tbit (μ (0, 43, 0) (nextS snd (nextS snd k))) k = true
        · rw [if_neg (by rw [h4]; decide), if_neg (by simp [h3, h4]), bd_eq (of5 hk), bd_eq (lays5 hk)]
          rfl
        · rw [if_pos (by rw [b2i_ne]; simpa using h4), if_pos (by simp [h4])]
theorem cond_le {c k : Nat} {x : Int32} (hx : x = nI c) (h8 : c ≤ 8) (hk : k < c) : ¬ x ≤ nI k := by
  rw [hx]; exact nI_ge hk (by omega)
theorem cond_end {c : Nat} {x : Int32} (hx : x = nI c) (h8 : c ≤ 8) : x ≤ nI c := by rw [hx]; exact nI_le (Nat.le_refl _) (by omega)
