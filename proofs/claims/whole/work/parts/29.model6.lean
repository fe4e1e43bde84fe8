/-! the model's round: drawing and middle -/
theorem m_draw {μ : ZMem} : f_X12_draw 100 μ = some (drawX (μ MV0), mput μ MV0 (drawV (μ MV0))) := by
  unfold f_X12_draw
  rw [zlt_s, gd_eq (by decide), mset_eq, mput_at]
  rfl
theorem snd3 {d : Int32} {om : Nat → Int32} {old pas : Int32} (k : Nat) (q : Vec × Int32) : (sndStep d om old pas k q).1 3 = q.1 3 := by
  unfold sndStep
  split
  · dsimp only
    split
    · rfl
    · exact vset_ne (by decide)
  · rfl
theorem m_senders {μ : ZMem} {d old pas : Int32} {om : Nat → Int32} {c : Nat} {v : Vec} (h8 : c ≤ 8) (hv : μ MV0 = v) (h3 : v 3 = nI c) (hom : ∀ k, k < c → μ (0, 41, 0) k = om k) (hp : μ MO0 24 = pas) :
    f_X12_sendersOf old d μ = some ((sndS d om old pas c v).2, mput μ MV0 (sndS d om old pas c v).1) := by
  have h5 : ∀ k, (itS (sndStep d om old pas) k (v, 0)).1 3 = nI c := fun k => (itS_pres (α := Vec × Int32) (fun u => u.1 3) snd3 _ _).trans h3
  unfold f_X12_sendersOf
  refine (bd2_eq (a := (sndS d om old pas c v).2) (b := mput μ MV0 (sndS d om old pas c v).1) (lp_seq c (fun k => ((itS (sndStep d om old pas) k (v, 0)).2, nI k, mput μ MV0 (itS (sndStep d om old pas) k (v, 0)).1)) ?_ ?_ (FU_lt (by omega)) ?_)).trans rfl
  · intro k hk
    simp only [un3]
    have e3 : mput μ MV0 (itS (sndStep d om old pas) k (v, 0)).1 (0, 33, 0) 3 = nI c := by
      show mput μ MV0 _ MV0 3 = _
      rw [mput_at]; exact h5 k
    rw [if_neg (cond_le e3 h8 hk), bd_eq (isOf_eq (by omega)), itS_s]
    generalize itS (sndStep d om old pas) k (v, 0) = q
    unfold sndStep
    by_cases hb : tbit old k = true
    · rw [if_neg (by rw [hb]; decide), if_pos hb]
      have hom' : ∀ f, mput μ MV0 f (0, 41, 0) k = om k := fun f => by rw [mput_ne (by decide)]; exact hom k hk
      have hp' : ∀ f, mput μ MV0 f (0, 32, 0) 24 = pas := fun f => by rw [mput_ne (by decide)]; exact hp
      by_cases hd : d = 0
      · rw [if_pos hd, gd_eq (zin_nI (by omega) (by omega)), nI_cl (by omega), hom']
        by_cases ho : om k = 100
        · rw [if_pos ho, bd2_s, hp', bd_eq (isOf_eq (by omega))]
          cases ht : tbit pas k <;> simp [jk, hd, ho, b2i, bd_s, bd2_s, zlt_s, nI_1]
        · rw [if_neg ho, bd2_s, hp', bd_eq (isOf_eq (by omega))]
          cases ht : tbit pas k <;> simp [jk, hd, ho, b2i, bd_s, bd2_s, zlt_s, nI_1, bit1]
      · rw [if_neg hd, bd2_eq m_draw, gd_eq (zin_nI (by omega) (by omega)), nI_cl (by omega), mput_at, mput_mput, hom']
        by_cases ho : om k ≤ drawX q.1
        · have ho' : ¬ drawX q.1 < om k := Int32.not_lt.mpr ho
          rw [if_pos ho, bd2_s, hp', bd_eq (isOf_eq (by omega))]
          cases ht : tbit pas k <;> simp [jk, hd, ho', b2i, bd_s, bd2_s, zlt_s, nI_1, bit1]
        · have ho' : drawX q.1 < om k := Int32.not_le.mp ho
          rw [if_neg ho, bd2_s, hp', bd_eq (isOf_eq (by omega))]
          cases ht : tbit pas k <;> simp [jk, hd, ho', b2i, bd_s, bd2_s, zlt_s, nI_1]
    · have hb' : tbit old k = false := by simpa using hb
      rw [if_pos (by rw [hb']; decide), bd2_s, if_neg hb, nI_1]
  · simp only [un3]
    rw [if_pos (cond_end (by show mput μ MV0 _ MV0 3 = _; rw [mput_at]; exact h5 c) h8)]
    rfl
  · show ((0 : Int32), nI 0, mput μ MV0 v) = _
    rw [← hv, mput_self]
    rfl
