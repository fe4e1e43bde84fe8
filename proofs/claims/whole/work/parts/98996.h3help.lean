/-! the helpers of the law -/
theorem zth_cluster {y : ZLay} {μ : ZMem} : zth (fun r => (∀ k, r = .inr k → k = 1 ∨ k = 2)) (f_X11_cluster y μ) := by
  unfold f_X11_cluster
  repeat' (first | with_reducible assumption | with_reducible refine th_bd (fun _ => ?_) | with_reducible refine th_bd2 (fun _ _ => ?_) | with_reducible refine th_gd (fun _ => ?_) | with_reducible refine th_if ?_ ?_ | with_reducible refine th_jk ?_ (fun _ _ => ?_) | with_reducible refine th_zlt (fun _ => ?_) | with_reducible refine th_some ?_)
  all_goals (intro k hk; first | (cases hk; done) | (cases hk; decide))
theorem H_cluster {l : Launch} {D : va_G} {y : ZLay} {μ μ0 : ZMem} {res : Int32 ⊕ Nat} (hlf : l.stackTraces = false) (h : f_X11_cluster y μ = some (res, μ0)) : MH l yL_cluster wh_cluster rh_cluster D y [.ref (zad y (0, 0, 0)), .ref (zad y (0, 31, 0))] μ (hres cmA res) (hmem μ0 res) := by
  have hk := zth_cluster _ h
  refine MH_of RL _ rfl rfl rfl ⟨Nat.le_refl _, Nat.le_refl _⟩ (Nat.le_of_ble_eq_true rfl) rfl ?_
  intro p e s m args below meth c A X X' ht
  refine V_aload_n X 1 dL_cluster_0 rfl rfl ?_
  refine V_iconst X 0 dL_cluster_1 (by decide) ?_
  refine V_aload_n X 0 dL_cluster_2 rfl rfl ?_
  refine V_callX X X' (As := []) (M_X11_cluster hlf h) (cwV 0 X.2.2.2.2.2.2.1 (gV wm_RL_7 wi_X11_cluster wse_X11_cluster win_RX11 wc_X11_cluster) rfl rfl rfl hd_X11_cluster ⟨Nat.le_of_ble_eq_true rfl, Nat.le_of_ble_eq_true rfl⟩) (b := (0, 0, 0)) ⟨by decide, rfl⟩ rfl rfl rfl rfl (Nat.le_of_ble_eq_true rfl) dL_cluster_3 rfl (fun k hr => ?_) (fun v hr => ?_)
  · subst hr
    rcases hk k rfl with hk | hk
    · subst hk
      refine V_catch X' (E := zEx 1) (zEx 1) [] ⟨0, 8, 11, 13⟩ [⟨0, 8, 14, 15⟩] ht (by intro z hz; cases hz) (by decide) (by decide) (mB wcl_RL_13) (by decide +kernel) (fun q => ?_)
      refine V_astore_n X' ([(2, .ref q), (0, .ref (zad y (0, 0, 0))), (1, .ref (zad y (0, 31, 0)))]) dL_cluster_11 rfl (Nat.le_of_ble_eq_true rfl) rfl ?_
      refine V_iconst X' 1 dL_cluster_12 (by decide) ?_
      exact V_iretH X' (Nat.le_refl _) (Nat.le_refl _) rfl dL_cluster_13
    · subst hk
      refine V_catch X' (E := zEx 2) (zEx 2) [⟨0, 8, 11, 13⟩] ⟨0, 8, 14, 15⟩ [] ht (by intro z hz; rw [List.mem_singleton.mp hz]; exact ⟨by decide, zEx 1, mB wcl_RL_13, by decide +kernel⟩) (by decide) (by decide) (mB wcl_RL_15) (by decide +kernel) (fun q => ?_)
      refine V_astore_n X' ([(2, .ref q), (0, .ref (zad y (0, 0, 0))), (1, .ref (zad y (0, 31, 0)))]) dL_cluster_14 rfl (Nat.le_of_ble_eq_true rfl) rfl ?_
      refine V_iconst X' 2 dL_cluster_15 (by decide) ?_
      exact V_iretH X' (Nat.le_refl _) (Nat.le_refl _) rfl dL_cluster_16
  · subst hr
    refine V_i2l X' dL_cluster_6 ?_
    refine V_last X' dL_cluster_7 ?_
    refine V_goto X' (tgt := 17) dL_cluster_8 (by decide) ?_
    refine V_iconst X' 0 dL_cluster_17 (by decide) ?_
    exact V_iretH X' (Nat.le_refl _) (Nat.le_refl _) rfl dL_cluster_18
theorem zth_node {y : ZLay} {a1 : Int32} {a2 : Int32} {μ : ZMem} : zth (fun r => (∀ k, r = .inr k → k = 3 ∨ k = 4)) (f_X11_node y a1 a2 μ) := by
  unfold f_X11_node
  repeat' (first | with_reducible assumption | with_reducible refine th_bd (fun _ => ?_) | with_reducible refine th_bd2 (fun _ _ => ?_) | with_reducible refine th_gd (fun _ => ?_) | with_reducible refine th_if ?_ ?_ | with_reducible refine th_jk ?_ (fun _ _ => ?_) | with_reducible refine th_zlt (fun _ => ?_) | with_reducible refine th_some ?_)
  all_goals (intro k hk; first | (cases hk; done) | (cases hk; decide))
theorem H_node {l : Launch} {D : va_G} {y : ZLay} {a1 : Int32} {a2 : Int32} {μ μ0 : ZMem} {res : Int32 ⊕ Nat} (hlf : l.stackTraces = false) (h : f_X11_node y a1 a2 μ = some (res, μ0)) : MH l yL_node wh_node rh_node D y [.ref (zad y (0, 0, 0)), .int a1, .int a2, .ref (zad y (0, 31, 0))] μ (hres cmB res) (hmem μ0 res) := by
  have hk := zth_node _ h
  refine MH_of RL _ rfl rfl rfl ⟨Nat.le_refl _, Nat.le_refl _⟩ (Nat.le_of_ble_eq_true rfl) rfl ?_
  intro p e s m args below meth c A X X' ht
  refine V_aload_n X 3 dL_node_0 rfl rfl ?_
  refine V_iconst X 0 dL_node_1 (by decide) ?_
  refine V_aload_n X 0 dL_node_2 rfl rfl ?_
  refine V_iload_n X 1 dL_node_3 rfl rfl ?_
  refine V_iload_n X 2 dL_node_4 rfl rfl ?_
  refine V_callX X X' (As := [.int a1, .int a2]) (M_X11_node hlf h) (cwV 2 X.2.2.2.2.2.2.1 (gV wm_RL_20 wi_X11_node wse_X11_node win_RX11 wc_X11_node) rfl rfl rfl hd_X11_node ⟨Nat.le_of_ble_eq_true rfl, Nat.le_of_ble_eq_true rfl⟩) (b := (0, 0, 0)) ⟨by decide, rfl⟩ rfl rfl rfl rfl (Nat.le_of_ble_eq_true rfl) dL_node_5 rfl (fun k hr => ?_) (fun v hr => ?_)
  · subst hr
    rcases hk k rfl with hk | hk
    · subst hk
      refine V_catch X' (E := zEx 3) (zEx 3) [] ⟨0, 10, 13, 24⟩ [⟨0, 10, 17, 26⟩] ht (by intro z hz; cases hz) (by decide) (by decide) (mB wcl_RL_24) (by decide +kernel) (fun q => ?_)
      refine V_astore X' ([(4, .ref q), (0, .ref (zad y (0, 0, 0))), (1, .int a1), (2, .int a2), (3, .ref (zad y (0, 31, 0)))]) dL_node_13 (Nat.le_of_ble_eq_true rfl) rfl ?_
      refine V_iconst X' 1 dL_node_15 (by decide) ?_
      exact V_iretH X' (Nat.le_refl _) (Nat.le_refl _) rfl dL_node_16
    · subst hk
      refine V_catch X' (E := zEx 4) (zEx 4) [⟨0, 10, 13, 24⟩] ⟨0, 10, 17, 26⟩ [] ht (by intro z hz; rw [List.mem_singleton.mp hz]; exact ⟨by decide, zEx 3, mB wcl_RL_24, by decide +kernel⟩) (by decide) (by decide) (mB wcl_RL_26) (by decide +kernel) (fun q => ?_)
      refine V_astore X' ([(4, .ref q), (0, .ref (zad y (0, 0, 0))), (1, .int a1), (2, .int a2), (3, .ref (zad y (0, 31, 0)))]) dL_node_17 (Nat.le_of_ble_eq_true rfl) rfl ?_
      refine V_iconst X' 2 dL_node_19 (by decide) ?_
      exact V_iretH X' (Nat.le_refl _) (Nat.le_refl _) rfl dL_node_20
  · subst hr
    refine V_i2l X' dL_node_8 ?_
    refine V_last X' dL_node_9 ?_
    refine V_goto X' (tgt := 21) dL_node_10 (by decide) ?_
    refine V_iconst X' 0 dL_node_21 (by decide) ?_
    exact V_iretH X' (Nat.le_refl _) (Nat.le_refl _) rfl dL_node_22
theorem zth_shift {y : ZLay} {a1 : Int32} {a2 : Int32} {μ : ZMem} : zth (fun r => (∀ k, r = .inr k → k = 3 ∨ k = 1)) (f_X11_shift y a1 a2 μ) := by
  unfold f_X11_shift
  repeat' (first | with_reducible assumption | with_reducible refine th_bd (fun _ => ?_) | with_reducible refine th_bd2 (fun _ _ => ?_) | with_reducible refine th_gd (fun _ => ?_) | with_reducible refine th_if ?_ ?_ | with_reducible refine th_jk ?_ (fun _ _ => ?_) | with_reducible refine th_zlt (fun _ => ?_) | with_reducible refine th_some ?_)
  all_goals (intro k hk; first | (cases hk; done) | (cases hk; decide))
theorem H_shift {l : Launch} {D : va_G} {y : ZLay} {a1 : Int32} {a2 : Int32} {μ μ0 : ZMem} {res : Int32 ⊕ Nat} (hlf : l.stackTraces = false) (h : f_X11_shift y a1 a2 μ = some (res, μ0)) : MH l yL_shift wh_shift rh_shift D y [.ref (zad y (0, 0, 0)), .int a1, .int a2, .ref (zad y (0, 31, 0))] μ (hres cmB res) (hmem μ0 res) := by
  have hk := zth_shift _ h
  refine MH_of RL _ rfl rfl rfl ⟨Nat.le_refl _, Nat.le_refl _⟩ (Nat.le_of_ble_eq_true rfl) rfl ?_
  intro p e s m args below meth c A X X' ht
  refine V_aload_n X 3 dL_shift_0 rfl rfl ?_
  refine V_iconst X 0 dL_shift_1 (by decide) ?_
  refine V_aload_n X 0 dL_shift_2 rfl rfl ?_
  refine V_iload_n X 1 dL_shift_3 rfl rfl ?_
  refine V_iload_n X 2 dL_shift_4 rfl rfl ?_
  refine V_callX X X' (As := [.int a1, .int a2]) (M_X11_shift hlf h) (cwV 2 X.2.2.2.2.2.2.1 (gV wm_RL_28 wi_X11_shift wse_X11_shift win_RX11 wc_X11_shift) rfl rfl rfl hd_X11_shift ⟨Nat.le_of_ble_eq_true rfl, Nat.le_of_ble_eq_true rfl⟩) (b := (0, 0, 0)) ⟨by decide, rfl⟩ rfl rfl rfl rfl (Nat.le_of_ble_eq_true rfl) dL_shift_5 rfl (fun k hr => ?_) (fun v hr => ?_)
  · subst hr
    rcases hk k rfl with hk | hk
    · subst hk
      refine V_catch X' (E := zEx 3) (zEx 3) [] ⟨0, 10, 13, 24⟩ [⟨0, 10, 17, 13⟩] ht (by intro z hz; cases hz) (by decide) (by decide) (mB wcl_RL_24) (by decide +kernel) (fun q => ?_)
      refine V_astore X' ([(4, .ref q), (0, .ref (zad y (0, 0, 0))), (1, .int a1), (2, .int a2), (3, .ref (zad y (0, 31, 0)))]) dL_shift_13 (Nat.le_of_ble_eq_true rfl) rfl ?_
      refine V_iconst X' 1 dL_shift_15 (by decide) ?_
      exact V_iretH X' (Nat.le_refl _) (Nat.le_refl _) rfl dL_shift_16
    · subst hk
      refine V_catch X' (E := zEx 1) (zEx 1) [⟨0, 10, 13, 24⟩] ⟨0, 10, 17, 13⟩ [] ht (by intro z hz; rw [List.mem_singleton.mp hz]; exact ⟨by decide, zEx 3, mB wcl_RL_24, by decide +kernel⟩) (by decide) (by decide) (mB wcl_RL_13) (by decide +kernel) (fun q => ?_)
      refine V_astore X' ([(4, .ref q), (0, .ref (zad y (0, 0, 0))), (1, .int a1), (2, .int a2), (3, .ref (zad y (0, 31, 0)))]) dL_shift_17 (Nat.le_of_ble_eq_true rfl) rfl ?_
      refine V_iconst X' 2 dL_shift_19 (by decide) ?_
      exact V_iretH X' (Nat.le_refl _) (Nat.le_refl _) rfl dL_shift_20
  · subst hr
    refine V_i2l X' dL_shift_8 ?_
    refine V_last X' dL_shift_9 ?_
    refine V_goto X' (tgt := 21) dL_shift_10 (by decide) ?_
    refine V_iconst X' 0 dL_shift_21 (by decide) ?_
    exact V_iretH X' (Nat.le_refl _) (Nat.le_refl _) rfl dL_shift_22
theorem zth_hears {y : ZLay} {a1 : Int32} {a2 : Int32} {μ : ZMem} : zth (fun r => (∀ k, r = .inr k → k = 3 ∨ k = 1) ∧ ∀ v, r = .inl v → zbo v = true) (f_X11_hears y a1 a2 μ) := by
  unfold f_X11_hears
  repeat' (first | with_reducible assumption | with_reducible refine th_bd (fun _ => ?_) | with_reducible refine th_bd2 (fun _ _ => ?_) | with_reducible refine th_gd (fun _ => ?_) | with_reducible refine th_if ?_ ?_ | with_reducible refine th_jk ?_ (fun _ _ => ?_) | with_reducible refine th_zlt (fun _ => ?_) | with_reducible refine th_some ?_)
  all_goals (first | exact ⟨(by intro k hk; cases hk; decide), (by intro v hv; cases hv)⟩ | exact ⟨(by intro k hk; cases hk), (by intro v hv; cases hv; assumption)⟩)
theorem H_hears {l : Launch} {D : va_G} {y : ZLay} {a1 : Int32} {a2 : Int32} {μ μ0 : ZMem} {res : Int32 ⊕ Nat} (hlf : l.stackTraces = false) (h : f_X11_hears y a1 a2 μ = some (res, μ0)) : MH l yL_hears wh_hears rh_hears D y [.ref (zad y (0, 0, 0)), .int a1, .int a2, .ref (zad y (0, 31, 0))] μ (hres cmB res) (hmem μ0 res) := by
  have hk := zth_hears _ h
  refine MH_of RL _ rfl rfl rfl ⟨Nat.le_refl _, Nat.le_refl _⟩ (Nat.le_of_ble_eq_true rfl) rfl ?_
  intro p e s m args below meth c A X X' ht
  refine V_aload_n X 3 dL_hears_0 rfl rfl ?_
  refine V_iconst X 0 dL_hears_1 (by decide) ?_
  refine V_aload_n X 0 dL_hears_2 rfl rfl ?_
  refine V_iload_n X 1 dL_hears_3 rfl rfl ?_
  refine V_iload_n X 2 dL_hears_4 rfl rfl ?_
  refine V_callX X X' (As := [.int a1, .int a2]) (M_X11_hears hlf h) (cwV 2 X.2.2.2.2.2.2.1 (gV wm_RL_31 wi_X11_hears wse_X11_hears win_RX11 wc_X11_hears) rfl rfl rfl hd_X11_hears ⟨Nat.le_of_ble_eq_true rfl, Nat.le_of_ble_eq_true rfl⟩) (b := (0, 0, 0)) ⟨by decide, rfl⟩ rfl rfl rfl rfl (Nat.le_of_ble_eq_true rfl) dL_hears_5 rfl (fun k hr => ?_) (fun v hr => ?_)
  · subst hr
    rcases hk.1 k rfl with hk | hk
    · subst hk
      refine V_catch X' (E := zEx 3) (zEx 3) [] ⟨0, 17, 20, 24⟩ [⟨0, 17, 24, 13⟩] ht (by intro z hz; cases hz) (by decide) (by decide) (mB wcl_RL_24) (by decide +kernel) (fun q => ?_)
      refine V_astore X' ([(4, .ref q), (0, .ref (zad y (0, 0, 0))), (1, .int a1), (2, .int a2), (3, .ref (zad y (0, 31, 0)))]) dL_hears_20 (Nat.le_of_ble_eq_true rfl) rfl ?_
      refine V_iconst X' 1 dL_hears_22 (by decide) ?_
      exact V_iretH X' (Nat.le_refl _) (Nat.le_refl _) rfl dL_hears_23
    · subst hk
      refine V_catch X' (E := zEx 1) (zEx 1) [⟨0, 17, 20, 24⟩] ⟨0, 17, 24, 13⟩ [] ht (by intro z hz; rw [List.mem_singleton.mp hz]; exact ⟨by decide, zEx 3, mB wcl_RL_24, by decide +kernel⟩) (by decide) (by decide) (mB wcl_RL_13) (by decide +kernel) (fun q => ?_)
      refine V_astore X' ([(4, .ref q), (0, .ref (zad y (0, 0, 0))), (1, .int a1), (2, .int a2), (3, .ref (zad y (0, 31, 0)))]) dL_hears_24 (Nat.le_of_ble_eq_true rfl) rfl ?_
      refine V_iconst X' 2 dL_hears_26 (by decide) ?_
      exact V_iretH X' (Nat.le_refl _) (Nat.le_refl _) rfl dL_hears_27
  · subst hr
    have hb := hk.2 v rfl
    refine V_if_eq X' (tgt := 15) dL_hears_8 (by decide) (fun b1 => ?_) (fun b1 => ?_)
    · subst b1
      refine V_lconst X' 0 dL_hears_15 (by decide) ?_
      refine V_last X' (x := 0) dL_hears_16 ?_
      refine V_goto X' (tgt := 28) dL_hears_17 (by decide) ?_
      refine V_iconst X' 0 dL_hears_28 (by decide) ?_
      exact V_iretH X' (Nat.le_refl _) (Nat.le_refl _) rfl dL_hears_29
    · have b2 : v = 1 := by
        simp only [zbo, Bool.or_eq_true, decide_eq_true_eq] at hb
        rcases hb with h | h
        · exact (b1 h).elim
        · exact h
      subst b2
      refine V_lconst X' 1 dL_hears_11 (by decide) ?_
      refine V_goto X' (tgt := 16) dL_hears_12 (by decide) ?_
      refine V_last X' (x := 1) dL_hears_16 ?_
      refine V_goto X' (tgt := 28) dL_hears_17 (by decide) ?_
      refine V_iconst X' 0 dL_hears_28 (by decide) ?_
      exact V_iretH X' (Nat.le_refl _) (Nat.le_refl _) rfl dL_hears_29
theorem zth_rounds {y : ZLay} {a1 : Int32} {μ : ZMem} : zth (fun r => (∀ k, r = .inr k → k = 1)) (f_X11_rounds y a1 μ) := by
  unfold f_X11_rounds
  repeat' (first | with_reducible assumption | with_reducible refine th_bd (fun _ => ?_) | with_reducible refine th_bd2 (fun _ _ => ?_) | with_reducible refine th_gd (fun _ => ?_) | with_reducible refine th_if ?_ ?_ | with_reducible refine th_jk ?_ (fun _ _ => ?_) | with_reducible refine th_zlt (fun _ => ?_) | with_reducible refine th_some ?_)
  all_goals (intro k hk; first | (cases hk; done) | (cases hk; decide))
theorem H_rounds {l : Launch} {D : va_G} {y : ZLay} {a1 : Int32} {μ μ0 : ZMem} {res : Int32 ⊕ Nat} (hlf : l.stackTraces = false) (h : f_X11_rounds y a1 μ = some (res, μ0)) : MH l yL_rounds wh_rounds rh_rounds D y [.ref (zad y (0, 0, 0)), .int a1, .ref (zad y (0, 31, 0))] μ (hres cm1 res) (hmem μ0 res) := by
  have hk := zth_rounds _ h
  refine MH_of RL _ rfl rfl rfl ⟨Nat.le_refl _, Nat.le_refl _⟩ (Nat.le_of_ble_eq_true rfl) rfl ?_
  intro p e s m args below meth c A X X' ht
  refine V_aload_n X 2 dL_rounds_0 rfl rfl ?_
  refine V_iconst X 0 dL_rounds_1 (by decide) ?_
  refine V_aload_n X 0 dL_rounds_2 rfl rfl ?_
  refine V_iload_n X 1 dL_rounds_3 rfl rfl ?_
  refine V_callX X X' (As := [.int a1]) (M_X11_rounds hlf h) (cwV 1 X.2.2.2.2.2.2.1 (gV wm_RL_35 wi_X11_rounds wse_X11_rounds win_RX11 wc_X11_rounds) rfl rfl rfl hd_X11_rounds ⟨Nat.le_of_ble_eq_true rfl, Nat.le_of_ble_eq_true rfl⟩) (b := (0, 0, 0)) ⟨by decide, rfl⟩ rfl rfl rfl rfl (Nat.le_of_ble_eq_true rfl) dL_rounds_4 rfl (fun k hr => ?_) (fun v hr => ?_)
  · subst hr
    have hk := hk k rfl
    subst hk
    refine V_catch X' (E := zEx 1) (zEx 1) [] ⟨0, 9, 12, 13⟩ [] ht (by intro z hz; cases hz) (by decide) (by decide) (mB wcl_RL_13) (by decide +kernel) (fun q => ?_)
    refine V_astore_n X' ([(3, .ref q), (0, .ref (zad y (0, 0, 0))), (1, .int a1), (2, .ref (zad y (0, 31, 0)))]) dL_rounds_12 rfl (Nat.le_of_ble_eq_true rfl) rfl ?_
    refine V_iconst X' 1 dL_rounds_13 (by decide) ?_
    exact V_iretH X' (Nat.le_refl _) (Nat.le_refl _) rfl dL_rounds_14
  · subst hr
    refine V_i2l X' dL_rounds_7 ?_
    refine V_last X' dL_rounds_8 ?_
    refine V_goto X' (tgt := 15) dL_rounds_9 (by decide) ?_
    refine V_iconst X' 0 dL_rounds_15 (by decide) ?_
    exact V_iretH X' (Nat.le_refl _) (Nat.le_refl _) rfl dL_rounds_16
theorem zth_add  {a1 : Int32} {μ : ZMem} : zth (fun r => (∀ k, r = .inr k → k = 1 ∨ k = 5)) (f_X11_add a1 μ) := by
  unfold f_X11_add
  repeat' (first | with_reducible assumption | with_reducible refine th_bd (fun _ => ?_) | with_reducible refine th_bd2 (fun _ _ => ?_) | with_reducible refine th_gd (fun _ => ?_) | with_reducible refine th_if ?_ ?_ | with_reducible refine th_jk ?_ (fun _ _ => ?_) | with_reducible refine th_zlt (fun _ => ?_) | with_reducible refine th_some ?_)
  all_goals (intro k hk; first | (cases hk; done) | (cases hk; decide))
theorem H_add {l : Launch} {D : va_G} {y : ZLay} {a1 : Int32} {μ μ0 : ZMem} {res : Int32 ⊕ Nat} (hlf : l.stackTraces = false) (h : f_X11_add a1 μ = some (res, μ0)) : MH l yL_add wh_add rh_add D y [.ref (zad y (0, 0, 0)), .int a1, .ref (zad y (0, 31, 0))] μ (hres cmA res) (hmem μ0 res) := by
  have hk := zth_add _ h
  refine MH_of RL _ rfl rfl rfl ⟨Nat.le_refl _, Nat.le_refl _⟩ (Nat.le_of_ble_eq_true rfl) rfl ?_
  intro p e s m args below meth c A X X' ht
  refine V_aload_n X 2 dL_add_0 rfl rfl ?_
  refine V_iconst X 0 dL_add_1 (by decide) ?_
  refine V_aload_n X 0 dL_add_2 rfl rfl ?_
  refine V_iload_n X 1 dL_add_3 rfl rfl ?_
  refine V_callX X X' (As := [.int a1]) (M_X11_add hlf h) (cwV 1 X.2.2.2.2.2.2.1 (gV wm_RL_39 wi_X11_add wse_X11_add win_RX11 wc_X11_add) rfl rfl rfl hd_X11_add ⟨Nat.le_of_ble_eq_true rfl, Nat.le_of_ble_eq_true rfl⟩) (b := (0, 0, 0)) ⟨by decide, rfl⟩ rfl rfl rfl rfl (Nat.le_of_ble_eq_true rfl) dL_add_4 rfl (fun k hr => ?_) (fun v hr => ?_)
  · subst hr
    rcases hk k rfl with hk | hk
    · subst hk
      refine V_catch X' (E := zEx 1) (zEx 1) [] ⟨0, 9, 12, 13⟩ [⟨0, 9, 15, 42⟩] ht (by intro z hz; cases hz) (by decide) (by decide) (mB wcl_RL_13) (by decide +kernel) (fun q => ?_)
      refine V_astore_n X' ([(3, .ref q), (0, .ref (zad y (0, 0, 0))), (1, .int a1), (2, .ref (zad y (0, 31, 0)))]) dL_add_12 rfl (Nat.le_of_ble_eq_true rfl) rfl ?_
      refine V_iconst X' 1 dL_add_13 (by decide) ?_
      exact V_iretH X' (Nat.le_refl _) (Nat.le_refl _) rfl dL_add_14
    · subst hk
      refine V_catch X' (E := zEx 5) (zEx 5) [⟨0, 9, 12, 13⟩] ⟨0, 9, 15, 42⟩ [] ht (by intro z hz; rw [List.mem_singleton.mp hz]; exact ⟨by decide, zEx 1, mB wcl_RL_13, by decide +kernel⟩) (by decide) (by decide) (mB wcl_RL_42) (by decide +kernel) (fun q => ?_)
      refine V_astore_n X' ([(3, .ref q), (0, .ref (zad y (0, 0, 0))), (1, .int a1), (2, .ref (zad y (0, 31, 0)))]) dL_add_15 rfl (Nat.le_of_ble_eq_true rfl) rfl ?_
      refine V_iconst X' 2 dL_add_16 (by decide) ?_
      exact V_iretH X' (Nat.le_refl _) (Nat.le_refl _) rfl dL_add_17
  · subst hr
    refine V_i2l X' dL_add_7 ?_
    refine V_last X' dL_add_8 ?_
    refine V_goto X' (tgt := 18) dL_add_9 (by decide) ?_
    refine V_iconst X' 0 dL_add_18 (by decide) ?_
    exact V_iretH X' (Nat.le_refl _) (Nat.le_refl _) rfl dL_add_19
theorem zth_power {y : ZLay} {a1 : Int32} {a2 : Int32} {μ : ZMem} : zth (fun r => (∀ k, r = .inr k → k = 3 ∨ k = 5)) (f_X11_power y a1 a2 μ) := by
  unfold f_X11_power
  repeat' (first | with_reducible assumption | with_reducible refine th_bd (fun _ => ?_) | with_reducible refine th_bd2 (fun _ _ => ?_) | with_reducible refine th_gd (fun _ => ?_) | with_reducible refine th_if ?_ ?_ | with_reducible refine th_jk ?_ (fun _ _ => ?_) | with_reducible refine th_zlt (fun _ => ?_) | with_reducible refine th_some ?_)
  all_goals (intro k hk; first | (cases hk; done) | (cases hk; decide))
theorem H_power {l : Launch} {D : va_G} {y : ZLay} {a1 : Int32} {a2 : Int32} {μ μ0 : ZMem} {res : Int32 ⊕ Nat} (hlf : l.stackTraces = false) (h : f_X11_power y a1 a2 μ = some (res, μ0)) : MH l yL_power wh_power rh_power D y [.ref (zad y (0, 0, 0)), .int a1, .int a2, .ref (zad y (0, 31, 0))] μ (hres cmB res) (hmem μ0 res) := by
  have hk := zth_power _ h
  refine MH_of RL _ rfl rfl rfl ⟨Nat.le_refl _, Nat.le_refl _⟩ (Nat.le_of_ble_eq_true rfl) rfl ?_
  intro p e s m args below meth c A X X' ht
  refine V_aload_n X 3 dL_power_0 rfl rfl ?_
  refine V_iconst X 0 dL_power_1 (by decide) ?_
  refine V_aload_n X 0 dL_power_2 rfl rfl ?_
  refine V_iload_n X 1 dL_power_3 rfl rfl ?_
  refine V_iload_n X 2 dL_power_4 rfl rfl ?_
  refine V_callX X X' (As := [.int a1, .int a2]) (M_X11_power hlf h) (cwV 2 X.2.2.2.2.2.2.1 (gV wm_RL_44 wi_X11_power wse_X11_power win_RX11 wc_X11_power) rfl rfl rfl hd_X11_power ⟨Nat.le_of_ble_eq_true rfl, Nat.le_of_ble_eq_true rfl⟩) (b := (0, 0, 0)) ⟨by decide, rfl⟩ rfl rfl rfl rfl (Nat.le_of_ble_eq_true rfl) dL_power_5 rfl (fun k hr => ?_) (fun v hr => ?_)
  · subst hr
    rcases hk k rfl with hk | hk
    · subst hk
      refine V_catch X' (E := zEx 3) (zEx 3) [] ⟨0, 10, 13, 24⟩ [⟨0, 10, 17, 42⟩] ht (by intro z hz; cases hz) (by decide) (by decide) (mB wcl_RL_24) (by decide +kernel) (fun q => ?_)
      refine V_astore X' ([(4, .ref q), (0, .ref (zad y (0, 0, 0))), (1, .int a1), (2, .int a2), (3, .ref (zad y (0, 31, 0)))]) dL_power_13 (Nat.le_of_ble_eq_true rfl) rfl ?_
      refine V_iconst X' 1 dL_power_15 (by decide) ?_
      exact V_iretH X' (Nat.le_refl _) (Nat.le_refl _) rfl dL_power_16
    · subst hk
      refine V_catch X' (E := zEx 5) (zEx 5) [⟨0, 10, 13, 24⟩] ⟨0, 10, 17, 42⟩ [] ht (by intro z hz; rw [List.mem_singleton.mp hz]; exact ⟨by decide, zEx 3, mB wcl_RL_24, by decide +kernel⟩) (by decide) (by decide) (mB wcl_RL_42) (by decide +kernel) (fun q => ?_)
      refine V_astore X' ([(4, .ref q), (0, .ref (zad y (0, 0, 0))), (1, .int a1), (2, .int a2), (3, .ref (zad y (0, 31, 0)))]) dL_power_17 (Nat.le_of_ble_eq_true rfl) rfl ?_
      refine V_iconst X' 2 dL_power_19 (by decide) ?_
      exact V_iretH X' (Nat.le_refl _) (Nat.le_refl _) rfl dL_power_20
  · subst hr
    refine V_i2l X' dL_power_8 ?_
    refine V_last X' dL_power_9 ?_
    refine V_goto X' (tgt := 21) dL_power_10 (by decide) ?_
    refine V_iconst X' 0 dL_power_21 (by decide) ?_
    exact V_iretH X' (Nat.le_refl _) (Nat.le_refl _) rfl dL_power_22
theorem zth_spoil  {a1 : Int32} {a2 : Int32} {a3 : Int32} {μ : ZMem} : zth (fun r => (∀ k, r = .inr k → k = 3 ∨ k = 1)) (f_X11_spoil a1 a2 a3 μ) := by
  unfold f_X11_spoil
  repeat' (first | with_reducible assumption | with_reducible refine th_bd (fun _ => ?_) | with_reducible refine th_bd2 (fun _ _ => ?_) | with_reducible refine th_gd (fun _ => ?_) | with_reducible refine th_if ?_ ?_ | with_reducible refine th_jk ?_ (fun _ _ => ?_) | with_reducible refine th_zlt (fun _ => ?_) | with_reducible refine th_some ?_)
  all_goals (intro k hk; first | (cases hk; done) | (cases hk; decide))
theorem H_spoil {l : Launch} {D : va_G} {y : ZLay} {a1 : Int32} {a2 : Int32} {a3 : Int32} {μ μ0 : ZMem} {res : Int32 ⊕ Nat} (hlf : l.stackTraces = false) (h : f_X11_spoil a1 a2 a3 μ = some (res, μ0)) : MH l yL_spoil wh_spoil rh_spoil D y [.ref (zad y (0, 0, 0)), .int a1, .int a2, .int a3, .ref (zad y (0, 31, 0))] μ (hres cmB res) (hmem μ0 res) := by
  have hk := zth_spoil _ h
  refine MH_of RL _ rfl rfl rfl ⟨Nat.le_refl _, Nat.le_refl _⟩ (Nat.le_of_ble_eq_true rfl) rfl ?_
  intro p e s m args below meth c A X X' ht
  refine V_aload X 4 dL_spoil_0 rfl ?_
  refine V_iconst X 0 dL_spoil_2 (by decide) ?_
  refine V_aload_n X 0 dL_spoil_3 rfl rfl ?_
  refine V_iload_n X 1 dL_spoil_4 rfl rfl ?_
  refine V_iload_n X 2 dL_spoil_5 rfl rfl ?_
  refine V_iload_n X 3 dL_spoil_6 rfl rfl ?_
  refine V_callX X X' (As := [.int a1, .int a2, .int a3]) (M_X11_spoil hlf h) (cwV 3 X.2.2.2.2.2.2.1 (gV wm_RL_48 wi_X11_spoil wse_X11_spoil win_RX11 wc_X11_spoil) rfl rfl rfl hd_X11_spoil ⟨Nat.le_of_ble_eq_true rfl, Nat.le_of_ble_eq_true rfl⟩) (b := (0, 0, 0)) ⟨by decide, rfl⟩ rfl rfl rfl rfl (Nat.le_of_ble_eq_true rfl) dL_spoil_7 rfl (fun k hr => ?_) (fun v hr => ?_)
  · subst hr
    rcases hk k rfl with hk | hk
    · subst hk
      refine V_catch X' (E := zEx 3) (zEx 3) [] ⟨0, 12, 15, 24⟩ [⟨0, 12, 19, 13⟩] ht (by intro z hz; cases hz) (by decide) (by decide) (mB wcl_RL_24) (by decide +kernel) (fun q => ?_)
      refine V_astore X' ([(5, .ref q), (0, .ref (zad y (0, 0, 0))), (1, .int a1), (2, .int a2), (3, .int a3), (4, .ref (zad y (0, 31, 0)))]) dL_spoil_15 (Nat.le_of_ble_eq_true rfl) rfl ?_
      refine V_iconst X' 1 dL_spoil_17 (by decide) ?_
      exact V_iretH X' (Nat.le_refl _) (Nat.le_refl _) rfl dL_spoil_18
    · subst hk
      refine V_catch X' (E := zEx 1) (zEx 1) [⟨0, 12, 15, 24⟩] ⟨0, 12, 19, 13⟩ [] ht (by intro z hz; rw [List.mem_singleton.mp hz]; exact ⟨by decide, zEx 3, mB wcl_RL_24, by decide +kernel⟩) (by decide) (by decide) (mB wcl_RL_13) (by decide +kernel) (fun q => ?_)
      refine V_astore X' ([(5, .ref q), (0, .ref (zad y (0, 0, 0))), (1, .int a1), (2, .int a2), (3, .int a3), (4, .ref (zad y (0, 31, 0)))]) dL_spoil_19 (Nat.le_of_ble_eq_true rfl) rfl ?_
      refine V_iconst X' 2 dL_spoil_21 (by decide) ?_
      exact V_iretH X' (Nat.le_refl _) (Nat.le_refl _) rfl dL_spoil_22
  · subst hr
    refine V_i2l X' dL_spoil_10 ?_
    refine V_last X' dL_spoil_11 ?_
    refine V_goto X' (tgt := 23) dL_spoil_12 (by decide) ?_
    refine V_iconst X' 0 dL_spoil_23 (by decide) ?_
    exact V_iretH X' (Nat.le_refl _) (Nat.le_refl _) rfl dL_spoil_24
theorem zth_set  {a1 : Int32} {a2 : Int32} {μ : ZMem} : zth (fun r => (∀ k, r = .inr k → k = 3 ∨ k = 1)) (f_X11_set a1 a2 μ) := by
  unfold f_X11_set
  repeat' (first | with_reducible assumption | with_reducible refine th_bd (fun _ => ?_) | with_reducible refine th_bd2 (fun _ _ => ?_) | with_reducible refine th_gd (fun _ => ?_) | with_reducible refine th_if ?_ ?_ | with_reducible refine th_jk ?_ (fun _ _ => ?_) | with_reducible refine th_zlt (fun _ => ?_) | with_reducible refine th_some ?_)
  all_goals (intro k hk; first | (cases hk; done) | (cases hk; decide))
theorem H_set {l : Launch} {D : va_G} {y : ZLay} {a1 : Int32} {a2 : Int32} {μ μ0 : ZMem} {res : Int32 ⊕ Nat} (hlf : l.stackTraces = false) (h : f_X11_set a1 a2 μ = some (res, μ0)) : MH l yL_set wh_set rh_set D y [.ref (zad y (0, 0, 0)), .int a1, .int a2, .ref (zad y (0, 31, 0))] μ (hres cmB res) (hmem μ0 res) := by
  have hk := zth_set _ h
  refine MH_of RL _ rfl rfl rfl ⟨Nat.le_refl _, Nat.le_refl _⟩ (Nat.le_of_ble_eq_true rfl) rfl ?_
  intro p e s m args below meth c A X X' ht
  refine V_aload_n X 3 dL_set_0 rfl rfl ?_
  refine V_iconst X 0 dL_set_1 (by decide) ?_
  refine V_aload_n X 0 dL_set_2 rfl rfl ?_
  refine V_iload_n X 1 dL_set_3 rfl rfl ?_
  refine V_iload_n X 2 dL_set_4 rfl rfl ?_
  refine V_callX X X' (As := [.int a1, .int a2]) (M_X11_set hlf h) (cwV 2 X.2.2.2.2.2.2.1 (gV wm_RL_52 wi_X11_set wse_X11_set win_RX11 wc_X11_set) rfl rfl rfl hd_X11_set ⟨Nat.le_of_ble_eq_true rfl, Nat.le_of_ble_eq_true rfl⟩) (b := (0, 0, 0)) ⟨by decide, rfl⟩ rfl rfl rfl rfl (Nat.le_of_ble_eq_true rfl) dL_set_5 rfl (fun k hr => ?_) (fun v hr => ?_)
  · subst hr
    rcases hk k rfl with hk | hk
    · subst hk
      refine V_catch X' (E := zEx 3) (zEx 3) [] ⟨0, 10, 13, 24⟩ [⟨0, 10, 17, 13⟩] ht (by intro z hz; cases hz) (by decide) (by decide) (mB wcl_RL_24) (by decide +kernel) (fun q => ?_)
      refine V_astore X' ([(4, .ref q), (0, .ref (zad y (0, 0, 0))), (1, .int a1), (2, .int a2), (3, .ref (zad y (0, 31, 0)))]) dL_set_13 (Nat.le_of_ble_eq_true rfl) rfl ?_
      refine V_iconst X' 1 dL_set_15 (by decide) ?_
      exact V_iretH X' (Nat.le_refl _) (Nat.le_refl _) rfl dL_set_16
    · subst hk
      refine V_catch X' (E := zEx 1) (zEx 1) [⟨0, 10, 13, 24⟩] ⟨0, 10, 17, 13⟩ [] ht (by intro z hz; rw [List.mem_singleton.mp hz]; exact ⟨by decide, zEx 3, mB wcl_RL_24, by decide +kernel⟩) (by decide) (by decide) (mB wcl_RL_13) (by decide +kernel) (fun q => ?_)
      refine V_astore X' ([(4, .ref q), (0, .ref (zad y (0, 0, 0))), (1, .int a1), (2, .int a2), (3, .ref (zad y (0, 31, 0)))]) dL_set_17 (Nat.le_of_ble_eq_true rfl) rfl ?_
      refine V_iconst X' 2 dL_set_19 (by decide) ?_
      exact V_iretH X' (Nat.le_refl _) (Nat.le_refl _) rfl dL_set_20
  · subst hr
    refine V_i2l X' dL_set_8 ?_
    refine V_last X' dL_set_9 ?_
    refine V_goto X' (tgt := 21) dL_set_10 (by decide) ?_
    refine V_iconst X' 0 dL_set_21 (by decide) ?_
    exact V_iretH X' (Nat.le_refl _) (Nat.le_refl _) rfl dL_set_22
theorem zth_tune  {a1 : Int32} {a2 : Int32} {μ : ZMem} : zth (fun r => (∀ k, r = .inr k → k = 1)) (f_X11_tune a1 a2 μ) := by
  unfold f_X11_tune
  repeat' (first | with_reducible assumption | with_reducible refine th_bd (fun _ => ?_) | with_reducible refine th_bd2 (fun _ _ => ?_) | with_reducible refine th_gd (fun _ => ?_) | with_reducible refine th_if ?_ ?_ | with_reducible refine th_jk ?_ (fun _ _ => ?_) | with_reducible refine th_zlt (fun _ => ?_) | with_reducible refine th_some ?_)
  all_goals (intro k hk; first | (cases hk; done) | (cases hk; decide))
theorem H_tune {l : Launch} {D : va_G} {y : ZLay} {a1 : Int32} {a2 : Int32} {μ μ0 : ZMem} {res : Int32 ⊕ Nat} (hlf : l.stackTraces = false) (h : f_X11_tune a1 a2 μ = some (res, μ0)) : MH l yL_tune wh_tune rh_tune D y [.ref (zad y (0, 0, 0)), .int a1, .int a2, .ref (zad y (0, 31, 0))] μ (hres cm1 res) (hmem μ0 res) := by
  have hk := zth_tune _ h
  refine MH_of RL _ rfl rfl rfl ⟨Nat.le_refl _, Nat.le_refl _⟩ (Nat.le_of_ble_eq_true rfl) rfl ?_
  intro p e s m args below meth c A X X' ht
  refine V_aload_n X 3 dL_tune_0 rfl rfl ?_
  refine V_iconst X 0 dL_tune_1 (by decide) ?_
  refine V_aload_n X 0 dL_tune_2 rfl rfl ?_
  refine V_iload_n X 1 dL_tune_3 rfl rfl ?_
  refine V_iload_n X 2 dL_tune_4 rfl rfl ?_
  refine V_callX X X' (As := [.int a1, .int a2]) (M_X11_tune hlf h) (cwV 2 X.2.2.2.2.2.2.1 (gV wm_RL_55 wi_X11_tune wse_X11_tune win_RX11 wc_X11_tune) rfl rfl rfl hd_X11_tune ⟨Nat.le_of_ble_eq_true rfl, Nat.le_of_ble_eq_true rfl⟩) (b := (0, 0, 0)) ⟨by decide, rfl⟩ rfl rfl rfl rfl (Nat.le_of_ble_eq_true rfl) dL_tune_5 rfl (fun k hr => ?_) (fun v hr => ?_)
  · subst hr
    have hk := hk k rfl
    subst hk
    refine V_catch X' (E := zEx 1) (zEx 1) [] ⟨0, 10, 13, 13⟩ [] ht (by intro z hz; cases hz) (by decide) (by decide) (mB wcl_RL_13) (by decide +kernel) (fun q => ?_)
    refine V_astore X' ([(4, .ref q), (0, .ref (zad y (0, 0, 0))), (1, .int a1), (2, .int a2), (3, .ref (zad y (0, 31, 0)))]) dL_tune_13 (Nat.le_of_ble_eq_true rfl) rfl ?_
    refine V_iconst X' 1 dL_tune_15 (by decide) ?_
    exact V_iretH X' (Nat.le_refl _) (Nat.le_refl _) rfl dL_tune_16
  · subst hr
    refine V_i2l X' dL_tune_8 ?_
    refine V_last X' dL_tune_9 ?_
    refine V_goto X' (tgt := 17) dL_tune_10 (by decide) ?_
    refine V_iconst X' 0 dL_tune_17 (by decide) ?_
    exact V_iretH X' (Nat.le_refl _) (Nat.le_refl _) rfl dL_tune_18
theorem zth_mid {y : ZLay} {μ : ZMem} : zth (fun r => (∀ k, r = .inr k → k = 1)) (f_X11_mid y μ) := by
  unfold f_X11_mid
  repeat' (first | with_reducible assumption | with_reducible refine th_bd (fun _ => ?_) | with_reducible refine th_bd2 (fun _ _ => ?_) | with_reducible refine th_gd (fun _ => ?_) | with_reducible refine th_if ?_ ?_ | with_reducible refine th_jk ?_ (fun _ _ => ?_) | with_reducible refine th_zlt (fun _ => ?_) | with_reducible refine th_some ?_)
  all_goals (intro k hk; first | (cases hk; done) | (cases hk; decide))
theorem H_mid {l : Launch} {D : va_G} {y : ZLay} {μ μ0 : ZMem} {res : Int32 ⊕ Nat} (hlf : l.stackTraces = false) (h : f_X11_mid y μ = some (res, μ0)) : MH l yL_mid wh_mid rh_mid D y [.ref (zad y (0, 0, 0)), .ref (zad y (0, 31, 0))] μ (hres cm1 res) (hmem μ0 res) := by
  have hk := zth_mid _ h
  refine MH_of RL _ rfl rfl rfl ⟨Nat.le_refl _, Nat.le_refl _⟩ (Nat.le_of_ble_eq_true rfl) rfl ?_
  intro p e s m args below meth c A X X' ht
  refine V_aload_n X 1 dL_mid_0 rfl rfl ?_
  refine V_iconst X 0 dL_mid_1 (by decide) ?_
  refine V_aload_n X 0 dL_mid_2 rfl rfl ?_
  refine V_callX X X' (As := []) (M_X11_mid hlf h) (cwV 0 X.2.2.2.2.2.2.1 (gV wm_RL_59 wi_X11_mid wse_X11_mid win_RX11 wc_X11_mid) rfl rfl rfl hd_X11_mid ⟨Nat.le_of_ble_eq_true rfl, Nat.le_of_ble_eq_true rfl⟩) (b := (0, 0, 0)) ⟨by decide, rfl⟩ rfl rfl rfl rfl (Nat.le_of_ble_eq_true rfl) dL_mid_3 rfl (fun k hr => ?_) (fun v hr => ?_)
  · subst hr
    have hk := hk k rfl
    subst hk
    refine V_catch X' (E := zEx 1) (zEx 1) [] ⟨0, 8, 11, 13⟩ [] ht (by intro z hz; cases hz) (by decide) (by decide) (mB wcl_RL_13) (by decide +kernel) (fun q => ?_)
    refine V_astore_n X' ([(2, .ref q), (0, .ref (zad y (0, 0, 0))), (1, .ref (zad y (0, 31, 0)))]) dL_mid_11 rfl (Nat.le_of_ble_eq_true rfl) rfl ?_
    refine V_iconst X' 1 dL_mid_12 (by decide) ?_
    exact V_iretH X' (Nat.le_refl _) (Nat.le_refl _) rfl dL_mid_13
  · subst hr
    refine V_i2l X' dL_mid_6 ?_
    refine V_last X' dL_mid_7 ?_
    refine V_goto X' (tgt := 14) dL_mid_8 (by decide) ?_
    refine V_iconst X' 0 dL_mid_14 (by decide) ?_
    exact V_iretH X' (Nat.le_refl _) (Nat.le_refl _) rfl dL_mid_15
theorem zth_settles {y : ZLay} {a1 : Int32} {μ : ZMem} : zth (fun r => (∀ k, r = .inr k → k = 1)) (f_X11_settles y a1 μ) := by
  unfold f_X11_settles
  refine th_jk (th_some (by intro k hk; cases hk; decide)) (fun _ hk2 => th_if hk2 (th_if ?_ hk2))
  refine th_bd (fun μ5 => ?_)
  intro q e
  obtain ⟨z, hz, e⟩ := bd_some e
  have hz := th_lp (PR := fun z => ∀ r0 μ0, z = .inr (r0, μ0) → ∃ v, r0 = .inl v) (by
    rintro ⟨x6, μ7⟩ r hr
    rw [un2_s] at hr
    split at hr
    · cases hr; intro _ _ h; cases h
    · obtain ⟨x11, -, hr⟩ := bd_some hr
      rw [jk_s] at hr
      have kk : ∀ {K : Option ((Int32 × ZMem) ⊕ (ZMem ⊕ ((Int32 ⊕ Nat) × ZMem)))}, K = (bd2 (f_X9_play y 1 0 μ7) (fun (x18 : Int32) (μ19 : ZMem) => some (.inl ((x6 + 1), μ19)))) → K = some (.inr r) → False := by
        intro K h1 h2
        rw [h1] at h2
        obtain ⟨_, _, -, h2⟩ := bd2_some h2
        cases h2
      split at hr
      · exact (kk rfl hr).elim
      · obtain ⟨x15, -, hr⟩ := bd_some hr
        split at hr
        · exact (kk rfl hr).elim
        · cases hr
          intro r0 μ0 h
          cases h
          exact ⟨_, rfl⟩) _ _ _ hz
  cases z with
  | inl a => cases e; intro k hk; cases hk
  | inr b =>
    obtain ⟨r0, μ0⟩ := b
    obtain ⟨v, hv⟩ := hz r0 μ0 rfl
    cases e
    intro k hk
    have hk : r0 = .inr k := hk
    rw [hv] at hk
    cases hk
theorem H_settles {l : Launch} {D : va_G} {y : ZLay} {a1 : Int32} {μ μ0 : ZMem} {res : Int32 ⊕ Nat} (hlf : l.stackTraces = false) (h : f_X11_settles y a1 μ = some (res, μ0)) : MH l yL_settles wh_settles rh_settles D y [.ref (zad y (0, 0, 0)), .int a1, .ref (zad y (0, 31, 0))] μ (hres cm1 res) (hmem μ0 res) := by
  have hk := zth_settles _ h
  refine MH_of RL _ rfl rfl rfl ⟨Nat.le_refl _, Nat.le_refl _⟩ (Nat.le_of_ble_eq_true rfl) rfl ?_
  intro p e s m args below meth c A X X' ht
  refine V_aload_n X 2 dL_settles_0 rfl rfl ?_
  refine V_iconst X 0 dL_settles_1 (by decide) ?_
  refine V_aload_n X 0 dL_settles_2 rfl rfl ?_
  refine V_iload_n X 1 dL_settles_3 rfl rfl ?_
  refine V_callX X X' (As := [.int a1]) (M_X11_settles hlf h) (cwV 1 X.2.2.2.2.2.2.1 (gV wm_RL_62 wi_X11_settles wse_X11_settles win_RX11 wc_X11_settles) rfl rfl rfl hd_X11_settles ⟨Nat.le_of_ble_eq_true rfl, Nat.le_of_ble_eq_true rfl⟩) (b := (0, 0, 0)) ⟨by decide, rfl⟩ rfl rfl rfl rfl (Nat.le_of_ble_eq_true rfl) dL_settles_4 rfl (fun k hr => ?_) (fun v hr => ?_)
  · subst hr
    have hk := hk k rfl
    subst hk
    refine V_catch X' (E := zEx 1) (zEx 1) [] ⟨0, 9, 12, 13⟩ [] ht (by intro z hz; cases hz) (by decide) (by decide) (mB wcl_RL_13) (by decide +kernel) (fun q => ?_)
    refine V_astore_n X' ([(3, .ref q), (0, .ref (zad y (0, 0, 0))), (1, .int a1), (2, .ref (zad y (0, 31, 0)))]) dL_settles_12 rfl (Nat.le_of_ble_eq_true rfl) rfl ?_
    refine V_iconst X' 1 dL_settles_13 (by decide) ?_
    exact V_iretH X' (Nat.le_refl _) (Nat.le_refl _) rfl dL_settles_14
  · subst hr
    refine V_i2l X' dL_settles_7 ?_
    refine V_last X' dL_settles_8 ?_
    refine V_goto X' (tgt := 15) dL_settles_9 (by decide) ?_
    refine V_iconst X' 0 dL_settles_15 (by decide) ?_
    exact V_iretH X' (Nat.le_refl _) (Nat.le_refl _) rfl dL_settles_16
theorem zth_widest {y : ZLay} {a1 : Int32} {μ : ZMem} : zth (fun r => (∀ k, r = .inr k → k = 1)) (f_X11_widest y a1 μ) := by
  unfold f_X11_widest
  repeat' (first | with_reducible assumption | with_reducible refine th_bd (fun _ => ?_) | with_reducible refine th_bd2 (fun _ _ => ?_) | with_reducible refine th_gd (fun _ => ?_) | with_reducible refine th_if ?_ ?_ | with_reducible refine th_jk ?_ (fun _ _ => ?_) | with_reducible refine th_zlt (fun _ => ?_) | with_reducible refine th_some ?_)
  all_goals (intro k hk; first | (cases hk; done) | (cases hk; decide))
theorem H_widest {l : Launch} {D : va_G} {y : ZLay} {a1 : Int32} {μ μ0 : ZMem} {res : Int32 ⊕ Nat} (hlf : l.stackTraces = false) (h : f_X11_widest y a1 μ = some (res, μ0)) : MH l yL_widest wh_widest rh_widest D y [.ref (zad y (0, 0, 0)), .int a1, .ref (zad y (0, 31, 0))] μ (hres cm1 res) (hmem μ0 res) := by
  have hk := zth_widest _ h
  refine MH_of RL _ rfl rfl rfl ⟨Nat.le_refl _, Nat.le_refl _⟩ (Nat.le_of_ble_eq_true rfl) rfl ?_
  intro p e s m args below meth c A X X' ht
  refine V_aload_n X 2 dL_widest_0 rfl rfl ?_
  refine V_iconst X 0 dL_widest_1 (by decide) ?_
  refine V_aload_n X 0 dL_widest_2 rfl rfl ?_
  refine V_iload_n X 1 dL_widest_3 rfl rfl ?_
  refine V_callX X X' (As := [.int a1]) (M_X11_widest hlf h) (cwV 1 X.2.2.2.2.2.2.1 (gV wm_RL_65 wi_X11_widest wse_X11_widest win_RX11 wc_X11_widest) rfl rfl rfl hd_X11_widest ⟨Nat.le_of_ble_eq_true rfl, Nat.le_of_ble_eq_true rfl⟩) (b := (0, 0, 0)) ⟨by decide, rfl⟩ rfl rfl rfl rfl (Nat.le_of_ble_eq_true rfl) dL_widest_4 rfl (fun k hr => ?_) (fun v hr => ?_)
  · subst hr
    have hk := hk k rfl
    subst hk
    refine V_catch X' (E := zEx 1) (zEx 1) [] ⟨0, 9, 12, 13⟩ [] ht (by intro z hz; cases hz) (by decide) (by decide) (mB wcl_RL_13) (by decide +kernel) (fun q => ?_)
    refine V_astore_n X' ([(3, .ref q), (0, .ref (zad y (0, 0, 0))), (1, .int a1), (2, .ref (zad y (0, 31, 0)))]) dL_widest_12 rfl (Nat.le_of_ble_eq_true rfl) rfl ?_
    refine V_iconst X' 1 dL_widest_13 (by decide) ?_
    exact V_iretH X' (Nat.le_refl _) (Nat.le_refl _) rfl dL_widest_14
  · subst hr
    refine V_i2l X' dL_widest_7 ?_
    refine V_last X' dL_widest_8 ?_
    refine V_goto X' (tgt := 15) dL_widest_9 (by decide) ?_
    refine V_iconst X' 0 dL_widest_15 (by decide) ?_
    exact V_iretH X' (Nat.le_refl _) (Nat.le_refl _) rfl dL_widest_16
theorem zth_read {y : ZLay} {a1 : Int32} {μ : ZMem} : zth (fun r => (∀ k, r = .inr k → k = 1)) (f_X11_read y a1 μ) := by
  unfold f_X11_read
  repeat' (first | with_reducible assumption | with_reducible refine th_bd (fun _ => ?_) | with_reducible refine th_bd2 (fun _ _ => ?_) | with_reducible refine th_gd (fun _ => ?_) | with_reducible refine th_if ?_ ?_ | with_reducible refine th_jk ?_ (fun _ _ => ?_) | with_reducible refine th_zlt (fun _ => ?_) | with_reducible refine th_some ?_)
  all_goals (intro k hk; first | (cases hk; done) | (cases hk; decide))
theorem H_read {l : Launch} {D : va_G} {y : ZLay} {a1 : Int32} {μ μ0 : ZMem} {res : Int32 ⊕ Nat} (hlf : l.stackTraces = false) (h : f_X11_read y a1 μ = some (res, μ0)) : MH l yL_read wh_read rh_read D y [.ref (zad y (0, 0, 0)), .int a1, .ref (zad y (0, 31, 0))] μ (hres cm1 res) (hmem μ0 res) := by
  have hk := zth_read _ h
  refine MH_of RL _ rfl rfl rfl ⟨Nat.le_refl _, Nat.le_refl _⟩ (Nat.le_of_ble_eq_true rfl) rfl ?_
  intro p e s m args below meth c A X X' ht
  refine V_aload_n X 2 dL_read_0 rfl rfl ?_
  refine V_iconst X 0 dL_read_1 (by decide) ?_
  refine V_aload_n X 0 dL_read_2 rfl rfl ?_
  refine V_iload_n X 1 dL_read_3 rfl rfl ?_
  refine V_callX X X' (As := [.int a1]) (M_X11_read hlf h) (cwV 1 X.2.2.2.2.2.2.1 (gV wm_RL_68 wi_X11_read wse_X11_read win_RX11 wc_X11_read) rfl rfl rfl hd_X11_read ⟨Nat.le_of_ble_eq_true rfl, Nat.le_of_ble_eq_true rfl⟩) (b := (0, 0, 0)) ⟨by decide, rfl⟩ rfl rfl rfl rfl (Nat.le_of_ble_eq_true rfl) dL_read_4 rfl (fun k hr => ?_) (fun v hr => ?_)
  · subst hr
    have hk := hk k rfl
    subst hk
    refine V_catch X' (E := zEx 1) (zEx 1) [] ⟨0, 9, 12, 13⟩ [] ht (by intro z hz; cases hz) (by decide) (by decide) (mB wcl_RL_13) (by decide +kernel) (fun q => ?_)
    refine V_astore_n X' ([(3, .ref q), (0, .ref (zad y (0, 0, 0))), (1, .int a1), (2, .ref (zad y (0, 31, 0)))]) dL_read_12 rfl (Nat.le_of_ble_eq_true rfl) rfl ?_
    refine V_iconst X' 1 dL_read_13 (by decide) ?_
    exact V_iretH X' (Nat.le_refl _) (Nat.le_refl _) rfl dL_read_14
  · subst hr
    refine V_i2l X' dL_read_7 ?_
    refine V_last X' dL_read_8 ?_
    refine V_goto X' (tgt := 15) dL_read_9 (by decide) ?_
    refine V_iconst X' 0 dL_read_15 (by decide) ?_
    exact V_iretH X' (Nat.le_refl _) (Nat.le_refl _) rfl dL_read_16
theorem zth_when {y : ZLay} {μ : ZMem} : zth (fun r => (∀ k, r = .inr k → k = 1)) (f_X11_when y μ) := by
  unfold f_X11_when
  repeat' (first | with_reducible assumption | with_reducible refine th_bd (fun _ => ?_) | with_reducible refine th_bd2 (fun _ _ => ?_) | with_reducible refine th_gd (fun _ => ?_) | with_reducible refine th_if ?_ ?_ | with_reducible refine th_jk ?_ (fun _ _ => ?_) | with_reducible refine th_zlt (fun _ => ?_) | with_reducible refine th_some ?_)
  all_goals (intro k hk; first | (cases hk; done) | (cases hk; decide))
theorem H_when {l : Launch} {D : va_G} {y : ZLay} {μ μ0 : ZMem} {res : Int32 ⊕ Nat} (hlf : l.stackTraces = false) (h : f_X11_when y μ = some (res, μ0)) : MH l yL_when wh_when rh_when D y [.ref (zad y (0, 0, 0)), .ref (zad y (0, 31, 0))] μ (hres cm1 res) (hmem μ0 res) := by
  have hk := zth_when _ h
  refine MH_of RL _ rfl rfl rfl ⟨Nat.le_refl _, Nat.le_refl _⟩ (Nat.le_of_ble_eq_true rfl) rfl ?_
  intro p e s m args below meth c A X X' ht
  refine V_aload_n X 1 dL_when_0 rfl rfl ?_
  refine V_iconst X 0 dL_when_1 (by decide) ?_
  refine V_aload_n X 0 dL_when_2 rfl rfl ?_
  refine V_callX X X' (As := []) (M_X11_when hlf h) (cwV 0 X.2.2.2.2.2.2.1 (gV wm_RL_72 wi_X11_when wse_X11_when win_RX11 wc_X11_when) rfl rfl rfl hd_X11_when ⟨Nat.le_of_ble_eq_true rfl, Nat.le_of_ble_eq_true rfl⟩) (b := (0, 0, 0)) ⟨by decide, rfl⟩ rfl rfl rfl rfl (Nat.le_of_ble_eq_true rfl) dL_when_3 rfl (fun k hr => ?_) (fun v hr => ?_)
  · subst hr
    have hk := hk k rfl
    subst hk
    refine V_catch X' (E := zEx 1) (zEx 1) [] ⟨0, 8, 11, 13⟩ [] ht (by intro z hz; cases hz) (by decide) (by decide) (mB wcl_RL_13) (by decide +kernel) (fun q => ?_)
    refine V_astore_n X' ([(2, .ref q), (0, .ref (zad y (0, 0, 0))), (1, .ref (zad y (0, 31, 0)))]) dL_when_11 rfl (Nat.le_of_ble_eq_true rfl) rfl ?_
    refine V_iconst X' 1 dL_when_12 (by decide) ?_
    exact V_iretH X' (Nat.le_refl _) (Nat.le_refl _) rfl dL_when_13
  · subst hr
    refine V_i2l X' dL_when_6 ?_
    refine V_last X' dL_when_7 ?_
    refine V_goto X' (tgt := 14) dL_when_8 (by decide) ?_
    refine V_iconst X' 0 dL_when_14 (by decide) ?_
    exact V_iretH X' (Nat.le_refl _) (Nat.le_refl _) rfl dL_when_15
theorem zth_blame {y : ZLay} {μ : ZMem} : zth (fun r => (∀ k, r = .inr k → k = 1)) (f_X11_blame y μ) := by
  unfold f_X11_blame
  repeat' (first | with_reducible assumption | with_reducible refine th_bd (fun _ => ?_) | with_reducible refine th_bd2 (fun _ _ => ?_) | with_reducible refine th_gd (fun _ => ?_) | with_reducible refine th_if ?_ ?_ | with_reducible refine th_jk ?_ (fun _ _ => ?_) | with_reducible refine th_zlt (fun _ => ?_) | with_reducible refine th_some ?_)
  all_goals (intro k hk; first | (cases hk; done) | (cases hk; decide))
theorem H_blame {l : Launch} {D : va_G} {y : ZLay} {μ μ0 : ZMem} {res : Int32 ⊕ Nat} (hlf : l.stackTraces = false) (h : f_X11_blame y μ = some (res, μ0)) : MH l yL_blame wh_blame rh_blame D y [.ref (zad y (0, 0, 0)), .ref (zad y (0, 31, 0))] μ (hres cm1 res) (hmem μ0 res) := by
  have hk := zth_blame _ h
  refine MH_of RL _ rfl rfl rfl ⟨Nat.le_refl _, Nat.le_refl _⟩ (Nat.le_of_ble_eq_true rfl) rfl ?_
  intro p e s m args below meth c A X X' ht
  refine V_aload_n X 1 dL_blame_0 rfl rfl ?_
  refine V_iconst X 0 dL_blame_1 (by decide) ?_
  refine V_aload_n X 0 dL_blame_2 rfl rfl ?_
  refine V_callX X X' (As := []) (M_X11_blame hlf h) (cwV 0 X.2.2.2.2.2.2.1 (gV wm_RL_75 wi_X11_blame wse_X11_blame win_RX11 wc_X11_blame) rfl rfl rfl hd_X11_blame ⟨Nat.le_of_ble_eq_true rfl, Nat.le_of_ble_eq_true rfl⟩) (b := (0, 0, 0)) ⟨by decide, rfl⟩ rfl rfl rfl rfl (Nat.le_of_ble_eq_true rfl) dL_blame_3 rfl (fun k hr => ?_) (fun v hr => ?_)
  · subst hr
    have hk := hk k rfl
    subst hk
    refine V_catch X' (E := zEx 1) (zEx 1) [] ⟨0, 8, 11, 13⟩ [] ht (by intro z hz; cases hz) (by decide) (by decide) (mB wcl_RL_13) (by decide +kernel) (fun q => ?_)
    refine V_astore_n X' ([(2, .ref q), (0, .ref (zad y (0, 0, 0))), (1, .ref (zad y (0, 31, 0)))]) dL_blame_11 rfl (Nat.le_of_ble_eq_true rfl) rfl ?_
    refine V_iconst X' 1 dL_blame_12 (by decide) ?_
    exact V_iretH X' (Nat.le_refl _) (Nat.le_refl _) rfl dL_blame_13
  · subst hr
    refine V_i2l X' dL_blame_6 ?_
    refine V_last X' dL_blame_7 ?_
    refine V_goto X' (tgt := 14) dL_blame_8 (by decide) ?_
    refine V_iconst X' 0 dL_blame_14 (by decide) ?_
    exact V_iretH X' (Nat.le_refl _) (Nat.le_refl _) rfl dL_blame_15
theorem zth_guilty {y : ZLay} {μ : ZMem} : zth (fun r => (∀ k, r = .inr k → k = 1)) (f_X11_guilty y μ) := by
  unfold f_X11_guilty
  repeat' (first | with_reducible assumption | with_reducible refine th_bd (fun _ => ?_) | with_reducible refine th_bd2 (fun _ _ => ?_) | with_reducible refine th_gd (fun _ => ?_) | with_reducible refine th_if ?_ ?_ | with_reducible refine th_jk ?_ (fun _ _ => ?_) | with_reducible refine th_zlt (fun _ => ?_) | with_reducible refine th_some ?_)
  all_goals (intro k hk; first | (cases hk; done) | (cases hk; decide))
theorem H_guilty {l : Launch} {D : va_G} {y : ZLay} {μ μ0 : ZMem} {res : Int32 ⊕ Nat} (hlf : l.stackTraces = false) (h : f_X11_guilty y μ = some (res, μ0)) : MH l yL_guilty wh_guilty rh_guilty D y [.ref (zad y (0, 0, 0)), .ref (zad y (0, 31, 0))] μ (hres cm1 res) (hmem μ0 res) := by
  have hk := zth_guilty _ h
  refine MH_of RL _ rfl rfl rfl ⟨Nat.le_refl _, Nat.le_refl _⟩ (Nat.le_of_ble_eq_true rfl) rfl ?_
  intro p e s m args below meth c A X X' ht
  refine V_aload_n X 1 dL_guilty_0 rfl rfl ?_
  refine V_iconst X 0 dL_guilty_1 (by decide) ?_
  refine V_aload_n X 0 dL_guilty_2 rfl rfl ?_
  refine V_callX X X' (As := []) (M_X11_guilty hlf h) (cwV 0 X.2.2.2.2.2.2.1 (gV wm_RL_78 wi_X11_guilty wse_X11_guilty win_RX11 wc_X11_guilty) rfl rfl rfl hd_X11_guilty ⟨Nat.le_of_ble_eq_true rfl, Nat.le_of_ble_eq_true rfl⟩) (b := (0, 0, 0)) ⟨by decide, rfl⟩ rfl rfl rfl rfl (Nat.le_of_ble_eq_true rfl) dL_guilty_3 rfl (fun k hr => ?_) (fun v hr => ?_)
  · subst hr
    have hk := hk k rfl
    subst hk
    refine V_catch X' (E := zEx 1) (zEx 1) [] ⟨0, 8, 11, 13⟩ [] ht (by intro z hz; cases hz) (by decide) (by decide) (mB wcl_RL_13) (by decide +kernel) (fun q => ?_)
    refine V_astore_n X' ([(2, .ref q), (0, .ref (zad y (0, 0, 0))), (1, .ref (zad y (0, 31, 0)))]) dL_guilty_11 rfl (Nat.le_of_ble_eq_true rfl) rfl ?_
    refine V_iconst X' 1 dL_guilty_12 (by decide) ?_
    exact V_iretH X' (Nat.le_refl _) (Nat.le_refl _) rfl dL_guilty_13
  · subst hr
    refine V_i2l X' dL_guilty_6 ?_
    refine V_last X' dL_guilty_7 ?_
    refine V_goto X' (tgt := 14) dL_guilty_8 (by decide) ?_
    refine V_iconst X' 0 dL_guilty_14 (by decide) ?_
    exact V_iretH X' (Nat.le_refl _) (Nat.le_refl _) rfl dL_guilty_15
theorem zth_probe {y : ZLay} {μ : ZMem} : zth (fun r => (∀ k, r = .inr k → k = 1)) (f_X11_probe y μ) := by
  unfold f_X11_probe
  repeat' (first | with_reducible assumption | with_reducible refine th_bd (fun _ => ?_) | with_reducible refine th_bd2 (fun _ _ => ?_) | with_reducible refine th_gd (fun _ => ?_) | with_reducible refine th_if ?_ ?_ | with_reducible refine th_jk ?_ (fun _ _ => ?_) | with_reducible refine th_zlt (fun _ => ?_) | with_reducible refine th_some ?_)
  all_goals (intro k hk; first | (cases hk; done) | (cases hk; decide))
theorem H_probe {l : Launch} {D : va_G} {y : ZLay} {μ μ0 : ZMem} {res : Int32 ⊕ Nat} (hlf : l.stackTraces = false) (h : f_X11_probe y μ = some (res, μ0)) : MH l yL_probe wh_probe rh_probe D y [.ref (zad y (0, 0, 0)), .ref (zad y (0, 31, 0))] μ (hres cm1 res) (hmem μ0 res) := by
  have hk := zth_probe _ h
  refine MH_of RL _ rfl rfl rfl ⟨Nat.le_refl _, Nat.le_refl _⟩ (Nat.le_of_ble_eq_true rfl) rfl ?_
  intro p e s m args below meth c A X X' ht
  refine V_aload_n X 1 dL_probe_0 rfl rfl ?_
  refine V_iconst X 0 dL_probe_1 (by decide) ?_
  refine V_aload_n X 0 dL_probe_2 rfl rfl ?_
  refine V_callX X X' (As := []) (M_X11_probe hlf h) (cwV 0 X.2.2.2.2.2.2.1 (gV wm_RL_81 wi_X11_probe wse_X11_probe win_RX11 wc_X11_probe) rfl rfl rfl hd_X11_probe ⟨Nat.le_of_ble_eq_true rfl, Nat.le_of_ble_eq_true rfl⟩) (b := (0, 0, 0)) ⟨by decide, rfl⟩ rfl rfl rfl rfl (Nat.le_of_ble_eq_true rfl) dL_probe_3 rfl (fun k hr => ?_) (fun v hr => ?_)
  · subst hr
    have hk := hk k rfl
    subst hk
    refine V_catch X' (E := zEx 1) (zEx 1) [] ⟨0, 8, 11, 13⟩ [] ht (by intro z hz; cases hz) (by decide) (by decide) (mB wcl_RL_13) (by decide +kernel) (fun q => ?_)
    refine V_astore_n X' ([(2, .ref q), (0, .ref (zad y (0, 0, 0))), (1, .ref (zad y (0, 31, 0)))]) dL_probe_11 rfl (Nat.le_of_ble_eq_true rfl) rfl ?_
    refine V_iconst X' 1 dL_probe_12 (by decide) ?_
    exact V_iretH X' (Nat.le_refl _) (Nat.le_refl _) rfl dL_probe_13
  · subst hr
    refine V_i2l X' dL_probe_6 ?_
    refine V_last X' dL_probe_7 ?_
    refine V_goto X' (tgt := 14) dL_probe_8 (by decide) ?_
    refine V_iconst X' 0 dL_probe_14 (by decide) ?_
    exact V_iretH X' (Nat.le_refl _) (Nat.le_refl _) rfl dL_probe_15
theorem zth_pairs {y : ZLay} {a1 : Int32} {μ : ZMem} : zth (fun r => (∀ k, r = .inr k → k = 3)) (f_X11_pairs y a1 μ) := by
  unfold f_X11_pairs
  repeat' (first | with_reducible assumption | with_reducible refine th_bd (fun _ => ?_) | with_reducible refine th_bd2 (fun _ _ => ?_) | with_reducible refine th_gd (fun _ => ?_) | with_reducible refine th_if ?_ ?_ | with_reducible refine th_jk ?_ (fun _ _ => ?_) | with_reducible refine th_zlt (fun _ => ?_) | with_reducible refine th_some ?_)
  all_goals (intro k hk; first | (cases hk; done) | (cases hk; decide))
theorem H_pairs {l : Launch} {D : va_G} {y : ZLay} {a1 : Int32} {μ μ0 : ZMem} {res : Int32 ⊕ Nat} (hlf : l.stackTraces = false) (h : f_X11_pairs y a1 μ = some (res, μ0)) : MH l yL_pairs wh_pairs rh_pairs D y [.ref (zad y (0, 0, 0)), .int a1, .ref (zad y (0, 31, 0))] μ (hres cmB res) (hmem μ0 res) := by
  have hk := zth_pairs _ h
  refine MH_of RL _ rfl rfl rfl ⟨Nat.le_refl _, Nat.le_refl _⟩ (Nat.le_of_ble_eq_true rfl) rfl ?_
  intro p e s m args below meth c A X X' ht
  refine V_aload_n X 2 dL_pairs_0 rfl rfl ?_
  refine V_iconst X 0 dL_pairs_1 (by decide) ?_
  refine V_aload_n X 0 dL_pairs_2 rfl rfl ?_
  refine V_iload_n X 1 dL_pairs_3 rfl rfl ?_
  refine V_callX X X' (As := [.int a1]) (M_X11_pairs hlf h) (cwV 1 X.2.2.2.2.2.2.1 (gV wm_RL_84 wi_X11_pairs wse_X11_pairs win_RX11 wc_X11_pairs) rfl rfl rfl hd_X11_pairs ⟨Nat.le_of_ble_eq_true rfl, Nat.le_of_ble_eq_true rfl⟩) (b := (0, 0, 0)) ⟨by decide, rfl⟩ rfl rfl rfl rfl (Nat.le_of_ble_eq_true rfl) dL_pairs_4 rfl (fun k hr => ?_) (fun v hr => ?_)
  · subst hr
    have hk := hk k rfl
    subst hk
    refine V_catch X' (E := zEx 3) (zEx 3) [] ⟨0, 9, 12, 24⟩ [] ht (by intro z hz; cases hz) (by decide) (by decide) (mB wcl_RL_24) (by decide +kernel) (fun q => ?_)
    refine V_astore_n X' ([(3, .ref q), (0, .ref (zad y (0, 0, 0))), (1, .int a1), (2, .ref (zad y (0, 31, 0)))]) dL_pairs_12 rfl (Nat.le_of_ble_eq_true rfl) rfl ?_
    refine V_iconst X' 1 dL_pairs_13 (by decide) ?_
    exact V_iretH X' (Nat.le_refl _) (Nat.le_refl _) rfl dL_pairs_14
  · subst hr
    refine V_i2l X' dL_pairs_7 ?_
    refine V_last X' dL_pairs_8 ?_
    refine V_goto X' (tgt := 15) dL_pairs_9 (by decide) ?_
    refine V_iconst X' 0 dL_pairs_15 (by decide) ?_
    exact V_iretH X' (Nat.le_refl _) (Nat.le_refl _) rfl dL_pairs_16
theorem zth_share  {a1 : Int32} {a2 : Int32} {μ : ZMem} : zth (fun r => (∀ k, r = .inr k → k = 3 ∨ k = 1)) (f_X11_share a1 a2 μ) := by
  unfold f_X11_share
  repeat' (first | with_reducible assumption | with_reducible refine th_bd (fun _ => ?_) | with_reducible refine th_bd2 (fun _ _ => ?_) | with_reducible refine th_gd (fun _ => ?_) | with_reducible refine th_if ?_ ?_ | with_reducible refine th_jk ?_ (fun _ _ => ?_) | with_reducible refine th_zlt (fun _ => ?_) | with_reducible refine th_some ?_)
  all_goals (intro k hk; first | (cases hk; done) | (cases hk; decide))
theorem H_share {l : Launch} {D : va_G} {y : ZLay} {a1 : Int32} {a2 : Int32} {μ μ0 : ZMem} {res : Int32 ⊕ Nat} (hlf : l.stackTraces = false) (h : f_X11_share a1 a2 μ = some (res, μ0)) : MH l yL_share wh_share rh_share D y [.ref (zad y (0, 0, 0)), .int a1, .int a2, .ref (zad y (0, 31, 0))] μ (hres cmB res) (hmem μ0 res) := by
  have hk := zth_share _ h
  refine MH_of RL _ rfl rfl rfl ⟨Nat.le_refl _, Nat.le_refl _⟩ (Nat.le_of_ble_eq_true rfl) rfl ?_
  intro p e s m args below meth c A X X' ht
  refine V_aload_n X 3 dL_share_0 rfl rfl ?_
  refine V_iconst X 0 dL_share_1 (by decide) ?_
  refine V_aload_n X 0 dL_share_2 rfl rfl ?_
  refine V_iload_n X 1 dL_share_3 rfl rfl ?_
  refine V_iload_n X 2 dL_share_4 rfl rfl ?_
  refine V_callX X X' (As := [.int a1, .int a2]) (M_X11_share hlf h) (cwV 2 X.2.2.2.2.2.2.1 (gV wm_RL_87 wi_X11_share wse_X11_share win_RX11 wc_X11_share) rfl rfl rfl hd_X11_share ⟨Nat.le_of_ble_eq_true rfl, Nat.le_of_ble_eq_true rfl⟩) (b := (0, 0, 0)) ⟨by decide, rfl⟩ rfl rfl rfl rfl (Nat.le_of_ble_eq_true rfl) dL_share_5 rfl (fun k hr => ?_) (fun v hr => ?_)
  · subst hr
    rcases hk k rfl with hk | hk
    · subst hk
      refine V_catch X' (E := zEx 3) (zEx 3) [] ⟨0, 10, 13, 24⟩ [⟨0, 10, 17, 13⟩] ht (by intro z hz; cases hz) (by decide) (by decide) (mB wcl_RL_24) (by decide +kernel) (fun q => ?_)
      refine V_astore X' ([(4, .ref q), (0, .ref (zad y (0, 0, 0))), (1, .int a1), (2, .int a2), (3, .ref (zad y (0, 31, 0)))]) dL_share_13 (Nat.le_of_ble_eq_true rfl) rfl ?_
      refine V_iconst X' 1 dL_share_15 (by decide) ?_
      exact V_iretH X' (Nat.le_refl _) (Nat.le_refl _) rfl dL_share_16
    · subst hk
      refine V_catch X' (E := zEx 1) (zEx 1) [⟨0, 10, 13, 24⟩] ⟨0, 10, 17, 13⟩ [] ht (by intro z hz; rw [List.mem_singleton.mp hz]; exact ⟨by decide, zEx 3, mB wcl_RL_24, by decide +kernel⟩) (by decide) (by decide) (mB wcl_RL_13) (by decide +kernel) (fun q => ?_)
      refine V_astore X' ([(4, .ref q), (0, .ref (zad y (0, 0, 0))), (1, .int a1), (2, .int a2), (3, .ref (zad y (0, 31, 0)))]) dL_share_17 (Nat.le_of_ble_eq_true rfl) rfl ?_
      refine V_iconst X' 2 dL_share_19 (by decide) ?_
      exact V_iretH X' (Nat.le_refl _) (Nat.le_refl _) rfl dL_share_20
  · subst hr
    refine V_i2l X' dL_share_8 ?_
    refine V_last X' dL_share_9 ?_
    refine V_goto X' (tgt := 21) dL_share_10 (by decide) ?_
    refine V_iconst X' 0 dL_share_21 (by decide) ?_
    exact V_iretH X' (Nat.le_refl _) (Nat.le_refl _) rfl dL_share_22
theorem zth_rests  {a1 : Int32} {μ : ZMem} : zth (fun r => (∀ k, r = .inr k → k = 3)) (f_X11_rests a1 μ) := by
  unfold f_X11_rests
  repeat' (first | with_reducible assumption | with_reducible refine th_bd (fun _ => ?_) | with_reducible refine th_bd2 (fun _ _ => ?_) | with_reducible refine th_gd (fun _ => ?_) | with_reducible refine th_if ?_ ?_ | with_reducible refine th_jk ?_ (fun _ _ => ?_) | with_reducible refine th_zlt (fun _ => ?_) | with_reducible refine th_some ?_)
  all_goals (intro k hk; first | (cases hk; done) | (cases hk; decide))
theorem H_rests {l : Launch} {D : va_G} {y : ZLay} {a1 : Int32} {μ μ0 : ZMem} {res : Int32 ⊕ Nat} (hlf : l.stackTraces = false) (h : f_X11_rests a1 μ = some (res, μ0)) : MH l yL_rests wh_rests rh_rests D y [.ref (zad y (0, 0, 0)), .int a1, .ref (zad y (0, 31, 0))] μ (hres cmB res) (hmem μ0 res) := by
  have hk := zth_rests _ h
  refine MH_of RL _ rfl rfl rfl ⟨Nat.le_refl _, Nat.le_refl _⟩ (Nat.le_of_ble_eq_true rfl) rfl ?_
  intro p e s m args below meth c A X X' ht
  refine V_aload_n X 2 dL_rests_0 rfl rfl ?_
  refine V_iconst X 0 dL_rests_1 (by decide) ?_
  refine V_aload_n X 0 dL_rests_2 rfl rfl ?_
  refine V_iload_n X 1 dL_rests_3 rfl rfl ?_
  refine V_callX X X' (As := [.int a1]) (M_X11_rests hlf h) (cwV 1 X.2.2.2.2.2.2.1 (gV wm_RL_90 wi_X11_rests wse_X11_rests win_RX11 wc_X11_rests) rfl rfl rfl hd_X11_rests ⟨Nat.le_of_ble_eq_true rfl, Nat.le_of_ble_eq_true rfl⟩) (b := (0, 0, 0)) ⟨by decide, rfl⟩ rfl rfl rfl rfl (Nat.le_of_ble_eq_true rfl) dL_rests_4 rfl (fun k hr => ?_) (fun v hr => ?_)
  · subst hr
    have hk := hk k rfl
    subst hk
    refine V_catch X' (E := zEx 3) (zEx 3) [] ⟨0, 9, 12, 24⟩ [] ht (by intro z hz; cases hz) (by decide) (by decide) (mB wcl_RL_24) (by decide +kernel) (fun q => ?_)
    refine V_astore_n X' ([(3, .ref q), (0, .ref (zad y (0, 0, 0))), (1, .int a1), (2, .ref (zad y (0, 31, 0)))]) dL_rests_12 rfl (Nat.le_of_ble_eq_true rfl) rfl ?_
    refine V_iconst X' 1 dL_rests_13 (by decide) ?_
    exact V_iretH X' (Nat.le_refl _) (Nat.le_refl _) rfl dL_rests_14
  · subst hr
    refine V_i2l X' dL_rests_7 ?_
    refine V_last X' dL_rests_8 ?_
    refine V_goto X' (tgt := 15) dL_rests_9 (by decide) ?_
    refine V_iconst X' 0 dL_rests_15 (by decide) ?_
    exact V_iretH X' (Nat.le_refl _) (Nat.le_refl _) rfl dL_rests_16
theorem zth_odds {y : ZLay} {a1 : Int32} {a2 : Int32} {a3 : Int32} {μ : ZMem} : zth (fun r => (∀ k, r = .inr k → k = 3 ∨ k = 1)) (f_X11_odds y a1 a2 a3 μ) := by
  unfold f_X11_odds
  repeat' (first | with_reducible assumption | with_reducible refine th_bd (fun _ => ?_) | with_reducible refine th_bd2 (fun _ _ => ?_) | with_reducible refine th_gd (fun _ => ?_) | with_reducible refine th_if ?_ ?_ | with_reducible refine th_jk ?_ (fun _ _ => ?_) | with_reducible refine th_zlt (fun _ => ?_) | with_reducible refine th_some ?_)
  all_goals (intro k hk; first | (cases hk; done) | (cases hk; decide))
theorem H_odds {l : Launch} {D : va_G} {y : ZLay} {a1 : Int32} {a2 : Int32} {a3 : Int32} {μ μ0 : ZMem} {res : Int32 ⊕ Nat} (hlf : l.stackTraces = false) (h : f_X11_odds y a1 a2 a3 μ = some (res, μ0)) : MH l yL_odds wh_odds rh_odds D y [.ref (zad y (0, 0, 0)), .int a1, .int a2, .int a3, .ref (zad y (0, 31, 0))] μ (hres cmB res) (hmem μ0 res) := by
  have hk := zth_odds _ h
  refine MH_of RL _ rfl rfl rfl ⟨Nat.le_refl _, Nat.le_refl _⟩ (Nat.le_of_ble_eq_true rfl) rfl ?_
  intro p e s m args below meth c A X X' ht
  refine V_aload X 4 dL_odds_0 rfl ?_
  refine V_iconst X 0 dL_odds_2 (by decide) ?_
  refine V_aload_n X 0 dL_odds_3 rfl rfl ?_
  refine V_iload_n X 1 dL_odds_4 rfl rfl ?_
  refine V_iload_n X 2 dL_odds_5 rfl rfl ?_
  refine V_iload_n X 3 dL_odds_6 rfl rfl ?_
  refine V_callX X X' (As := [.int a1, .int a2, .int a3]) (M_X11_odds hlf h) (cwV 3 X.2.2.2.2.2.2.1 (gV wm_RL_93 wi_X11_odds wse_X11_odds win_RX11 wc_X11_odds) rfl rfl rfl hd_X11_odds ⟨Nat.le_of_ble_eq_true rfl, Nat.le_of_ble_eq_true rfl⟩) (b := (0, 0, 0)) ⟨by decide, rfl⟩ rfl rfl rfl rfl (Nat.le_of_ble_eq_true rfl) dL_odds_7 rfl (fun k hr => ?_) (fun v hr => ?_)
  · subst hr
    rcases hk k rfl with hk | hk
    · subst hk
      refine V_catch X' (E := zEx 3) (zEx 3) [] ⟨0, 12, 15, 24⟩ [⟨0, 12, 19, 13⟩] ht (by intro z hz; cases hz) (by decide) (by decide) (mB wcl_RL_24) (by decide +kernel) (fun q => ?_)
      refine V_astore X' ([(5, .ref q), (0, .ref (zad y (0, 0, 0))), (1, .int a1), (2, .int a2), (3, .int a3), (4, .ref (zad y (0, 31, 0)))]) dL_odds_15 (Nat.le_of_ble_eq_true rfl) rfl ?_
      refine V_iconst X' 1 dL_odds_17 (by decide) ?_
      exact V_iretH X' (Nat.le_refl _) (Nat.le_refl _) rfl dL_odds_18
    · subst hk
      refine V_catch X' (E := zEx 1) (zEx 1) [⟨0, 12, 15, 24⟩] ⟨0, 12, 19, 13⟩ [] ht (by intro z hz; rw [List.mem_singleton.mp hz]; exact ⟨by decide, zEx 3, mB wcl_RL_24, by decide +kernel⟩) (by decide) (by decide) (mB wcl_RL_13) (by decide +kernel) (fun q => ?_)
      refine V_astore X' ([(5, .ref q), (0, .ref (zad y (0, 0, 0))), (1, .int a1), (2, .int a2), (3, .int a3), (4, .ref (zad y (0, 31, 0)))]) dL_odds_19 (Nat.le_of_ble_eq_true rfl) rfl ?_
      refine V_iconst X' 2 dL_odds_21 (by decide) ?_
      exact V_iretH X' (Nat.le_refl _) (Nat.le_refl _) rfl dL_odds_22
  · subst hr
    refine V_i2l X' dL_odds_10 ?_
    refine V_last X' dL_odds_11 ?_
    refine V_goto X' (tgt := 23) dL_odds_12 (by decide) ?_
    refine V_iconst X' 0 dL_odds_23 (by decide) ?_
    exact V_iretH X' (Nat.le_refl _) (Nat.le_refl _) rfl dL_odds_24
theorem zth_most  {a1 : Int32} {μ : ZMem} : zth (fun r => (∀ k, r = .inr k → k = 4)) (f_X11_most a1 μ) := by
  unfold f_X11_most
  repeat' (first | with_reducible assumption | with_reducible refine th_bd (fun _ => ?_) | with_reducible refine th_bd2 (fun _ _ => ?_) | with_reducible refine th_gd (fun _ => ?_) | with_reducible refine th_if ?_ ?_ | with_reducible refine th_jk ?_ (fun _ _ => ?_) | with_reducible refine th_zlt (fun _ => ?_) | with_reducible refine th_some ?_)
  all_goals (intro k hk; first | (cases hk; done) | (cases hk; decide))
theorem H_most {l : Launch} {D : va_G} {y : ZLay} {a1 : Int32} {μ μ0 : ZMem} {res : Int32 ⊕ Nat} (hlf : l.stackTraces = false) (h : f_X11_most a1 μ = some (res, μ0)) : MH l yL_most wh_most rh_most D y [.ref (zad y (0, 0, 0)), .int a1, .ref (zad y (0, 31, 0))] μ (hres cm1 res) (hmem μ0 res) := by
  have hk := zth_most _ h
  refine MH_of RL _ rfl rfl rfl ⟨Nat.le_refl _, Nat.le_refl _⟩ (Nat.le_of_ble_eq_true rfl) rfl ?_
  intro p e s m args below meth c A X X' ht
  refine V_aload_n X 2 dL_most_0 rfl rfl ?_
  refine V_iconst X 0 dL_most_1 (by decide) ?_
  refine V_aload_n X 0 dL_most_2 rfl rfl ?_
  refine V_iload_n X 1 dL_most_3 rfl rfl ?_
  refine V_callX X X' (As := [.int a1]) (M_X11_most hlf h) (cwV 1 X.2.2.2.2.2.2.1 (gV wm_RL_96 wi_X11_most wse_X11_most win_RX11 wc_X11_most) rfl rfl rfl hd_X11_most ⟨Nat.le_of_ble_eq_true rfl, Nat.le_of_ble_eq_true rfl⟩) (b := (0, 0, 0)) ⟨by decide, rfl⟩ rfl rfl rfl rfl (Nat.le_of_ble_eq_true rfl) dL_most_4 rfl (fun k hr => ?_) (fun v hr => ?_)
  · subst hr
    have hk := hk k rfl
    subst hk
    refine V_catch X' (E := zEx 4) (zEx 4) [] ⟨0, 9, 12, 26⟩ [] ht (by intro z hz; cases hz) (by decide) (by decide) (mB wcl_RL_26) (by decide +kernel) (fun q => ?_)
    refine V_astore_n X' ([(3, .ref q), (0, .ref (zad y (0, 0, 0))), (1, .int a1), (2, .ref (zad y (0, 31, 0)))]) dL_most_12 rfl (Nat.le_of_ble_eq_true rfl) rfl ?_
    refine V_iconst X' 1 dL_most_13 (by decide) ?_
    exact V_iretH X' (Nat.le_refl _) (Nat.le_refl _) rfl dL_most_14
  · subst hr
    refine V_i2l X' dL_most_7 ?_
    refine V_last X' dL_most_8 ?_
    refine V_goto X' (tgt := 15) dL_most_9 (by decide) ?_
    refine V_iconst X' 0 dL_most_15 (by decide) ?_
    exact V_iretH X' (Nat.le_refl _) (Nat.le_refl _) rfl dL_most_16
theorem zth_byState  {a1 : Int32} {μ : ZMem} : zth (fun r => (∀ k, r = .inr k → k = 4)) (f_X11_byState a1 μ) := by
  unfold f_X11_byState
  repeat' (first | with_reducible assumption | with_reducible refine th_bd (fun _ => ?_) | with_reducible refine th_bd2 (fun _ _ => ?_) | with_reducible refine th_gd (fun _ => ?_) | with_reducible refine th_if ?_ ?_ | with_reducible refine th_jk ?_ (fun _ _ => ?_) | with_reducible refine th_zlt (fun _ => ?_) | with_reducible refine th_some ?_)
  all_goals (intro k hk; first | (cases hk; done) | (cases hk; decide))
theorem H_byState {l : Launch} {D : va_G} {y : ZLay} {a1 : Int32} {μ μ0 : ZMem} {res : Int32 ⊕ Nat} (hlf : l.stackTraces = false) (h : f_X11_byState a1 μ = some (res, μ0)) : MH l yL_byState wh_byState rh_byState D y [.ref (zad y (0, 0, 0)), .int a1, .ref (zad y (0, 31, 0))] μ (hres cm1 res) (hmem μ0 res) := by
  have hk := zth_byState _ h
  refine MH_of RL _ rfl rfl rfl ⟨Nat.le_refl _, Nat.le_refl _⟩ (Nat.le_of_ble_eq_true rfl) rfl ?_
  intro p e s m args below meth c A X X' ht
  refine V_aload_n X 2 dL_byState_0 rfl rfl ?_
  refine V_iconst X 0 dL_byState_1 (by decide) ?_
  refine V_aload_n X 0 dL_byState_2 rfl rfl ?_
  refine V_iload_n X 1 dL_byState_3 rfl rfl ?_
  refine V_callX X X' (As := [.int a1]) (M_X11_byState hlf h) (cwV 1 X.2.2.2.2.2.2.1 (gV wm_RL_99 wi_X11_byState wse_X11_byState win_RX11 wc_X11_byState) rfl rfl rfl hd_X11_byState ⟨Nat.le_of_ble_eq_true rfl, Nat.le_of_ble_eq_true rfl⟩) (b := (0, 0, 0)) ⟨by decide, rfl⟩ rfl rfl rfl rfl (Nat.le_of_ble_eq_true rfl) dL_byState_4 rfl (fun k hr => ?_) (fun v hr => ?_)
  · subst hr
    have hk := hk k rfl
    subst hk
    refine V_catch X' (E := zEx 4) (zEx 4) [] ⟨0, 9, 12, 26⟩ [] ht (by intro z hz; cases hz) (by decide) (by decide) (mB wcl_RL_26) (by decide +kernel) (fun q => ?_)
    refine V_astore_n X' ([(3, .ref q), (0, .ref (zad y (0, 0, 0))), (1, .int a1), (2, .ref (zad y (0, 31, 0)))]) dL_byState_12 rfl (Nat.le_of_ble_eq_true rfl) rfl ?_
    refine V_iconst X' 1 dL_byState_13 (by decide) ?_
    exact V_iretH X' (Nat.le_refl _) (Nat.le_refl _) rfl dL_byState_14
  · subst hr
    refine V_i2l X' dL_byState_7 ?_
    refine V_last X' dL_byState_8 ?_
    refine V_goto X' (tgt := 15) dL_byState_9 (by decide) ?_
    refine V_iconst X' 0 dL_byState_15 (by decide) ?_
    exact V_iretH X' (Nat.le_refl _) (Nat.le_refl _) rfl dL_byState_16
theorem zth_ahead {y : ZLay} {a1 : Int32} {a2 : Int32} {a3 : Int32} {μ : ZMem} : zth (fun r => (∀ k, r = .inr k → k = 3 ∨ k = 1)) (f_X11_ahead y a1 a2 a3 μ) := by
  unfold f_X11_ahead
  repeat' (first | with_reducible assumption | with_reducible refine th_bd (fun _ => ?_) | with_reducible refine th_bd2 (fun _ _ => ?_) | with_reducible refine th_gd (fun _ => ?_) | with_reducible refine th_if ?_ ?_ | with_reducible refine th_jk ?_ (fun _ _ => ?_) | with_reducible refine th_zlt (fun _ => ?_) | with_reducible refine th_some ?_)
  all_goals (intro k hk; first | (cases hk; done) | (cases hk; decide))
theorem H_ahead {l : Launch} {D : va_G} {y : ZLay} {a1 : Int32} {a2 : Int32} {a3 : Int32} {μ μ0 : ZMem} {res : Int32 ⊕ Nat} (hlf : l.stackTraces = false) (h : f_X11_ahead y a1 a2 a3 μ = some (res, μ0)) : MH l yL_ahead wh_ahead rh_ahead D y [.ref (zad y (0, 0, 0)), .int a1, .int a2, .int a3, .ref (zad y (0, 31, 0))] μ (hres cmB res) (hmem μ0 res) := by
  have hk := zth_ahead _ h
  refine MH_of RL _ rfl rfl rfl ⟨Nat.le_refl _, Nat.le_refl _⟩ (Nat.le_of_ble_eq_true rfl) rfl ?_
  intro p e s m args below meth c A X X' ht
  refine V_aload X 4 dL_ahead_0 rfl ?_
  refine V_iconst X 0 dL_ahead_2 (by decide) ?_
  refine V_aload_n X 0 dL_ahead_3 rfl rfl ?_
  refine V_iload_n X 1 dL_ahead_4 rfl rfl ?_
  refine V_iload_n X 2 dL_ahead_5 rfl rfl ?_
  refine V_iload_n X 3 dL_ahead_6 rfl rfl ?_
  refine V_callX X X' (As := [.int a1, .int a2, .int a3]) (M_X11_ahead hlf h) (cwV 3 X.2.2.2.2.2.2.1 (gV wm_RL_102 wi_X11_ahead wse_X11_ahead win_RX11 wc_X11_ahead) rfl rfl rfl hd_X11_ahead ⟨Nat.le_of_ble_eq_true rfl, Nat.le_of_ble_eq_true rfl⟩) (b := (0, 0, 0)) ⟨by decide, rfl⟩ rfl rfl rfl rfl (Nat.le_of_ble_eq_true rfl) dL_ahead_7 rfl (fun k hr => ?_) (fun v hr => ?_)
  · subst hr
    rcases hk k rfl with hk | hk
    · subst hk
      refine V_catch X' (E := zEx 3) (zEx 3) [] ⟨0, 12, 15, 24⟩ [⟨0, 12, 19, 13⟩] ht (by intro z hz; cases hz) (by decide) (by decide) (mB wcl_RL_24) (by decide +kernel) (fun q => ?_)
      refine V_astore X' ([(5, .ref q), (0, .ref (zad y (0, 0, 0))), (1, .int a1), (2, .int a2), (3, .int a3), (4, .ref (zad y (0, 31, 0)))]) dL_ahead_15 (Nat.le_of_ble_eq_true rfl) rfl ?_
      refine V_iconst X' 1 dL_ahead_17 (by decide) ?_
      exact V_iretH X' (Nat.le_refl _) (Nat.le_refl _) rfl dL_ahead_18
    · subst hk
      refine V_catch X' (E := zEx 1) (zEx 1) [⟨0, 12, 15, 24⟩] ⟨0, 12, 19, 13⟩ [] ht (by intro z hz; rw [List.mem_singleton.mp hz]; exact ⟨by decide, zEx 3, mB wcl_RL_24, by decide +kernel⟩) (by decide) (by decide) (mB wcl_RL_13) (by decide +kernel) (fun q => ?_)
      refine V_astore X' ([(5, .ref q), (0, .ref (zad y (0, 0, 0))), (1, .int a1), (2, .int a2), (3, .int a3), (4, .ref (zad y (0, 31, 0)))]) dL_ahead_19 (Nat.le_of_ble_eq_true rfl) rfl ?_
      refine V_iconst X' 2 dL_ahead_21 (by decide) ?_
      exact V_iretH X' (Nat.le_refl _) (Nat.le_refl _) rfl dL_ahead_22
  · subst hr
    refine V_i2l X' dL_ahead_10 ?_
    refine V_last X' dL_ahead_11 ?_
    refine V_goto X' (tgt := 23) dL_ahead_12 (by decide) ?_
    refine V_iconst X' 0 dL_ahead_23 (by decide) ?_
    exact V_iretH X' (Nat.le_refl _) (Nat.le_refl _) rfl dL_ahead_24
theorem zth_trial {y : ZLay} {a1 : Int32} {a2 : Int32} {μ : ZMem} : zth (fun r => (∀ k, r = .inr k → k = 1)) (f_X11_trial y a1 a2 μ) := by
  unfold f_X11_trial
  repeat' (first | with_reducible assumption | with_reducible refine th_bd (fun _ => ?_) | with_reducible refine th_bd2 (fun _ _ => ?_) | with_reducible refine th_gd (fun _ => ?_) | with_reducible refine th_if ?_ ?_ | with_reducible refine th_jk ?_ (fun _ _ => ?_) | with_reducible refine th_zlt (fun _ => ?_) | with_reducible refine th_some ?_)
  all_goals (intro k hk; first | (cases hk; done) | (cases hk; decide))
theorem H_trial {l : Launch} {D : va_G} {y : ZLay} {a1 : Int32} {a2 : Int32} {μ μ0 : ZMem} {res : Int32 ⊕ Nat} (hlf : l.stackTraces = false) (h : f_X11_trial y a1 a2 μ = some (res, μ0)) : MH l yL_trial wh_trial rh_trial D y [.ref (zad y (0, 0, 0)), .int a1, .int a2, .ref (zad y (0, 31, 0))] μ (hres cm1 res) (hmem μ0 res) := by
  have hk := zth_trial _ h
  refine MH_of RL _ rfl rfl rfl ⟨Nat.le_refl _, Nat.le_refl _⟩ (Nat.le_of_ble_eq_true rfl) rfl ?_
  intro p e s m args below meth c A X X' ht
  refine V_aload_n X 3 dL_trial_0 rfl rfl ?_
  refine V_iconst X 0 dL_trial_1 (by decide) ?_
  refine V_aload_n X 0 dL_trial_2 rfl rfl ?_
  refine V_iload_n X 1 dL_trial_3 rfl rfl ?_
  refine V_iload_n X 2 dL_trial_4 rfl rfl ?_
  refine V_callX X X' (As := [.int a1, .int a2]) (M_X11_trial hlf h) (cwV 2 X.2.2.2.2.2.2.1 (gV wm_RL_106 wi_X11_trial wse_X11_trial win_RX11 wc_X11_trial) rfl rfl rfl hd_X11_trial ⟨Nat.le_of_ble_eq_true rfl, Nat.le_of_ble_eq_true rfl⟩) (b := (0, 0, 0)) ⟨by decide, rfl⟩ rfl rfl rfl rfl (Nat.le_of_ble_eq_true rfl) dL_trial_5 rfl (fun k hr => ?_) (fun v hr => ?_)
  · subst hr
    have hk := hk k rfl
    subst hk
    refine V_catch X' (E := zEx 1) (zEx 1) [] ⟨0, 10, 13, 13⟩ [] ht (by intro z hz; cases hz) (by decide) (by decide) (mB wcl_RL_13) (by decide +kernel) (fun q => ?_)
    refine V_astore X' ([(4, .ref q), (0, .ref (zad y (0, 0, 0))), (1, .int a1), (2, .int a2), (3, .ref (zad y (0, 31, 0)))]) dL_trial_13 (Nat.le_of_ble_eq_true rfl) rfl ?_
    refine V_iconst X' 1 dL_trial_15 (by decide) ?_
    exact V_iretH X' (Nat.le_refl _) (Nat.le_refl _) rfl dL_trial_16
  · subst hr
    refine V_i2l X' dL_trial_8 ?_
    refine V_last X' dL_trial_9 ?_
    refine V_goto X' (tgt := 17) dL_trial_10 (by decide) ?_
    refine V_iconst X' 0 dL_trial_17 (by decide) ?_
    exact V_iretH X' (Nat.le_refl _) (Nat.le_refl _) rfl dL_trial_18
theorem zth_span {y : ZLay} {a1 : Int32} {a2 : Int32} {μ : ZMem} : zth (fun r => (∀ k, r = .inr k → k = 1)) (f_X11_span y a1 a2 μ) := by
  unfold f_X11_span
  repeat' (first | with_reducible assumption | with_reducible refine th_bd (fun _ => ?_) | with_reducible refine th_bd2 (fun _ _ => ?_) | with_reducible refine th_gd (fun _ => ?_) | with_reducible refine th_if ?_ ?_ | with_reducible refine th_jk ?_ (fun _ _ => ?_) | with_reducible refine th_zlt (fun _ => ?_) | with_reducible refine th_some ?_)
  all_goals (intro k hk; first | (cases hk; done) | (cases hk; decide))
theorem H_span {l : Launch} {D : va_G} {y : ZLay} {a1 : Int32} {a2 : Int32} {μ μ0 : ZMem} {res : Int32 ⊕ Nat} (hlf : l.stackTraces = false) (h : f_X11_span y a1 a2 μ = some (res, μ0)) : MH l yL_span wh_span rh_span D y [.ref (zad y (0, 0, 0)), .int a1, .int a2, .ref (zad y (0, 31, 0))] μ (hres cm1 res) (hmem μ0 res) := by
  have hk := zth_span _ h
  refine MH_of RL _ rfl rfl rfl ⟨Nat.le_refl _, Nat.le_refl _⟩ (Nat.le_of_ble_eq_true rfl) rfl ?_
  intro p e s m args below meth c A X X' ht
  refine V_aload_n X 3 dL_span_0 rfl rfl ?_
  refine V_iconst X 0 dL_span_1 (by decide) ?_
  refine V_aload_n X 0 dL_span_2 rfl rfl ?_
  refine V_iload_n X 1 dL_span_3 rfl rfl ?_
  refine V_iload_n X 2 dL_span_4 rfl rfl ?_
  refine V_callX X X' (As := [.int a1, .int a2]) (M_X11_span hlf h) (cwV 2 X.2.2.2.2.2.2.1 (gV wm_RL_109 wi_X11_span wse_X11_span win_RX11 wc_X11_span) rfl rfl rfl hd_X11_span ⟨Nat.le_of_ble_eq_true rfl, Nat.le_of_ble_eq_true rfl⟩) (b := (0, 0, 0)) ⟨by decide, rfl⟩ rfl rfl rfl rfl (Nat.le_of_ble_eq_true rfl) dL_span_5 rfl (fun k hr => ?_) (fun v hr => ?_)
  · subst hr
    have hk := hk k rfl
    subst hk
    refine V_catch X' (E := zEx 1) (zEx 1) [] ⟨0, 10, 13, 13⟩ [] ht (by intro z hz; cases hz) (by decide) (by decide) (mB wcl_RL_13) (by decide +kernel) (fun q => ?_)
    refine V_astore X' ([(4, .ref q), (0, .ref (zad y (0, 0, 0))), (1, .int a1), (2, .int a2), (3, .ref (zad y (0, 31, 0)))]) dL_span_13 (Nat.le_of_ble_eq_true rfl) rfl ?_
    refine V_iconst X' 1 dL_span_15 (by decide) ?_
    exact V_iretH X' (Nat.le_refl _) (Nat.le_refl _) rfl dL_span_16
  · subst hr
    refine V_i2l X' dL_span_8 ?_
    refine V_last X' dL_span_9 ?_
    refine V_goto X' (tgt := 17) dL_span_10 (by decide) ?_
    refine V_iconst X' 0 dL_span_17 (by decide) ?_
    exact V_iretH X' (Nat.le_refl _) (Nat.le_refl _) rfl dL_span_18
theorem zth_led  {a1 : Int32} {a2 : Int32} {μ : ZMem} : zth (fun r => (∀ k, r = .inr k → k = 3)) (f_X11_led a1 a2 μ) := by
  unfold f_X11_led
  repeat' (first | with_reducible assumption | with_reducible refine th_bd (fun _ => ?_) | with_reducible refine th_bd2 (fun _ _ => ?_) | with_reducible refine th_gd (fun _ => ?_) | with_reducible refine th_if ?_ ?_ | with_reducible refine th_jk ?_ (fun _ _ => ?_) | with_reducible refine th_zlt (fun _ => ?_) | with_reducible refine th_some ?_)
  all_goals (intro k hk; first | (cases hk; done) | (cases hk; decide))
theorem H_led {l : Launch} {D : va_G} {y : ZLay} {a1 : Int32} {a2 : Int32} {μ μ0 : ZMem} {res : Int32 ⊕ Nat} (hlf : l.stackTraces = false) (h : f_X11_led a1 a2 μ = some (res, μ0)) : MH l yL_led wh_led rh_led D y [.ref (zad y (0, 0, 0)), .int a1, .int a2, .ref (zad y (0, 31, 0))] μ (hres cmB res) (hmem μ0 res) := by
  have hk := zth_led _ h
  refine MH_of RL _ rfl rfl rfl ⟨Nat.le_refl _, Nat.le_refl _⟩ (Nat.le_of_ble_eq_true rfl) rfl ?_
  intro p e s m args below meth c A X X' ht
  refine V_aload_n X 3 dL_led_0 rfl rfl ?_
  refine V_iconst X 0 dL_led_1 (by decide) ?_
  refine V_aload_n X 0 dL_led_2 rfl rfl ?_
  refine V_iload_n X 1 dL_led_3 rfl rfl ?_
  refine V_iload_n X 2 dL_led_4 rfl rfl ?_
  refine V_callX X X' (As := [.int a1, .int a2]) (M_X11_led hlf h) (cwV 2 X.2.2.2.2.2.2.1 (gV wm_RL_112 wi_X11_led wse_X11_led win_RX11 wc_X11_led) rfl rfl rfl hd_X11_led ⟨Nat.le_of_ble_eq_true rfl, Nat.le_of_ble_eq_true rfl⟩) (b := (0, 0, 0)) ⟨by decide, rfl⟩ rfl rfl rfl rfl (Nat.le_of_ble_eq_true rfl) dL_led_5 rfl (fun k hr => ?_) (fun v hr => ?_)
  · subst hr
    have hk := hk k rfl
    subst hk
    refine V_catch X' (E := zEx 3) (zEx 3) [] ⟨0, 10, 13, 24⟩ [] ht (by intro z hz; cases hz) (by decide) (by decide) (mB wcl_RL_24) (by decide +kernel) (fun q => ?_)
    refine V_astore X' ([(4, .ref q), (0, .ref (zad y (0, 0, 0))), (1, .int a1), (2, .int a2), (3, .ref (zad y (0, 31, 0)))]) dL_led_13 (Nat.le_of_ble_eq_true rfl) rfl ?_
    refine V_iconst X' 1 dL_led_15 (by decide) ?_
    exact V_iretH X' (Nat.le_refl _) (Nat.le_refl _) rfl dL_led_16
  · subst hr
    refine V_i2l X' dL_led_8 ?_
    refine V_last X' dL_led_9 ?_
    refine V_goto X' (tgt := 17) dL_led_10 (by decide) ?_
    refine V_iconst X' 0 dL_led_17 (by decide) ?_
    exact V_iretH X' (Nat.le_refl _) (Nat.le_refl _) rfl dL_led_18
theorem zth_log  {a1 : Int32} {a2 : Int32} {μ : ZMem} : zth (fun r => (∀ k, r = .inr k → k = 4)) (f_X11_log a1 a2 μ) := by
  unfold f_X11_log
  repeat' (first | with_reducible assumption | with_reducible refine th_bd (fun _ => ?_) | with_reducible refine th_bd2 (fun _ _ => ?_) | with_reducible refine th_gd (fun _ => ?_) | with_reducible refine th_if ?_ ?_ | with_reducible refine th_jk ?_ (fun _ _ => ?_) | with_reducible refine th_zlt (fun _ => ?_) | with_reducible refine th_some ?_)
  all_goals (intro k hk; first | (cases hk; done) | (cases hk; decide))
theorem H_log {l : Launch} {D : va_G} {y : ZLay} {a1 : Int32} {a2 : Int32} {μ μ0 : ZMem} {res : Int32 ⊕ Nat} (hlf : l.stackTraces = false) (h : f_X11_log a1 a2 μ = some (res, μ0)) : MH l yL_log wh_log rh_log D y [.ref (zad y (0, 0, 0)), .int a1, .int a2, .ref (zad y (0, 31, 0))] μ (hres cm1 res) (hmem μ0 res) := by
  have hk := zth_log _ h
  refine MH_of RL _ rfl rfl rfl ⟨Nat.le_refl _, Nat.le_refl _⟩ (Nat.le_of_ble_eq_true rfl) rfl ?_
  intro p e s m args below meth c A X X' ht
  refine V_aload_n X 3 dL_log_0 rfl rfl ?_
  refine V_iconst X 0 dL_log_1 (by decide) ?_
  refine V_aload_n X 0 dL_log_2 rfl rfl ?_
  refine V_iload_n X 1 dL_log_3 rfl rfl ?_
  refine V_iload_n X 2 dL_log_4 rfl rfl ?_
  refine V_callX X X' (As := [.int a1, .int a2]) (M_X11_log hlf h) (cwV 2 X.2.2.2.2.2.2.1 (gV wm_RL_115 wi_X11_log wse_X11_log win_RX11 wc_X11_log) rfl rfl rfl hd_X11_log ⟨Nat.le_of_ble_eq_true rfl, Nat.le_of_ble_eq_true rfl⟩) (b := (0, 0, 0)) ⟨by decide, rfl⟩ rfl rfl rfl rfl (Nat.le_of_ble_eq_true rfl) dL_log_5 rfl (fun k hr => ?_) (fun v hr => ?_)
  · subst hr
    have hk := hk k rfl
    subst hk
    refine V_catch X' (E := zEx 4) (zEx 4) [] ⟨0, 10, 13, 26⟩ [] ht (by intro z hz; cases hz) (by decide) (by decide) (mB wcl_RL_26) (by decide +kernel) (fun q => ?_)
    refine V_astore X' ([(4, .ref q), (0, .ref (zad y (0, 0, 0))), (1, .int a1), (2, .int a2), (3, .ref (zad y (0, 31, 0)))]) dL_log_13 (Nat.le_of_ble_eq_true rfl) rfl ?_
    refine V_iconst X' 1 dL_log_15 (by decide) ?_
    exact V_iretH X' (Nat.le_refl _) (Nat.le_refl _) rfl dL_log_16
  · subst hr
    refine V_i2l X' dL_log_8 ?_
    refine V_last X' dL_log_9 ?_
    refine V_goto X' (tgt := 17) dL_log_10 (by decide) ?_
    refine V_iconst X' 0 dL_log_17 (by decide) ?_
    exact V_iretH X' (Nat.le_refl _) (Nat.le_refl _) rfl dL_log_18
