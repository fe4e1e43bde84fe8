/-! the cases of the law's loop -/
section LC
variable {p : Program} {l : Launch} {e : Env} {s : State} {m : MethodId} {b : Nat} {below : List Frame} {meth : Method} {c : Code} {Q : State → Prop}
variable {D : va_G} {A : Nat → Prop} {y : ZLay} {kc ks L : Nat} {xs : Nat → Int32} {i : Int32} {μ : ZMem}
theorem LC_feed (X : LX p l e s m b below meth c Q D A y kc ks) (hR : kc + 6 ≤ room_1.cells ∧ ks + 1638 ≤ room_1.slots) (hlf : l.stackTraces = false) (hX : va_X b L xs s s.heap) (hbl : b < s.heap.size) (hbA : ¬ A b) (hin : ∀ k : Nat, k < 6 → vp_in (i + Int32.ofNat k) L) (hI : INV y μ) (K : LK p l e s m b below meth c Q D A y kc ks i) : V X μ 244 (lv5 y b i) [] := by
  obtain ⟨⟨v, μ1⟩, e1, ⟨bq, μ2⟩, e2, hv, hI2⟩ := OP_feed (a1 := (sx xs i 1)) (a2 := (sx xs i 2)) (a3 := (sx xs i 3)) (a4 := (sx xs i 4)) (a5 := (sx xs i 5)) μ hI
  dsimp only at e1 e2 hv hI2
  refine V_aload_n X 1 dL_law__244 rfl rfl ?_
  refine V_scr (kv := Int32.ofNat 1) 0 4 X hX hbl hbA (hin 1 (by decide)) dL_law__245 dL_law__246 dL_law__248 (by decide) dL_law__249 dL_law__250 rfl rfl ?_
  refine V_scr (kv := Int32.ofNat 2) 0 4 X hX hbl hbA (hin 2 (by decide)) dL_law__251 dL_law__252 dL_law__254 (by decide) dL_law__255 dL_law__256 rfl rfl ?_
  refine V_scr (kv := Int32.ofNat 3) 0 4 X hX hbl hbA (hin 3 (by decide)) dL_law__257 dL_law__258 dL_law__260 (by decide) dL_law__261 dL_law__262 rfl rfl ?_
  refine V_scr (kv := Int32.ofNat 4) 0 4 X hX hbl hbA (hin 4 (by decide)) dL_law__263 dL_law__264 dL_law__266 (by decide) dL_law__267 dL_law__268 rfl rfl ?_
  refine V_scr (kv := Int32.ofNat 5) 0 4 X hX hbl hbA (hin 5 (by decide)) dL_law__269 dL_law__270 dL_law__272 (by decide) dL_law__273 dL_law__274 rfl rfl ?_
  refine V_callVi X (As := [.int (sx xs i 1), .int (sx xs i 2), .int (sx xs i 3), .int (sx xs i 4), .int (sx xs i 5)]) (M_X11_feed e1) (cwV 5 X.2.2.2.2.2.2.1 (gV wm_RL_122 wi_X11_feed wse_X11_feed win_RX11 wc_X11_feed) rfl rfl rfl hd_X11_feed ⟨Nat.le_of_ble_eq_true rfl, Nat.le_of_ble_eq_true rfl⟩) (b := (0, 0, 0)) ⟨by decide, rfl⟩ rfl rfl rfl rfl (Nat.le_of_ble_eq_true rfl) dL_law__275 rfl ?_
  refine V_aload_n X 2 dL_law__278 rfl rfl ?_
  refine V_scr (kv := Int32.ofNat 1) 0 4 X hX hbl hbA (hin 1 (by decide)) dL_law__279 dL_law__280 dL_law__282 (by decide) dL_law__283 dL_law__284 rfl rfl ?_
  refine V_scr (kv := Int32.ofNat 2) 0 4 X hX hbl hbA (hin 2 (by decide)) dL_law__285 dL_law__286 dL_law__288 (by decide) dL_law__289 dL_law__290 rfl rfl ?_
  refine V_scr (kv := Int32.ofNat 3) 0 4 X hX hbl hbA (hin 3 (by decide)) dL_law__291 dL_law__292 dL_law__294 (by decide) dL_law__295 dL_law__296 rfl rfl ?_
  refine V_scr (kv := Int32.ofNat 4) 0 4 X hX hbl hbA (hin 4 (by decide)) dL_law__297 dL_law__298 dL_law__300 (by decide) dL_law__301 dL_law__302 rfl rfl ?_
  refine V_scr (kv := Int32.ofNat 5) 0 4 X hX hbl hbA (hin 5 (by decide)) dL_law__303 dL_law__304 dL_law__306 (by decide) dL_law__307 dL_law__308 rfl rfl ?_
  refine V_callVi X (As := [.int (sx xs i 1), .int (sx xs i 2), .int (sx xs i 3), .int (sx xs i 4), .int (sx xs i 5)]) (M_X12_feed e2) (cwV 5 X.2.2.2.2.2.2.1 (gV wm_RL_126 wi_X12_feed wse_X12_feed win_RX12 wc_X12_feed) rfl rfl rfl hd_X12_feed ⟨Nat.le_of_ble_eq_true rfl, Nat.le_of_ble_eq_true rfl⟩) (b := (0, 32, 0)) ⟨by decide, rfl⟩ rfl rfl rfl rfl (Nat.le_of_ble_eq_true rfl) dL_law__309 rfl ?_
  refine V_icmp_eq X (tgt := 2518) dL_law__312 (by decide) (fun _ => K _ _ X _ (by omega) (by omega) hI2) (fun hn => (hn hv.symm).elim)
theorem LC_end (X : LX p l e s m b below meth c Q D A y kc ks) (hR : kc + 6 ≤ room_1.cells ∧ ks + 1638 ≤ room_1.slots) (hlf : l.stackTraces = false) (hX : va_X b L xs s s.heap) (hbl : b < s.heap.size) (hbA : ¬ A b) (hin : ∀ k : Nat, k < 6 → vp_in (i + Int32.ofNat k) L) (hI : INV y μ) (K : LK p l e s m b below meth c Q D A y kc ks i) : V X μ 317 (lv5 y b i) [] := by
  obtain ⟨⟨v, μ1⟩, e1, ⟨bq, μ2⟩, e2, hv, hI2⟩ := OP_end (a1 := (sx xs i 1)) μ hI
  dsimp only at e1 e2 hv hI2
  refine V_aload_n X 1 dL_law__317 rfl rfl ?_
  refine V_scr (kv := Int32.ofNat 1) 0 4 X hX hbl hbA (hin 1 (by decide)) dL_law__318 dL_law__319 dL_law__321 (by decide) dL_law__322 dL_law__323 rfl rfl ?_
  refine V_callVi X (As := [.int (sx xs i 1)]) (M_X11_end e1) (cwV 1 X.2.2.2.2.2.2.1 (gV wm_RL_127 wi_X11_end wse_X11_end win_RX11 wc_X11_end) rfl rfl rfl hd_X11_end ⟨Nat.le_of_ble_eq_true rfl, Nat.le_of_ble_eq_true rfl⟩) (b := (0, 0, 0)) ⟨by decide, rfl⟩ rfl rfl rfl rfl (Nat.le_of_ble_eq_true rfl) dL_law__324 rfl ?_
  refine V_aload_n X 2 dL_law__327 rfl rfl ?_
  refine V_scr (kv := Int32.ofNat 1) 0 4 X hX hbl hbA (hin 1 (by decide)) dL_law__328 dL_law__329 dL_law__331 (by decide) dL_law__332 dL_law__333 rfl rfl ?_
  refine V_callVi X (As := [.int (sx xs i 1)]) (M_X12_end e2) (cwV 1 X.2.2.2.2.2.2.1 (gV wm_RL_131 wi_X12_end wse_X12_end win_RX12 wc_X12_end) rfl rfl rfl hd_X12_end ⟨Nat.le_of_ble_eq_true rfl, Nat.le_of_ble_eq_true rfl⟩) (b := (0, 32, 0)) ⟨by decide, rfl⟩ rfl rfl rfl rfl (Nat.le_of_ble_eq_true rfl) dL_law__334 rfl ?_
  refine V_icmp_eq X (tgt := 2518) dL_law__337 (by decide) (fun _ => K _ _ X _ (by omega) (by omega) hI2) (fun hn => (hn hv.symm).elim)
theorem LC_cluster (X : LX p l e s m b below meth c Q D A y kc ks) (hR : kc + 6 ≤ room_1.cells ∧ ks + 1638 ≤ room_1.slots) (hlf : l.stackTraces = false) (hX : va_X b L xs s s.heap) (hbl : b < s.heap.size) (hbA : ¬ A b) (hin : ∀ k : Nat, k < 6 → vp_in (i + Int32.ofNat k) L) (hI : INV y μ) (K : LK p l e s m b below meth c Q D A y kc ks i) : V X μ 342 (lv5 y b i) [] := by
  obtain ⟨⟨res, μ1⟩, e1, h1⟩ := OP_cluster μ hI
  have X' := Cx.up X (kc' := kc + 1) (ks' := ks + 6) (by omega) (by omega)
  obtain ⟨⟨bq, μ2⟩, e2, hag, hI2⟩ := h1 (hmem μ1 res) hmem_fr
  dsimp only at e1 e2 hag hI2
  refine V_aload_n X 1 dL_law__342 rfl rfl ?_
  refine V_aload_n X 3 dL_law__343 rfl rfl ?_
  refine V_callH X X' (As := [.ref (zad y (0, 0, 0)), .ref (zad y (0, 31, 0))]) (H_cluster hlf e1) (vx_cwSW 2 X.2.2.2.2.2.2.1 (gS wmL_cluster wstL_cluster win_RL wcw_cluster) rfl rfl rfl hdL_cluster ⟨Nat.le_of_ble_eq_true rfl, Nat.le_of_ble_eq_true rfl⟩) rfl (Nat.le_of_ble_eq_true rfl) dL_law__344 rfl ?_
  refine V_istore X' ((5, .int (hres cmA res)) :: lv5 y b i) dL_law__347 (by decide) rfl ?_
  refine V_aload_n X' 3 dL_law__349 rfl rfl ?_
  refine V_callVi X' (As := []) (M_X12_cluster e2) (cwV 0 X.2.2.2.2.2.2.1 (gV wm_RL_137 wi_X12_cluster wse_X12_cluster win_RX12 wc_X12_cluster) rfl rfl rfl hd_X12_cluster ⟨Nat.le_of_ble_eq_true rfl, Nat.le_of_ble_eq_true rfl⟩) (b := (0, 32, 0)) ⟨by decide, rfl⟩ rfl rfl rfl rfl (Nat.le_of_ble_eq_true rfl) dL_law__350 rfl ?_
  obtain ⟨t1, t2⟩ := tail_of hag (nw_X12_cluster (v := hmem μ1 res (0, 31, 0) 0) rfl _ e2)
  exact V_tail X' t1 t2 dL_law__353 dL_law__355 dL_law__356 dL_law__359 dL_law__361 dL_law__366 dL_law__368 dL_law__371 dL_law__372 dL_law__373 dL_law__374 dL_law__376 dL_law__377 dL_law__378 dL_law__383 (by decide) (K _ _ X' _ (by omega) (by omega) hI2)
theorem LC_fault (X : LX p l e s m b below meth c Q D A y kc ks) (hR : kc + 6 ≤ room_1.cells ∧ ks + 1638 ≤ room_1.slots) (hlf : l.stackTraces = false) (hX : va_X b L xs s s.heap) (hbl : b < s.heap.size) (hbA : ¬ A b) (hin : ∀ k : Nat, k < 6 → vp_in (i + Int32.ofNat k) L) (hI : INV y μ) (K : LK p l e s m b below meth c Q D A y kc ks i) : V X μ 430 (lv5 y b i) [] := by
  obtain ⟨v, e1, ⟨bq, μ2⟩, e2, hv, hI2⟩ := OP_fault μ hI
  dsimp only at e1 e2 hv hI2
  refine V_aload_n X 1 dL_law__430 rfl rfl ?_
  cases e1
  refine V_callVi X (As := []) (M_X11_fault) (cwV 0 X.2.2.2.2.2.2.1 (gV wm_RL_144 wi_X11_fault wse_X11_fault win_RX11 wc_X11_fault) rfl rfl rfl hd_X11_fault ⟨Nat.le_of_ble_eq_true rfl, Nat.le_of_ble_eq_true rfl⟩) (b := (0, 0, 0)) ⟨by decide, rfl⟩ rfl rfl rfl rfl (Nat.le_of_ble_eq_true rfl) dL_law__431 rfl ?_
  refine V_aload_n X 2 dL_law__434 rfl rfl ?_
  refine V_callVi X (As := []) (M_X12_fault e2) (cwV 0 X.2.2.2.2.2.2.1 (gV wm_RL_147 wi_X12_fault wse_X12_fault win_RX12 wc_X12_fault) rfl rfl rfl hd_X12_fault ⟨Nat.le_of_ble_eq_true rfl, Nat.le_of_ble_eq_true rfl⟩) (b := (0, 32, 0)) ⟨by decide, rfl⟩ rfl rfl rfl rfl (Nat.le_of_ble_eq_true rfl) dL_law__435 rfl ?_
  refine V_icmp_eq X (tgt := 2518) dL_law__438 (by decide) (fun _ => K _ _ X _ (by omega) (by omega) hI2) (fun hn => (hn hv.symm).elim)
theorem LC_node (X : LX p l e s m b below meth c Q D A y kc ks) (hR : kc + 6 ≤ room_1.cells ∧ ks + 1638 ≤ room_1.slots) (hlf : l.stackTraces = false) (hX : va_X b L xs s s.heap) (hbl : b < s.heap.size) (hbA : ¬ A b) (hin : ∀ k : Nat, k < 6 → vp_in (i + Int32.ofNat k) L) (hI : INV y μ) (K : LK p l e s m b below meth c Q D A y kc ks i) : V X μ 443 (lv5 y b i) [] := by
  obtain ⟨⟨res, μ1⟩, e1, h1⟩ := OP_node (a1 := (sx xs i 1)) (a2 := (sx xs i 2)) μ hI
  have X' := Cx.up X (kc' := kc + 1) (ks' := ks + 6) (by omega) (by omega)
  obtain ⟨⟨bq, μ2⟩, e2, hag, hI2⟩ := h1 (hmem μ1 res) hmem_fr
  dsimp only at e1 e2 hag hI2
  refine V_aload_n X 1 dL_law__443 rfl rfl ?_
  refine V_scr (kv := Int32.ofNat 1) 0 4 X hX hbl hbA (hin 1 (by decide)) dL_law__444 dL_law__445 dL_law__447 (by decide) dL_law__448 dL_law__449 rfl rfl ?_
  refine V_scr (kv := Int32.ofNat 2) 0 4 X hX hbl hbA (hin 2 (by decide)) dL_law__450 dL_law__451 dL_law__453 (by decide) dL_law__454 dL_law__455 rfl rfl ?_
  refine V_aload_n X 3 dL_law__456 rfl rfl ?_
  refine V_callH X X' (As := [.ref (zad y (0, 0, 0)), .int (sx xs i 1), .int (sx xs i 2), .ref (zad y (0, 31, 0))]) (H_node hlf e1) (vx_cwSW 4 X.2.2.2.2.2.2.1 (gS wmL_node wstL_node win_RL wcw_node) rfl rfl rfl hdL_node ⟨Nat.le_of_ble_eq_true rfl, Nat.le_of_ble_eq_true rfl⟩) rfl (Nat.le_of_ble_eq_true rfl) dL_law__457 rfl ?_
  refine V_istore X' ((5, .int (hres cmB res)) :: lv5 y b i) dL_law__460 (by decide) rfl ?_
  refine V_aload_n X' 3 dL_law__462 rfl rfl ?_
  refine V_scr (kv := Int32.ofNat 1) 1 5 X' hX hbl hbA (hin 1 (by decide)) dL_law__463 dL_law__464 dL_law__466 (by decide) dL_law__467 dL_law__468 rfl rfl ?_
  refine V_scr (kv := Int32.ofNat 2) 1 5 X' hX hbl hbA (hin 2 (by decide)) dL_law__469 dL_law__470 dL_law__472 (by decide) dL_law__473 dL_law__474 rfl rfl ?_
  refine V_callVi X' (As := [.int (sx xs i 1), .int (sx xs i 2)]) (M_X12_node e2) (cwV 2 X.2.2.2.2.2.2.1 (gV wm_RL_151 wi_X12_node wse_X12_node win_RX12 wc_X12_node) rfl rfl rfl hd_X12_node ⟨Nat.le_of_ble_eq_true rfl, Nat.le_of_ble_eq_true rfl⟩) (b := (0, 32, 0)) ⟨by decide, rfl⟩ rfl rfl rfl rfl (Nat.le_of_ble_eq_true rfl) dL_law__475 rfl ?_
  obtain ⟨t1, t2⟩ := tail_of hag (nw_X12_node (v := hmem μ1 res (0, 31, 0) 0) rfl _ e2)
  exact V_tail X' t1 t2 dL_law__478 dL_law__480 dL_law__481 dL_law__484 dL_law__486 dL_law__491 dL_law__493 dL_law__496 dL_law__497 dL_law__498 dL_law__499 dL_law__501 dL_law__502 dL_law__503 dL_law__508 (by decide) (K _ _ X' _ (by omega) (by omega) hI2)
theorem LC_shift (X : LX p l e s m b below meth c Q D A y kc ks) (hR : kc + 6 ≤ room_1.cells ∧ ks + 1638 ≤ room_1.slots) (hlf : l.stackTraces = false) (hX : va_X b L xs s s.heap) (hbl : b < s.heap.size) (hbA : ¬ A b) (hin : ∀ k : Nat, k < 6 → vp_in (i + Int32.ofNat k) L) (hI : INV y μ) (K : LK p l e s m b below meth c Q D A y kc ks i) : V X μ 511 (lv5 y b i) [] := by
  obtain ⟨⟨res, μ1⟩, e1, h1⟩ := OP_shift (a1 := (sx xs i 1)) (a2 := (sx xs i 2)) μ hI
  have X' := Cx.up X (kc' := kc + 1) (ks' := ks + 6) (by omega) (by omega)
  obtain ⟨⟨bq, μ2⟩, e2, hag, hI2⟩ := h1 (hmem μ1 res) hmem_fr
  dsimp only at e1 e2 hag hI2
  refine V_aload_n X 1 dL_law__511 rfl rfl ?_
  refine V_scr (kv := Int32.ofNat 1) 0 4 X hX hbl hbA (hin 1 (by decide)) dL_law__512 dL_law__513 dL_law__515 (by decide) dL_law__516 dL_law__517 rfl rfl ?_
  refine V_scr (kv := Int32.ofNat 2) 0 4 X hX hbl hbA (hin 2 (by decide)) dL_law__518 dL_law__519 dL_law__521 (by decide) dL_law__522 dL_law__523 rfl rfl ?_
  refine V_aload_n X 3 dL_law__524 rfl rfl ?_
  refine V_callH X X' (As := [.ref (zad y (0, 0, 0)), .int (sx xs i 1), .int (sx xs i 2), .ref (zad y (0, 31, 0))]) (H_shift hlf e1) (vx_cwSW 4 X.2.2.2.2.2.2.1 (gS wmL_shift wstL_shift win_RL wcw_shift) rfl rfl rfl hdL_shift ⟨Nat.le_of_ble_eq_true rfl, Nat.le_of_ble_eq_true rfl⟩) rfl (Nat.le_of_ble_eq_true rfl) dL_law__525 rfl ?_
  refine V_istore X' ((5, .int (hres cmB res)) :: lv5 y b i) dL_law__528 (by decide) rfl ?_
  refine V_aload_n X' 3 dL_law__530 rfl rfl ?_
  refine V_scr (kv := Int32.ofNat 1) 1 5 X' hX hbl hbA (hin 1 (by decide)) dL_law__531 dL_law__532 dL_law__534 (by decide) dL_law__535 dL_law__536 rfl rfl ?_
  refine V_scr (kv := Int32.ofNat 2) 1 5 X' hX hbl hbA (hin 2 (by decide)) dL_law__537 dL_law__538 dL_law__540 (by decide) dL_law__541 dL_law__542 rfl rfl ?_
  refine V_callVi X' (As := [.int (sx xs i 1), .int (sx xs i 2)]) (M_X12_shift e2) (cwV 2 X.2.2.2.2.2.2.1 (gV wm_RL_154 wi_X12_shift wse_X12_shift win_RX12 wc_X12_shift) rfl rfl rfl hd_X12_shift ⟨Nat.le_of_ble_eq_true rfl, Nat.le_of_ble_eq_true rfl⟩) (b := (0, 32, 0)) ⟨by decide, rfl⟩ rfl rfl rfl rfl (Nat.le_of_ble_eq_true rfl) dL_law__543 rfl ?_
  obtain ⟨t1, t2⟩ := tail_of hag (nw_X12_shift (v := hmem μ1 res (0, 31, 0) 0) rfl _ e2)
  exact V_tail X' t1 t2 dL_law__546 dL_law__548 dL_law__549 dL_law__552 dL_law__554 dL_law__559 dL_law__561 dL_law__564 dL_law__565 dL_law__566 dL_law__567 dL_law__569 dL_law__570 dL_law__571 dL_law__576 (by decide) (K _ _ X' _ (by omega) (by omega) hI2)
theorem LC_hears (X : LX p l e s m b below meth c Q D A y kc ks) (hR : kc + 6 ≤ room_1.cells ∧ ks + 1638 ≤ room_1.slots) (hlf : l.stackTraces = false) (hX : va_X b L xs s s.heap) (hbl : b < s.heap.size) (hbA : ¬ A b) (hin : ∀ k : Nat, k < 6 → vp_in (i + Int32.ofNat k) L) (hI : INV y μ) (K : LK p l e s m b below meth c Q D A y kc ks i) : V X μ 579 (lv5 y b i) [] := by
  obtain ⟨⟨res, μ1⟩, e1, h1⟩ := OP_hears (a1 := (sx xs i 1)) (a2 := (sx xs i 2)) μ hI
  have X' := Cx.up X (kc' := kc + 1) (ks' := ks + 6) (by omega) (by omega)
  obtain ⟨⟨bq, μ2⟩, e2, hag, hI2⟩ := h1 (hmem μ1 res) hmem_fr
  dsimp only at e1 e2 hag hI2
  refine V_aload_n X 1 dL_law__579 rfl rfl ?_
  refine V_scr (kv := Int32.ofNat 1) 0 4 X hX hbl hbA (hin 1 (by decide)) dL_law__580 dL_law__581 dL_law__583 (by decide) dL_law__584 dL_law__585 rfl rfl ?_
  refine V_scr (kv := Int32.ofNat 2) 0 4 X hX hbl hbA (hin 2 (by decide)) dL_law__586 dL_law__587 dL_law__589 (by decide) dL_law__590 dL_law__591 rfl rfl ?_
  refine V_aload_n X 3 dL_law__592 rfl rfl ?_
  refine V_callH X X' (As := [.ref (zad y (0, 0, 0)), .int (sx xs i 1), .int (sx xs i 2), .ref (zad y (0, 31, 0))]) (H_hears hlf e1) (vx_cwSW 4 X.2.2.2.2.2.2.1 (gS wmL_hears wstL_hears win_RL wcw_hears) rfl rfl rfl hdL_hears ⟨Nat.le_of_ble_eq_true rfl, Nat.le_of_ble_eq_true rfl⟩) rfl (Nat.le_of_ble_eq_true rfl) dL_law__593 rfl ?_
  refine V_istore X' ((5, .int (hres cmB res)) :: lv5 y b i) dL_law__596 (by decide) rfl ?_
  refine V_aload_n X' 3 dL_law__598 rfl rfl ?_
  refine V_scr (kv := Int32.ofNat 1) 1 5 X' hX hbl hbA (hin 1 (by decide)) dL_law__599 dL_law__600 dL_law__602 (by decide) dL_law__603 dL_law__604 rfl rfl ?_
  refine V_scr (kv := Int32.ofNat 2) 1 5 X' hX hbl hbA (hin 2 (by decide)) dL_law__605 dL_law__606 dL_law__608 (by decide) dL_law__609 dL_law__610 rfl rfl ?_
  refine V_callVi X' (As := [.int (sx xs i 1), .int (sx xs i 2)]) (M_X12_hears e2) (cwV 2 X.2.2.2.2.2.2.1 (gV wm_RL_157 wi_X12_hears wse_X12_hears win_RX12 wc_X12_hears) rfl rfl rfl hd_X12_hears ⟨Nat.le_of_ble_eq_true rfl, Nat.le_of_ble_eq_true rfl⟩) (b := (0, 32, 0)) ⟨by decide, rfl⟩ rfl rfl rfl rfl (Nat.le_of_ble_eq_true rfl) dL_law__611 rfl ?_
  obtain ⟨t1, t2⟩ := tail_of hag (nw_X12_hears (v := hmem μ1 res (0, 31, 0) 0) rfl _ e2)
  exact V_tailZ X' t1 t2 (fun h0 => hears_zbo e1 hag h0) dL_law__614 dL_law__616 dL_law__617 dL_law__620 dL_law__622 dL_law__627 dL_law__629 dL_law__632 dL_law__633 dL_law__634 dL_law__635 dL_law__637 dL_law__640 dL_law__641 dL_law__644 dL_law__645 dL_law__646 dL_law__651 (by decide) (K _ _ X' _ (by omega) (by omega) hI2)
theorem LC_rounds (X : LX p l e s m b below meth c Q D A y kc ks) (hR : kc + 6 ≤ room_1.cells ∧ ks + 1638 ≤ room_1.slots) (hlf : l.stackTraces = false) (hX : va_X b L xs s s.heap) (hbl : b < s.heap.size) (hbA : ¬ A b) (hin : ∀ k : Nat, k < 6 → vp_in (i + Int32.ofNat k) L) (hI : INV y μ) (K : LK p l e s m b below meth c Q D A y kc ks i) : V X μ 654 (lv5 y b i) [] := by
  obtain ⟨⟨res, μ1⟩, e1, h1⟩ := OP_rounds (a1 := (sx xs i 1)) ⟨Nat.le_of_ble_eq_true rfl, Nat.le_of_ble_eq_true rfl⟩ μ hI
  have X' := Cx.up X (kc' := kc + 1) (ks' := ks + 6) (by omega) (by omega)
  obtain ⟨⟨bq, μ2⟩, e2, hag, hI2⟩ := h1 (hmem μ1 res) hmem_fr
  dsimp only at e1 e2 hag hI2
  refine V_aload_n X 1 dL_law__654 rfl rfl ?_
  refine V_scr (kv := Int32.ofNat 1) 0 4 X hX hbl hbA (hin 1 (by decide)) dL_law__655 dL_law__656 dL_law__658 (by decide) dL_law__659 dL_law__660 rfl rfl ?_
  refine V_aload_n X 3 dL_law__661 rfl rfl ?_
  refine V_callH X X' (As := [.ref (zad y (0, 0, 0)), .int (sx xs i 1), .ref (zad y (0, 31, 0))]) (H_rounds hlf e1) (vx_cwSW 3 X.2.2.2.2.2.2.1 (gS wmL_rounds wstL_rounds win_RL wcw_rounds) rfl rfl rfl hdL_rounds ⟨Nat.le_of_ble_eq_true rfl, Nat.le_of_ble_eq_true rfl⟩) rfl (Nat.le_of_ble_eq_true rfl) dL_law__662 rfl ?_
  refine V_istore X' ((5, .int (hres cm1 res)) :: lv5 y b i) dL_law__665 (by decide) rfl ?_
  refine V_aload_n X' 3 dL_law__667 rfl rfl ?_
  refine V_scr (kv := Int32.ofNat 1) 1 5 X' hX hbl hbA (hin 1 (by decide)) dL_law__668 dL_law__669 dL_law__671 (by decide) dL_law__672 dL_law__673 rfl rfl ?_
  refine V_callVi X' (As := [.int (sx xs i 1)]) (M_X12_rounds e2) (cwV 1 X.2.2.2.2.2.2.1 (gV wm_RL_161 wi_X12_rounds wse_X12_rounds win_RX12 wc_X12_rounds) rfl rfl rfl hd_X12_rounds ⟨Nat.le_of_ble_eq_true rfl, Nat.le_of_ble_eq_true rfl⟩) (b := (0, 32, 0)) ⟨by decide, rfl⟩ rfl rfl rfl rfl (Nat.le_of_ble_eq_true rfl) dL_law__674 rfl ?_
  obtain ⟨t1, t2⟩ := tail_of hag (nw_X12_rounds (v := hmem μ1 res (0, 31, 0) 0) rfl _ e2)
  exact V_tail X' t1 t2 dL_law__677 dL_law__679 dL_law__680 dL_law__683 dL_law__685 dL_law__690 dL_law__692 dL_law__695 dL_law__696 dL_law__697 dL_law__698 dL_law__700 dL_law__701 dL_law__702 dL_law__707 (by decide) (K _ _ X' _ (by omega) (by omega) hI2)
theorem LC_add (X : LX p l e s m b below meth c Q D A y kc ks) (hR : kc + 6 ≤ room_1.cells ∧ ks + 1638 ≤ room_1.slots) (hlf : l.stackTraces = false) (hX : va_X b L xs s s.heap) (hbl : b < s.heap.size) (hbA : ¬ A b) (hin : ∀ k : Nat, k < 6 → vp_in (i + Int32.ofNat k) L) (hI : INV y μ) (K : LK p l e s m b below meth c Q D A y kc ks i) : V X μ 710 (lv5 y b i) [] := by
  obtain ⟨⟨res, μ1⟩, e1, h1⟩ := OP_add (a1 := (sx xs i 1)) μ hI
  have X' := Cx.up X (kc' := kc + 1) (ks' := ks + 6) (by omega) (by omega)
  obtain ⟨⟨bq, μ2⟩, e2, hag, hI2⟩ := h1 (hmem μ1 res) hmem_fr
  dsimp only at e1 e2 hag hI2
  refine V_aload_n X 1 dL_law__710 rfl rfl ?_
  refine V_scr (kv := Int32.ofNat 1) 0 4 X hX hbl hbA (hin 1 (by decide)) dL_law__711 dL_law__712 dL_law__714 (by decide) dL_law__715 dL_law__716 rfl rfl ?_
  refine V_aload_n X 3 dL_law__717 rfl rfl ?_
  refine V_callH X X' (As := [.ref (zad y (0, 0, 0)), .int (sx xs i 1), .ref (zad y (0, 31, 0))]) (H_add hlf e1) (vx_cwSW 3 X.2.2.2.2.2.2.1 (gS wmL_add wstL_add win_RL wcw_add) rfl rfl rfl hdL_add ⟨Nat.le_of_ble_eq_true rfl, Nat.le_of_ble_eq_true rfl⟩) rfl (Nat.le_of_ble_eq_true rfl) dL_law__718 rfl ?_
  refine V_istore X' ((5, .int (hres cmA res)) :: lv5 y b i) dL_law__721 (by decide) rfl ?_
  refine V_aload_n X' 3 dL_law__723 rfl rfl ?_
  refine V_scr (kv := Int32.ofNat 1) 1 5 X' hX hbl hbA (hin 1 (by decide)) dL_law__724 dL_law__725 dL_law__727 (by decide) dL_law__728 dL_law__729 rfl rfl ?_
  refine V_callVi X' (As := [.int (sx xs i 1)]) (M_X12_add e2) (cwV 1 X.2.2.2.2.2.2.1 (gV wm_RL_164 wi_X12_add wse_X12_add win_RX12 wc_X12_add) rfl rfl rfl hd_X12_add ⟨Nat.le_of_ble_eq_true rfl, Nat.le_of_ble_eq_true rfl⟩) (b := (0, 32, 0)) ⟨by decide, rfl⟩ rfl rfl rfl rfl (Nat.le_of_ble_eq_true rfl) dL_law__730 rfl ?_
  obtain ⟨t1, t2⟩ := tail_of hag (nw_X12_add (v := hmem μ1 res (0, 31, 0) 0) rfl _ e2)
  exact V_tail X' t1 t2 dL_law__733 dL_law__735 dL_law__736 dL_law__739 dL_law__741 dL_law__746 dL_law__748 dL_law__751 dL_law__752 dL_law__753 dL_law__754 dL_law__756 dL_law__757 dL_law__758 dL_law__763 (by decide) (K _ _ X' _ (by omega) (by omega) hI2)
theorem LC_power (X : LX p l e s m b below meth c Q D A y kc ks) (hR : kc + 6 ≤ room_1.cells ∧ ks + 1638 ≤ room_1.slots) (hlf : l.stackTraces = false) (hX : va_X b L xs s s.heap) (hbl : b < s.heap.size) (hbA : ¬ A b) (hin : ∀ k : Nat, k < 6 → vp_in (i + Int32.ofNat k) L) (hI : INV y μ) (K : LK p l e s m b below meth c Q D A y kc ks i) : V X μ 766 (lv5 y b i) [] := by
  obtain ⟨⟨res, μ1⟩, e1, h1⟩ := OP_power (a1 := (sx xs i 1)) (a2 := (zb1 (sx xs i 2))) μ hI
  have X' := Cx.up X (kc' := kc + 1) (ks' := ks + 6) (by omega) (by omega)
  obtain ⟨⟨bq, μ2⟩, e2, hag, hI2⟩ := h1 (hmem μ1 res) hmem_fr
  dsimp only at e1 e2 hag hI2
  refine V_aload_n X 1 dL_law__766 rfl rfl ?_
  refine V_scr (kv := Int32.ofNat 1) 0 4 X hX hbl hbA (hin 1 (by decide)) dL_law__767 dL_law__768 dL_law__770 (by decide) dL_law__771 dL_law__772 rfl rfl ?_
  refine V_scr (kv := Int32.ofNat 2) 0 4 X hX hbl hbA (hin 2 (by decide)) dL_law__773 dL_law__774 dL_law__776 (by decide) dL_law__777 dL_law__778 rfl rfl ?_
  refine V_nz X dL_law__779 (by decide) dL_law__782 dL_law__783 (by decide) dL_law__786 ?_
  refine V_aload_n X 3 dL_law__787 rfl rfl ?_
  refine V_callH X X' (As := [.ref (zad y (0, 0, 0)), .int (sx xs i 1), .int (zb1 (sx xs i 2)), .ref (zad y (0, 31, 0))]) (H_power hlf e1) (vx_cwSW 4 X.2.2.2.2.2.2.1 (gS wmL_power wstL_power win_RL wcw_power) rfl rfl rfl hdL_power ⟨Nat.le_of_ble_eq_true rfl, Nat.le_of_ble_eq_true rfl⟩) rfl (Nat.le_of_ble_eq_true rfl) dL_law__788 rfl ?_
  refine V_istore X' ((5, .int (hres cmB res)) :: lv5 y b i) dL_law__791 (by decide) rfl ?_
  refine V_aload_n X' 3 dL_law__793 rfl rfl ?_
  refine V_scr (kv := Int32.ofNat 1) 1 5 X' hX hbl hbA (hin 1 (by decide)) dL_law__794 dL_law__795 dL_law__797 (by decide) dL_law__798 dL_law__799 rfl rfl ?_
  refine V_scr (kv := Int32.ofNat 2) 1 5 X' hX hbl hbA (hin 2 (by decide)) dL_law__800 dL_law__801 dL_law__803 (by decide) dL_law__804 dL_law__805 rfl rfl ?_
  refine V_nz X' dL_law__806 (by decide) dL_law__809 dL_law__810 (by decide) dL_law__813 ?_
  refine V_callVi X' (As := [.int (sx xs i 1), .int (zb1 (sx xs i 2))]) (M_X12_power e2) (cwV 2 X.2.2.2.2.2.2.1 (gV wm_RL_168 wi_X12_power wse_X12_power win_RX12 wc_X12_power) rfl rfl rfl hd_X12_power ⟨Nat.le_of_ble_eq_true rfl, Nat.le_of_ble_eq_true rfl⟩) (b := (0, 32, 0)) ⟨by decide, rfl⟩ rfl rfl rfl rfl (Nat.le_of_ble_eq_true rfl) dL_law__814 rfl ?_
  obtain ⟨t1, t2⟩ := tail_of hag (nw_X12_power (v := hmem μ1 res (0, 31, 0) 0) rfl _ e2)
  exact V_tail X' t1 t2 dL_law__817 dL_law__819 dL_law__820 dL_law__823 dL_law__825 dL_law__830 dL_law__832 dL_law__835 dL_law__836 dL_law__837 dL_law__838 dL_law__840 dL_law__841 dL_law__842 dL_law__847 (by decide) (K _ _ X' _ (by omega) (by omega) hI2)
theorem LC_spoil (X : LX p l e s m b below meth c Q D A y kc ks) (hR : kc + 6 ≤ room_1.cells ∧ ks + 1638 ≤ room_1.slots) (hlf : l.stackTraces = false) (hX : va_X b L xs s s.heap) (hbl : b < s.heap.size) (hbA : ¬ A b) (hin : ∀ k : Nat, k < 6 → vp_in (i + Int32.ofNat k) L) (hI : INV y μ) (K : LK p l e s m b below meth c Q D A y kc ks i) : V X μ 850 (lv5 y b i) [] := by
  obtain ⟨⟨res, μ1⟩, e1, h1⟩ := OP_spoil (a1 := (sx xs i 1)) (a2 := (sx xs i 2)) (a3 := (sx xs i 3)) μ hI
  have X' := Cx.up X (kc' := kc + 1) (ks' := ks + 6) (by omega) (by omega)
  obtain ⟨⟨bq, μ2⟩, e2, hag, hI2⟩ := h1 (hmem μ1 res) hmem_fr
  dsimp only at e1 e2 hag hI2
  refine V_aload_n X 1 dL_law__850 rfl rfl ?_
  refine V_scr (kv := Int32.ofNat 1) 0 4 X hX hbl hbA (hin 1 (by decide)) dL_law__851 dL_law__852 dL_law__854 (by decide) dL_law__855 dL_law__856 rfl rfl ?_
  refine V_scr (kv := Int32.ofNat 2) 0 4 X hX hbl hbA (hin 2 (by decide)) dL_law__857 dL_law__858 dL_law__860 (by decide) dL_law__861 dL_law__862 rfl rfl ?_
  refine V_scr (kv := Int32.ofNat 3) 0 4 X hX hbl hbA (hin 3 (by decide)) dL_law__863 dL_law__864 dL_law__866 (by decide) dL_law__867 dL_law__868 rfl rfl ?_
  refine V_aload_n X 3 dL_law__869 rfl rfl ?_
  refine V_callH X X' (As := [.ref (zad y (0, 0, 0)), .int (sx xs i 1), .int (sx xs i 2), .int (sx xs i 3), .ref (zad y (0, 31, 0))]) (H_spoil hlf e1) (vx_cwSW 5 X.2.2.2.2.2.2.1 (gS wmL_spoil wstL_spoil win_RL wcw_spoil) rfl rfl rfl hdL_spoil ⟨Nat.le_of_ble_eq_true rfl, Nat.le_of_ble_eq_true rfl⟩) rfl (Nat.le_of_ble_eq_true rfl) dL_law__870 rfl ?_
  refine V_istore X' ((5, .int (hres cmB res)) :: lv5 y b i) dL_law__873 (by decide) rfl ?_
  refine V_aload_n X' 3 dL_law__875 rfl rfl ?_
  refine V_scr (kv := Int32.ofNat 1) 1 5 X' hX hbl hbA (hin 1 (by decide)) dL_law__876 dL_law__877 dL_law__879 (by decide) dL_law__880 dL_law__881 rfl rfl ?_
  refine V_scr (kv := Int32.ofNat 2) 1 5 X' hX hbl hbA (hin 2 (by decide)) dL_law__882 dL_law__883 dL_law__885 (by decide) dL_law__886 dL_law__887 rfl rfl ?_
  refine V_scr (kv := Int32.ofNat 3) 1 5 X' hX hbl hbA (hin 3 (by decide)) dL_law__888 dL_law__889 dL_law__891 (by decide) dL_law__892 dL_law__893 rfl rfl ?_
  refine V_callVi X' (As := [.int (sx xs i 1), .int (sx xs i 2), .int (sx xs i 3)]) (M_X12_spoil e2) (cwV 3 X.2.2.2.2.2.2.1 (gV wm_RL_172 wi_X12_spoil wse_X12_spoil win_RX12 wc_X12_spoil) rfl rfl rfl hd_X12_spoil ⟨Nat.le_of_ble_eq_true rfl, Nat.le_of_ble_eq_true rfl⟩) (b := (0, 32, 0)) ⟨by decide, rfl⟩ rfl rfl rfl rfl (Nat.le_of_ble_eq_true rfl) dL_law__894 rfl ?_
  obtain ⟨t1, t2⟩ := tail_of hag (nw_X12_spoil (v := hmem μ1 res (0, 31, 0) 0) rfl _ e2)
  exact V_tail X' t1 t2 dL_law__897 dL_law__899 dL_law__900 dL_law__903 dL_law__905 dL_law__910 dL_law__912 dL_law__915 dL_law__916 dL_law__917 dL_law__918 dL_law__920 dL_law__921 dL_law__922 dL_law__927 (by decide) (K _ _ X' _ (by omega) (by omega) hI2)
theorem LC_set (X : LX p l e s m b below meth c Q D A y kc ks) (hR : kc + 6 ≤ room_1.cells ∧ ks + 1638 ≤ room_1.slots) (hlf : l.stackTraces = false) (hX : va_X b L xs s s.heap) (hbl : b < s.heap.size) (hbA : ¬ A b) (hin : ∀ k : Nat, k < 6 → vp_in (i + Int32.ofNat k) L) (hI : INV y μ) (K : LK p l e s m b below meth c Q D A y kc ks i) : V X μ 930 (lv5 y b i) [] := by
  obtain ⟨⟨res, μ1⟩, e1, h1⟩ := OP_set (a1 := (sx xs i 1)) (a2 := (sx xs i 2)) μ hI
  have X' := Cx.up X (kc' := kc + 1) (ks' := ks + 6) (by omega) (by omega)
  obtain ⟨⟨bq, μ2⟩, e2, hag, hI2⟩ := h1 (hmem μ1 res) hmem_fr
  dsimp only at e1 e2 hag hI2
  refine V_aload_n X 1 dL_law__930 rfl rfl ?_
  refine V_scr (kv := Int32.ofNat 1) 0 4 X hX hbl hbA (hin 1 (by decide)) dL_law__931 dL_law__932 dL_law__934 (by decide) dL_law__935 dL_law__936 rfl rfl ?_
  refine V_scr (kv := Int32.ofNat 2) 0 4 X hX hbl hbA (hin 2 (by decide)) dL_law__937 dL_law__938 dL_law__940 (by decide) dL_law__941 dL_law__942 rfl rfl ?_
  refine V_aload_n X 3 dL_law__943 rfl rfl ?_
  refine V_callH X X' (As := [.ref (zad y (0, 0, 0)), .int (sx xs i 1), .int (sx xs i 2), .ref (zad y (0, 31, 0))]) (H_set hlf e1) (vx_cwSW 4 X.2.2.2.2.2.2.1 (gS wmL_set wstL_set win_RL wcw_set) rfl rfl rfl hdL_set ⟨Nat.le_of_ble_eq_true rfl, Nat.le_of_ble_eq_true rfl⟩) rfl (Nat.le_of_ble_eq_true rfl) dL_law__944 rfl ?_
  refine V_istore X' ((5, .int (hres cmB res)) :: lv5 y b i) dL_law__947 (by decide) rfl ?_
  refine V_aload_n X' 3 dL_law__949 rfl rfl ?_
  refine V_scr (kv := Int32.ofNat 1) 1 5 X' hX hbl hbA (hin 1 (by decide)) dL_law__950 dL_law__951 dL_law__953 (by decide) dL_law__954 dL_law__955 rfl rfl ?_
  refine V_scr (kv := Int32.ofNat 2) 1 5 X' hX hbl hbA (hin 2 (by decide)) dL_law__956 dL_law__957 dL_law__959 (by decide) dL_law__960 dL_law__961 rfl rfl ?_
  refine V_callVi X' (As := [.int (sx xs i 1), .int (sx xs i 2)]) (M_X12_set e2) (cwV 2 X.2.2.2.2.2.2.1 (gV wm_RL_175 wi_X12_set wse_X12_set win_RX12 wc_X12_set) rfl rfl rfl hd_X12_set ⟨Nat.le_of_ble_eq_true rfl, Nat.le_of_ble_eq_true rfl⟩) (b := (0, 32, 0)) ⟨by decide, rfl⟩ rfl rfl rfl rfl (Nat.le_of_ble_eq_true rfl) dL_law__962 rfl ?_
  obtain ⟨t1, t2⟩ := tail_of hag (nw_X12_set (v := hmem μ1 res (0, 31, 0) 0) rfl _ e2)
  exact V_tail X' t1 t2 dL_law__965 dL_law__967 dL_law__968 dL_law__971 dL_law__973 dL_law__978 dL_law__980 dL_law__983 dL_law__984 dL_law__985 dL_law__986 dL_law__988 dL_law__989 dL_law__990 dL_law__995 (by decide) (K _ _ X' _ (by omega) (by omega) hI2)
theorem LC_tune (X : LX p l e s m b below meth c Q D A y kc ks) (hR : kc + 6 ≤ room_1.cells ∧ ks + 1638 ≤ room_1.slots) (hlf : l.stackTraces = false) (hX : va_X b L xs s s.heap) (hbl : b < s.heap.size) (hbA : ¬ A b) (hin : ∀ k : Nat, k < 6 → vp_in (i + Int32.ofNat k) L) (hI : INV y μ) (K : LK p l e s m b below meth c Q D A y kc ks i) : V X μ 998 (lv5 y b i) [] := by
  obtain ⟨⟨res, μ1⟩, e1, h1⟩ := OP_tune (a1 := (zb1 (sx xs i 1))) (a2 := (sx xs i 2)) μ hI
  have X' := Cx.up X (kc' := kc + 1) (ks' := ks + 6) (by omega) (by omega)
  obtain ⟨⟨bq, μ2⟩, e2, hag, hI2⟩ := h1 (hmem μ1 res) hmem_fr
  dsimp only at e1 e2 hag hI2
  refine V_aload_n X 1 dL_law__998 rfl rfl ?_
  refine V_scr (kv := Int32.ofNat 1) 0 4 X hX hbl hbA (hin 1 (by decide)) dL_law__999 dL_law__1000 dL_law__1002 (by decide) dL_law__1003 dL_law__1004 rfl rfl ?_
  refine V_nz X dL_law__1005 (by decide) dL_law__1008 dL_law__1009 (by decide) dL_law__1012 ?_
  refine V_scr (kv := Int32.ofNat 2) 0 4 X hX hbl hbA (hin 2 (by decide)) dL_law__1013 dL_law__1014 dL_law__1016 (by decide) dL_law__1017 dL_law__1018 rfl rfl ?_
  refine V_aload_n X 3 dL_law__1019 rfl rfl ?_
  refine V_callH X X' (As := [.ref (zad y (0, 0, 0)), .int (zb1 (sx xs i 1)), .int (sx xs i 2), .ref (zad y (0, 31, 0))]) (H_tune hlf e1) (vx_cwSW 4 X.2.2.2.2.2.2.1 (gS wmL_tune wstL_tune win_RL wcw_tune) rfl rfl rfl hdL_tune ⟨Nat.le_of_ble_eq_true rfl, Nat.le_of_ble_eq_true rfl⟩) rfl (Nat.le_of_ble_eq_true rfl) dL_law__1020 rfl ?_
  refine V_istore X' ((5, .int (hres cm1 res)) :: lv5 y b i) dL_law__1023 (by decide) rfl ?_
  refine V_aload_n X' 3 dL_law__1025 rfl rfl ?_
  refine V_scr (kv := Int32.ofNat 1) 1 5 X' hX hbl hbA (hin 1 (by decide)) dL_law__1026 dL_law__1027 dL_law__1029 (by decide) dL_law__1030 dL_law__1031 rfl rfl ?_
  refine V_nz X' dL_law__1032 (by decide) dL_law__1035 dL_law__1036 (by decide) dL_law__1039 ?_
  refine V_scr (kv := Int32.ofNat 2) 1 5 X' hX hbl hbA (hin 2 (by decide)) dL_law__1040 dL_law__1041 dL_law__1043 (by decide) dL_law__1044 dL_law__1045 rfl rfl ?_
  refine V_callVi X' (As := [.int (zb1 (sx xs i 1)), .int (sx xs i 2)]) (M_X12_tune e2) (cwV 2 X.2.2.2.2.2.2.1 (gV wm_RL_179 wi_X12_tune wse_X12_tune win_RX12 wc_X12_tune) rfl rfl rfl hd_X12_tune ⟨Nat.le_of_ble_eq_true rfl, Nat.le_of_ble_eq_true rfl⟩) (b := (0, 32, 0)) ⟨by decide, rfl⟩ rfl rfl rfl rfl (Nat.le_of_ble_eq_true rfl) dL_law__1046 rfl ?_
  obtain ⟨t1, t2⟩ := tail_of hag (nw_X12_tune (v := hmem μ1 res (0, 31, 0) 0) rfl _ e2)
  exact V_tail X' t1 t2 dL_law__1049 dL_law__1051 dL_law__1052 dL_law__1055 dL_law__1057 dL_law__1062 dL_law__1064 dL_law__1067 dL_law__1068 dL_law__1069 dL_law__1070 dL_law__1072 dL_law__1073 dL_law__1074 dL_law__1079 (by decide) (K _ _ X' _ (by omega) (by omega) hI2)
theorem LC_mid (X : LX p l e s m b below meth c Q D A y kc ks) (hR : kc + 6 ≤ room_1.cells ∧ ks + 1638 ≤ room_1.slots) (hlf : l.stackTraces = false) (hX : va_X b L xs s s.heap) (hbl : b < s.heap.size) (hbA : ¬ A b) (hin : ∀ k : Nat, k < 6 → vp_in (i + Int32.ofNat k) L) (hI : INV y μ) (K : LK p l e s m b below meth c Q D A y kc ks i) : V X μ 1082 (lv5 y b i) [] := by
  obtain ⟨⟨res, μ1⟩, e1, h1⟩ := OP_mid μ hI
  have X' := Cx.up X (kc' := kc + 1) (ks' := ks + 6) (by omega) (by omega)
  obtain ⟨⟨bq, μ2⟩, e2, hag, hI2⟩ := h1 (hmem μ1 res) hmem_fr
  dsimp only at e1 e2 hag hI2
  refine V_aload_n X 1 dL_law__1082 rfl rfl ?_
  refine V_aload_n X 3 dL_law__1083 rfl rfl ?_
  refine V_callH X X' (As := [.ref (zad y (0, 0, 0)), .ref (zad y (0, 31, 0))]) (H_mid hlf e1) (vx_cwSW 2 X.2.2.2.2.2.2.1 (gS wmL_mid wstL_mid win_RL wcw_mid) rfl rfl rfl hdL_mid ⟨Nat.le_of_ble_eq_true rfl, Nat.le_of_ble_eq_true rfl⟩) rfl (Nat.le_of_ble_eq_true rfl) dL_law__1084 rfl ?_
  refine V_istore X' ((5, .int (hres cm1 res)) :: lv5 y b i) dL_law__1087 (by decide) rfl ?_
  refine V_aload_n X' 3 dL_law__1089 rfl rfl ?_
  refine V_callVi X' (As := []) (M_X12_mid e2) (cwV 0 X.2.2.2.2.2.2.1 (gV wm_RL_182 wi_X12_mid wse_X12_mid win_RX12 wc_X12_mid) rfl rfl rfl hd_X12_mid ⟨Nat.le_of_ble_eq_true rfl, Nat.le_of_ble_eq_true rfl⟩) (b := (0, 32, 0)) ⟨by decide, rfl⟩ rfl rfl rfl rfl (Nat.le_of_ble_eq_true rfl) dL_law__1090 rfl ?_
  obtain ⟨t1, t2⟩ := tail_of hag (nw_X12_mid (v := hmem μ1 res (0, 31, 0) 0) rfl _ e2)
  exact V_tail X' t1 t2 dL_law__1093 dL_law__1095 dL_law__1096 dL_law__1099 dL_law__1101 dL_law__1106 dL_law__1108 dL_law__1111 dL_law__1112 dL_law__1113 dL_law__1114 dL_law__1116 dL_law__1117 dL_law__1118 dL_law__1123 (by decide) (K _ _ X' _ (by omega) (by omega) hI2)
theorem LC_spread (X : LX p l e s m b below meth c Q D A y kc ks) (hR : kc + 6 ≤ room_1.cells ∧ ks + 1638 ≤ room_1.slots) (hlf : l.stackTraces = false) (hX : va_X b L xs s s.heap) (hbl : b < s.heap.size) (hbA : ¬ A b) (hin : ∀ k : Nat, k < 6 → vp_in (i + Int32.ofNat k) L) (hI : INV y μ) (K : LK p l e s m b below meth c Q D A y kc ks i) : V X μ 1126 (lv5 y b i) [] := by
  obtain ⟨v, e1, ⟨bq, μ2⟩, e2, hv, hI2⟩ := OP_spread μ hI
  dsimp only at e1 e2 hv hI2
  refine V_aload_n X 1 dL_law__1126 rfl rfl ?_
  refine V_callVi X (As := []) (M_X11_spread e1) (cwV 0 X.2.2.2.2.2.2.1 (gV wm_RL_183 wi_X11_spread wse_X11_spread win_RX11 wc_X11_spread) rfl rfl rfl hd_X11_spread ⟨Nat.le_of_ble_eq_true rfl, Nat.le_of_ble_eq_true rfl⟩) (b := (0, 0, 0)) ⟨by decide, rfl⟩ rfl rfl rfl rfl (Nat.le_of_ble_eq_true rfl) dL_law__1127 rfl ?_
  refine V_aload_n X 2 dL_law__1130 rfl rfl ?_
  refine V_callVi X (As := []) (M_X12_spread e2) (cwV 0 X.2.2.2.2.2.2.1 (gV wm_RL_186 wi_X12_spread wse_X12_spread win_RX12 wc_X12_spread) rfl rfl rfl hd_X12_spread ⟨Nat.le_of_ble_eq_true rfl, Nat.le_of_ble_eq_true rfl⟩) (b := (0, 32, 0)) ⟨by decide, rfl⟩ rfl rfl rfl rfl (Nat.le_of_ble_eq_true rfl) dL_law__1131 rfl ?_
  refine V_icmp_eq X (tgt := 2518) dL_law__1134 (by decide) (fun _ => K _ _ X _ (by omega) (by omega) hI2) (fun hn => (hn hv.symm).elim)
theorem LC_agreed (X : LX p l e s m b below meth c Q D A y kc ks) (hR : kc + 6 ≤ room_1.cells ∧ ks + 1638 ≤ room_1.slots) (hlf : l.stackTraces = false) (hX : va_X b L xs s s.heap) (hbl : b < s.heap.size) (hbA : ¬ A b) (hin : ∀ k : Nat, k < 6 → vp_in (i + Int32.ofNat k) L) (hI : INV y μ) (K : LK p l e s m b below meth c Q D A y kc ks i) : V X μ 1139 (lv5 y b i) [] := by
  obtain ⟨v, e1, ⟨bq, μ2⟩, e2, hv, hI2⟩ := OP_agreed μ hI
  dsimp only at e1 e2 hv hI2
  refine V_aload_n X 1 dL_law__1139 rfl rfl ?_
  refine V_callVi X (As := []) (M_X11_agreed e1) (cwV 0 X.2.2.2.2.2.2.1 (gV wm_RL_187 wi_X11_agreed wse_X11_agreed win_RX11 wc_X11_agreed) rfl rfl rfl hd_X11_agreed ⟨Nat.le_of_ble_eq_true rfl, Nat.le_of_ble_eq_true rfl⟩) (b := (0, 0, 0)) ⟨by decide, rfl⟩ rfl rfl rfl rfl (Nat.le_of_ble_eq_true rfl) dL_law__1140 rfl ?_
  refine V_aload_n X 2 dL_law__1143 rfl rfl ?_
  refine V_callVi X (As := []) (M_X12_agreed e2) (cwV 0 X.2.2.2.2.2.2.1 (gV wm_RL_191 wi_X12_agreed wse_X12_agreed win_RX12 wc_X12_agreed) rfl rfl rfl hd_X12_agreed ⟨Nat.le_of_ble_eq_true rfl, Nat.le_of_ble_eq_true rfl⟩) (b := (0, 32, 0)) ⟨by decide, rfl⟩ rfl rfl rfl rfl (Nat.le_of_ble_eq_true rfl) dL_law__1144 rfl ?_
  refine V_icmp_eq X (tgt := 2518) dL_law__1147 (by decide) (fun _ => K _ _ X _ (by omega) (by omega) hI2) (fun hn => (hn hv.symm).elim)
theorem LC_cliques (X : LX p l e s m b below meth c Q D A y kc ks) (hR : kc + 6 ≤ room_1.cells ∧ ks + 1638 ≤ room_1.slots) (hlf : l.stackTraces = false) (hX : va_X b L xs s s.heap) (hbl : b < s.heap.size) (hbA : ¬ A b) (hin : ∀ k : Nat, k < 6 → vp_in (i + Int32.ofNat k) L) (hI : INV y μ) (K : LK p l e s m b below meth c Q D A y kc ks i) : V X μ 1152 (lv5 y b i) [] := by
  obtain ⟨⟨v, μ1⟩, e1, ⟨bq, μ2⟩, e2, hv, hI2⟩ := OP_cliques μ hI
  dsimp only at e1 e2 hv hI2
  refine V_aload_n X 1 dL_law__1152 rfl rfl ?_
  refine V_callVi X (As := []) (M_X11_cliques e1) (cwV 0 X.2.2.2.2.2.2.1 (gV wm_RL_192 wi_X11_cliques wse_X11_cliques win_RX11 wc_X11_cliques) rfl rfl rfl hd_X11_cliques ⟨Nat.le_of_ble_eq_true rfl, Nat.le_of_ble_eq_true rfl⟩) (b := (0, 0, 0)) ⟨by decide, rfl⟩ rfl rfl rfl rfl (Nat.le_of_ble_eq_true rfl) dL_law__1153 rfl ?_
  refine V_aload_n X 2 dL_law__1156 rfl rfl ?_
  refine V_callVi X (As := []) (M_X12_cliques e2) (cwV 0 X.2.2.2.2.2.2.1 (gV wm_RL_195 wi_X12_cliques wse_X12_cliques win_RX12 wc_X12_cliques) rfl rfl rfl hd_X12_cliques ⟨Nat.le_of_ble_eq_true rfl, Nat.le_of_ble_eq_true rfl⟩) (b := (0, 32, 0)) ⟨by decide, rfl⟩ rfl rfl rfl rfl (Nat.le_of_ble_eq_true rfl) dL_law__1157 rfl ?_
  refine V_icmp_eq X (tgt := 2518) dL_law__1160 (by decide) (fun _ => K _ _ X _ (by omega) (by omega) hI2) (fun hn => (hn hv.symm).elim)
theorem LC_settles (X : LX p l e s m b below meth c Q D A y kc ks) (hR : kc + 6 ≤ room_1.cells ∧ ks + 1638 ≤ room_1.slots) (hlf : l.stackTraces = false) (hX : va_X b L xs s s.heap) (hbl : b < s.heap.size) (hbA : ¬ A b) (hin : ∀ k : Nat, k < 6 → vp_in (i + Int32.ofNat k) L) (hI : INV y μ) (K : LK p l e s m b below meth c Q D A y kc ks i) : V X μ 1165 (lv5 y b i) [] := by
  obtain ⟨⟨res, μ1⟩, e1, h1⟩ := OP_settles (a1 := (sx xs i 1)) μ hI
  have X' := Cx.up X (kc' := kc + 1) (ks' := ks + 6) (by omega) (by omega)
  obtain ⟨⟨bq, μ2⟩, e2, hag, hI2⟩ := h1 (hmem μ1 res) hmem_fr
  dsimp only at e1 e2 hag hI2
  refine V_aload_n X 1 dL_law__1165 rfl rfl ?_
  refine V_scr (kv := Int32.ofNat 1) 0 4 X hX hbl hbA (hin 1 (by decide)) dL_law__1166 dL_law__1167 dL_law__1169 (by decide) dL_law__1170 dL_law__1171 rfl rfl ?_
  refine V_aload_n X 3 dL_law__1172 rfl rfl ?_
  refine V_callH X X' (As := [.ref (zad y (0, 0, 0)), .int (sx xs i 1), .ref (zad y (0, 31, 0))]) (H_settles hlf e1) (vx_cwSW 3 X.2.2.2.2.2.2.1 (gS wmL_settles wstL_settles win_RL wcw_settles) rfl rfl rfl hdL_settles ⟨Nat.le_of_ble_eq_true rfl, Nat.le_of_ble_eq_true rfl⟩) rfl (Nat.le_of_ble_eq_true rfl) dL_law__1173 rfl ?_
  refine V_istore X' ((5, .int (hres cm1 res)) :: lv5 y b i) dL_law__1176 (by decide) rfl ?_
  refine V_aload_n X' 3 dL_law__1178 rfl rfl ?_
  refine V_scr (kv := Int32.ofNat 1) 1 5 X' hX hbl hbA (hin 1 (by decide)) dL_law__1179 dL_law__1180 dL_law__1182 (by decide) dL_law__1183 dL_law__1184 rfl rfl ?_
  refine V_callVi X' (As := [.int (sx xs i 1)]) (M_X12_settles e2) (cwV 1 X.2.2.2.2.2.2.1 (gV wm_RL_198 wi_X12_settles wse_X12_settles win_RX12 wc_X12_settles) rfl rfl rfl hd_X12_settles ⟨Nat.le_of_ble_eq_true rfl, Nat.le_of_ble_eq_true rfl⟩) (b := (0, 32, 0)) ⟨by decide, rfl⟩ rfl rfl rfl rfl (Nat.le_of_ble_eq_true rfl) dL_law__1185 rfl ?_
  obtain ⟨t1, t2⟩ := tail_of hag (nw_X12_settles (v := hmem μ1 res (0, 31, 0) 0) rfl _ e2)
  exact V_tail X' t1 t2 dL_law__1188 dL_law__1190 dL_law__1191 dL_law__1194 dL_law__1196 dL_law__1201 dL_law__1203 dL_law__1206 dL_law__1207 dL_law__1208 dL_law__1209 dL_law__1211 dL_law__1212 dL_law__1213 dL_law__1218 (by decide) (K _ _ X' _ (by omega) (by omega) hI2)
theorem LC_widest (X : LX p l e s m b below meth c Q D A y kc ks) (hR : kc + 6 ≤ room_1.cells ∧ ks + 1638 ≤ room_1.slots) (hlf : l.stackTraces = false) (hX : va_X b L xs s s.heap) (hbl : b < s.heap.size) (hbA : ¬ A b) (hin : ∀ k : Nat, k < 6 → vp_in (i + Int32.ofNat k) L) (hI : INV y μ) (K : LK p l e s m b below meth c Q D A y kc ks i) : V X μ 1221 (lv5 y b i) [] := by
  obtain ⟨⟨res, μ1⟩, e1, h1⟩ := OP_widest (a1 := (sx xs i 1)) μ hI
  have X' := Cx.up X (kc' := kc + 1) (ks' := ks + 6) (by omega) (by omega)
  obtain ⟨⟨bq, μ2⟩, e2, hag, hI2⟩ := h1 (hmem μ1 res) hmem_fr
  dsimp only at e1 e2 hag hI2
  refine V_aload_n X 1 dL_law__1221 rfl rfl ?_
  refine V_scr (kv := Int32.ofNat 1) 0 4 X hX hbl hbA (hin 1 (by decide)) dL_law__1222 dL_law__1223 dL_law__1225 (by decide) dL_law__1226 dL_law__1227 rfl rfl ?_
  refine V_aload_n X 3 dL_law__1228 rfl rfl ?_
  refine V_callH X X' (As := [.ref (zad y (0, 0, 0)), .int (sx xs i 1), .ref (zad y (0, 31, 0))]) (H_widest hlf e1) (vx_cwSW 3 X.2.2.2.2.2.2.1 (gS wmL_widest wstL_widest win_RL wcw_widest) rfl rfl rfl hdL_widest ⟨Nat.le_of_ble_eq_true rfl, Nat.le_of_ble_eq_true rfl⟩) rfl (Nat.le_of_ble_eq_true rfl) dL_law__1229 rfl ?_
  refine V_istore X' ((5, .int (hres cm1 res)) :: lv5 y b i) dL_law__1232 (by decide) rfl ?_
  refine V_aload_n X' 3 dL_law__1234 rfl rfl ?_
  refine V_scr (kv := Int32.ofNat 1) 1 5 X' hX hbl hbA (hin 1 (by decide)) dL_law__1235 dL_law__1236 dL_law__1238 (by decide) dL_law__1239 dL_law__1240 rfl rfl ?_
  refine V_callVi X' (As := [.int (sx xs i 1)]) (M_X12_widest e2) (cwV 1 X.2.2.2.2.2.2.1 (gV wm_RL_201 wi_X12_widest wse_X12_widest win_RX12 wc_X12_widest) rfl rfl rfl hd_X12_widest ⟨Nat.le_of_ble_eq_true rfl, Nat.le_of_ble_eq_true rfl⟩) (b := (0, 32, 0)) ⟨by decide, rfl⟩ rfl rfl rfl rfl (Nat.le_of_ble_eq_true rfl) dL_law__1241 rfl ?_
  obtain ⟨t1, t2⟩ := tail_of hag (nw_X12_widest (v := hmem μ1 res (0, 31, 0) 0) rfl _ e2)
  exact V_tail X' t1 t2 dL_law__1244 dL_law__1246 dL_law__1247 dL_law__1250 dL_law__1252 dL_law__1257 dL_law__1259 dL_law__1262 dL_law__1263 dL_law__1264 dL_law__1265 dL_law__1267 dL_law__1268 dL_law__1269 dL_law__1274 (by decide) (K _ _ X' _ (by omega) (by omega) hI2)
theorem LC_leads (X : LX p l e s m b below meth c Q D A y kc ks) (hR : kc + 6 ≤ room_1.cells ∧ ks + 1638 ≤ room_1.slots) (hlf : l.stackTraces = false) (hX : va_X b L xs s s.heap) (hbl : b < s.heap.size) (hbA : ¬ A b) (hin : ∀ k : Nat, k < 6 → vp_in (i + Int32.ofNat k) L) (hI : INV y μ) (K : LK p l e s m b below meth c Q D A y kc ks i) : V X μ 1277 (lv5 y b i) [] := by
  obtain ⟨⟨v, μ1⟩, e1, ⟨bq, μ2⟩, e2, hv, hI2⟩ := OP_leads (a1 := (zb1 (sx xs i 1))) μ hI
  dsimp only at e1 e2 hv hI2
  refine V_aload_n X 1 dL_law__1277 rfl rfl ?_
  refine V_scr (kv := Int32.ofNat 1) 0 4 X hX hbl hbA (hin 1 (by decide)) dL_law__1278 dL_law__1279 dL_law__1281 (by decide) dL_law__1282 dL_law__1283 rfl rfl ?_
  refine V_nz X dL_law__1284 (by decide) dL_law__1287 dL_law__1288 (by decide) dL_law__1291 ?_
  refine V_callVi X (As := [.int (zb1 (sx xs i 1))]) (M_X11_leads e1) (cwV 1 X.2.2.2.2.2.2.1 (gV wm_RL_202 wi_X11_leads wse_X11_leads win_RX11 wc_X11_leads) rfl rfl rfl hd_X11_leads ⟨Nat.le_of_ble_eq_true rfl, Nat.le_of_ble_eq_true rfl⟩) (b := (0, 0, 0)) ⟨by decide, rfl⟩ rfl rfl rfl rfl (Nat.le_of_ble_eq_true rfl) dL_law__1292 rfl ?_
  refine V_aload_n X 2 dL_law__1295 rfl rfl ?_
  refine V_scr (kv := Int32.ofNat 1) 0 4 X hX hbl hbA (hin 1 (by decide)) dL_law__1296 dL_law__1297 dL_law__1299 (by decide) dL_law__1300 dL_law__1301 rfl rfl ?_
  refine V_nz X dL_law__1302 (by decide) dL_law__1305 dL_law__1306 (by decide) dL_law__1309 ?_
  refine V_callVi X (As := [.int (zb1 (sx xs i 1))]) (M_X12_leads e2) (cwV 1 X.2.2.2.2.2.2.1 (gV wm_RL_205 wi_X12_leads wse_X12_leads win_RX12 wc_X12_leads) rfl rfl rfl hd_X12_leads ⟨Nat.le_of_ble_eq_true rfl, Nat.le_of_ble_eq_true rfl⟩) (b := (0, 32, 0)) ⟨by decide, rfl⟩ rfl rfl rfl rfl (Nat.le_of_ble_eq_true rfl) dL_law__1310 rfl ?_
  refine V_icmp_eq X (tgt := 2518) dL_law__1313 (by decide) (fun _ => K _ _ X _ (by omega) (by omega) hI2) (fun hn => (hn hv.symm).elim)
theorem LC_narrow (X : LX p l e s m b below meth c Q D A y kc ks) (hR : kc + 6 ≤ room_1.cells ∧ ks + 1638 ≤ room_1.slots) (hlf : l.stackTraces = false) (hX : va_X b L xs s s.heap) (hbl : b < s.heap.size) (hbA : ¬ A b) (hin : ∀ k : Nat, k < 6 → vp_in (i + Int32.ofNat k) L) (hI : INV y μ) (K : LK p l e s m b below meth c Q D A y kc ks i) : V X μ 1318 (lv5 y b i) [] := by
  obtain ⟨⟨v, μ1⟩, e1, ⟨bq, μ2⟩, e2, hv, hI2⟩ := OP_narrow μ hI
  dsimp only at e1 e2 hv hI2
  refine V_aload_n X 1 dL_law__1318 rfl rfl ?_
  refine V_callVi X (As := []) (M_X11_narrow e1) (cwV 0 X.2.2.2.2.2.2.1 (gV wm_RL_206 wi_X11_narrow wse_X11_narrow win_RX11 wc_X11_narrow) rfl rfl rfl hd_X11_narrow ⟨Nat.le_of_ble_eq_true rfl, Nat.le_of_ble_eq_true rfl⟩) (b := (0, 0, 0)) ⟨by decide, rfl⟩ rfl rfl rfl rfl (Nat.le_of_ble_eq_true rfl) dL_law__1319 rfl ?_
  refine V_aload_n X 2 dL_law__1322 rfl rfl ?_
  refine V_callVi X (As := []) (M_X12_narrow e2) (cwV 0 X.2.2.2.2.2.2.1 (gV wm_RL_209 wi_X12_narrow wse_X12_narrow win_RX12 wc_X12_narrow) rfl rfl rfl hd_X12_narrow ⟨Nat.le_of_ble_eq_true rfl, Nat.le_of_ble_eq_true rfl⟩) (b := (0, 32, 0)) ⟨by decide, rfl⟩ rfl rfl rfl rfl (Nat.le_of_ble_eq_true rfl) dL_law__1323 rfl ?_
  refine V_icmp_eq X (tgt := 2518) dL_law__1326 (by decide) (fun _ => K _ _ X _ (by omega) (by omega) hI2) (fun hn => (hn hv.symm).elim)
theorem LC_tight (X : LX p l e s m b below meth c Q D A y kc ks) (hR : kc + 6 ≤ room_1.cells ∧ ks + 1638 ≤ room_1.slots) (hlf : l.stackTraces = false) (hX : va_X b L xs s s.heap) (hbl : b < s.heap.size) (hbA : ¬ A b) (hin : ∀ k : Nat, k < 6 → vp_in (i + Int32.ofNat k) L) (hI : INV y μ) (K : LK p l e s m b below meth c Q D A y kc ks i) : V X μ 1331 (lv5 y b i) [] := by
  obtain ⟨⟨v, μ1⟩, e1, ⟨bq, μ2⟩, e2, hv, hI2⟩ := OP_tight μ hI
  dsimp only at e1 e2 hv hI2
  refine V_aload_n X 1 dL_law__1331 rfl rfl ?_
  refine V_callVi X (As := []) (M_X11_tight e1) (cwV 0 X.2.2.2.2.2.2.1 (gV wm_RL_210 wi_X11_tight wse_X11_tight win_RX11 wc_X11_tight) rfl rfl rfl hd_X11_tight ⟨Nat.le_of_ble_eq_true rfl, Nat.le_of_ble_eq_true rfl⟩) (b := (0, 0, 0)) ⟨by decide, rfl⟩ rfl rfl rfl rfl (Nat.le_of_ble_eq_true rfl) dL_law__1332 rfl ?_
  refine V_aload_n X 2 dL_law__1335 rfl rfl ?_
  refine V_callVi X (As := []) (M_X12_tight e2) (cwV 0 X.2.2.2.2.2.2.1 (gV wm_RL_213 wi_X12_tight wse_X12_tight win_RX12 wc_X12_tight) rfl rfl rfl hd_X12_tight ⟨Nat.le_of_ble_eq_true rfl, Nat.le_of_ble_eq_true rfl⟩) (b := (0, 32, 0)) ⟨by decide, rfl⟩ rfl rfl rfl rfl (Nat.le_of_ble_eq_true rfl) dL_law__1336 rfl ?_
  refine V_icmp_eq X (tgt := 2518) dL_law__1339 (by decide) (fun _ => K _ _ X _ (by omega) (by omega) hI2) (fun hn => (hn hv.symm).elim)
theorem LC_spare (X : LX p l e s m b below meth c Q D A y kc ks) (hR : kc + 6 ≤ room_1.cells ∧ ks + 1638 ≤ room_1.slots) (hlf : l.stackTraces = false) (hX : va_X b L xs s s.heap) (hbl : b < s.heap.size) (hbA : ¬ A b) (hin : ∀ k : Nat, k < 6 → vp_in (i + Int32.ofNat k) L) (hI : INV y μ) (K : LK p l e s m b below meth c Q D A y kc ks i) : V X μ 1344 (lv5 y b i) [] := by
  obtain ⟨⟨v, μ1⟩, e1, ⟨bq, μ2⟩, e2, hv, hI2⟩ := OP_spare μ hI
  dsimp only at e1 e2 hv hI2
  refine V_aload_n X 1 dL_law__1344 rfl rfl ?_
  refine V_callVi X (As := []) (M_X11_spare e1) (cwV 0 X.2.2.2.2.2.2.1 (gV wm_RL_214 wi_X11_spare wse_X11_spare win_RX11 wc_X11_spare) rfl rfl rfl hd_X11_spare ⟨Nat.le_of_ble_eq_true rfl, Nat.le_of_ble_eq_true rfl⟩) (b := (0, 0, 0)) ⟨by decide, rfl⟩ rfl rfl rfl rfl (Nat.le_of_ble_eq_true rfl) dL_law__1345 rfl ?_
  refine V_aload_n X 2 dL_law__1348 rfl rfl ?_
  refine V_callVi X (As := []) (M_X12_spare e2) (cwV 0 X.2.2.2.2.2.2.1 (gV wm_RL_217 wi_X12_spare wse_X12_spare win_RX12 wc_X12_spare) rfl rfl rfl hd_X12_spare ⟨Nat.le_of_ble_eq_true rfl, Nat.le_of_ble_eq_true rfl⟩) (b := (0, 32, 0)) ⟨by decide, rfl⟩ rfl rfl rfl rfl (Nat.le_of_ble_eq_true rfl) dL_law__1349 rfl ?_
  refine V_icmp_eq X (tgt := 2518) dL_law__1352 (by decide) (fun _ => K _ _ X _ (by omega) (by omega) hI2) (fun hn => (hn hv.symm).elim)
theorem LC_order (X : LX p l e s m b below meth c Q D A y kc ks) (hR : kc + 6 ≤ room_1.cells ∧ ks + 1638 ≤ room_1.slots) (hlf : l.stackTraces = false) (hX : va_X b L xs s s.heap) (hbl : b < s.heap.size) (hbA : ¬ A b) (hin : ∀ k : Nat, k < 6 → vp_in (i + Int32.ofNat k) L) (hI : INV y μ) (K : LK p l e s m b below meth c Q D A y kc ks i) : V X μ 1357 (lv5 y b i) [] := by
  obtain ⟨⟨v, μ1⟩, e1, ⟨bq, μ2⟩, e2, hv, hI2⟩ := OP_order (a1 := (sx xs i 1)) μ hI
  dsimp only at e1 e2 hv hI2
  refine V_aload_n X 1 dL_law__1357 rfl rfl ?_
  refine V_scr (kv := Int32.ofNat 1) 0 4 X hX hbl hbA (hin 1 (by decide)) dL_law__1358 dL_law__1359 dL_law__1361 (by decide) dL_law__1362 dL_law__1363 rfl rfl ?_
  refine V_callVi X (As := [.int (sx xs i 1)]) (M_X11_order e1) (cwV 1 X.2.2.2.2.2.2.1 (gV wm_RL_218 wi_X11_order wse_X11_order win_RX11 wc_X11_order) rfl rfl rfl hd_X11_order ⟨Nat.le_of_ble_eq_true rfl, Nat.le_of_ble_eq_true rfl⟩) (b := (0, 0, 0)) ⟨by decide, rfl⟩ rfl rfl rfl rfl (Nat.le_of_ble_eq_true rfl) dL_law__1364 rfl ?_
  refine V_aload_n X 2 dL_law__1367 rfl rfl ?_
  refine V_scr (kv := Int32.ofNat 1) 0 4 X hX hbl hbA (hin 1 (by decide)) dL_law__1368 dL_law__1369 dL_law__1371 (by decide) dL_law__1372 dL_law__1373 rfl rfl ?_
  refine V_callVi X (As := [.int (sx xs i 1)]) (M_X12_order e2) (cwV 1 X.2.2.2.2.2.2.1 (gV wm_RL_221 wi_X12_order wse_X12_order win_RX12 wc_X12_order) rfl rfl rfl hd_X12_order ⟨Nat.le_of_ble_eq_true rfl, Nat.le_of_ble_eq_true rfl⟩) (b := (0, 32, 0)) ⟨by decide, rfl⟩ rfl rfl rfl rfl (Nat.le_of_ble_eq_true rfl) dL_law__1374 rfl ?_
  refine V_icmp_eq X (tgt := 2518) dL_law__1377 (by decide) (fun _ => K _ _ X _ (by omega) (by omega) hI2) (fun hn => (hn hv.symm).elim)
theorem LC_read (X : LX p l e s m b below meth c Q D A y kc ks) (hR : kc + 6 ≤ room_1.cells ∧ ks + 1638 ≤ room_1.slots) (hlf : l.stackTraces = false) (hX : va_X b L xs s s.heap) (hbl : b < s.heap.size) (hbA : ¬ A b) (hin : ∀ k : Nat, k < 6 → vp_in (i + Int32.ofNat k) L) (hI : INV y μ) (K : LK p l e s m b below meth c Q D A y kc ks i) : V X μ 1382 (lv5 y b i) [] := by
  obtain ⟨⟨res, μ1⟩, e1, h1⟩ := OP_read (a1 := (zb1 (sx xs i 1))) μ hI
  have X' := Cx.up X (kc' := kc + 1) (ks' := ks + 6) (by omega) (by omega)
  obtain ⟨⟨bq, μ2⟩, e2, hag, hI2⟩ := h1 (hmem μ1 res) hmem_fr
  dsimp only at e1 e2 hag hI2
  refine V_aload_n X 1 dL_law__1382 rfl rfl ?_
  refine V_scr (kv := Int32.ofNat 1) 0 4 X hX hbl hbA (hin 1 (by decide)) dL_law__1383 dL_law__1384 dL_law__1386 (by decide) dL_law__1387 dL_law__1388 rfl rfl ?_
  refine V_nz X dL_law__1389 (by decide) dL_law__1392 dL_law__1393 (by decide) dL_law__1396 ?_
  refine V_aload_n X 3 dL_law__1397 rfl rfl ?_
  refine V_callH X X' (As := [.ref (zad y (0, 0, 0)), .int (zb1 (sx xs i 1)), .ref (zad y (0, 31, 0))]) (H_read hlf e1) (vx_cwSW 3 X.2.2.2.2.2.2.1 (gS wmL_read wstL_read win_RL wcw_read) rfl rfl rfl hdL_read ⟨Nat.le_of_ble_eq_true rfl, Nat.le_of_ble_eq_true rfl⟩) rfl (Nat.le_of_ble_eq_true rfl) dL_law__1398 rfl ?_
  refine V_istore X' ((5, .int (hres cm1 res)) :: lv5 y b i) dL_law__1401 (by decide) rfl ?_
  refine V_aload_n X' 3 dL_law__1403 rfl rfl ?_
  refine V_scr (kv := Int32.ofNat 1) 1 5 X' hX hbl hbA (hin 1 (by decide)) dL_law__1404 dL_law__1405 dL_law__1407 (by decide) dL_law__1408 dL_law__1409 rfl rfl ?_
  refine V_nz X' dL_law__1410 (by decide) dL_law__1413 dL_law__1414 (by decide) dL_law__1417 ?_
  refine V_callVi X' (As := [.int (zb1 (sx xs i 1))]) (M_X12_read e2) (cwV 1 X.2.2.2.2.2.2.1 (gV wm_RL_225 wi_X12_read wse_X12_read win_RX12 wc_X12_read) rfl rfl rfl hd_X12_read ⟨Nat.le_of_ble_eq_true rfl, Nat.le_of_ble_eq_true rfl⟩) (b := (0, 32, 0)) ⟨by decide, rfl⟩ rfl rfl rfl rfl (Nat.le_of_ble_eq_true rfl) dL_law__1418 rfl ?_
  obtain ⟨t1, t2⟩ := tail_of hag (nw_X12_read (v := hmem μ1 res (0, 31, 0) 0) rfl _ e2)
  exact V_tail X' t1 t2 dL_law__1421 dL_law__1423 dL_law__1424 dL_law__1427 dL_law__1429 dL_law__1434 dL_law__1436 dL_law__1439 dL_law__1440 dL_law__1441 dL_law__1442 dL_law__1444 dL_law__1445 dL_law__1446 dL_law__1451 (by decide) (K _ _ X' _ (by omega) (by omega) hI2)
theorem LC_when (X : LX p l e s m b below meth c Q D A y kc ks) (hR : kc + 6 ≤ room_1.cells ∧ ks + 1638 ≤ room_1.slots) (hlf : l.stackTraces = false) (hX : va_X b L xs s s.heap) (hbl : b < s.heap.size) (hbA : ¬ A b) (hin : ∀ k : Nat, k < 6 → vp_in (i + Int32.ofNat k) L) (hI : INV y μ) (K : LK p l e s m b below meth c Q D A y kc ks i) : V X μ 1454 (lv5 y b i) [] := by
  obtain ⟨⟨res, μ1⟩, e1, h1⟩ := OP_when μ hI
  have X' := Cx.up X (kc' := kc + 1) (ks' := ks + 6) (by omega) (by omega)
  obtain ⟨⟨bq, μ2⟩, e2, hag, hI2⟩ := h1 (hmem μ1 res) hmem_fr
  dsimp only at e1 e2 hag hI2
  refine V_aload_n X 1 dL_law__1454 rfl rfl ?_
  refine V_aload_n X 3 dL_law__1455 rfl rfl ?_
  refine V_callH X X' (As := [.ref (zad y (0, 0, 0)), .ref (zad y (0, 31, 0))]) (H_when hlf e1) (vx_cwSW 2 X.2.2.2.2.2.2.1 (gS wmL_when wstL_when win_RL wcw_when) rfl rfl rfl hdL_when ⟨Nat.le_of_ble_eq_true rfl, Nat.le_of_ble_eq_true rfl⟩) rfl (Nat.le_of_ble_eq_true rfl) dL_law__1456 rfl ?_
  refine V_istore X' ((5, .int (hres cm1 res)) :: lv5 y b i) dL_law__1459 (by decide) rfl ?_
  refine V_aload_n X' 3 dL_law__1461 rfl rfl ?_
  refine V_callVi X' (As := []) (M_X12_when e2) (cwV 0 X.2.2.2.2.2.2.1 (gV wm_RL_228 wi_X12_when wse_X12_when win_RX12 wc_X12_when) rfl rfl rfl hd_X12_when ⟨Nat.le_of_ble_eq_true rfl, Nat.le_of_ble_eq_true rfl⟩) (b := (0, 32, 0)) ⟨by decide, rfl⟩ rfl rfl rfl rfl (Nat.le_of_ble_eq_true rfl) dL_law__1462 rfl ?_
  obtain ⟨t1, t2⟩ := tail_of hag (nw_X12_when (v := hmem μ1 res (0, 31, 0) 0) rfl _ e2)
  exact V_tail X' t1 t2 dL_law__1465 dL_law__1467 dL_law__1468 dL_law__1471 dL_law__1473 dL_law__1478 dL_law__1480 dL_law__1483 dL_law__1484 dL_law__1485 dL_law__1486 dL_law__1488 dL_law__1489 dL_law__1490 dL_law__1495 (by decide) (K _ _ X' _ (by omega) (by omega) hI2)
theorem LC_blame (X : LX p l e s m b below meth c Q D A y kc ks) (hR : kc + 6 ≤ room_1.cells ∧ ks + 1638 ≤ room_1.slots) (hlf : l.stackTraces = false) (hX : va_X b L xs s s.heap) (hbl : b < s.heap.size) (hbA : ¬ A b) (hin : ∀ k : Nat, k < 6 → vp_in (i + Int32.ofNat k) L) (hI : INV y μ) (K : LK p l e s m b below meth c Q D A y kc ks i) : V X μ 1498 (lv5 y b i) [] := by
  obtain ⟨⟨res, μ1⟩, e1, h1⟩ := OP_blame μ hI
  have X' := Cx.up X (kc' := kc + 1) (ks' := ks + 6) (by omega) (by omega)
  obtain ⟨⟨bq, μ2⟩, e2, hag, hI2⟩ := h1 (hmem μ1 res) hmem_fr
  dsimp only at e1 e2 hag hI2
  refine V_aload_n X 1 dL_law__1498 rfl rfl ?_
  refine V_aload_n X 3 dL_law__1499 rfl rfl ?_
  refine V_callH X X' (As := [.ref (zad y (0, 0, 0)), .ref (zad y (0, 31, 0))]) (H_blame hlf e1) (vx_cwSW 2 X.2.2.2.2.2.2.1 (gS wmL_blame wstL_blame win_RL wcw_blame) rfl rfl rfl hdL_blame ⟨Nat.le_of_ble_eq_true rfl, Nat.le_of_ble_eq_true rfl⟩) rfl (Nat.le_of_ble_eq_true rfl) dL_law__1500 rfl ?_
  refine V_istore X' ((5, .int (hres cm1 res)) :: lv5 y b i) dL_law__1503 (by decide) rfl ?_
  refine V_aload_n X' 3 dL_law__1505 rfl rfl ?_
  refine V_callVi X' (As := []) (M_X12_blame e2) (cwV 0 X.2.2.2.2.2.2.1 (gV wm_RL_231 wi_X12_blame wse_X12_blame win_RX12 wc_X12_blame) rfl rfl rfl hd_X12_blame ⟨Nat.le_of_ble_eq_true rfl, Nat.le_of_ble_eq_true rfl⟩) (b := (0, 32, 0)) ⟨by decide, rfl⟩ rfl rfl rfl rfl (Nat.le_of_ble_eq_true rfl) dL_law__1506 rfl ?_
  obtain ⟨t1, t2⟩ := tail_of hag (nw_X12_blame (v := hmem μ1 res (0, 31, 0) 0) rfl _ e2)
  exact V_tail X' t1 t2 dL_law__1509 dL_law__1511 dL_law__1512 dL_law__1515 dL_law__1517 dL_law__1522 dL_law__1524 dL_law__1527 dL_law__1528 dL_law__1529 dL_law__1530 dL_law__1532 dL_law__1533 dL_law__1534 dL_law__1539 (by decide) (K _ _ X' _ (by omega) (by omega) hI2)
theorem LC_guilty (X : LX p l e s m b below meth c Q D A y kc ks) (hR : kc + 6 ≤ room_1.cells ∧ ks + 1638 ≤ room_1.slots) (hlf : l.stackTraces = false) (hX : va_X b L xs s s.heap) (hbl : b < s.heap.size) (hbA : ¬ A b) (hin : ∀ k : Nat, k < 6 → vp_in (i + Int32.ofNat k) L) (hI : INV y μ) (K : LK p l e s m b below meth c Q D A y kc ks i) : V X μ 1542 (lv5 y b i) [] := by
  obtain ⟨⟨res, μ1⟩, e1, h1⟩ := OP_guilty μ hI
  have X' := Cx.up X (kc' := kc + 1) (ks' := ks + 6) (by omega) (by omega)
  obtain ⟨⟨bq, μ2⟩, e2, hag, hI2⟩ := h1 (hmem μ1 res) hmem_fr
  dsimp only at e1 e2 hag hI2
  refine V_aload_n X 1 dL_law__1542 rfl rfl ?_
  refine V_aload_n X 3 dL_law__1543 rfl rfl ?_
  refine V_callH X X' (As := [.ref (zad y (0, 0, 0)), .ref (zad y (0, 31, 0))]) (H_guilty hlf e1) (vx_cwSW 2 X.2.2.2.2.2.2.1 (gS wmL_guilty wstL_guilty win_RL wcw_guilty) rfl rfl rfl hdL_guilty ⟨Nat.le_of_ble_eq_true rfl, Nat.le_of_ble_eq_true rfl⟩) rfl (Nat.le_of_ble_eq_true rfl) dL_law__1544 rfl ?_
  refine V_istore X' ((5, .int (hres cm1 res)) :: lv5 y b i) dL_law__1547 (by decide) rfl ?_
  refine V_aload_n X' 3 dL_law__1549 rfl rfl ?_
  refine V_callVi X' (As := []) (M_X12_guilty e2) (cwV 0 X.2.2.2.2.2.2.1 (gV wm_RL_234 wi_X12_guilty wse_X12_guilty win_RX12 wc_X12_guilty) rfl rfl rfl hd_X12_guilty ⟨Nat.le_of_ble_eq_true rfl, Nat.le_of_ble_eq_true rfl⟩) (b := (0, 32, 0)) ⟨by decide, rfl⟩ rfl rfl rfl rfl (Nat.le_of_ble_eq_true rfl) dL_law__1550 rfl ?_
  obtain ⟨t1, t2⟩ := tail_of hag (nw_X12_guilty (v := hmem μ1 res (0, 31, 0) 0) rfl _ e2)
  exact V_tail X' t1 t2 dL_law__1553 dL_law__1555 dL_law__1556 dL_law__1559 dL_law__1561 dL_law__1566 dL_law__1568 dL_law__1571 dL_law__1572 dL_law__1573 dL_law__1574 dL_law__1576 dL_law__1577 dL_law__1578 dL_law__1583 (by decide) (K _ _ X' _ (by omega) (by omega) hI2)
theorem LC_probe (X : LX p l e s m b below meth c Q D A y kc ks) (hR : kc + 6 ≤ room_1.cells ∧ ks + 1638 ≤ room_1.slots) (hlf : l.stackTraces = false) (hX : va_X b L xs s s.heap) (hbl : b < s.heap.size) (hbA : ¬ A b) (hin : ∀ k : Nat, k < 6 → vp_in (i + Int32.ofNat k) L) (hI : INV y μ) (K : LK p l e s m b below meth c Q D A y kc ks i) : V X μ 1586 (lv5 y b i) [] := by
  obtain ⟨⟨res, μ1⟩, e1, h1⟩ := OP_probe μ hI
  have X' := Cx.up X (kc' := kc + 1) (ks' := ks + 6) (by omega) (by omega)
  obtain ⟨⟨bq, μ2⟩, e2, hag, hI2⟩ := h1 (hmem μ1 res) hmem_fr
  dsimp only at e1 e2 hag hI2
  refine V_aload_n X 1 dL_law__1586 rfl rfl ?_
  refine V_aload_n X 3 dL_law__1587 rfl rfl ?_
  refine V_callH X X' (As := [.ref (zad y (0, 0, 0)), .ref (zad y (0, 31, 0))]) (H_probe hlf e1) (vx_cwSW 2 X.2.2.2.2.2.2.1 (gS wmL_probe wstL_probe win_RL wcw_probe) rfl rfl rfl hdL_probe ⟨Nat.le_of_ble_eq_true rfl, Nat.le_of_ble_eq_true rfl⟩) rfl (Nat.le_of_ble_eq_true rfl) dL_law__1588 rfl ?_
  refine V_istore X' ((5, .int (hres cm1 res)) :: lv5 y b i) dL_law__1591 (by decide) rfl ?_
  refine V_aload_n X' 3 dL_law__1593 rfl rfl ?_
  refine V_callVi X' (As := []) (M_X12_probe e2) (cwV 0 X.2.2.2.2.2.2.1 (gV wm_RL_237 wi_X12_probe wse_X12_probe win_RX12 wc_X12_probe) rfl rfl rfl hd_X12_probe ⟨Nat.le_of_ble_eq_true rfl, Nat.le_of_ble_eq_true rfl⟩) (b := (0, 32, 0)) ⟨by decide, rfl⟩ rfl rfl rfl rfl (Nat.le_of_ble_eq_true rfl) dL_law__1594 rfl ?_
  obtain ⟨t1, t2⟩ := tail_of hag (nw_X12_probe (v := hmem μ1 res (0, 31, 0) 0) rfl _ e2)
  exact V_tail X' t1 t2 dL_law__1597 dL_law__1599 dL_law__1600 dL_law__1603 dL_law__1605 dL_law__1610 dL_law__1612 dL_law__1615 dL_law__1616 dL_law__1617 dL_law__1618 dL_law__1620 dL_law__1621 dL_law__1622 dL_law__1627 (by decide) (K _ _ X' _ (by omega) (by omega) hI2)
theorem LC_pairs (X : LX p l e s m b below meth c Q D A y kc ks) (hR : kc + 6 ≤ room_1.cells ∧ ks + 1638 ≤ room_1.slots) (hlf : l.stackTraces = false) (hX : va_X b L xs s s.heap) (hbl : b < s.heap.size) (hbA : ¬ A b) (hin : ∀ k : Nat, k < 6 → vp_in (i + Int32.ofNat k) L) (hI : INV y μ) (K : LK p l e s m b below meth c Q D A y kc ks i) : V X μ 1630 (lv5 y b i) [] := by
  obtain ⟨⟨res, μ1⟩, e1, h1⟩ := OP_pairs (a1 := (sx xs i 1)) μ hI
  have X' := Cx.up X (kc' := kc + 1) (ks' := ks + 6) (by omega) (by omega)
  obtain ⟨⟨bq, μ2⟩, e2, hag, hI2⟩ := h1 (hmem μ1 res) hmem_fr
  dsimp only at e1 e2 hag hI2
  refine V_aload_n X 1 dL_law__1630 rfl rfl ?_
  refine V_scr (kv := Int32.ofNat 1) 0 4 X hX hbl hbA (hin 1 (by decide)) dL_law__1631 dL_law__1632 dL_law__1634 (by decide) dL_law__1635 dL_law__1636 rfl rfl ?_
  refine V_aload_n X 3 dL_law__1637 rfl rfl ?_
  refine V_callH X X' (As := [.ref (zad y (0, 0, 0)), .int (sx xs i 1), .ref (zad y (0, 31, 0))]) (H_pairs hlf e1) (vx_cwSW 3 X.2.2.2.2.2.2.1 (gS wmL_pairs wstL_pairs win_RL wcw_pairs) rfl rfl rfl hdL_pairs ⟨Nat.le_of_ble_eq_true rfl, Nat.le_of_ble_eq_true rfl⟩) rfl (Nat.le_of_ble_eq_true rfl) dL_law__1638 rfl ?_
  refine V_istore X' ((5, .int (hres cmB res)) :: lv5 y b i) dL_law__1641 (by decide) rfl ?_
  refine V_aload_n X' 3 dL_law__1643 rfl rfl ?_
  refine V_scr (kv := Int32.ofNat 1) 1 5 X' hX hbl hbA (hin 1 (by decide)) dL_law__1644 dL_law__1645 dL_law__1647 (by decide) dL_law__1648 dL_law__1649 rfl rfl ?_
  refine V_callVi X' (As := [.int (sx xs i 1)]) (M_X12_pairs e2) (cwV 1 X.2.2.2.2.2.2.1 (gV wm_RL_240 wi_X12_pairs wse_X12_pairs win_RX12 wc_X12_pairs) rfl rfl rfl hd_X12_pairs ⟨Nat.le_of_ble_eq_true rfl, Nat.le_of_ble_eq_true rfl⟩) (b := (0, 32, 0)) ⟨by decide, rfl⟩ rfl rfl rfl rfl (Nat.le_of_ble_eq_true rfl) dL_law__1650 rfl ?_
  obtain ⟨t1, t2⟩ := tail_of hag (nw_X12_pairs (v := hmem μ1 res (0, 31, 0) 0) rfl _ e2)
  exact V_tail X' t1 t2 dL_law__1653 dL_law__1655 dL_law__1656 dL_law__1659 dL_law__1661 dL_law__1666 dL_law__1668 dL_law__1671 dL_law__1672 dL_law__1673 dL_law__1674 dL_law__1676 dL_law__1677 dL_law__1678 dL_law__1683 (by decide) (K _ _ X' _ (by omega) (by omega) hI2)
theorem LC_share (X : LX p l e s m b below meth c Q D A y kc ks) (hR : kc + 6 ≤ room_1.cells ∧ ks + 1638 ≤ room_1.slots) (hlf : l.stackTraces = false) (hX : va_X b L xs s s.heap) (hbl : b < s.heap.size) (hbA : ¬ A b) (hin : ∀ k : Nat, k < 6 → vp_in (i + Int32.ofNat k) L) (hI : INV y μ) (K : LK p l e s m b below meth c Q D A y kc ks i) : V X μ 1686 (lv5 y b i) [] := by
  obtain ⟨⟨res, μ1⟩, e1, h1⟩ := OP_share (a1 := (sx xs i 1)) (a2 := (sx xs i 2)) μ hI
  have X' := Cx.up X (kc' := kc + 1) (ks' := ks + 6) (by omega) (by omega)
  obtain ⟨⟨bq, μ2⟩, e2, hag, hI2⟩ := h1 (hmem μ1 res) hmem_fr
  dsimp only at e1 e2 hag hI2
  refine V_aload_n X 1 dL_law__1686 rfl rfl ?_
  refine V_scr (kv := Int32.ofNat 1) 0 4 X hX hbl hbA (hin 1 (by decide)) dL_law__1687 dL_law__1688 dL_law__1690 (by decide) dL_law__1691 dL_law__1692 rfl rfl ?_
  refine V_scr (kv := Int32.ofNat 2) 0 4 X hX hbl hbA (hin 2 (by decide)) dL_law__1693 dL_law__1694 dL_law__1696 (by decide) dL_law__1697 dL_law__1698 rfl rfl ?_
  refine V_aload_n X 3 dL_law__1699 rfl rfl ?_
  refine V_callH X X' (As := [.ref (zad y (0, 0, 0)), .int (sx xs i 1), .int (sx xs i 2), .ref (zad y (0, 31, 0))]) (H_share hlf e1) (vx_cwSW 4 X.2.2.2.2.2.2.1 (gS wmL_share wstL_share win_RL wcw_share) rfl rfl rfl hdL_share ⟨Nat.le_of_ble_eq_true rfl, Nat.le_of_ble_eq_true rfl⟩) rfl (Nat.le_of_ble_eq_true rfl) dL_law__1700 rfl ?_
  refine V_istore X' ((5, .int (hres cmB res)) :: lv5 y b i) dL_law__1703 (by decide) rfl ?_
  refine V_aload_n X' 3 dL_law__1705 rfl rfl ?_
  refine V_scr (kv := Int32.ofNat 1) 1 5 X' hX hbl hbA (hin 1 (by decide)) dL_law__1706 dL_law__1707 dL_law__1709 (by decide) dL_law__1710 dL_law__1711 rfl rfl ?_
  refine V_scr (kv := Int32.ofNat 2) 1 5 X' hX hbl hbA (hin 2 (by decide)) dL_law__1712 dL_law__1713 dL_law__1715 (by decide) dL_law__1716 dL_law__1717 rfl rfl ?_
  refine V_callVi X' (As := [.int (sx xs i 1), .int (sx xs i 2)]) (M_X12_share e2) (cwV 2 X.2.2.2.2.2.2.1 (gV wm_RL_243 wi_X12_share wse_X12_share win_RX12 wc_X12_share) rfl rfl rfl hd_X12_share ⟨Nat.le_of_ble_eq_true rfl, Nat.le_of_ble_eq_true rfl⟩) (b := (0, 32, 0)) ⟨by decide, rfl⟩ rfl rfl rfl rfl (Nat.le_of_ble_eq_true rfl) dL_law__1718 rfl ?_
  obtain ⟨t1, t2⟩ := tail_of hag (nw_X12_share (v := hmem μ1 res (0, 31, 0) 0) rfl _ e2)
  exact V_tail X' t1 t2 dL_law__1721 dL_law__1723 dL_law__1724 dL_law__1727 dL_law__1729 dL_law__1734 dL_law__1736 dL_law__1739 dL_law__1740 dL_law__1741 dL_law__1742 dL_law__1744 dL_law__1745 dL_law__1746 dL_law__1751 (by decide) (K _ _ X' _ (by omega) (by omega) hI2)
theorem LC_rests (X : LX p l e s m b below meth c Q D A y kc ks) (hR : kc + 6 ≤ room_1.cells ∧ ks + 1638 ≤ room_1.slots) (hlf : l.stackTraces = false) (hX : va_X b L xs s s.heap) (hbl : b < s.heap.size) (hbA : ¬ A b) (hin : ∀ k : Nat, k < 6 → vp_in (i + Int32.ofNat k) L) (hI : INV y μ) (K : LK p l e s m b below meth c Q D A y kc ks i) : V X μ 1754 (lv5 y b i) [] := by
  obtain ⟨⟨res, μ1⟩, e1, h1⟩ := OP_rests (a1 := (sx xs i 1)) μ hI
  have X' := Cx.up X (kc' := kc + 1) (ks' := ks + 6) (by omega) (by omega)
  obtain ⟨⟨bq, μ2⟩, e2, hag, hI2⟩ := h1 (hmem μ1 res) hmem_fr
  dsimp only at e1 e2 hag hI2
  refine V_aload_n X 1 dL_law__1754 rfl rfl ?_
  refine V_scr (kv := Int32.ofNat 1) 0 4 X hX hbl hbA (hin 1 (by decide)) dL_law__1755 dL_law__1756 dL_law__1758 (by decide) dL_law__1759 dL_law__1760 rfl rfl ?_
  refine V_aload_n X 3 dL_law__1761 rfl rfl ?_
  refine V_callH X X' (As := [.ref (zad y (0, 0, 0)), .int (sx xs i 1), .ref (zad y (0, 31, 0))]) (H_rests hlf e1) (vx_cwSW 3 X.2.2.2.2.2.2.1 (gS wmL_rests wstL_rests win_RL wcw_rests) rfl rfl rfl hdL_rests ⟨Nat.le_of_ble_eq_true rfl, Nat.le_of_ble_eq_true rfl⟩) rfl (Nat.le_of_ble_eq_true rfl) dL_law__1762 rfl ?_
  refine V_istore X' ((5, .int (hres cmB res)) :: lv5 y b i) dL_law__1765 (by decide) rfl ?_
  refine V_aload_n X' 3 dL_law__1767 rfl rfl ?_
  refine V_scr (kv := Int32.ofNat 1) 1 5 X' hX hbl hbA (hin 1 (by decide)) dL_law__1768 dL_law__1769 dL_law__1771 (by decide) dL_law__1772 dL_law__1773 rfl rfl ?_
  refine V_callVi X' (As := [.int (sx xs i 1)]) (M_X12_rests e2) (cwV 1 X.2.2.2.2.2.2.1 (gV wm_RL_246 wi_X12_rests wse_X12_rests win_RX12 wc_X12_rests) rfl rfl rfl hd_X12_rests ⟨Nat.le_of_ble_eq_true rfl, Nat.le_of_ble_eq_true rfl⟩) (b := (0, 32, 0)) ⟨by decide, rfl⟩ rfl rfl rfl rfl (Nat.le_of_ble_eq_true rfl) dL_law__1774 rfl ?_
  obtain ⟨t1, t2⟩ := tail_of hag (nw_X12_rests (v := hmem μ1 res (0, 31, 0) 0) rfl _ e2)
  exact V_tail X' t1 t2 dL_law__1777 dL_law__1779 dL_law__1780 dL_law__1783 dL_law__1785 dL_law__1790 dL_law__1792 dL_law__1795 dL_law__1796 dL_law__1797 dL_law__1798 dL_law__1800 dL_law__1801 dL_law__1802 dL_law__1807 (by decide) (K _ _ X' _ (by omega) (by omega) hI2)
theorem LC_odds (X : LX p l e s m b below meth c Q D A y kc ks) (hR : kc + 6 ≤ room_1.cells ∧ ks + 1638 ≤ room_1.slots) (hlf : l.stackTraces = false) (hX : va_X b L xs s s.heap) (hbl : b < s.heap.size) (hbA : ¬ A b) (hin : ∀ k : Nat, k < 6 → vp_in (i + Int32.ofNat k) L) (hI : INV y μ) (K : LK p l e s m b below meth c Q D A y kc ks i) : V X μ 1810 (lv5 y b i) [] := by
  obtain ⟨⟨res, μ1⟩, e1, h1⟩ := OP_odds (a1 := (sx xs i 1)) (a2 := (sx xs i 2)) (a3 := (sx xs i 3)) μ hI
  have X' := Cx.up X (kc' := kc + 1) (ks' := ks + 6) (by omega) (by omega)
  obtain ⟨⟨bq, μ2⟩, e2, hag, hI2⟩ := h1 (hmem μ1 res) hmem_fr
  dsimp only at e1 e2 hag hI2
  refine V_aload_n X 1 dL_law__1810 rfl rfl ?_
  refine V_scr (kv := Int32.ofNat 1) 0 4 X hX hbl hbA (hin 1 (by decide)) dL_law__1811 dL_law__1812 dL_law__1814 (by decide) dL_law__1815 dL_law__1816 rfl rfl ?_
  refine V_scr (kv := Int32.ofNat 2) 0 4 X hX hbl hbA (hin 2 (by decide)) dL_law__1817 dL_law__1818 dL_law__1820 (by decide) dL_law__1821 dL_law__1822 rfl rfl ?_
  refine V_scr (kv := Int32.ofNat 3) 0 4 X hX hbl hbA (hin 3 (by decide)) dL_law__1823 dL_law__1824 dL_law__1826 (by decide) dL_law__1827 dL_law__1828 rfl rfl ?_
  refine V_aload_n X 3 dL_law__1829 rfl rfl ?_
  refine V_callH X X' (As := [.ref (zad y (0, 0, 0)), .int (sx xs i 1), .int (sx xs i 2), .int (sx xs i 3), .ref (zad y (0, 31, 0))]) (H_odds hlf e1) (vx_cwSW 5 X.2.2.2.2.2.2.1 (gS wmL_odds wstL_odds win_RL wcw_odds) rfl rfl rfl hdL_odds ⟨Nat.le_of_ble_eq_true rfl, Nat.le_of_ble_eq_true rfl⟩) rfl (Nat.le_of_ble_eq_true rfl) dL_law__1830 rfl ?_
  refine V_istore X' ((5, .int (hres cmB res)) :: lv5 y b i) dL_law__1833 (by decide) rfl ?_
  refine V_aload_n X' 3 dL_law__1835 rfl rfl ?_
  refine V_scr (kv := Int32.ofNat 1) 1 5 X' hX hbl hbA (hin 1 (by decide)) dL_law__1836 dL_law__1837 dL_law__1839 (by decide) dL_law__1840 dL_law__1841 rfl rfl ?_
  refine V_scr (kv := Int32.ofNat 2) 1 5 X' hX hbl hbA (hin 2 (by decide)) dL_law__1842 dL_law__1843 dL_law__1845 (by decide) dL_law__1846 dL_law__1847 rfl rfl ?_
  refine V_scr (kv := Int32.ofNat 3) 1 5 X' hX hbl hbA (hin 3 (by decide)) dL_law__1848 dL_law__1849 dL_law__1851 (by decide) dL_law__1852 dL_law__1853 rfl rfl ?_
  refine V_callVi X' (As := [.int (sx xs i 1), .int (sx xs i 2), .int (sx xs i 3)]) (M_X12_odds e2) (cwV 3 X.2.2.2.2.2.2.1 (gV wm_RL_249 wi_X12_odds wse_X12_odds win_RX12 wc_X12_odds) rfl rfl rfl hd_X12_odds ⟨Nat.le_of_ble_eq_true rfl, Nat.le_of_ble_eq_true rfl⟩) (b := (0, 32, 0)) ⟨by decide, rfl⟩ rfl rfl rfl rfl (Nat.le_of_ble_eq_true rfl) dL_law__1854 rfl ?_
  obtain ⟨t1, t2⟩ := tail_of hag (nw_X12_odds (v := hmem μ1 res (0, 31, 0) 0) rfl _ e2)
  exact V_tail X' t1 t2 dL_law__1857 dL_law__1859 dL_law__1860 dL_law__1863 dL_law__1865 dL_law__1870 dL_law__1872 dL_law__1875 dL_law__1876 dL_law__1877 dL_law__1878 dL_law__1880 dL_law__1881 dL_law__1882 dL_law__1887 (by decide) (K _ _ X' _ (by omega) (by omega) hI2)
theorem LC_most (X : LX p l e s m b below meth c Q D A y kc ks) (hR : kc + 6 ≤ room_1.cells ∧ ks + 1638 ≤ room_1.slots) (hlf : l.stackTraces = false) (hX : va_X b L xs s s.heap) (hbl : b < s.heap.size) (hbA : ¬ A b) (hin : ∀ k : Nat, k < 6 → vp_in (i + Int32.ofNat k) L) (hI : INV y μ) (K : LK p l e s m b below meth c Q D A y kc ks i) : V X μ 1890 (lv5 y b i) [] := by
  obtain ⟨⟨res, μ1⟩, e1, h1⟩ := OP_most (a1 := (sx xs i 1)) μ hI
  have X' := Cx.up X (kc' := kc + 1) (ks' := ks + 6) (by omega) (by omega)
  obtain ⟨⟨bq, μ2⟩, e2, hag, hI2⟩ := h1 (hmem μ1 res) hmem_fr
  dsimp only at e1 e2 hag hI2
  refine V_aload_n X 1 dL_law__1890 rfl rfl ?_
  refine V_scr (kv := Int32.ofNat 1) 0 4 X hX hbl hbA (hin 1 (by decide)) dL_law__1891 dL_law__1892 dL_law__1894 (by decide) dL_law__1895 dL_law__1896 rfl rfl ?_
  refine V_aload_n X 3 dL_law__1897 rfl rfl ?_
  refine V_callH X X' (As := [.ref (zad y (0, 0, 0)), .int (sx xs i 1), .ref (zad y (0, 31, 0))]) (H_most hlf e1) (vx_cwSW 3 X.2.2.2.2.2.2.1 (gS wmL_most wstL_most win_RL wcw_most) rfl rfl rfl hdL_most ⟨Nat.le_of_ble_eq_true rfl, Nat.le_of_ble_eq_true rfl⟩) rfl (Nat.le_of_ble_eq_true rfl) dL_law__1898 rfl ?_
  refine V_istore X' ((5, .int (hres cm1 res)) :: lv5 y b i) dL_law__1901 (by decide) rfl ?_
  refine V_aload_n X' 3 dL_law__1903 rfl rfl ?_
  refine V_scr (kv := Int32.ofNat 1) 1 5 X' hX hbl hbA (hin 1 (by decide)) dL_law__1904 dL_law__1905 dL_law__1907 (by decide) dL_law__1908 dL_law__1909 rfl rfl ?_
  refine V_callVi X' (As := [.int (sx xs i 1)]) (M_X12_most e2) (cwV 1 X.2.2.2.2.2.2.1 (gV wm_RL_252 wi_X12_most wse_X12_most win_RX12 wc_X12_most) rfl rfl rfl hd_X12_most ⟨Nat.le_of_ble_eq_true rfl, Nat.le_of_ble_eq_true rfl⟩) (b := (0, 32, 0)) ⟨by decide, rfl⟩ rfl rfl rfl rfl (Nat.le_of_ble_eq_true rfl) dL_law__1910 rfl ?_
  obtain ⟨t1, t2⟩ := tail_of hag (nw_X12_most (v := hmem μ1 res (0, 31, 0) 0) rfl _ e2)
  exact V_tail X' t1 t2 dL_law__1913 dL_law__1915 dL_law__1916 dL_law__1919 dL_law__1921 dL_law__1926 dL_law__1928 dL_law__1931 dL_law__1932 dL_law__1933 dL_law__1934 dL_law__1936 dL_law__1937 dL_law__1938 dL_law__1943 (by decide) (K _ _ X' _ (by omega) (by omega) hI2)
theorem LC_byState (X : LX p l e s m b below meth c Q D A y kc ks) (hR : kc + 6 ≤ room_1.cells ∧ ks + 1638 ≤ room_1.slots) (hlf : l.stackTraces = false) (hX : va_X b L xs s s.heap) (hbl : b < s.heap.size) (hbA : ¬ A b) (hin : ∀ k : Nat, k < 6 → vp_in (i + Int32.ofNat k) L) (hI : INV y μ) (K : LK p l e s m b below meth c Q D A y kc ks i) : V X μ 1946 (lv5 y b i) [] := by
  obtain ⟨⟨res, μ1⟩, e1, h1⟩ := OP_byState (a1 := (sx xs i 1)) μ hI
  have X' := Cx.up X (kc' := kc + 1) (ks' := ks + 6) (by omega) (by omega)
  obtain ⟨⟨bq, μ2⟩, e2, hag, hI2⟩ := h1 (hmem μ1 res) hmem_fr
  dsimp only at e1 e2 hag hI2
  refine V_aload_n X 1 dL_law__1946 rfl rfl ?_
  refine V_scr (kv := Int32.ofNat 1) 0 4 X hX hbl hbA (hin 1 (by decide)) dL_law__1947 dL_law__1948 dL_law__1950 (by decide) dL_law__1951 dL_law__1952 rfl rfl ?_
  refine V_aload_n X 3 dL_law__1953 rfl rfl ?_
  refine V_callH X X' (As := [.ref (zad y (0, 0, 0)), .int (sx xs i 1), .ref (zad y (0, 31, 0))]) (H_byState hlf e1) (vx_cwSW 3 X.2.2.2.2.2.2.1 (gS wmL_byState wstL_byState win_RL wcw_byState) rfl rfl rfl hdL_byState ⟨Nat.le_of_ble_eq_true rfl, Nat.le_of_ble_eq_true rfl⟩) rfl (Nat.le_of_ble_eq_true rfl) dL_law__1954 rfl ?_
  refine V_istore X' ((5, .int (hres cm1 res)) :: lv5 y b i) dL_law__1957 (by decide) rfl ?_
  refine V_aload_n X' 3 dL_law__1959 rfl rfl ?_
  refine V_scr (kv := Int32.ofNat 1) 1 5 X' hX hbl hbA (hin 1 (by decide)) dL_law__1960 dL_law__1961 dL_law__1963 (by decide) dL_law__1964 dL_law__1965 rfl rfl ?_
  refine V_callVi X' (As := [.int (sx xs i 1)]) (M_X12_byState e2) (cwV 1 X.2.2.2.2.2.2.1 (gV wm_RL_255 wi_X12_byState wse_X12_byState win_RX12 wc_X12_byState) rfl rfl rfl hd_X12_byState ⟨Nat.le_of_ble_eq_true rfl, Nat.le_of_ble_eq_true rfl⟩) (b := (0, 32, 0)) ⟨by decide, rfl⟩ rfl rfl rfl rfl (Nat.le_of_ble_eq_true rfl) dL_law__1966 rfl ?_
  obtain ⟨t1, t2⟩ := tail_of hag (nw_X12_byState (v := hmem μ1 res (0, 31, 0) 0) rfl _ e2)
  exact V_tail X' t1 t2 dL_law__1969 dL_law__1971 dL_law__1972 dL_law__1975 dL_law__1977 dL_law__1982 dL_law__1984 dL_law__1987 dL_law__1988 dL_law__1989 dL_law__1990 dL_law__1992 dL_law__1993 dL_law__1994 dL_law__1999 (by decide) (K _ _ X' _ (by omega) (by omega) hI2)
theorem LC_twins (X : LX p l e s m b below meth c Q D A y kc ks) (hR : kc + 6 ≤ room_1.cells ∧ ks + 1638 ≤ room_1.slots) (hlf : l.stackTraces = false) (hX : va_X b L xs s s.heap) (hbl : b < s.heap.size) (hbA : ¬ A b) (hin : ∀ k : Nat, k < 6 → vp_in (i + Int32.ofNat k) L) (hI : INV y μ) (K : LK p l e s m b below meth c Q D A y kc ks i) : V X μ 2002 (lv5 y b i) [] := by
  obtain ⟨v, e1, ⟨bq, μ2⟩, e2, hv, hI2⟩ := OP_twins μ hI
  dsimp only at e1 e2 hv hI2
  refine V_aload_n X 1 dL_law__2002 rfl rfl ?_
  refine V_callVi X (As := []) (M_X11_twins e1) (cwV 0 X.2.2.2.2.2.2.1 (gV wm_RL_256 wi_X11_twins wse_X11_twins win_RX11 wc_X11_twins) rfl rfl rfl hd_X11_twins ⟨Nat.le_of_ble_eq_true rfl, Nat.le_of_ble_eq_true rfl⟩) (b := (0, 0, 0)) ⟨by decide, rfl⟩ rfl rfl rfl rfl (Nat.le_of_ble_eq_true rfl) dL_law__2003 rfl ?_
  refine V_aload_n X 2 dL_law__2006 rfl rfl ?_
  refine V_callVi X (As := []) (M_X12_twins e2) (cwV 0 X.2.2.2.2.2.2.1 (gV wm_RL_259 wi_X12_twins wse_X12_twins win_RX12 wc_X12_twins) rfl rfl rfl hd_X12_twins ⟨Nat.le_of_ble_eq_true rfl, Nat.le_of_ble_eq_true rfl⟩) (b := (0, 32, 0)) ⟨by decide, rfl⟩ rfl rfl rfl rfl (Nat.le_of_ble_eq_true rfl) dL_law__2007 rfl ?_
  refine V_icmp_eq X (tgt := 2518) dL_law__2010 (by decide) (fun _ => K _ _ X _ (by omega) (by omega) hI2) (fun hn => (hn hv.symm).elim)
theorem LC_ahead (X : LX p l e s m b below meth c Q D A y kc ks) (hR : kc + 6 ≤ room_1.cells ∧ ks + 1638 ≤ room_1.slots) (hlf : l.stackTraces = false) (hX : va_X b L xs s s.heap) (hbl : b < s.heap.size) (hbA : ¬ A b) (hin : ∀ k : Nat, k < 6 → vp_in (i + Int32.ofNat k) L) (hI : INV y μ) (K : LK p l e s m b below meth c Q D A y kc ks i) : V X μ 2015 (lv5 y b i) [] := by
  obtain ⟨⟨res, μ1⟩, e1, h1⟩ := OP_ahead (a1 := (sx xs i 1)) (a2 := (sx xs i 2)) (a3 := (zb1 (sx xs i 3))) μ hI
  have X' := Cx.up X (kc' := kc + 1) (ks' := ks + 6) (by omega) (by omega)
  obtain ⟨⟨bq, μ2⟩, e2, hag, hI2⟩ := h1 (hmem μ1 res) hmem_fr
  dsimp only at e1 e2 hag hI2
  refine V_aload_n X 1 dL_law__2015 rfl rfl ?_
  refine V_scr (kv := Int32.ofNat 1) 0 4 X hX hbl hbA (hin 1 (by decide)) dL_law__2016 dL_law__2017 dL_law__2019 (by decide) dL_law__2020 dL_law__2021 rfl rfl ?_
  refine V_scr (kv := Int32.ofNat 2) 0 4 X hX hbl hbA (hin 2 (by decide)) dL_law__2022 dL_law__2023 dL_law__2025 (by decide) dL_law__2026 dL_law__2027 rfl rfl ?_
  refine V_scr (kv := Int32.ofNat 3) 0 4 X hX hbl hbA (hin 3 (by decide)) dL_law__2028 dL_law__2029 dL_law__2031 (by decide) dL_law__2032 dL_law__2033 rfl rfl ?_
  refine V_nz X dL_law__2034 (by decide) dL_law__2037 dL_law__2038 (by decide) dL_law__2041 ?_
  refine V_aload_n X 3 dL_law__2042 rfl rfl ?_
  refine V_callH X X' (As := [.ref (zad y (0, 0, 0)), .int (sx xs i 1), .int (sx xs i 2), .int (zb1 (sx xs i 3)), .ref (zad y (0, 31, 0))]) (H_ahead hlf e1) (vx_cwSW 5 X.2.2.2.2.2.2.1 (gS wmL_ahead wstL_ahead win_RL wcw_ahead) rfl rfl rfl hdL_ahead ⟨Nat.le_of_ble_eq_true rfl, Nat.le_of_ble_eq_true rfl⟩) rfl (Nat.le_of_ble_eq_true rfl) dL_law__2043 rfl ?_
  refine V_istore X' ((5, .int (hres cmB res)) :: lv5 y b i) dL_law__2046 (by decide) rfl ?_
  refine V_aload_n X' 3 dL_law__2048 rfl rfl ?_
  refine V_scr (kv := Int32.ofNat 1) 1 5 X' hX hbl hbA (hin 1 (by decide)) dL_law__2049 dL_law__2050 dL_law__2052 (by decide) dL_law__2053 dL_law__2054 rfl rfl ?_
  refine V_scr (kv := Int32.ofNat 2) 1 5 X' hX hbl hbA (hin 2 (by decide)) dL_law__2055 dL_law__2056 dL_law__2058 (by decide) dL_law__2059 dL_law__2060 rfl rfl ?_
  refine V_scr (kv := Int32.ofNat 3) 1 5 X' hX hbl hbA (hin 3 (by decide)) dL_law__2061 dL_law__2062 dL_law__2064 (by decide) dL_law__2065 dL_law__2066 rfl rfl ?_
  refine V_nz X' dL_law__2067 (by decide) dL_law__2070 dL_law__2071 (by decide) dL_law__2074 ?_
  refine V_callVi X' (As := [.int (sx xs i 1), .int (sx xs i 2), .int (zb1 (sx xs i 3))]) (M_X12_ahead e2) (cwV 3 X.2.2.2.2.2.2.1 (gV wm_RL_263 wi_X12_ahead wse_X12_ahead win_RX12 wc_X12_ahead) rfl rfl rfl hd_X12_ahead ⟨Nat.le_of_ble_eq_true rfl, Nat.le_of_ble_eq_true rfl⟩) (b := (0, 32, 0)) ⟨by decide, rfl⟩ rfl rfl rfl rfl (Nat.le_of_ble_eq_true rfl) dL_law__2075 rfl ?_
  obtain ⟨t1, t2⟩ := tail_of hag (nw_X12_ahead (v := hmem μ1 res (0, 31, 0) 0) rfl _ e2)
  exact V_tail X' t1 t2 dL_law__2078 dL_law__2080 dL_law__2081 dL_law__2084 dL_law__2086 dL_law__2091 dL_law__2093 dL_law__2096 dL_law__2097 dL_law__2098 dL_law__2099 dL_law__2101 dL_law__2102 dL_law__2103 dL_law__2108 (by decide) (K _ _ X' _ (by omega) (by omega) hI2)
theorem LC_trial (X : LX p l e s m b below meth c Q D A y kc ks) (hR : kc + 6 ≤ room_1.cells ∧ ks + 1638 ≤ room_1.slots) (hlf : l.stackTraces = false) (hX : va_X b L xs s s.heap) (hbl : b < s.heap.size) (hbA : ¬ A b) (hin : ∀ k : Nat, k < 6 → vp_in (i + Int32.ofNat k) L) (hI : INV y μ) (K : LK p l e s m b below meth c Q D A y kc ks i) : V X μ 2111 (lv5 y b i) [] := by
  obtain ⟨⟨res, μ1⟩, e1, h1⟩ := OP_trial (a1 := (sx xs i 1)) (a2 := (zb1 (sx xs i 2))) μ hI
  have X' := Cx.up X (kc' := kc + 1) (ks' := ks + 6) (by omega) (by omega)
  obtain ⟨⟨bq, μ2⟩, e2, hag, hI2⟩ := h1 (hmem μ1 res) hmem_fr
  dsimp only at e1 e2 hag hI2
  refine V_aload_n X 1 dL_law__2111 rfl rfl ?_
  refine V_scr (kv := Int32.ofNat 1) 0 4 X hX hbl hbA (hin 1 (by decide)) dL_law__2112 dL_law__2113 dL_law__2115 (by decide) dL_law__2116 dL_law__2117 rfl rfl ?_
  refine V_scr (kv := Int32.ofNat 2) 0 4 X hX hbl hbA (hin 2 (by decide)) dL_law__2118 dL_law__2119 dL_law__2121 (by decide) dL_law__2122 dL_law__2123 rfl rfl ?_
  refine V_nz X dL_law__2124 (by decide) dL_law__2127 dL_law__2128 (by decide) dL_law__2131 ?_
  refine V_aload_n X 3 dL_law__2132 rfl rfl ?_
  refine V_callH X X' (As := [.ref (zad y (0, 0, 0)), .int (sx xs i 1), .int (zb1 (sx xs i 2)), .ref (zad y (0, 31, 0))]) (H_trial hlf e1) (vx_cwSW 4 X.2.2.2.2.2.2.1 (gS wmL_trial wstL_trial win_RL wcw_trial) rfl rfl rfl hdL_trial ⟨Nat.le_of_ble_eq_true rfl, Nat.le_of_ble_eq_true rfl⟩) rfl (Nat.le_of_ble_eq_true rfl) dL_law__2133 rfl ?_
  refine V_istore X' ((5, .int (hres cm1 res)) :: lv5 y b i) dL_law__2136 (by decide) rfl ?_
  refine V_aload_n X' 3 dL_law__2138 rfl rfl ?_
  refine V_scr (kv := Int32.ofNat 1) 1 5 X' hX hbl hbA (hin 1 (by decide)) dL_law__2139 dL_law__2140 dL_law__2142 (by decide) dL_law__2143 dL_law__2144 rfl rfl ?_
  refine V_scr (kv := Int32.ofNat 2) 1 5 X' hX hbl hbA (hin 2 (by decide)) dL_law__2145 dL_law__2146 dL_law__2148 (by decide) dL_law__2149 dL_law__2150 rfl rfl ?_
  refine V_nz X' dL_law__2151 (by decide) dL_law__2154 dL_law__2155 (by decide) dL_law__2158 ?_
  refine V_callVi X' (As := [.int (sx xs i 1), .int (zb1 (sx xs i 2))]) (M_X12_trial e2) (cwV 2 X.2.2.2.2.2.2.1 (gV wm_RL_266 wi_X12_trial wse_X12_trial win_RX12 wc_X12_trial) rfl rfl rfl hd_X12_trial ⟨Nat.le_of_ble_eq_true rfl, Nat.le_of_ble_eq_true rfl⟩) (b := (0, 32, 0)) ⟨by decide, rfl⟩ rfl rfl rfl rfl (Nat.le_of_ble_eq_true rfl) dL_law__2159 rfl ?_
  obtain ⟨t1, t2⟩ := tail_of hag (nw_X12_trial (v := hmem μ1 res (0, 31, 0) 0) rfl _ e2)
  exact V_tail X' t1 t2 dL_law__2162 dL_law__2164 dL_law__2165 dL_law__2168 dL_law__2170 dL_law__2175 dL_law__2177 dL_law__2180 dL_law__2181 dL_law__2182 dL_law__2183 dL_law__2185 dL_law__2186 dL_law__2187 dL_law__2192 (by decide) (K _ _ X' _ (by omega) (by omega) hI2)
theorem LC_span (X : LX p l e s m b below meth c Q D A y kc ks) (hR : kc + 6 ≤ room_1.cells ∧ ks + 1638 ≤ room_1.slots) (hlf : l.stackTraces = false) (hX : va_X b L xs s s.heap) (hbl : b < s.heap.size) (hbA : ¬ A b) (hin : ∀ k : Nat, k < 6 → vp_in (i + Int32.ofNat k) L) (hI : INV y μ) (K : LK p l e s m b below meth c Q D A y kc ks i) : V X μ 2195 (lv5 y b i) [] := by
  obtain ⟨⟨res, μ1⟩, e1, h1⟩ := OP_span (a1 := (sx xs i 1)) (a2 := (zb1 (sx xs i 2))) μ hI
  have X' := Cx.up X (kc' := kc + 1) (ks' := ks + 6) (by omega) (by omega)
  obtain ⟨⟨bq, μ2⟩, e2, hag, hI2⟩ := h1 (hmem μ1 res) hmem_fr
  dsimp only at e1 e2 hag hI2
  refine V_aload_n X 1 dL_law__2195 rfl rfl ?_
  refine V_scr (kv := Int32.ofNat 1) 0 4 X hX hbl hbA (hin 1 (by decide)) dL_law__2196 dL_law__2197 dL_law__2199 (by decide) dL_law__2200 dL_law__2201 rfl rfl ?_
  refine V_scr (kv := Int32.ofNat 2) 0 4 X hX hbl hbA (hin 2 (by decide)) dL_law__2202 dL_law__2203 dL_law__2205 (by decide) dL_law__2206 dL_law__2207 rfl rfl ?_
  refine V_nz X dL_law__2208 (by decide) dL_law__2211 dL_law__2212 (by decide) dL_law__2215 ?_
  refine V_aload_n X 3 dL_law__2216 rfl rfl ?_
  refine V_callH X X' (As := [.ref (zad y (0, 0, 0)), .int (sx xs i 1), .int (zb1 (sx xs i 2)), .ref (zad y (0, 31, 0))]) (H_span hlf e1) (vx_cwSW 4 X.2.2.2.2.2.2.1 (gS wmL_span wstL_span win_RL wcw_span) rfl rfl rfl hdL_span ⟨Nat.le_of_ble_eq_true rfl, Nat.le_of_ble_eq_true rfl⟩) rfl (Nat.le_of_ble_eq_true rfl) dL_law__2217 rfl ?_
  refine V_istore X' ((5, .int (hres cm1 res)) :: lv5 y b i) dL_law__2220 (by decide) rfl ?_
  refine V_aload_n X' 3 dL_law__2222 rfl rfl ?_
  refine V_scr (kv := Int32.ofNat 1) 1 5 X' hX hbl hbA (hin 1 (by decide)) dL_law__2223 dL_law__2224 dL_law__2226 (by decide) dL_law__2227 dL_law__2228 rfl rfl ?_
  refine V_scr (kv := Int32.ofNat 2) 1 5 X' hX hbl hbA (hin 2 (by decide)) dL_law__2229 dL_law__2230 dL_law__2232 (by decide) dL_law__2233 dL_law__2234 rfl rfl ?_
  refine V_nz X' dL_law__2235 (by decide) dL_law__2238 dL_law__2239 (by decide) dL_law__2242 ?_
  refine V_callVi X' (As := [.int (sx xs i 1), .int (zb1 (sx xs i 2))]) (M_X12_span e2) (cwV 2 X.2.2.2.2.2.2.1 (gV wm_RL_269 wi_X12_span wse_X12_span win_RX12 wc_X12_span) rfl rfl rfl hd_X12_span ⟨Nat.le_of_ble_eq_true rfl, Nat.le_of_ble_eq_true rfl⟩) (b := (0, 32, 0)) ⟨by decide, rfl⟩ rfl rfl rfl rfl (Nat.le_of_ble_eq_true rfl) dL_law__2243 rfl ?_
  obtain ⟨t1, t2⟩ := tail_of hag (nw_X12_span (v := hmem μ1 res (0, 31, 0) 0) rfl _ e2)
  exact V_tail X' t1 t2 dL_law__2246 dL_law__2248 dL_law__2249 dL_law__2252 dL_law__2254 dL_law__2259 dL_law__2261 dL_law__2264 dL_law__2265 dL_law__2266 dL_law__2267 dL_law__2269 dL_law__2270 dL_law__2271 dL_law__2276 (by decide) (K _ _ X' _ (by omega) (by omega) hI2)
theorem LC_led (X : LX p l e s m b below meth c Q D A y kc ks) (hR : kc + 6 ≤ room_1.cells ∧ ks + 1638 ≤ room_1.slots) (hlf : l.stackTraces = false) (hX : va_X b L xs s s.heap) (hbl : b < s.heap.size) (hbA : ¬ A b) (hin : ∀ k : Nat, k < 6 → vp_in (i + Int32.ofNat k) L) (hI : INV y μ) (K : LK p l e s m b below meth c Q D A y kc ks i) : V X μ 2279 (lv5 y b i) [] := by
  obtain ⟨⟨res, μ1⟩, e1, h1⟩ := OP_led (a1 := (sx xs i 1)) (a2 := (zb1 (sx xs i 2))) μ hI
  have X' := Cx.up X (kc' := kc + 1) (ks' := ks + 6) (by omega) (by omega)
  obtain ⟨⟨bq, μ2⟩, e2, hag, hI2⟩ := h1 (hmem μ1 res) hmem_fr
  dsimp only at e1 e2 hag hI2
  refine V_aload_n X 1 dL_law__2279 rfl rfl ?_
  refine V_scr (kv := Int32.ofNat 1) 0 4 X hX hbl hbA (hin 1 (by decide)) dL_law__2280 dL_law__2281 dL_law__2283 (by decide) dL_law__2284 dL_law__2285 rfl rfl ?_
  refine V_scr (kv := Int32.ofNat 2) 0 4 X hX hbl hbA (hin 2 (by decide)) dL_law__2286 dL_law__2287 dL_law__2289 (by decide) dL_law__2290 dL_law__2291 rfl rfl ?_
  refine V_nz X dL_law__2292 (by decide) dL_law__2295 dL_law__2296 (by decide) dL_law__2299 ?_
  refine V_aload_n X 3 dL_law__2300 rfl rfl ?_
  refine V_callH X X' (As := [.ref (zad y (0, 0, 0)), .int (sx xs i 1), .int (zb1 (sx xs i 2)), .ref (zad y (0, 31, 0))]) (H_led hlf e1) (vx_cwSW 4 X.2.2.2.2.2.2.1 (gS wmL_led wstL_led win_RL wcw_led) rfl rfl rfl hdL_led ⟨Nat.le_of_ble_eq_true rfl, Nat.le_of_ble_eq_true rfl⟩) rfl (Nat.le_of_ble_eq_true rfl) dL_law__2301 rfl ?_
  refine V_istore X' ((5, .int (hres cmB res)) :: lv5 y b i) dL_law__2304 (by decide) rfl ?_
  refine V_aload_n X' 3 dL_law__2306 rfl rfl ?_
  refine V_scr (kv := Int32.ofNat 1) 1 5 X' hX hbl hbA (hin 1 (by decide)) dL_law__2307 dL_law__2308 dL_law__2310 (by decide) dL_law__2311 dL_law__2312 rfl rfl ?_
  refine V_scr (kv := Int32.ofNat 2) 1 5 X' hX hbl hbA (hin 2 (by decide)) dL_law__2313 dL_law__2314 dL_law__2316 (by decide) dL_law__2317 dL_law__2318 rfl rfl ?_
  refine V_nz X' dL_law__2319 (by decide) dL_law__2322 dL_law__2323 (by decide) dL_law__2326 ?_
  refine V_callVi X' (As := [.int (sx xs i 1), .int (zb1 (sx xs i 2))]) (M_X12_led e2) (cwV 2 X.2.2.2.2.2.2.1 (gV wm_RL_272 wi_X12_led wse_X12_led win_RX12 wc_X12_led) rfl rfl rfl hd_X12_led ⟨Nat.le_of_ble_eq_true rfl, Nat.le_of_ble_eq_true rfl⟩) (b := (0, 32, 0)) ⟨by decide, rfl⟩ rfl rfl rfl rfl (Nat.le_of_ble_eq_true rfl) dL_law__2327 rfl ?_
  obtain ⟨t1, t2⟩ := tail_of hag (nw_X12_led (v := hmem μ1 res (0, 31, 0) 0) rfl _ e2)
  exact V_tail X' t1 t2 dL_law__2330 dL_law__2332 dL_law__2333 dL_law__2336 dL_law__2338 dL_law__2343 dL_law__2345 dL_law__2348 dL_law__2349 dL_law__2350 dL_law__2351 dL_law__2353 dL_law__2354 dL_law__2355 dL_law__2360 (by decide) (K _ _ X' _ (by omega) (by omega) hI2)
theorem LC_log (X : LX p l e s m b below meth c Q D A y kc ks) (hR : kc + 6 ≤ room_1.cells ∧ ks + 1638 ≤ room_1.slots) (hlf : l.stackTraces = false) (hX : va_X b L xs s s.heap) (hbl : b < s.heap.size) (hbA : ¬ A b) (hin : ∀ k : Nat, k < 6 → vp_in (i + Int32.ofNat k) L) (hI : INV y μ) (K : LK p l e s m b below meth c Q D A y kc ks i) : V X μ 2363 (lv5 y b i) [] := by
  obtain ⟨⟨res, μ1⟩, e1, h1⟩ := OP_log (a1 := (sx xs i 1)) (a2 := (sx xs i 2)) μ hI
  have X' := Cx.up X (kc' := kc + 1) (ks' := ks + 6) (by omega) (by omega)
  obtain ⟨⟨bq, μ2⟩, e2, hag, hI2⟩ := h1 (hmem μ1 res) hmem_fr
  dsimp only at e1 e2 hag hI2
  refine V_aload_n X 1 dL_law__2363 rfl rfl ?_
  refine V_scr (kv := Int32.ofNat 1) 0 4 X hX hbl hbA (hin 1 (by decide)) dL_law__2364 dL_law__2365 dL_law__2367 (by decide) dL_law__2368 dL_law__2369 rfl rfl ?_
  refine V_scr (kv := Int32.ofNat 2) 0 4 X hX hbl hbA (hin 2 (by decide)) dL_law__2370 dL_law__2371 dL_law__2373 (by decide) dL_law__2374 dL_law__2375 rfl rfl ?_
  refine V_aload_n X 3 dL_law__2376 rfl rfl ?_
  refine V_callH X X' (As := [.ref (zad y (0, 0, 0)), .int (sx xs i 1), .int (sx xs i 2), .ref (zad y (0, 31, 0))]) (H_log hlf e1) (vx_cwSW 4 X.2.2.2.2.2.2.1 (gS wmL_log wstL_log win_RL wcw_log) rfl rfl rfl hdL_log ⟨Nat.le_of_ble_eq_true rfl, Nat.le_of_ble_eq_true rfl⟩) rfl (Nat.le_of_ble_eq_true rfl) dL_law__2377 rfl ?_
  refine V_istore X' ((5, .int (hres cm1 res)) :: lv5 y b i) dL_law__2380 (by decide) rfl ?_
  refine V_aload_n X' 3 dL_law__2382 rfl rfl ?_
  refine V_scr (kv := Int32.ofNat 1) 1 5 X' hX hbl hbA (hin 1 (by decide)) dL_law__2383 dL_law__2384 dL_law__2386 (by decide) dL_law__2387 dL_law__2388 rfl rfl ?_
  refine V_scr (kv := Int32.ofNat 2) 1 5 X' hX hbl hbA (hin 2 (by decide)) dL_law__2389 dL_law__2390 dL_law__2392 (by decide) dL_law__2393 dL_law__2394 rfl rfl ?_
  refine V_callVi X' (As := [.int (sx xs i 1), .int (sx xs i 2)]) (M_X12_log e2) (cwV 2 X.2.2.2.2.2.2.1 (gV wm_RL_275 wi_X12_log wse_X12_log win_RX12 wc_X12_log) rfl rfl rfl hd_X12_log ⟨Nat.le_of_ble_eq_true rfl, Nat.le_of_ble_eq_true rfl⟩) (b := (0, 32, 0)) ⟨by decide, rfl⟩ rfl rfl rfl rfl (Nat.le_of_ble_eq_true rfl) dL_law__2395 rfl ?_
  obtain ⟨t1, t2⟩ := tail_of hag (nw_X12_log (v := hmem μ1 res (0, 31, 0) 0) rfl _ e2)
  exact V_tail X' t1 t2 dL_law__2398 dL_law__2400 dL_law__2401 dL_law__2404 dL_law__2406 dL_law__2411 dL_law__2413 dL_law__2416 dL_law__2417 dL_law__2418 dL_law__2419 dL_law__2421 dL_law__2422 dL_law__2423 dL_law__2428 (by decide) (K _ _ X' _ (by omega) (by omega) hI2)
theorem LC_seed (X : LX p l e s m b below meth c Q D A y kc ks) (hR : kc + 6 ≤ room_1.cells ∧ ks + 1638 ≤ room_1.slots) (hlf : l.stackTraces = false) (hX : va_X b L xs s s.heap) (hbl : b < s.heap.size) (hbA : ¬ A b) (hin : ∀ k : Nat, k < 6 → vp_in (i + Int32.ofNat k) L) (hI : INV y μ) (K : LK p l e s m b below meth c Q D A y kc ks i) : V X μ 2431 (lv5 y b i) [] := by
  obtain ⟨⟨v, μ1⟩, e1, ⟨bq, μ2⟩, e2, hv, hI2⟩ := OP_seed (a1 := (sx xs i 1)) μ hI
  dsimp only at e1 e2 hv hI2
  refine V_aload_n X 1 dL_law__2431 rfl rfl ?_
  refine V_scr (kv := Int32.ofNat 1) 0 4 X hX hbl hbA (hin 1 (by decide)) dL_law__2432 dL_law__2433 dL_law__2435 (by decide) dL_law__2436 dL_law__2437 rfl rfl ?_
  refine V_callVi X (As := [.int (sx xs i 1)]) (M_X11_seed e1) (cwV 1 X.2.2.2.2.2.2.1 (gV wm_RL_276 wi_X11_seed wse_X11_seed win_RX11 wc_X11_seed) rfl rfl rfl hd_X11_seed ⟨Nat.le_of_ble_eq_true rfl, Nat.le_of_ble_eq_true rfl⟩) (b := (0, 0, 0)) ⟨by decide, rfl⟩ rfl rfl rfl rfl (Nat.le_of_ble_eq_true rfl) dL_law__2438 rfl ?_
  refine V_aload_n X 2 dL_law__2441 rfl rfl ?_
  refine V_scr (kv := Int32.ofNat 1) 0 4 X hX hbl hbA (hin 1 (by decide)) dL_law__2442 dL_law__2443 dL_law__2445 (by decide) dL_law__2446 dL_law__2447 rfl rfl ?_
  refine V_callVi X (As := [.int (sx xs i 1)]) (M_X12_seed e2) (cwV 1 X.2.2.2.2.2.2.1 (gV wm_RL_279 wi_X12_seed wse_X12_seed win_RX12 wc_X12_seed) rfl rfl rfl hd_X12_seed ⟨Nat.le_of_ble_eq_true rfl, Nat.le_of_ble_eq_true rfl⟩) (b := (0, 32, 0)) ⟨by decide, rfl⟩ rfl rfl rfl rfl (Nat.le_of_ble_eq_true rfl) dL_law__2448 rfl ?_
  refine V_icmp_eq X (tgt := 2518) dL_law__2451 (by decide) (fun _ => K _ _ X _ (by omega) (by omega) hI2) (fun hn => (hn hv.symm).elim)
theorem LC_undo (X : LX p l e s m b below meth c Q D A y kc ks) (hR : kc + 6 ≤ room_1.cells ∧ ks + 1638 ≤ room_1.slots) (hlf : l.stackTraces = false) (hX : va_X b L xs s s.heap) (hbl : b < s.heap.size) (hbA : ¬ A b) (hin : ∀ k : Nat, k < 6 → vp_in (i + Int32.ofNat k) L) (hI : INV y μ) (K : LK p l e s m b below meth c Q D A y kc ks i) : V X μ 2456 (lv5 y b i) [] := by
  obtain ⟨⟨v, μ1⟩, e1, ⟨bq, μ2⟩, e2, hv, hI2⟩ := OP_undo μ hI
  dsimp only at e1 e2 hv hI2
  refine V_aload_n X 1 dL_law__2456 rfl rfl ?_
  refine V_callVi X (As := []) (M_X11_undo e1) (cwV 0 X.2.2.2.2.2.2.1 (gV wm_RL_280 wi_X11_undo wse_X11_undo win_RX11 wc_X11_undo) rfl rfl rfl hd_X11_undo ⟨Nat.le_of_ble_eq_true rfl, Nat.le_of_ble_eq_true rfl⟩) (b := (0, 0, 0)) ⟨by decide, rfl⟩ rfl rfl rfl rfl (Nat.le_of_ble_eq_true rfl) dL_law__2457 rfl ?_
  refine V_aload_n X 2 dL_law__2460 rfl rfl ?_
  refine V_callVi X (As := []) (M_X12_undo e2) (cwV 0 X.2.2.2.2.2.2.1 (gV wm_RL_283 wi_X12_undo wse_X12_undo win_RX12 wc_X12_undo) rfl rfl rfl hd_X12_undo ⟨Nat.le_of_ble_eq_true rfl, Nat.le_of_ble_eq_true rfl⟩) (b := (0, 32, 0)) ⟨by decide, rfl⟩ rfl rfl rfl rfl (Nat.le_of_ble_eq_true rfl) dL_law__2461 rfl ?_
  refine V_icmp_eq X (tgt := 2518) dL_law__2464 (by decide) (fun _ => K _ _ X _ (by omega) (by omega) hI2) (fun hn => (hn hv.symm).elim)
theorem LC_image (X : LX p l e s m b below meth c Q D A y kc ks) (hR : kc + 6 ≤ room_1.cells ∧ ks + 1638 ≤ room_1.slots) (hlf : l.stackTraces = false) (hX : va_X b L xs s s.heap) (hbl : b < s.heap.size) (hbA : ¬ A b) (hin : ∀ k : Nat, k < 6 → vp_in (i + Int32.ofNat k) L) (hI : INV y μ) (K : LK p l e s m b below meth c Q D A y kc ks i) : V X μ 2469 (lv5 y b i) [] := by
  obtain ⟨μ1, e1, μ2, e2, hI2⟩ := OP_image μ hI
  refine V_aload_n X 1 dL_law__2469 rfl rfl ?_
  refine V_callVv X (As := []) (M_X11_image e1) (cwV 0 X.2.2.2.2.2.2.1 (gV wm_RL_284 wi_X11_image wse_X11_image win_RX11 wc_X11_image) rfl rfl rfl hd_X11_image ⟨Nat.le_of_ble_eq_true rfl, Nat.le_of_ble_eq_true rfl⟩) (b := (0, 0, 0)) ⟨by decide, rfl⟩ rfl rfl rfl rfl (Nat.le_of_ble_eq_true rfl) dL_law__2470 rfl ?_
  refine V_aload_n X 2 dL_law__2473 rfl rfl ?_
  refine V_callVv X (As := []) (M_X12_image e2) (cwV 0 X.2.2.2.2.2.2.1 (gV wm_RL_287 wi_X12_image wse_X12_image win_RX12 wc_X12_image) rfl rfl rfl hd_X12_image ⟨Nat.le_of_ble_eq_true rfl, Nat.le_of_ble_eq_true rfl⟩) (b := (0, 32, 0)) ⟨by decide, rfl⟩ rfl rfl rfl rfl (Nat.le_of_ble_eq_true rfl) dL_law__2474 rfl ?_
  refine V_goto X (tgt := 2518) dL_law__2477 (by decide) ?_
  exact K _ _ X _ (by omega) (by omega) hI2
theorem LC_back (X : LX p l e s m b below meth c Q D A y kc ks) (hR : kc + 6 ≤ room_1.cells ∧ ks + 1638 ≤ room_1.slots) (hlf : l.stackTraces = false) (hX : va_X b L xs s s.heap) (hbl : b < s.heap.size) (hbA : ¬ A b) (hin : ∀ k : Nat, k < 6 → vp_in (i + Int32.ofNat k) L) (hI : INV y μ) (K : LK p l e s m b below meth c Q D A y kc ks i) : V X μ 2480 (lv5 y b i) [] := by
  obtain ⟨⟨v, μ1⟩, e1, ⟨bq, μ2⟩, e2, hv, hI2⟩ := OP_back μ hI
  dsimp only at e1 e2 hv hI2
  refine V_aload_n X 1 dL_law__2480 rfl rfl ?_
  refine V_callVi X (As := []) (M_X11_back e1) (cwV 0 X.2.2.2.2.2.2.1 (gV wm_RL_288 wi_X11_back wse_X11_back win_RX11 wc_X11_back) rfl rfl rfl hd_X11_back ⟨Nat.le_of_ble_eq_true rfl, Nat.le_of_ble_eq_true rfl⟩) (b := (0, 0, 0)) ⟨by decide, rfl⟩ rfl rfl rfl rfl (Nat.le_of_ble_eq_true rfl) dL_law__2481 rfl ?_
  refine V_aload_n X 2 dL_law__2484 rfl rfl ?_
  refine V_callVi X (As := []) (M_X12_back e2) (cwV 0 X.2.2.2.2.2.2.1 (gV wm_RL_291 wi_X12_back wse_X12_back win_RX12 wc_X12_back) rfl rfl rfl hd_X12_back ⟨Nat.le_of_ble_eq_true rfl, Nat.le_of_ble_eq_true rfl⟩) (b := (0, 32, 0)) ⟨by decide, rfl⟩ rfl rfl rfl rfl (Nat.le_of_ble_eq_true rfl) dL_law__2485 rfl ?_
  refine V_icmp_eq X (tgt := 2518) dL_law__2488 (by decide) (fun _ => K _ _ X _ (by omega) (by omega) hI2) (fun hn => (hn hv.symm).elim)
theorem LC_count (X : LX p l e s m b below meth c Q D A y kc ks) (hR : kc + 6 ≤ room_1.cells ∧ ks + 1638 ≤ room_1.slots) (hlf : l.stackTraces = false) (hX : va_X b L xs s s.heap) (hbl : b < s.heap.size) (hbA : ¬ A b) (hin : ∀ k : Nat, k < 6 → vp_in (i + Int32.ofNat k) L) (hI : INV y μ) (K : LK p l e s m b below meth c Q D A y kc ks i) : V X μ 2493 (lv5 y b i) [] := by
  obtain ⟨v, e1, ⟨bq, μ2⟩, e2, hv, hI2⟩ := OP_count (a1 := (sx xs i 1)) μ hI
  dsimp only at e1 e2 hv hI2
  refine V_aload_n X 1 dL_law__2493 rfl rfl ?_
  refine V_scr (kv := Int32.ofNat 1) 0 4 X hX hbl hbA (hin 1 (by decide)) dL_law__2494 dL_law__2495 dL_law__2497 (by decide) dL_law__2498 dL_law__2499 rfl rfl ?_
  refine V_callVi X (As := [.int (sx xs i 1)]) (M_X11_count e1) (cwV 1 X.2.2.2.2.2.2.1 (gV wm_RL_292 wi_X11_count wse_X11_count win_RX11 wc_X11_count) rfl rfl rfl hd_X11_count ⟨Nat.le_of_ble_eq_true rfl, Nat.le_of_ble_eq_true rfl⟩) (b := (0, 0, 0)) ⟨by decide, rfl⟩ rfl rfl rfl rfl (Nat.le_of_ble_eq_true rfl) dL_law__2500 rfl ?_
  refine V_aload_n X 2 dL_law__2503 rfl rfl ?_
  refine V_scr (kv := Int32.ofNat 1) 0 4 X hX hbl hbA (hin 1 (by decide)) dL_law__2504 dL_law__2505 dL_law__2507 (by decide) dL_law__2508 dL_law__2509 rfl rfl ?_
  refine V_callVi X (As := [.int (sx xs i 1)]) (M_X12_count e2) (cwV 1 X.2.2.2.2.2.2.1 (gV wm_RL_295 wi_X12_count wse_X12_count win_RX12 wc_X12_count) rfl rfl rfl hd_X12_count ⟨Nat.le_of_ble_eq_true rfl, Nat.le_of_ble_eq_true rfl⟩) (b := (0, 32, 0)) ⟨by decide, rfl⟩ rfl rfl rfl rfl (Nat.le_of_ble_eq_true rfl) dL_law__2510 rfl ?_
  refine V_icmp_eq X (tgt := 2518) dL_law__2513 (by decide) (fun _ => K _ _ X _ (by omega) (by omega) hI2) (fun hn => (hn hv.symm).elim)
end LC
