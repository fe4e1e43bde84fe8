/-! the world that the law makes, seen as the layout's world -/
def nrm (w : Nat × va_E) : Nat × va_E := match w with
  | (a, .inl (c, n, .inr (.inr (.inr (.inr f))))) => (a, .inl (c, n, .inr (.inr (.inr (.inr (fun j => if j < n then f j else none))))))
  | w => w
theorem nrm_fst (w : Nat × va_E) : (nrm w).1 = w.1 := by
  obtain ⟨a, e⟩ := w
  match e with
  | .inr _ => rfl
  | .inl (_, _, .inl _) => rfl
  | .inl (_, _, .inr (.inl _)) => rfl
  | .inl (_, _, .inr (.inr (.inl _))) => rfl
  | .inl (_, _, .inr (.inr (.inr (.inl _)))) => rfl
  | .inl (_, _, .inr (.inr (.inr (.inr _)))) => rfl
theorem nrm_at {D : va_G} {cl : List vw_C} {w : Nat × va_E} {H : Heap} : va_at D cl (nrm w) H ↔ va_at D cl w H := by
  obtain ⟨a, e⟩ := w
  match e with
  | .inr _ => exact Iff.rfl
  | .inl (_, _, .inl _) => exact Iff.rfl
  | .inl (_, _, .inr (.inl _)) => exact Iff.rfl
  | .inl (_, _, .inr (.inr (.inl _))) => exact Iff.rfl
  | .inl (_, _, .inr (.inr (.inr (.inl _)))) => exact Iff.rfl
  | .inl (_, _, .inr (.inr (.inr (.inr _)))) => exact ⟨fun h => refs_at (fun j hj => if_pos hj) h, fun h => refs_at (fun j hj => (if_pos hj).symm) h⟩
theorem con_c {α : Type} {a a' : α} {l l' : List α} (h1 : a = a') (h2 : l = l') : a :: l = a' :: l' := by rw [h1, h2]
theorem app_c {α : Type} {a a' l l' : List α} (h1 : a = a') (h2 : l = l') : a ++ l = a' ++ l' := by rw [h1, h2]
def g00 (y : ZLay) (o : ZId) : Nat × va_E := nrm (zad y o, zenc y mu00 o)
def o7 (s : Nat) : List ZId := (1, s, 0) :: (2, s, 0) :: (4, s, 0) :: (List.range 8).map (fun i => (3, s, i))
def o6 : List ZId := (0, 2, 0) :: (0, 3, 0) :: (List.range 12).flatMap (fun j => o7 (3 + j))
def oMul : List ZId := (0, 6, 0) :: (List.range 8).map (fun j => (7, j, 0))
def o10 : List ZId := (0, 5, 0) :: (oMul ++ [(0, 7, 0), (0, 8, 0), (0, 9, 0), (0, 10, 0)])
def o9 : List ZId := (0, 4, 0) :: (o10 ++ [(0, 11, 0)])
def ow1 : List ZId := [(0, 12, 0), (0, 13, 0), (0, 14, 0), (0, 15, 0), (0, 16, 0)]
def ow2 : List ZId := [(0, 17, 0), (0, 18, 0), (0, 19, 0)]
def ow8 : List ZId := [(0, 20, 0), (0, 21, 0), (0, 22, 0)]
def ow0 : List ZId := [(0, 23, 0)]
def ow4 : List ZId := [(0, 24, 0), (0, 25, 0), (0, 26, 0), (0, 27, 0), (0, 28, 0)]
def ow3 : List ZId := [(5, 0, 0), (6, 0, 4)]
def o11 : List ZId := (0, 0, 0) :: (0, 1, 0) :: (o9 ++ (ow1 ++ (ow2 ++ (ow8 ++ (ow0 ++ (ow4 ++ ((0, 29, 0) :: (0, 30, 0) :: (6, 0, 0) :: (6, 0, 1) :: (6, 0, 2) :: (6, 0, 3) :: (ow3 ++ (o7 0 ++ (o7 1 ++ (o7 2 ++ (o6 ++ []))))))))))))
def o12 : List ZId := [(0, 32, 0), (0, 33, 0), (0, 34, 0), (0, 35, 0), (0, 36, 0), (0, 37, 0), (0, 38, 0), (0, 39, 0), (0, 40, 0), (0, 41, 0), (0, 42, 0), (0, 43, 0), (0, 44, 0), (0, 45, 0), (0, 46, 0), (0, 47, 0)]
def zord : List ZId := (([] ++ o11) ++ o12) ++ [(0, 31, 0)]
theorem zord_perm : zord.Perm (zids 1) := by decide +kernel
/-- an array of ints, all 0 -/
theorem g_i {y : ZLay} {o : ZId} {a n : Nat} {cI : ClassId} (h : zisI o = true) (h0 : ∀ k, mu00 o k = 0) (ha : zad y o = a) (hn : zlen y o = n) (hc : zci y 0 = cI) : (a, (.inl (cI, n, .inl (fun _ => 0)) : va_E)) = g00 y o := by
  have e : (fun j => mu00 o j) = fun _ => 0 := funext h0
  unfold g00
  rw [zenc_i h, e, ha, hn, hc]
  rfl
/-- an array of references -/
theorem g_q {y : ZLay} {o : ZId} {a q n : Nat} {cI : ClassId} {f : Nat → ZId} {b : Nat → Nat} (h1 : zsh o = none) (h2 : zra o = some (q, n, f)) (ha : zad y o = a) (hc : zci y q = cI) (hb : ∀ j, j < n → zad y (f j) = b j) : nrm (a, (.inl (cI, n, .inr (.inr (.inr (.inr (fun j => if j < n then some (b j) else none))))) : va_E)) = g00 y o := by
  unfold g00
  rw [zenc_ra h1 h2, ha, hc]
  show (a, (.inl (cI, n, .inr (.inr (.inr (.inr (fun j => if j < n then (if j < n then some (b j) else none) else none))))) : va_E)) = (a, (.inl (cI, n, .inr (.inr (.inr (.inr (fun j => if j < n then some (zad y (f j)) else none))))) : va_E))
  have e : (fun j => if j < n then (if j < n then some (b j) else none) else none) = (fun j => if j < n then some (zad y (f j)) else none) := by
    funext j
    by_cases h : j < n
    · rw [if_pos h, if_pos h, if_pos h, hb j h]
    · rw [if_neg h, if_neg h]
  rw [e]
/-- a node -/
theorem g_n {y : ZLay} {s i a : Nat} (ha : zad y (3, s, i) = a) : (a, (.inr (5, [.int 0, .int 0, .int 0, .int 1, .int 0, .int 0, .int 0, .int 0, .int 0, .int 0, .int 0]) : va_E)) = g00 y (3, s, i) := by
  rw [← ha]
  rfl
theorem g_s {y : ZLay} {s a b c d : Nat} (ha : zad y (1, s, 0) = a) (hb : zad y (2, s, 0) = b) (hc : zad y (4, s, 0) = c) (hd : zad y (5, 0, 0) = d) : (a, (.inr (7, [.ref b, .ref c, .int 0, .int 0, .int 0, .int 100, .int 50, .int 0, .int 1, .int 0, .ref d]) : va_E)) = g00 y (1, s, 0) := by
  rw [← ha, ← hb, ← hc, ← hd]
  rfl
theorem nrm_i {a n : Nat} {c : ClassId} {f : Nat → Int32} : nrm (a, .inl (c, n, .inl f)) = (a, .inl (c, n, .inl f)) := rfl
theorem nrm_o {a ci : Nat} {fs : List Value} : nrm (a, .inr (ci, fs)) = (a, .inr (ci, fs)) := rfl
theorem w_7 {y : ZLay} {zc : Nat → ClassId} {s x1 : Nat} {t f : Nat → Nat} (ha : zad y (1, s, 0) = t 0) (hb : zad y (2, s, 0) = t 1) (hc : zad y (4, s, 0) = t 2) (hd : zad y (5, 0, 0) = x1) (hf : ∀ j, zad y (3, s, j) = f j) (h0 : zci y 0 = zc 0) (h2 : zci y 2 = zc 2) : (WX7 zc x1 t f).map nrm = (o7 s).map (g00 y) := by
  unfold WX7 o7
  simp only [List.map_cons, List.map_map]
  refine con_c (g_s ha hb hc hd) (con_c (g_q rfl rfl hb h2 (fun j _ => hf j)) (con_c (g_i rfl (fun _ => rfl) hc rfl h0) ?_))
  exact List.map_congr_left (fun j _ => g_n (hf j))
theorem w_6 {y : ZLay} {zc : Nat → ClassId} {x1 : Nat} {t : Nat → Nat} {g : Nat → (Nat → Nat) × (Nat → Nat)} (ha : zad y (0, 2, 0) = t 0) (hb : zad y (0, 3, 0) = t 1) (h3 : zci y 3 = zc 3) (h0 : zci y 0 = zc 0) (h2 : zci y 2 = zc 2) (hd : zad y (5, 0, 0) = x1)
    (h : ∀ j, zad y (1, 3 + j, 0) = (g j).1 0 ∧ zad y (2, 3 + j, 0) = (g j).1 1 ∧ zad y (4, 3 + j, 0) = (g j).1 2 ∧ ∀ i, zad y (3, 3 + j, i) = (g j).2 i) : (WX6 zc x1 t g).map nrm = o6.map (g00 y) := by
  unfold WX6 o6
  simp only [List.map_cons, List.map_flatMap]
  refine con_c ?_ (con_c (g_q rfl rfl hb h3 (fun j _ => (h j).1)) ?_)
  · rw [← ha, ← hb]; rfl
  · congr 1
    funext j
    exact w_7 (h j).1 (h j).2.1 (h j).2.2.1 hd (h j).2.2.2 h0 h2
theorem w_mul {y : ZLay} {zc : Nat → ClassId} {a : Nat} {f : Nat → Nat} (ha : zad y (0, 6, 0) = a) (hf : ∀ j, zad y (7, j, 0) = f j) (h4 : zci y 4 = zc 4) (h0 : zci y 0 = zc 0) : (WMul zc a f).map nrm = oMul.map (g00 y) := by
  unfold WMul oMul
  simp only [List.map_cons, List.map_map]
  refine con_c (g_q rfl rfl ha h4 (fun j _ => hf j)) ?_
  exact List.map_congr_left (fun j _ => g_i rfl (fun _ => rfl) (hf j) rfl h0)
theorem g_out {y : ZLay} {a : Nat} {c : ClassId} (ha : zad y (0, 31, 0) = a) (hc : zci y 1 = c) : nrm (a, (.inl (c, 1, .inr (.inl (fun _ => 0))) : va_E)) = g00 y (0, 31, 0) := by
  have e : (fun j => (mu00 (0, 31, 0) j).toInt64) = fun _ => 0 := funext (fun _ => (by decide : (0 : Int32).toInt64 = 0))
  unfold g00
  rw [zenc_out, e, ha, hc]
theorem upd_v00 : (upd (upd (upd (upd (fun _ => (0 : Int32)) 1 (-1)) 4 100) 5 50) 8 1) = fun j => mu00 (0, 33, 0) j := by
  funext j
  show _ = v00 j
  unfold v00 upd
  by_cases h1 : j = 1
  · subst h1; rfl
  by_cases h4 : j = 4
  · subst h4; rfl
  by_cases h5 : j = 5
  · subst h5; rfl
  by_cases h8 : j = 8
  · subst h8; rfl
  simp [h1, h4, h5, h8]

section W00
variable {zc : Nat → ClassId} {zk zv : Nat → Nat} {t : Nat → Nat} {t23 : Nat → Nat} {t23_0 : Nat → Nat} {t23_1 : Nat → Nat} {t34 : Nat → Nat} {t45 : Nat → Nat} {t56 : Nat → Nat} {t71 : Nat → Nat} {t86 : Nat → Nat} {t125 : Nat → Nat} {t135 : Nat → Nat} {t135_0 : Nat → Nat} {t147 : Nat → Nat} {t147_0 : Nat → Nat} {t159 : Nat → Nat} {t159_0 : Nat → Nat} {t171 : Nat → Nat} {t171_0 : Nat → (Nat → Nat) × (Nat → Nat)} {u : Nat → Nat} {q : Nat}
theorem w_1 : (WX1 zc t34).map nrm = ow1.map (g00 (y00 zc zk zv t t23 t23_0 t23_1 t34 t45 t56 t71 t86 t125 t135 t135_0 t147 t147_0 t159 t159_0 t171 t171_0 u q)) := by
  unfold WX1 ow1
  simp only [List.map_cons, List.map_nil]
  exact con_c rfl (con_c (g_i rfl (fun _ => rfl) rfl rfl rfl) (con_c (g_i rfl (fun _ => rfl) rfl rfl rfl) (con_c (g_i rfl (fun _ => rfl) rfl rfl rfl) (con_c (g_i rfl (fun _ => rfl) rfl rfl rfl) (rfl)))))
theorem w_2 : (WX2 zc t45).map nrm = ow2.map (g00 (y00 zc zk zv t t23 t23_0 t23_1 t34 t45 t56 t71 t86 t125 t135 t135_0 t147 t147_0 t159 t159_0 t171 t171_0 u q)) := by
  unfold WX2 ow2
  simp only [List.map_cons, List.map_nil]
  exact con_c rfl (con_c (g_i rfl (fun _ => rfl) rfl rfl rfl) (con_c (g_i rfl (fun _ => rfl) rfl rfl rfl) (rfl)))
theorem w_8 : (WX8 zc t56).map nrm = ow8.map (g00 (y00 zc zk zv t t23 t23_0 t23_1 t34 t45 t56 t71 t86 t125 t135 t135_0 t147 t147_0 t159 t159_0 t171 t171_0 u q)) := by
  unfold WX8 ow8
  simp only [List.map_cons, List.map_nil]
  exact con_c rfl (con_c (g_i rfl (fun _ => rfl) rfl rfl rfl) (con_c (g_i rfl (fun _ => rfl) rfl rfl rfl) (rfl)))
theorem w_0 : (WX0 zc (t56 0) t71).map nrm = ow0.map (g00 (y00 zc zk zv t t23 t23_0 t23_1 t34 t45 t56 t71 t86 t125 t135 t135_0 t147 t147_0 t159 t159_0 t171 t171_0 u q)) := by
  unfold WX0 ow0
  simp only [List.map_cons, List.map_nil]
  exact con_c rfl (rfl)
theorem w_4 : (WX4 zc (t56 0) t86).map nrm = ow4.map (g00 (y00 zc zk zv t t23 t23_0 t23_1 t34 t45 t56 t71 t86 t125 t135 t135_0 t147 t147_0 t159 t159_0 t171 t171_0 u q)) := by
  unfold WX4 ow4
  simp only [List.map_cons, List.map_nil]
  exact con_c rfl (con_c (g_i rfl (fun _ => rfl) rfl rfl rfl) (con_c (g_i rfl (fun _ => rfl) rfl rfl rfl) (con_c (g_i rfl (fun _ => rfl) rfl rfl rfl) (con_c (g_i rfl (fun _ => rfl) rfl rfl rfl) (rfl)))))
theorem w_3 : (WX3 zc (-1) (t 4) (t 5) (t 6) (t 7) t125).map nrm = ow3.map (g00 (y00 zc zk zv t t23 t23_0 t23_1 t34 t45 t56 t71 t86 t125 t135 t135_0 t147 t147_0 t159 t159_0 t171 t171_0 u q)) := by
  unfold WX3 ow3
  simp only [List.map_cons, List.map_nil]
  exact con_c rfl (con_c (g_i rfl (fun _ => rfl) rfl rfl rfl) (rfl))
theorem w_12 : (WX12 zc u).map nrm = o12.map (g00 (y00 zc zk zv t t23 t23_0 t23_1 t34 t45 t56 t71 t86 t125 t135 t135_0 t147 t147_0 t159 t159_0 t171 t171_0 u q)) := by
  unfold WX12 o12
  simp only [List.map_cons, List.map_nil]
  exact con_c rfl (con_c (by rw [upd_v00]; rfl) (con_c (g_i rfl (fun _ => rfl) rfl rfl rfl) (con_c (g_i rfl (fun _ => rfl) rfl rfl rfl) (con_c (g_i rfl (fun _ => rfl) rfl rfl rfl) (con_c (g_i rfl (fun _ => rfl) rfl rfl rfl) (con_c (g_i rfl (fun _ => rfl) rfl rfl rfl) (con_c (g_i rfl (fun _ => rfl) rfl rfl rfl) (con_c (g_i rfl (fun _ => rfl) rfl rfl rfl) (con_c (g_i rfl (fun _ => rfl) rfl rfl rfl) (con_c (g_i rfl (fun _ => rfl) rfl rfl rfl) (con_c (g_i rfl (fun _ => rfl) rfl rfl rfl) (con_c (g_i rfl (fun _ => rfl) rfl rfl rfl) (con_c (g_i rfl (fun _ => rfl) rfl rfl rfl) (con_c (g_i rfl (fun _ => rfl) rfl rfl rfl) (con_c (g_i rfl (fun _ => rfl) rfl rfl rfl) (rfl))))))))))))))))
theorem w_10 : (WX10 zc t23_0 t23_1).map nrm = o10.map (g00 (y00 zc zk zv t t23 t23_0 t23_1 t34 t45 t56 t71 t86 t125 t135 t135_0 t147 t147_0 t159 t159_0 t171 t171_0 u q)) := by
  unfold WX10 o10
  simp only [List.map_cons, List.map_append, List.map_nil]
  exact con_c rfl (app_c (w_mul rfl (fun _ => rfl) rfl rfl) (con_c (g_i rfl (fun _ => rfl) rfl rfl rfl) (con_c (g_i rfl (fun _ => rfl) rfl rfl rfl) (con_c (g_i rfl (fun _ => rfl) rfl rfl rfl) (con_c (g_i rfl (fun _ => rfl) rfl rfl rfl) (rfl))))))
theorem w_9 : (WX9 zc t23 t23_0 t23_1).map nrm = o9.map (g00 (y00 zc zk zv t t23 t23_0 t23_1 t34 t45 t56 t71 t86 t125 t135 t135_0 t147 t147_0 t159 t159_0 t171 t171_0 u q)) := by
  unfold WX9 o9
  simp only [List.map_cons, List.map_append, List.map_nil]
  exact con_c rfl (app_c w_10 (con_c (g_i rfl (fun _ => rfl) rfl rfl rfl) (rfl)))
theorem w_11 : (WX11 zc t t23 t23_0 t23_1 t34 t45 t56 t71 t86 t125 t135 t135_0 t147 t147_0 t159 t159_0 t171 t171_0).map nrm = o11.map (g00 (y00 zc zk zv t t23 t23_0 t23_1 t34 t45 t56 t71 t86 t125 t135 t135_0 t147 t147_0 t159 t159_0 t171 t171_0 u q)) := by
  have h7 : ∀ j, zad (y00 zc zk zv t t23 t23_0 t23_1 t34 t45 t56 t71 t86 t125 t135 t135_0 t147 t147_0 t159 t159_0 t171 t171_0 u q) (1, 3 + j, 0) = (t171_0 j).1 0 ∧ zad (y00 zc zk zv t t23 t23_0 t23_1 t34 t45 t56 t71 t86 t125 t135 t135_0 t147 t147_0 t159 t159_0 t171 t171_0 u q) (2, 3 + j, 0) = (t171_0 j).1 1 ∧ zad (y00 zc zk zv t t23 t23_0 t23_1 t34 t45 t56 t71 t86 t125 t135 t135_0 t147 t147_0 t159 t159_0 t171 t171_0 u q) (4, 3 + j, 0) = (t171_0 j).1 2 ∧ ∀ i, zad (y00 zc zk zv t t23 t23_0 t23_1 t34 t45 t56 t71 t86 t125 t135 t135_0 t147 t147_0 t159 t159_0 t171 t171_0 u q) (3, 3 + j, i) = (t171_0 j).2 i := by
    intro j
    rw [Nat.add_comm 3 j]
    exact ⟨rfl, rfl, rfl, fun _ => rfl⟩
  unfold WX11 o11
  simp only [List.map_append, List.map_cons, List.map_nil]
  refine con_c rfl (con_c (g_i rfl (fun _ => rfl) rfl rfl rfl) (app_c (w_9) (app_c (w_1) (app_c (w_2) (app_c (w_8) (app_c (w_0) (app_c (w_4) (con_c (g_i rfl (fun _ => rfl) rfl rfl rfl) (con_c (g_i rfl (fun _ => rfl) rfl rfl rfl) (con_c (g_i rfl (fun _ => rfl) rfl rfl rfl) (con_c (g_i rfl (fun _ => rfl) rfl rfl rfl) (con_c (g_i rfl (fun _ => rfl) rfl rfl rfl) (con_c (g_i rfl (fun _ => rfl) rfl rfl rfl) (app_c (w_3) (app_c ((w_7 rfl rfl rfl rfl (fun _ => rfl) rfl rfl)) (app_c ((w_7 rfl rfl rfl rfl (fun _ => rfl) rfl rfl)) (app_c ((w_7 rfl rfl rfl rfl (fun _ => rfl) rfl rfl)) (app_c ((w_6 rfl rfl rfl rfl rfl rfl h7)) rfl))))))))))))))))))
theorem w_all : (((([] ++ WX11 zc t t23 t23_0 t23_1 t34 t45 t56 t71 t86 t125 t135 t135_0 t147 t147_0 t159 t159_0 t171 t171_0) ++ WX12 zc u) ++ [(q, .inl (zc 1, 1, .inr (.inl (fun _ => 0))))]) : va_W).map nrm = zord.map (g00 (y00 zc zk zv t t23 t23_0 t23_1 t34 t45 t56 t71 t86 t125 t135 t135_0 t147 t147_0 t159 t159_0 t171 t171_0 u q)) := by
  unfold zord
  simp only [List.map_append, List.map_cons, List.map_nil, List.nil_append]
  exact app_c (app_c w_11 w_12) (con_c (g_out rfl rfl) rfl)
/-- the law's world is the layout's -/
theorem world00 {D : va_G} {A : Nat → Prop} {H : Heap} (hP : va_P D vwCl (((([] ++ WX11 zc t t23 t23_0 t23_1 t34 t45 t56 t71 t86 t125 t135 t135_0 t147 t147_0 t159 t159_0 t171 t171_0) ++ WX12 zc u) ++ [(q, .inl (zc 1, 1, .inr (.inl (fun _ => 0))))]) : va_W) H) (hD : va_D A (((([] ++ WX11 zc t t23 t23_0 t23_1 t34 t45 t56 t71 t86 t125 t135 t135_0 t147 t147_0 t159 t159_0 t171 t171_0) ++ WX12 zc u) ++ [(q, .inl (zc 1, 1, .inr (.inl (fun _ => 0))))]) : va_W)) : va_P D vwCl (wd (y00 zc zk zv t t23 t23_0 t23_1 t34 t45 t56 t71 t86 t125 t135 t135_0 t147 t147_0 t159 t159_0 t171 t171_0 u q) mu00) H ∧ va_D A (wd (y00 zc zk zv t t23 t23_0 t23_1 t34 t45 t56 t71 t86 t125 t135 t135_0 t147 t147_0 t159 t159_0 t171 t171_0 u q) mu00) := by
  have hp : ((((([] ++ WX11 zc t t23 t23_0 t23_1 t34 t45 t56 t71 t86 t125 t135 t135_0 t147 t147_0 t159 t159_0 t171 t171_0) ++ WX12 zc u) ++ [(q, .inl (zc 1, 1, .inr (.inl (fun _ => 0))))]) : va_W).map nrm).Perm ((wd (y00 zc zk zv t t23 t23_0 t23_1 t34 t45 t56 t71 t86 t125 t135 t135_0 t147 t147_0 t159 t159_0 t171 t171_0 u q) mu00).map nrm) := by
    rw [w_all]
    unfold wd
    rw [List.map_map]
    exact zord_perm.map _
  refine ⟨P_mem.mpr (fun x hx => ?_), D_iff.mpr ?_⟩
  · obtain ⟨w, hw, e⟩ := List.mem_map.mp (hp.mem_iff.mpr (List.mem_map_of_mem (f := nrm) hx))
    refine nrm_at.mp ?_
    rw [← e]
    exact nrm_at.mpr (P_mem.mp hP w hw)
  · obtain ⟨h1, h2⟩ := D_iff.mp hD
    have ef : ∀ l : va_W, (l.map nrm).map Prod.fst = l.map Prod.fst := fun l => by
      rw [List.map_map]
      exact List.map_congr_left (fun w _ => nrm_fst w)
    refine ⟨?_, fun x hx => ?_⟩
    · have := (hp.map Prod.fst).nodup_iff.mp (by rw [ef]; exact h1)
      rw [ef] at this
      exact this
    · obtain ⟨w, hw, e⟩ := List.mem_map.mp (hp.mem_iff.mpr (List.mem_map_of_mem (f := nrm) hx))
      rw [← nrm_fst x, ← e, nrm_fst w]
      exact h2 w hw
end W00
