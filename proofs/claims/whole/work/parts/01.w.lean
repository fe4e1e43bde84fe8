/-! the words of the tables that the methods need; one list for all methods -/
def zEx : Nat → String
  | 1 => "java/lang/IllegalArgumentException"
  | 2 => "java/lang/UnsupportedOperationException"
  | 3 => "java/lang/IndexOutOfBoundsException"
  | 4 => "java/util/NoSuchElementException"
  | _ => "java/lang/IllegalStateException"
def zDecl : List MethodName := [⟨"java/lang/RuntimeException", "<init>", "()V"⟩, ⟨"java/lang/Exception", "<init>", "()V"⟩, ⟨"java/lang/Throwable", "<init>", "()V"⟩]
def BIG : List Cond := lw_tbl.filter goodWord
theorem bm {w : Cond} (i : Nat) (h : tables_1[i]? = some w) (hg : goodWord w = true) : w ∈ BIG := List.mem_filter.mpr ⟨List.mem_append_right _ (List.mem_of_getElem? h), hg⟩
theorem bp {w : Cond} (i : Nat) (h : (k2_sels lw_privs)[i]? = some w) (hg : goodWord w = true) : w ∈ BIG := List.mem_filter.mpr ⟨List.mem_append_left _ (List.mem_of_getElem? h), hg⟩
theorem mB {a w : Cond} (h : w ∈ BIG) : w ∈ a :: BIG := List.mem_cons_of_mem _ h
theorem mBa {a : Cond} {L : List Cond} (h : ∀ w ∈ L, w ∈ BIG) : ∀ w ∈ L, w ∈ a :: BIG := fun w hw => List.mem_cons_of_mem _ (h w hw)
theorem gB {w : Cond} (h : w ∈ BIG) : (w.onTables && w.keeps) = true ∨ ∃ ty, w = .arrayClass ty := good_of_word (List.mem_filter.mp h).2
theorem gN {a c : Cond} (hc : c ∈ BIG) : GoodIn (a :: BIG) (c :: BIG) := by
  intro w h
  rcases List.mem_cons.mp h with rfl | h
  · exact ⟨mB hc, gB hc⟩
  · exact ⟨mB h, gB h⟩
theorem gL {a : Cond} {L ws : List Cond} (hL : ∀ w ∈ L, w ∈ BIG) (hw : GoodIn (a :: BIG) ws) : GoodIn (a :: BIG) (L ++ ws) := by
  intro w h
  rcases List.mem_append.mp h with h | h
  · exact ⟨mB (hL w h), gB (hL w h)⟩
  · exact hw w h
theorem gV {a c : Cond} {own C : String} {ix : Nat} {ym : MethodName} (h1 : Cond.methodLink own ix ym ∈ BIG) (h2 : Cond.instanceMethod ym ∈ BIG) (h3 : Cond.selects C ym ym ∈ BIG) (h4 : Cond.initialized C ∈ BIG) (hc : c ∈ BIG) : GoodIn (a :: BIG) (wsV own ix C ym (c :: BIG)) := by
  unfold wsV
  refine gL ?_ (gN hc)
  intro w h
  simp only [List.mem_cons, List.mem_nil_iff, or_false] at h
  rcases h with rfl | rfl | rfl | rfl <;> assumption
theorem gS {a c : Cond} {own : String} {ix : Nat} {ym : MethodName} (h1 : Cond.methodLink own ix ym ∈ BIG) (h2 : Cond.static ym ∈ BIG) (h4 : Cond.initialized ym.cls ∈ BIG) (hc : c ∈ BIG) : GoodIn (a :: BIG) (va_wsS own ix ym (c :: BIG)) := by
  unfold va_wsS
  refine gL ?_ (gN hc)
  intro w h
  simp only [List.mem_cons, List.mem_nil_iff, or_false] at h
  rcases h with rfl | rfl | rfl <;> assumption
def zNest : List Cond := [(Jvm.Cond.methodLinkNest "SlotCluster" (19 : Nat) ({ cls := "SlotCluster$Turn", name := "<init>", desc := "()V" } : Jvm.MethodName) "SlotCluster"),
  (Jvm.Cond.methodLinkNest "SlotCluster" (26 : Nat) ({ cls := "SlotCluster$Groups", name := "<init>", desc := "()V" } : Jvm.MethodName) "SlotCluster"),
  (Jvm.Cond.methodLinkNest "SlotCluster" (33 : Nat) ({ cls := "SlotCluster$Guess", name := "<init>", desc := "()V" } : Jvm.MethodName) "SlotCluster"),
  (Jvm.Cond.methodLinkNest "SlotCluster" (40 : Nat) ({ cls := "SlotCluster$Text", name := "<init>", desc := "()V" } : Jvm.MethodName) "SlotCluster"),
  (Jvm.Cond.methodLinkNest "SlotCluster$ClusterReader" (82 : Nat) ({ cls := "SlotCluster", name := "bit", desc := "(I)I" } : Jvm.MethodName) "SlotCluster"),
  (Jvm.Cond.methodLinkNest "SlotCluster$Groups" (31 : Nat) ({ cls := "SlotCluster", name := "isIn", desc := "(II)Z" } : Jvm.MethodName) "SlotCluster"),
  (Jvm.Cond.methodLinkNest "SlotCluster$Groups" (38 : Nat) ({ cls := "SlotCluster", name := "bit", desc := "(I)I" } : Jvm.MethodName) "SlotCluster"),
  (Jvm.Cond.methodLinkNest "SlotCluster$Groups" (84 : Nat) ({ cls := "SlotCluster", name := "lowest", desc := "(I)I" } : Jvm.MethodName) "SlotCluster"),
  (Jvm.Cond.methodLinkNest "SlotCluster$Law" (37 : Nat) ({ cls := "SlotCluster", name := "bit", desc := "(I)I" } : Jvm.MethodName) "SlotCluster"),
  (Jvm.Cond.methodLinkNest "SlotCluster$State" (35 : Nat) ({ cls := "SlotCluster$Node", name := "<init>", desc := "()V" } : Jvm.MethodName) "SlotCluster"),
  (Jvm.Cond.methodLinkNest "SlotCluster$State" (68 : Nat) ({ cls := "SlotCluster", name := "bit", desc := "(I)I" } : Jvm.MethodName) "SlotCluster"),
  (Jvm.Cond.methodLinkNest "SlotCluster$State" (75 : Nat) ({ cls := "SlotCluster", name := "isIn", desc := "(II)Z" } : Jvm.MethodName) "SlotCluster"),
  (Jvm.Cond.methodLinkNest "SlotCluster$Turn" (11 : Nat) ({ cls := "SlotCluster$View", name := "<init>", desc := "()V" } : Jvm.MethodName) "SlotCluster"),
  (Jvm.Cond.methodLinkNest "SlotCluster$Turn" (130 : Nat) ({ cls := "SlotCluster", name := "lowest", desc := "(I)I" } : Jvm.MethodName) "SlotCluster"),
  (Jvm.Cond.methodLinkNest "SlotCluster$Turn" (137 : Nat) ({ cls := "SlotCluster", name := "keepWithin", desc := "(II)I" } : Jvm.MethodName) "SlotCluster"),
  (Jvm.Cond.methodLinkNest "SlotCluster$Turn" (78 : Nat) ({ cls := "SlotCluster", name := "isIn", desc := "(II)Z" } : Jvm.MethodName) "SlotCluster"),
  (Jvm.Cond.methodLinkNest "SlotCluster$Turn" (92 : Nat) ({ cls := "SlotCluster", name := "bit", desc := "(I)I" } : Jvm.MethodName) "SlotCluster"),
  (Jvm.Cond.methodLinkNest "SlotCluster$View" (88 : Nat) ({ cls := "SlotCluster", name := "bit", desc := "(I)I" } : Jvm.MethodName) "SlotCluster"),
  (Jvm.Cond.methodLinkNest "SlotCluster$View" (94 : Nat) ({ cls := "SlotCluster", name := "isIn", desc := "(II)Z" } : Jvm.MethodName) "SlotCluster"),
  (Jvm.Cond.methodLinkNest "SlotCluster$View" (98 : Nat) ({ cls := "SlotCluster", name := "midOf", desc := "([II)I" } : Jvm.MethodName) "SlotCluster")]
theorem wl_RX0_9 : Cond.fieldLink RX0 9 (TX0 0).1 (TX0 0).2.1 (TX0 0).2.2.1 ∈ BIG := bm 162 (by decide +kernel) (by decide +kernel)
theorem wl_RX8_9 : Cond.fieldLink RX8 9 (TX8 0).1 (TX8 0).2.1 (TX8 0).2.2.1 ∈ BIG := bm 139 (by decide +kernel) (by decide +kernel)
theorem wl_RX8_25 : Cond.fieldLink RX8 25 (TX8 4).1 (TX8 4).2.1 (TX8 4).2.2.1 ∈ BIG := bm 144 (by decide +kernel) (by decide +kernel)
theorem wl_RX8_22 : Cond.fieldLink RX8 22 (TX8 3).1 (TX8 3).2.1 (TX8 3).2.2.1 ∈ BIG := bm 143 (by decide +kernel) (by decide +kernel)
theorem wl_RX8_15 : Cond.fieldLink RX8 15 (TX8 1).1 (TX8 1).2.1 (TX8 1).2.2.1 ∈ BIG := bm 141 (by decide +kernel) (by decide +kernel)
theorem wl_RX8_19 : Cond.fieldLink RX8 19 (TX8 2).1 (TX8 2).2.1 (TX8 2).2.2.1 ∈ BIG := bm 142 (by decide +kernel) (by decide +kernel)
theorem wl_RX5_18 : Cond.fieldLink RX5 18 (TX5 0).1 (TX5 0).2.1 (TX5 0).2.2.1 ∈ BIG := bm 233 (by decide +kernel) (by decide +kernel)
theorem wl_RX5_21 : Cond.fieldLink RX5 21 (TX5 1).1 (TX5 1).2.1 (TX5 1).2.2.1 ∈ BIG := bm 240 (by decide +kernel) (by decide +kernel)
theorem wl_RX5_24 : Cond.fieldLink RX5 24 (TX5 2).1 (TX5 2).2.1 (TX5 2).2.2.1 ∈ BIG := bm 245 (by decide +kernel) (by decide +kernel)
theorem wl_RX5_9 : Cond.fieldLink RX5 9 (TX5 3).1 (TX5 3).2.1 (TX5 3).2.2.1 ∈ BIG := bm 249 (by decide +kernel) (by decide +kernel)
theorem wl_RX5_27 : Cond.fieldLink RX5 27 (TX5 4).1 (TX5 4).2.1 (TX5 4).2.2.1 ∈ BIG := bm 256 (by decide +kernel) (by decide +kernel)
theorem wl_RX5_30 : Cond.fieldLink RX5 30 (TX5 5).1 (TX5 5).2.1 (TX5 5).2.2.1 ∈ BIG := bm 260 (by decide +kernel) (by decide +kernel)
theorem wl_RX5_33 : Cond.fieldLink RX5 33 (TX5 6).1 (TX5 6).2.1 (TX5 6).2.2.1 ∈ BIG := bm 266 (by decide +kernel) (by decide +kernel)
theorem wl_RX5_36 : Cond.fieldLink RX5 36 (TX5 7).1 (TX5 7).2.1 (TX5 7).2.2.1 ∈ BIG := bm 270 (by decide +kernel) (by decide +kernel)
theorem wl_RX5_39 : Cond.fieldLink RX5 39 (TX5 8).1 (TX5 8).2.1 (TX5 8).2.2.1 ∈ BIG := bm 274 (by decide +kernel) (by decide +kernel)
theorem wl_RX5_15 : Cond.fieldLink RX5 15 (TX5 9).1 (TX5 9).2.1 (TX5 9).2.2.1 ∈ BIG := bm 279 (by decide +kernel) (by decide +kernel)
theorem wl_RX5_42 : Cond.fieldLink RX5 42 (TX5 10).1 (TX5 10).2.1 (TX5 10).2.2.1 ∈ BIG := bm 284 (by decide +kernel) (by decide +kernel)
theorem wl_RX7_52 : Cond.fieldLink RX7 52 (TX7 4).1 (TX7 4).2.1 (TX7 4).2.2.1 ∈ BIG := bm 322 (by decide +kernel) (by decide +kernel)
theorem wl_RX7_11 : Cond.fieldLink RX7 11 (TX7 0).1 (TX7 0).2.1 (TX7 0).2.2.1 ∈ BIG := bm 310 (by decide +kernel) (by decide +kernel)
theorem wm_RX7_61 : Cond.methodLink RX7 61 yX5_reset ∈ BIG := bm 797 (by decide +kernel) (by decide +kernel)
theorem win_RX5 : Cond.initialized RX5 ∈ BIG := bm 11 (by decide +kernel) (by decide +kernel)
theorem wc_X5_reset : Cond.code yX5_reset cX5_reset 3 none ∈ BIG := bm 800 (by decide +kernel) (by decide +kernel)
theorem wi_X5_reset : Cond.instanceMethod yX5_reset ∈ BIG := bm 798 (by decide +kernel) (by decide +kernel)
theorem wse_X5_reset : Cond.selects RX5 yX5_reset yX5_reset ∈ BIG := bm 799 (by decide +kernel) (by decide +kernel)
theorem wm_RX8_64 : Cond.methodLink RX8 64 yX8_fail ∈ BIG := bm 809 (by decide +kernel) (by decide +kernel)
theorem win_RX8 : Cond.initialized RX8 ∈ BIG := bm 6 (by decide +kernel) (by decide +kernel)
theorem wc_X8_fail : Cond.code yX8_fail cX8_fail 1 none ∈ BIG := bm 812 (by decide +kernel) (by decide +kernel)
theorem wi_X8_fail : Cond.instanceMethod yX8_fail ∈ BIG := bm 810 (by decide +kernel) (by decide +kernel)
theorem wse_X8_fail : Cond.selects RX8 yX8_fail yX8_fail ∈ BIG := bm 811 (by decide +kernel) (by decide +kernel)
theorem wl_RX0_31 : Cond.fieldLink RX0 31 (TX7 4).1 (TX7 4).2.1 (TX7 4).2.2.1 ∈ BIG := bm 323 (by decide +kernel) (by decide +kernel)
theorem wl_RX0_58 : Cond.fieldLink RX0 58 (TX7 0).1 (TX7 0).2.1 (TX7 0).2.2.1 ∈ BIG := bm 313 (by decide +kernel) (by decide +kernel)
theorem wm_RX0_25 : Cond.methodLink RX0 25 yX8_takes ∈ BIG := bm 789 (by decide +kernel) (by decide +kernel)
theorem wc_X8_takes : Cond.code yX8_takes cX8_takes 3 (some .boolean) ∈ BIG := bm 792 (by decide +kernel) (by decide +kernel)
theorem wi_X8_takes : Cond.instanceMethod yX8_takes ∈ BIG := bm 790 (by decide +kernel) (by decide +kernel)
theorem wse_X8_takes : Cond.selects RX8 yX8_takes yX8_takes ∈ BIG := bm 791 (by decide +kernel) (by decide +kernel)
theorem wm_RX0_45 : Cond.methodLink RX0 45 yX8_takeNumber ∈ BIG := bm 805 (by decide +kernel) (by decide +kernel)
theorem wc_X8_takeNumber : Cond.code yX8_takeNumber cX8_takeNumber 4 (some .int) ∈ BIG := bm 808 (by decide +kernel) (by decide +kernel)
theorem wi_X8_takeNumber : Cond.instanceMethod yX8_takeNumber ∈ BIG := bm 806 (by decide +kernel) (by decide +kernel)
theorem wse_X8_takeNumber : Cond.selects RX8 yX8_takeNumber yX8_takeNumber ∈ BIG := bm 807 (by decide +kernel) (by decide +kernel)
theorem wl_RX0_62 : Cond.fieldLink RX0 62 (TX5 0).1 (TX5 0).2.1 (TX5 0).2.2.1 ∈ BIG := bm 235 (by decide +kernel) (by decide +kernel)
theorem wl_RX0_67 : Cond.fieldLink RX0 67 (TX5 1).1 (TX5 1).2.1 (TX5 1).2.2.1 ∈ BIG := bm 241 (by decide +kernel) (by decide +kernel)
theorem wl_RX0_70 : Cond.fieldLink RX0 70 (TX5 8).1 (TX5 8).2.1 (TX5 8).2.2.1 ∈ BIG := bm 276 (by decide +kernel) (by decide +kernel)
theorem wl_RX0_73 : Cond.fieldLink RX0 73 (TX5 9).1 (TX5 9).2.1 (TX5 9).2.2.1 ∈ BIG := bm 281 (by decide +kernel) (by decide +kernel)
theorem wl_RX0_76 : Cond.fieldLink RX0 76 (TX5 10).1 (TX5 10).2.1 (TX5 10).2.2.1 ∈ BIG := bm 285 (by decide +kernel) (by decide +kernel)
theorem wl_RX0_79 : Cond.fieldLink RX0 79 (TX5 3).1 (TX5 3).2.1 (TX5 3).2.2.1 ∈ BIG := bm 253 (by decide +kernel) (by decide +kernel)
theorem win_RX11 : Cond.initialized RX11 ∈ BIG := bm 1 (by decide +kernel) (by decide +kernel)
theorem wc_X11_bit : Cond.code yX11_bit cX11_bit 1 (some .int) ∈ BIG := bm 489 (by decide +kernel) (by decide +kernel)
theorem wst_X11_bit : Cond.static yX11_bit ∈ BIG := bm 488 (by decide +kernel) (by decide +kernel)
theorem wl_RX0_85 : Cond.fieldLink RX0 85 (TX5 5).1 (TX5 5).2.1 (TX5 5).2.2.1 ∈ BIG := bm 262 (by decide +kernel) (by decide +kernel)
theorem wm_RX0_37 : Cond.methodLink RX0 37 yX7_addNode ∈ BIG := bm 793 (by decide +kernel) (by decide +kernel)
theorem win_RX7 : Cond.initialized RX7 ∈ BIG := bm 10 (by decide +kernel) (by decide +kernel)
theorem wc_X7_addNode : Cond.code yX7_addNode cX7_addNode 3 (some .int) ∈ BIG := bm 796 (by decide +kernel) (by decide +kernel)
theorem wi_X7_addNode : Cond.instanceMethod yX7_addNode ∈ BIG := bm 794 (by decide +kernel) (by decide +kernel)
theorem wse_X7_addNode : Cond.selects RX7 yX7_addNode yX7_addNode ∈ BIG := bm 795 (by decide +kernel) (by decide +kernel)
theorem wm_RX0_41 : Cond.methodLink RX0 41 yX0_readNode ∈ BIG := bm 801 (by decide +kernel) (by decide +kernel)
theorem win_RX0 : Cond.initialized RX0 ∈ BIG := bm 7 (by decide +kernel) (by decide +kernel)
theorem wc_X0_readNode : Cond.code yX0_readNode cX0_readNode 4 none ∈ BIG := bm 804 (by decide +kernel) (by decide +kernel)
theorem wi_X0_readNode : Cond.instanceMethod yX0_readNode ∈ BIG := bm 803 (by decide +kernel) (by decide +kernel)
theorem wse_X0_readNode : Cond.selects RX0 yX0_readNode yX0_readNode ∈ BIG := bp 12 (by decide +kernel) (by decide +kernel)
theorem wl_RX0_49 : Cond.fieldLink RX0 49 (TX7 5).1 (TX7 5).2.1 (TX7 5).2.2.1 ∈ BIG := bm 330 (by decide +kernel) (by decide +kernel)
theorem wl_RX0_52 : Cond.fieldLink RX0 52 (TX7 6).1 (TX7 6).2.1 (TX7 6).2.2.1 ∈ BIG := bm 334 (by decide +kernel) (by decide +kernel)
theorem wl_RX0_55 : Cond.fieldLink RX0 55 (TX7 7).1 (TX7 7).2.1 (TX7 7).2.2.1 ∈ BIG := bm 338 (by decide +kernel) (by decide +kernel)
theorem wm_RX0_28 : Cond.methodLink RX0 28 yX8_fail ∈ BIG := bm 814 (by decide +kernel) (by decide +kernel)
theorem wm_RX0_15 : Cond.methodLink RX0 15 yX8_isAt ∈ BIG := bm 781 (by decide +kernel) (by decide +kernel)
theorem wc_X8_isAt : Cond.code yX8_isAt cX8_isAt 2 (some .boolean) ∈ BIG := bm 784 (by decide +kernel) (by decide +kernel)
theorem wi_X8_isAt : Cond.instanceMethod yX8_isAt ∈ BIG := bm 782 (by decide +kernel) (by decide +kernel)
theorem wse_X8_isAt : Cond.selects RX8 yX8_isAt yX8_isAt ∈ BIG := bm 783 (by decide +kernel) (by decide +kernel)
theorem wm_RX0_21 : Cond.methodLink RX0 21 yX0_readLine ∈ BIG := bm 785 (by decide +kernel) (by decide +kernel)
theorem wc_X0_readLine : Cond.code yX0_readLine cX0_readLine 2 none ∈ BIG := bm 788 (by decide +kernel) (by decide +kernel)
theorem wi_X0_readLine : Cond.instanceMethod yX0_readLine ∈ BIG := bm 787 (by decide +kernel) (by decide +kernel)
theorem wse_X0_readLine : Cond.selects RX0 yX0_readLine yX0_readLine ∈ BIG := bp 11 (by decide +kernel) (by decide +kernel)
theorem wl_RX1_9 : Cond.fieldLink RX1 9 (TX1 1).1 (TX1 1).2.1 (TX1 1).2.2.1 ∈ BIG := bm 102 (by decide +kernel) (by decide +kernel)
theorem wl_RX1_15 : Cond.fieldLink RX1 15 (TX1 2).1 (TX1 2).2.1 (TX1 2).2.2.1 ∈ BIG := bm 103 (by decide +kernel) (by decide +kernel)
theorem wl_RX1_18 : Cond.fieldLink RX1 18 (TX1 3).1 (TX1 3).2.1 (TX1 3).2.2.1 ∈ BIG := bm 104 (by decide +kernel) (by decide +kernel)
theorem wl_RX1_21 : Cond.fieldLink RX1 21 (TX1 4).1 (TX1 4).2.1 (TX1 4).2.2.1 ∈ BIG := bm 105 (by decide +kernel) (by decide +kernel)
theorem wl_RX1_24 : Cond.fieldLink RX1 24 (TX10 4).1 (TX10 4).2.1 (TX10 4).2.2.1 ∈ BIG := bm 63 (by decide +kernel) (by decide +kernel)
theorem wl_RX1_30 : Cond.fieldLink RX1 30 (TX1 0).1 (TX1 0).2.1 (TX1 0).2.2.1 ∈ BIG := bm 101 (by decide +kernel) (by decide +kernel)
theorem wc_X11_isIn : Cond.code yX11_isIn cX11_isIn 2 (some .boolean) ∈ BIG := bm 524 (by decide +kernel) (by decide +kernel)
theorem wst_X11_isIn : Cond.static yX11_isIn ∈ BIG := bm 523 (by decide +kernel) (by decide +kernel)
theorem wl_RX1_35 : Cond.fieldLink RX1 35 (TX10 1).1 (TX10 1).2.1 (TX10 1).2.2.1 ∈ BIG := bm 55 (by decide +kernel) (by decide +kernel)
theorem wm_RX1_42 : Cond.methodLink RX1 42 yX1_cliqueOf ∈ BIG := bm 530 (by decide +kernel) (by decide +kernel)
theorem win_RX1 : Cond.initialized RX1 ∈ BIG := bm 4 (by decide +kernel) (by decide +kernel)
theorem wc_X1_cliqueOf : Cond.code yX1_cliqueOf cX1_cliqueOf 5 (some .int) ∈ BIG := bm 533 (by decide +kernel) (by decide +kernel)
theorem wi_X1_cliqueOf : Cond.instanceMethod yX1_cliqueOf ∈ BIG := bm 531 (by decide +kernel) (by decide +kernel)
theorem wse_X1_cliqueOf : Cond.selects RX1 yX1_cliqueOf yX1_cliqueOf ∈ BIG := bm 532 (by decide +kernel) (by decide +kernel)
theorem wk_RJ6_265 : Cond.constant RJ6 265 (1431655765) ∈ BIG := bm 507 (by decide +kernel) (by decide +kernel)
theorem wk_RJ6_266 : Cond.constant RJ6 266 (858993459) ∈ BIG := bm 508 (by decide +kernel) (by decide +kernel)
theorem wk_RJ6_267 : Cond.constant RJ6 267 (252645135) ∈ BIG := bm 509 (by decide +kernel) (by decide +kernel)
theorem wm_RX1_45 : Cond.methodLink RX1 45 yJ6_bitCount_0f7a4 ∈ BIG := bm 643 (by decide +kernel) (by decide +kernel)
theorem win_RJ6 : Cond.initialized RJ6 ∈ BIG := bm 27 (by decide +kernel) (by decide +kernel)
theorem wc_J6_bitCount_0f7a4 : Cond.code yJ6_bitCount_0f7a4 cJ6_bitCount_0f7a4 1 (some .int) ∈ BIG := bm 506 (by decide +kernel) (by decide +kernel)
theorem wst_J6_bitCount_0f7a4 : Cond.static yJ6_bitCount_0f7a4 ∈ BIG := bm 505 (by decide +kernel) (by decide +kernel)
theorem wm_RX1_50 : Cond.methodLink RX1 50 yX1_areFriends ∈ BIG := bm 644 (by decide +kernel) (by decide +kernel)
theorem wc_X1_areFriends : Cond.code yX1_areFriends cX1_areFriends 3 (some .boolean) ∈ BIG := bm 647 (by decide +kernel) (by decide +kernel)
theorem wi_X1_areFriends : Cond.instanceMethod yX1_areFriends ∈ BIG := bm 646 (by decide +kernel) (by decide +kernel)
theorem wse_X1_areFriends : Cond.selects RX1 yX1_areFriends yX1_areFriends ∈ BIG := bp 7 (by decide +kernel) (by decide +kernel)
theorem wl_RX1_58 : Cond.fieldLink RX1 58 (TX7 4).1 (TX7 4).2.1 (TX7 4).2.2.1 ∈ BIG := bm 326 (by decide +kernel) (by decide +kernel)
theorem wl_RX1_63 : Cond.fieldLink RX1 63 (TX7 0).1 (TX7 0).2.1 (TX7 0).2.2.1 ∈ BIG := bm 315 (by decide +kernel) (by decide +kernel)
theorem wl_RX1_67 : Cond.fieldLink RX1 67 (TX5 3).1 (TX5 3).2.1 (TX5 3).2.2.1 ∈ BIG := bm 254 (by decide +kernel) (by decide +kernel)
theorem wl_RX1_72 : Cond.fieldLink RX1 72 (TX5 0).1 (TX5 0).2.1 (TX5 0).2.2.1 ∈ BIG := bm 238 (by decide +kernel) (by decide +kernel)
theorem wm_RX1_54 : Cond.methodLink RX1 54 yX1_putInOrder ∈ BIG := bm 656 (by decide +kernel) (by decide +kernel)
theorem wc_X1_putInOrder : Cond.code yX1_putInOrder cX1_putInOrder 7 (some .int) ∈ BIG := bm 659 (by decide +kernel) (by decide +kernel)
theorem wi_X1_putInOrder : Cond.instanceMethod yX1_putInOrder ∈ BIG := bm 658 (by decide +kernel) (by decide +kernel)
theorem wse_X1_putInOrder : Cond.selects RX1 yX1_putInOrder yX1_putInOrder ∈ BIG := bp 8 (by decide +kernel) (by decide +kernel)
theorem wm_RX11_212 : Cond.methodLink RX11 212 yX11_isIn ∈ BIG := bm 553 (by decide +kernel) (by decide +kernel)
theorem wm_RX1_75 : Cond.methodLink RX1 75 Lib.Math.abs.name ∈ BIG := bm 1203 (by decide +kernel) (by decide +kernel)
theorem wst_Math_abs : Cond.static Lib.Math.abs.name ∈ BIG := bm 515 (by decide +kernel) (by decide +kernel)
theorem win_Math : Cond.initialized "java/lang/Math" ∈ BIG := bm 14 (by decide +kernel) (by decide +kernel)
theorem wc_Math_abs : Cond.code Lib.Math.abs.name Lib.Math.abs.code 1 (some .int) ∈ BIG := bm 516 (by decide +kernel) (by decide +kernel)
theorem wm_RX1_80 : Cond.methodLink RX1 80 Lib.Math.max.name ∈ BIG := bm 1204 (by decide +kernel) (by decide +kernel)
theorem wst_Math_max : Cond.static Lib.Math.max.name ∈ BIG := bm 469 (by decide +kernel) (by decide +kernel)
theorem wc_Math_max : Cond.code Lib.Math.max.name Lib.Math.max.code 2 (some .int) ∈ BIG := bm 470 (by decide +kernel) (by decide +kernel)
theorem wc_X11_lowest : Cond.code yX11_lowest cX11_lowest 2 (some .int) ∈ BIG := bm 552 (by decide +kernel) (by decide +kernel)
theorem wst_X11_lowest : Cond.static yX11_lowest ∈ BIG := bm 551 (by decide +kernel) (by decide +kernel)
theorem wm_RX1_87 : Cond.methodLink RX1 87 yX1_firstPartner ∈ BIG := bm 1214 (by decide +kernel) (by decide +kernel)
theorem wc_X1_firstPartner : Cond.code yX1_firstPartner cX1_firstPartner 5 (some .int) ∈ BIG := bm 1217 (by decide +kernel) (by decide +kernel)
theorem wi_X1_firstPartner : Cond.instanceMethod yX1_firstPartner ∈ BIG := bm 1216 (by decide +kernel) (by decide +kernel)
theorem wse_X1_firstPartner : Cond.selects RX1 yX1_firstPartner yX1_firstPartner ∈ BIG := bp 25 (by decide +kernel) (by decide +kernel)
theorem wl_RX2_11 : Cond.fieldLink RX2 11 (TX2 0).1 (TX2 0).2.1 (TX2 0).2.2.1 ∈ BIG := bm 123 (by decide +kernel) (by decide +kernel)
theorem wl_RX2_15 : Cond.fieldLink RX2 15 (TX2 1).1 (TX2 1).2.1 (TX2 1).2.2.1 ∈ BIG := bm 124 (by decide +kernel) (by decide +kernel)
theorem wl_RX2_18 : Cond.fieldLink RX2 18 (TX2 2).1 (TX2 2).2.1 (TX2 2).2.2.1 ∈ BIG := bm 125 (by decide +kernel) (by decide +kernel)
theorem wm_RX2_22 : Cond.methodLink RX2 22 yX2_clockOf ∈ BIG := bm 1124 (by decide +kernel) (by decide +kernel)
theorem win_RX2 : Cond.initialized RX2 ∈ BIG := bm 5 (by decide +kernel) (by decide +kernel)
theorem wc_X2_clockOf : Cond.code yX2_clockOf cX2_clockOf 2 (some .int) ∈ BIG := bm 1126 (by decide +kernel) (by decide +kernel)
theorem wst_X2_clockOf : Cond.static yX2_clockOf ∈ BIG := bm 1125 (by decide +kernel) (by decide +kernel)
theorem wm_RX2_26 : Cond.methodLink RX2 26 yX2_isHeard ∈ BIG := bm 1167 (by decide +kernel) (by decide +kernel)
theorem wc_X2_isHeard : Cond.code yX2_isHeard cX2_isHeard 3 (some .boolean) ∈ BIG := bm 1169 (by decide +kernel) (by decide +kernel)
theorem wst_X2_isHeard : Cond.static yX2_isHeard ∈ BIG := bm 1168 (by decide +kernel) (by decide +kernel)
theorem wm_RX2_38 : Cond.methodLink RX2 38 Lib.Math.max.name ∈ BIG := bm 1151 (by decide +kernel) (by decide +kernel)
theorem wm_RX2_30 : Cond.methodLink RX2 30 yX2_countFits ∈ BIG := bm 1146 (by decide +kernel) (by decide +kernel)
theorem wc_X2_countFits : Cond.code yX2_countFits cX2_countFits 3 (some .int) ∈ BIG := bm 1134 (by decide +kernel) (by decide +kernel)
theorem wi_X2_countFits : Cond.instanceMethod yX2_countFits ∈ BIG := bm 1132 (by decide +kernel) (by decide +kernel)
theorem wse_X2_countFits : Cond.selects RX2 yX2_countFits yX2_countFits ∈ BIG := bm 1133 (by decide +kernel) (by decide +kernel)
theorem wm_RX2_34 : Cond.methodLink RX2 34 yX2_greatestPart ∈ BIG := bm 1147 (by decide +kernel) (by decide +kernel)
theorem wc_X2_greatestPart : Cond.code yX2_greatestPart cX2_greatestPart 5 (some .int) ∈ BIG := bm 1150 (by decide +kernel) (by decide +kernel)
theorem wi_X2_greatestPart : Cond.instanceMethod yX2_greatestPart ∈ BIG := bm 1149 (by decide +kernel) (by decide +kernel)
theorem wse_X2_greatestPart : Cond.selects RX2 yX2_greatestPart yX2_greatestPart ∈ BIG := bp 22 (by decide +kernel) (by decide +kernel)
theorem wm_RX2_43 : Cond.methodLink RX2 43 yX2_countHearing ∈ BIG := bm 1188 (by decide +kernel) (by decide +kernel)
theorem wc_X2_countHearing : Cond.code yX2_countHearing cX2_countHearing 5 (some .int) ∈ BIG := bm 1191 (by decide +kernel) (by decide +kernel)
theorem wi_X2_countHearing : Cond.instanceMethod yX2_countHearing ∈ BIG := bm 1190 (by decide +kernel) (by decide +kernel)
theorem wse_X2_countHearing : Cond.selects RX2 yX2_countHearing yX2_countHearing ∈ BIG := bp 24 (by decide +kernel) (by decide +kernel)
theorem wl_RX3_9 : Cond.fieldLink RX3 9 (TX3 5).1 (TX3 5).2.1 (TX3 5).2.2.1 ∈ BIG := bm 206 (by decide +kernel) (by decide +kernel)
theorem wl_RX3_15 : Cond.fieldLink RX3 15 (TX3 0).1 (TX3 0).2.1 (TX3 0).2.2.1 ∈ BIG := bm 200 (by decide +kernel) (by decide +kernel)
theorem wl_RX3_19 : Cond.fieldLink RX3 19 (TX3 1).1 (TX3 1).2.1 (TX3 1).2.2.1 ∈ BIG := bm 202 (by decide +kernel) (by decide +kernel)
theorem wl_RX3_22 : Cond.fieldLink RX3 22 (TX3 2).1 (TX3 2).2.1 (TX3 2).2.2.1 ∈ BIG := bm 203 (by decide +kernel) (by decide +kernel)
theorem wl_RX3_25 : Cond.fieldLink RX3 25 (TX3 3).1 (TX3 3).2.1 (TX3 3).2.2.1 ∈ BIG := bm 204 (by decide +kernel) (by decide +kernel)
theorem wl_RX3_28 : Cond.fieldLink RX3 28 (TX3 4).1 (TX3 4).2.1 (TX3 4).2.2.1 ∈ BIG := bm 205 (by decide +kernel) (by decide +kernel)
theorem wl_RX7_65 : Cond.fieldLink RX7 65 (TX5 3).1 (TX5 3).2.1 (TX5 3).2.2.1 ∈ BIG := bm 251 (by decide +kernel) (by decide +kernel)
theorem wl_RX3_58 : Cond.fieldLink RX3 58 (TX7 4).1 (TX7 4).2.1 (TX7 4).2.2.1 ∈ BIG := bm 325 (by decide +kernel) (by decide +kernel)
theorem wl_RX3_61 : Cond.fieldLink RX3 61 (TX7 0).1 (TX7 0).2.1 (TX7 0).2.2.1 ∈ BIG := bm 314 (by decide +kernel) (by decide +kernel)
theorem wl_RX3_65 : Cond.fieldLink RX3 65 (TX5 1).1 (TX5 1).2.1 (TX5 1).2.2.1 ∈ BIG := bm 242 (by decide +kernel) (by decide +kernel)
theorem wl_RX3_70 : Cond.fieldLink RX3 70 (TX5 2).1 (TX5 2).2.1 (TX5 2).2.2.1 ∈ BIG := bm 247 (by decide +kernel) (by decide +kernel)
theorem wm_RX3_44 : Cond.methodLink RX3 44 Lib.Math.max.name ∈ BIG := bm 500 (by decide +kernel) (by decide +kernel)
theorem wl_RX3_73 : Cond.fieldLink RX3 73 (TX5 5).1 (TX5 5).2.1 (TX5 5).2.2.1 ∈ BIG := bm 264 (by decide +kernel) (by decide +kernel)
theorem wm_RX3_76 : Cond.methodLink RX3 76 yJ6_bitCount_0f7a4 ∈ BIG := bm 504 (by decide +kernel) (by decide +kernel)
theorem wl_RX3_81 : Cond.fieldLink RX3 81 (TX5 6).1 (TX5 6).2.1 (TX5 6).2.2.1 ∈ BIG := bm 267 (by decide +kernel) (by decide +kernel)
theorem wl_RX3_84 : Cond.fieldLink RX3 84 (TX5 7).1 (TX5 7).2.1 (TX5 7).2.2.1 ∈ BIG := bm 271 (by decide +kernel) (by decide +kernel)
theorem wl_RX3_87 : Cond.fieldLink RX3 87 (TX5 4).1 (TX5 4).2.1 (TX5 4).2.2.1 ∈ BIG := bm 258 (by decide +kernel) (by decide +kernel)
theorem wl_RX3_90 : Cond.fieldLink RX3 90 (TX7 7).1 (TX7 7).2.1 (TX7 7).2.2.1 ∈ BIG := bm 339 (by decide +kernel) (by decide +kernel)
theorem wl_RX3_93 : Cond.fieldLink RX3 93 (TX5 8).1 (TX5 8).2.1 (TX5 8).2.2.1 ∈ BIG := bm 277 (by decide +kernel) (by decide +kernel)
theorem wm_RX3_50 : Cond.methodLink RX3 50 yX3_partOf ∈ BIG := bm 501 (by decide +kernel) (by decide +kernel)
theorem win_RX3 : Cond.initialized RX3 ∈ BIG := bm 9 (by decide +kernel) (by decide +kernel)
theorem wc_X3_partOf : Cond.code yX3_partOf cX3_partOf 5 (some .int) ∈ BIG := bm 503 (by decide +kernel) (by decide +kernel)
theorem wst_X3_partOf : Cond.static yX3_partOf ∈ BIG := bm 502 (by decide +kernel) (by decide +kernel)
theorem wm_RX3_54 : Cond.methodLink RX3 54 yX3_joined ∈ BIG := bm 510 (by decide +kernel) (by decide +kernel)
theorem wc_X3_joined : Cond.code yX3_joined cX3_joined 3 (some .int) ∈ BIG := bm 512 (by decide +kernel) (by decide +kernel)
theorem wst_X3_joined : Cond.static yX3_joined ∈ BIG := bm 511 (by decide +kernel) (by decide +kernel)
theorem wm_RX3_31 : Cond.methodLink RX3 31 yX7_inState ∈ BIG := bm 494 (by decide +kernel) (by decide +kernel)
theorem wc_X7_inState : Cond.code yX7_inState cX7_inState 4 (some .int) ∈ BIG := bm 486 (by decide +kernel) (by decide +kernel)
theorem wi_X7_inState : Cond.instanceMethod yX7_inState ∈ BIG := bm 484 (by decide +kernel) (by decide +kernel)
theorem wse_X7_inState : Cond.selects RX7 yX7_inState yX7_inState ∈ BIG := bm 485 (by decide +kernel) (by decide +kernel)
theorem wm_RX3_40 : Cond.methodLink RX3 40 yX3_holds ∈ BIG := bm 496 (by decide +kernel) (by decide +kernel)
theorem wc_X3_holds : Cond.code yX3_holds cX3_holds 8 (some .boolean) ∈ BIG := bm 499 (by decide +kernel) (by decide +kernel)
theorem wi_X3_holds : Cond.instanceMethod yX3_holds ∈ BIG := bm 498 (by decide +kernel) (by decide +kernel)
theorem wse_X3_holds : Cond.selects RX3 yX3_holds yX3_holds ∈ BIG := bp 1 (by decide +kernel) (by decide +kernel)
theorem wl_RX4_9 : Cond.fieldLink RX4 9 (TX4 1).1 (TX4 1).2.1 (TX4 1).2.2.1 ∈ BIG := bm 173 (by decide +kernel) (by decide +kernel)
theorem wl_RX4_15 : Cond.fieldLink RX4 15 (TX4 2).1 (TX4 2).2.1 (TX4 2).2.2.1 ∈ BIG := bm 174 (by decide +kernel) (by decide +kernel)
theorem wl_RX4_18 : Cond.fieldLink RX4 18 (TX4 3).1 (TX4 3).2.1 (TX4 3).2.2.1 ∈ BIG := bm 175 (by decide +kernel) (by decide +kernel)
theorem wl_RX4_21 : Cond.fieldLink RX4 21 (TX4 4).1 (TX4 4).2.1 (TX4 4).2.2.1 ∈ BIG := bm 176 (by decide +kernel) (by decide +kernel)
theorem wl_RX4_24 : Cond.fieldLink RX4 24 (TX4 0).1 (TX4 0).2.1 (TX4 0).2.2.1 ∈ BIG := bm 172 (by decide +kernel) (by decide +kernel)
theorem wm_RX4_44 : Cond.methodLink RX4 44 Lib.Math.min.name ∈ BIG := bm 947 (by decide +kernel) (by decide +kernel)
theorem wst_Math_min : Cond.static Lib.Math.min.name ∈ BIG := bm 466 (by decide +kernel) (by decide +kernel)
theorem wc_Math_min : Cond.code Lib.Math.min.name Lib.Math.min.code 2 (some .int) ∈ BIG := bm 467 (by decide +kernel) (by decide +kernel)
theorem wm_RX4_50 : Cond.methodLink RX4 50 Lib.Math.max.name ∈ BIG := bm 948 (by decide +kernel) (by decide +kernel)
theorem wm_RX4_53 : Cond.methodLink RX4 53 arraycopyName ∈ BIG := bm 949 (by decide +kernel) (by decide +kernel)
theorem wnat_copy : Cond.native arraycopyName ∈ BIG := bm 548 (by decide +kernel) (by decide +kernel)
theorem wst_copy : Cond.static arraycopyName ∈ BIG := bm 547 (by decide +kernel) (by decide +kernel)
theorem win_System : Cond.initialized "java/lang/System" ∈ BIG := bm 19 (by decide +kernel) (by decide +kernel)
theorem wl_RX4_30 : Cond.fieldLink RX4 30 (TX4 5).1 (TX4 5).2.1 (TX4 5).2.2.1 ∈ BIG := bm 177 (by decide +kernel) (by decide +kernel)
theorem wm_RX4_34 : Cond.methodLink RX4 34 yX4_copyOf ∈ BIG := bm 944 (by decide +kernel) (by decide +kernel)
theorem win_RX4 : Cond.initialized RX4 ∈ BIG := bm 8 (by decide +kernel) (by decide +kernel)
theorem wc_X4_copyOf : Cond.code yX4_copyOf cX4_copyOf 4 (some ((.array .int))) ∈ BIG := bm 946 (by decide +kernel) (by decide +kernel)
theorem wst_X4_copyOf : Cond.static yX4_copyOf ∈ BIG := bm 945 (by decide +kernel) (by decide +kernel)
theorem wl_RX4_38 : Cond.fieldLink RX4 38 (TX4 6).1 (TX4 6).2.1 (TX4 6).2.2.1 ∈ BIG := bm 178 (by decide +kernel) (by decide +kernel)
theorem wm_RX4_75 : Cond.methodLink RX4 75 yX8_takeAny ∈ BIG := bm 912 (by decide +kernel) (by decide +kernel)
theorem wc_X8_takeAny : Cond.code yX8_takeAny cX8_takeAny 4 (some .int) ∈ BIG := bm 915 (by decide +kernel) (by decide +kernel)
theorem wi_X8_takeAny : Cond.instanceMethod yX8_takeAny ∈ BIG := bm 913 (by decide +kernel) (by decide +kernel)
theorem wse_X8_takeAny : Cond.selects RX8 yX8_takeAny yX8_takeAny ∈ BIG := bm 914 (by decide +kernel) (by decide +kernel)
theorem wm_RX4_72 : Cond.methodLink RX4 72 yX8_fail ∈ BIG := bm 916 (by decide +kernel) (by decide +kernel)
theorem wm_RX4_87 : Cond.methodLink RX4 87 yX4_emit ∈ BIG := bm 931 (by decide +kernel) (by decide +kernel)
theorem wc_X4_emit : Cond.code yX4_emit cX4_emit 2 none ∈ BIG := bm 934 (by decide +kernel) (by decide +kernel)
theorem wi_X4_emit : Cond.instanceMethod yX4_emit ∈ BIG := bm 933 (by decide +kernel) (by decide +kernel)
theorem wse_X4_emit : Cond.selects RX4 yX4_emit yX4_emit ∈ BIG := bp 18 (by decide +kernel) (by decide +kernel)
theorem wm_RX4_69 : Cond.methodLink RX4 69 yX8_takes ∈ BIG := bm 918 (by decide +kernel) (by decide +kernel)
theorem wm_RX4_59 : Cond.methodLink RX4 59 yX8_isAt ∈ BIG := bm 907 (by decide +kernel) (by decide +kernel)
theorem wm_RX4_90 : Cond.methodLink RX4 90 yX4_readAtom ∈ BIG := bm 927 (by decide +kernel) (by decide +kernel)
theorem wc_X4_readAtom : Cond.code yX4_readAtom cX4_readAtom 5 none ∈ BIG := bm 930 (by decide +kernel) (by decide +kernel)
theorem wi_X4_readAtom : Cond.instanceMethod yX4_readAtom ∈ BIG := bm 929 (by decide +kernel) (by decide +kernel)
theorem wse_X4_readAtom : Cond.selects RX4 yX4_readAtom yX4_readAtom ∈ BIG := bp 17 (by decide +kernel) (by decide +kernel)
theorem wm_RX4_81 : Cond.methodLink RX4 81 yX4_readAny ∈ BIG := bm 919 (by decide +kernel) (by decide +kernel)
theorem wc_X4_readAny : Cond.code yX4_readAny cX4_readAny 3 none ∈ BIG := bm 922 (by decide +kernel) (by decide +kernel)
theorem wi_X4_readAny : Cond.instanceMethod yX4_readAny ∈ BIG := bm 921 (by decide +kernel) (by decide +kernel)
theorem wse_X4_readAny : Cond.selects RX4 yX4_readAny yX4_readAny ∈ BIG := bp 15 (by decide +kernel) (by decide +kernel)
theorem wm_RX4_93 : Cond.methodLink RX4 93 yX4_readSum ∈ BIG := bm 935 (by decide +kernel) (by decide +kernel)
theorem wc_X4_readSum : Cond.code yX4_readSum cX4_readSum 4 none ∈ BIG := bm 938 (by decide +kernel) (by decide +kernel)
theorem wi_X4_readSum : Cond.instanceMethod yX4_readSum ∈ BIG := bm 937 (by decide +kernel) (by decide +kernel)
theorem wse_X4_readSum : Cond.selects RX4 yX4_readSum yX4_readSum ∈ BIG := bp 19 (by decide +kernel) (by decide +kernel)
theorem wm_RX4_84 : Cond.methodLink RX4 84 yX4_readEach ∈ BIG := bm 923 (by decide +kernel) (by decide +kernel)
theorem wc_X4_readEach : Cond.code yX4_readEach cX4_readEach 3 none ∈ BIG := bm 926 (by decide +kernel) (by decide +kernel)
theorem wi_X4_readEach : Cond.instanceMethod yX4_readEach ∈ BIG := bm 925 (by decide +kernel) (by decide +kernel)
theorem wse_X4_readEach : Cond.selects RX4 yX4_readEach yX4_readEach ∈ BIG := bp 16 (by decide +kernel) (by decide +kernel)
theorem wm_RX4_78 : Cond.methodLink RX4 78 yX8_takeNumber ∈ BIG := bm 917 (by decide +kernel) (by decide +kernel)
theorem wm_RX4_65 : Cond.methodLink RX4 65 yX4_readLine ∈ BIG := bm 908 (by decide +kernel) (by decide +kernel)
theorem wc_X4_readLine : Cond.code yX4_readLine cX4_readLine 3 none ∈ BIG := bm 911 (by decide +kernel) (by decide +kernel)
theorem wi_X4_readLine : Cond.instanceMethod yX4_readLine ∈ BIG := bm 910 (by decide +kernel) (by decide +kernel)
theorem wse_X4_readLine : Cond.selects RX4 yX4_readLine yX4_readLine ∈ BIG := bp 14 (by decide +kernel) (by decide +kernel)
theorem wl_RX6_11 : Cond.fieldLink RX6 11 (TX6 0).1 (TX6 0).2.1 (TX6 0).2.2.1 ∈ BIG := bm 381 (by decide +kernel) (by decide +kernel)
theorem wm_RX7_36 : Cond.methodLink RX7 36 yX5_copyFrom ∈ BIG := bm 542 (by decide +kernel) (by decide +kernel)
theorem wc_X5_copyFrom : Cond.code yX5_copyFrom cX5_copyFrom 2 none ∈ BIG := bm 545 (by decide +kernel) (by decide +kernel)
theorem wi_X5_copyFrom : Cond.instanceMethod yX5_copyFrom ∈ BIG := bm 543 (by decide +kernel) (by decide +kernel)
theorem wse_X5_copyFrom : Cond.selects RX5 yX5_copyFrom yX5_copyFrom ∈ BIG := bm 544 (by decide +kernel) (by decide +kernel)
theorem wl_RX7_17 : Cond.fieldLink RX7 17 (TX7 1).1 (TX7 1).2.1 (TX7 1).2.2.1 ∈ BIG := bm 317 (by decide +kernel) (by decide +kernel)
theorem wm_RX7_40 : Cond.methodLink RX7 40 arraycopyName ∈ BIG := bm 546 (by decide +kernel) (by decide +kernel)
theorem wl_RX7_46 : Cond.fieldLink RX7 46 (TX7 2).1 (TX7 2).2.1 (TX7 2).2.2.1 ∈ BIG := bm 318 (by decide +kernel) (by decide +kernel)
theorem wl_RX7_49 : Cond.fieldLink RX7 49 (TX7 3).1 (TX7 3).2.1 (TX7 3).2.2.1 ∈ BIG := bm 320 (by decide +kernel) (by decide +kernel)
theorem wl_RX7_21 : Cond.fieldLink RX7 21 (TX7 5).1 (TX7 5).2.1 (TX7 5).2.2.1 ∈ BIG := bm 328 (by decide +kernel) (by decide +kernel)
theorem wl_RX7_25 : Cond.fieldLink RX7 25 (TX7 6).1 (TX7 6).2.1 (TX7 6).2.2.1 ∈ BIG := bm 332 (by decide +kernel) (by decide +kernel)
theorem wl_RX7_55 : Cond.fieldLink RX7 55 (TX7 7).1 (TX7 7).2.1 (TX7 7).2.2.1 ∈ BIG := bm 336 (by decide +kernel) (by decide +kernel)
theorem wl_RX7_28 : Cond.fieldLink RX7 28 (TX7 8).1 (TX7 8).2.1 (TX7 8).2.2.1 ∈ BIG := bm 341 (by decide +kernel) (by decide +kernel)
theorem wl_RX7_58 : Cond.fieldLink RX7 58 (TX7 9).1 (TX7 9).2.1 (TX7 9).2.2.1 ∈ BIG := bm 343 (by decide +kernel) (by decide +kernel)
theorem wl_RX7_31 : Cond.fieldLink RX7 31 (TX7 10).1 (TX7 10).2.1 (TX7 10).2.2.1 ∈ BIG := bm 345 (by decide +kernel) (by decide +kernel)
theorem wl_RX6_20 : Cond.fieldLink RX6 20 (TX6 1).1 (TX6 1).2.1 (TX6 1).2.2.1 ∈ BIG := bm 382 (by decide +kernel) (by decide +kernel)
theorem wm_RX6_24 : Cond.methodLink RX6 24 yX7_copyFrom ∈ BIG := bm 676 (by decide +kernel) (by decide +kernel)
theorem wc_X7_copyFrom : Cond.code yX7_copyFrom cX7_copyFrom 3 none ∈ BIG := bm 541 (by decide +kernel) (by decide +kernel)
theorem wi_X7_copyFrom : Cond.instanceMethod yX7_copyFrom ∈ BIG := bm 539 (by decide +kernel) (by decide +kernel)
theorem wse_X7_copyFrom : Cond.selects RX7 yX7_copyFrom yX7_copyFrom ∈ BIG := bm 540 (by decide +kernel) (by decide +kernel)
theorem wl_RX6_28 : Cond.fieldLink RX6 28 (TX6 2).1 (TX6 2).2.1 (TX6 2).2.2.1 ∈ BIG := bm 383 (by decide +kernel) (by decide +kernel)
theorem wm_RX6_31 : Cond.methodLink RX6 31 Lib.Math.min.name ∈ BIG := bm 1031 (by decide +kernel) (by decide +kernel)
theorem wl_RX7_72 : Cond.fieldLink RX7 72 (TX5 5).1 (TX5 5).2.1 (TX5 5).2.2.1 ∈ BIG := bm 263 (by decide +kernel) (by decide +kernel)
theorem wl_RX7_79 : Cond.fieldLink RX7 79 (TX5 0).1 (TX5 0).2.1 (TX5 0).2.2.1 ∈ BIG := bm 237 (by decide +kernel) (by decide +kernel)
theorem wm_RX7_82 : Cond.methodLink RX7 82 Lib.Math.min.name ∈ BIG := bm 465 (by decide +kernel) (by decide +kernel)
theorem wm_RX7_88 : Cond.methodLink RX7 88 Lib.Math.max.name ∈ BIG := bm 468 (by decide +kernel) (by decide +kernel)
theorem wk_RX7_91 : Cond.constant RX7 91 (1103515245) ∈ BIG := bm 568 (by decide +kernel) (by decide +kernel)
theorem wm_RX8_54 : Cond.methodLink RX8 54 yJ0_length_8abf5 ∈ BIG := bm 722 (by decide +kernel) (by decide +kernel)
theorem win_RJ0 : Cond.initialized RJ0 ∈ BIG := bm 15 (by decide +kernel) (by decide +kernel)
theorem wc_J0_length_8abf5 : Cond.code yJ0_length_8abf5 cJ0_length_8abf5 1 (some .int) ∈ BIG := bm 725 (by decide +kernel) (by decide +kernel)
theorem wi_J0_length_8abf5 : Cond.instanceMethod yJ0_length_8abf5 ∈ BIG := bm 723 (by decide +kernel) (by decide +kernel)
theorem wse_J0_length_8abf5 : Cond.selects RJ0 yJ0_length_8abf5 yJ0_length_8abf5 ∈ BIG := bm 724 (by decide +kernel) (by decide +kernel)
theorem wm_RX8_60 : Cond.methodLink RX8 60 yJ0_charAt_5068e ∈ BIG := bm 732 (by decide +kernel) (by decide +kernel)
theorem wc_J0_charAt_5068e : Cond.code yJ0_charAt_5068e cJ0_charAt_5068e 2 (some .char) ∈ BIG := bm 735 (by decide +kernel) (by decide +kernel)
theorem wi_J0_charAt_5068e : Cond.instanceMethod yJ0_charAt_5068e ∈ BIG := bm 733 (by decide +kernel) (by decide +kernel)
theorem wse_J0_charAt_5068e : Cond.selects RJ0 yJ0_charAt_5068e yJ0_charAt_5068e ∈ BIG := bm 734 (by decide +kernel) (by decide +kernel)
theorem wm_RX8_34 : Cond.methodLink RX8 34 yX8_isLetter ∈ BIG := bm 712 (by decide +kernel) (by decide +kernel)
theorem wc_X8_isLetter : Cond.code yX8_isLetter cX8_isLetter 1 (some .boolean) ∈ BIG := bm 714 (by decide +kernel) (by decide +kernel)
theorem wst_X8_isLetter : Cond.static yX8_isLetter ∈ BIG := bm 713 (by decide +kernel) (by decide +kernel)
theorem wm_RX8_38 : Cond.methodLink RX8 38 yX8_isDigit ∈ BIG := bm 715 (by decide +kernel) (by decide +kernel)
theorem wc_X8_isDigit : Cond.code yX8_isDigit cX8_isDigit 1 (some .boolean) ∈ BIG := bm 717 (by decide +kernel) (by decide +kernel)
theorem wst_X8_isDigit : Cond.static yX8_isDigit ∈ BIG := bm 716 (by decide +kernel) (by decide +kernel)
theorem wm_RX8_28 : Cond.methodLink RX8 28 Lib.Math.min.name ∈ BIG := bm 711 (by decide +kernel) (by decide +kernel)
theorem wm_RX8_41 : Cond.methodLink RX8 41 yX8_wordAt ∈ BIG := bm 718 (by decide +kernel) (by decide +kernel)
theorem wc_X8_wordAt : Cond.code yX8_wordAt cX8_wordAt 8 (some .int) ∈ BIG := bm 720 (by decide +kernel) (by decide +kernel)
theorem wst_X8_wordAt : Cond.static yX8_wordAt ∈ BIG := bm 719 (by decide +kernel) (by decide +kernel)
theorem wm_RX8_45 : Cond.methodLink RX8 45 yX8_numberAt ∈ BIG := bm 770 (by decide +kernel) (by decide +kernel)
theorem wc_X8_numberAt : Cond.code yX8_numberAt cX8_numberAt 6 (some .int) ∈ BIG := bm 772 (by decide +kernel) (by decide +kernel)
theorem wst_X8_numberAt : Cond.static yX8_numberAt ∈ BIG := bm 771 (by decide +kernel) (by decide +kernel)
theorem wm_RX8_48 : Cond.methodLink RX8 48 yX8_put ∈ BIG := bm 773 (by decide +kernel) (by decide +kernel)
theorem wc_X8_put : Cond.code yX8_put cX8_put 3 none ∈ BIG := bm 776 (by decide +kernel) (by decide +kernel)
theorem wi_X8_put : Cond.instanceMethod yX8_put ∈ BIG := bm 775 (by decide +kernel) (by decide +kernel)
theorem wse_X8_put : Cond.selects RX8 yX8_put yX8_put ∈ BIG := bp 10 (by decide +kernel) (by decide +kernel)
theorem wl_RX10_11 : Cond.fieldLink RX10 11 (TX10 0).1 (TX10 0).2.1 (TX10 0).2.2.1 ∈ BIG := bm 51 (by decide +kernel) (by decide +kernel)
theorem wl_RX10_16 : Cond.fieldLink RX10 16 (TX10 1).1 (TX10 1).2.1 (TX10 1).2.2.1 ∈ BIG := bm 54 (by decide +kernel) (by decide +kernel)
theorem wl_RX10_20 : Cond.fieldLink RX10 20 (TX10 2).1 (TX10 2).2.1 (TX10 2).2.2.1 ∈ BIG := bm 58 (by decide +kernel) (by decide +kernel)
theorem wl_RX10_23 : Cond.fieldLink RX10 23 (TX10 3).1 (TX10 3).2.1 (TX10 3).2.2.1 ∈ BIG := bm 60 (by decide +kernel) (by decide +kernel)
theorem wl_RX10_26 : Cond.fieldLink RX10 26 (TX10 6).1 (TX10 6).2.1 (TX10 6).2.2.1 ∈ BIG := bm 70 (by decide +kernel) (by decide +kernel)
theorem wl_RX9_12 : Cond.fieldLink RX9 12 (TX9 0).1 (TX9 0).2.1 (TX9 0).2.2.1 ∈ BIG := bm 87 (by decide +kernel) (by decide +kernel)
theorem wl_RX9_18 : Cond.fieldLink RX9 18 (TX9 1).1 (TX9 1).2.1 (TX9 1).2.2.1 ∈ BIG := bm 89 (by decide +kernel) (by decide +kernel)
theorem wm_RX10_29 : Cond.methodLink RX10 29 yX7_inState ∈ BIG := bm 483 (by decide +kernel) (by decide +kernel)
theorem wl_RX10_35 : Cond.fieldLink RX10 35 (TX10 4).1 (TX10 4).2.1 (TX10 4).2.2.1 ∈ BIG := bm 64 (by decide +kernel) (by decide +kernel)
theorem wl_RX10_39 : Cond.fieldLink RX10 39 (TX10 5).1 (TX10 5).2.1 (TX10 5).2.2.1 ∈ BIG := bm 67 (by decide +kernel) (by decide +kernel)
theorem wl_RX10_42 : Cond.fieldLink RX10 42 (TX7 4).1 (TX7 4).2.1 (TX7 4).2.2.1 ∈ BIG := bm 321 (by decide +kernel) (by decide +kernel)
theorem wl_RX10_45 : Cond.fieldLink RX10 45 (TX7 0).1 (TX7 0).2.1 (TX7 0).2.2.1 ∈ BIG := bm 311 (by decide +kernel) (by decide +kernel)
theorem wl_RX10_49 : Cond.fieldLink RX10 49 (TX7 10).1 (TX7 10).2.1 (TX7 10).2.2.1 ∈ BIG := bm 346 (by decide +kernel) (by decide +kernel)
theorem wm_RX10_53 : Cond.methodLink RX10 53 yX3_sum ∈ BIG := bm 490 (by decide +kernel) (by decide +kernel)
theorem wc_X3_sum : Cond.code yX3_sum cX3_sum 7 (some .int) ∈ BIG := bm 493 (by decide +kernel) (by decide +kernel)
theorem wi_X3_sum : Cond.instanceMethod yX3_sum ∈ BIG := bm 491 (by decide +kernel) (by decide +kernel)
theorem wse_X3_sum : Cond.selects RX3 yX3_sum yX3_sum ∈ BIG := bm 492 (by decide +kernel) (by decide +kernel)
theorem wl_RX10_59 : Cond.fieldLink RX10 59 (TX5 9).1 (TX5 9).2.1 (TX5 9).2.2.1 ∈ BIG := bm 280 (by decide +kernel) (by decide +kernel)
theorem wl_RX10_64 : Cond.fieldLink RX10 64 (TX5 10).1 (TX5 10).2.1 (TX5 10).2.2.1 ∈ BIG := bm 283 (by decide +kernel) (by decide +kernel)
theorem wl_RX10_67 : Cond.fieldLink RX10 67 (TX5 8).1 (TX5 8).2.1 (TX5 8).2.2.1 ∈ BIG := bm 275 (by decide +kernel) (by decide +kernel)
theorem wm_RX10_70 : Cond.methodLink RX10 70 Lib.Math.min.name ∈ BIG := bm 513 (by decide +kernel) (by decide +kernel)
theorem wl_RX10_76 : Cond.fieldLink RX10 76 (TX5 0).1 (TX5 0).2.1 (TX5 0).2.2.1 ∈ BIG := bm 234 (by decide +kernel) (by decide +kernel)
theorem wl_RX10_79 : Cond.fieldLink RX10 79 (TX5 3).1 (TX5 3).2.1 (TX5 3).2.2.1 ∈ BIG := bm 250 (by decide +kernel) (by decide +kernel)
theorem wm_RX10_82 : Cond.methodLink RX10 82 Lib.Math.abs.name ∈ BIG := bm 514 (by decide +kernel) (by decide +kernel)
theorem wl_RX10_85 : Cond.fieldLink RX10 85 (TX7 5).1 (TX7 5).2.1 (TX7 5).2.2.1 ∈ BIG := bm 329 (by decide +kernel) (by decide +kernel)
theorem wl_RX10_91 : Cond.fieldLink RX10 91 (TX7 6).1 (TX7 6).2.1 (TX7 6).2.2.1 ∈ BIG := bm 333 (by decide +kernel) (by decide +kernel)
theorem wl_RX9_75 : Cond.fieldLink RX9 75 (TX7 4).1 (TX7 4).2.1 (TX7 4).2.2.1 ∈ BIG := bm 324 (by decide +kernel) (by decide +kernel)
theorem wm_RX9_82 : Cond.methodLink RX9 82 yX7_draw ∈ BIG := bm 564 (by decide +kernel) (by decide +kernel)
theorem wc_X7_draw : Cond.code yX7_draw cX7_draw 1 (some .int) ∈ BIG := bm 567 (by decide +kernel) (by decide +kernel)
theorem wi_X7_draw : Cond.instanceMethod yX7_draw ∈ BIG := bm 565 (by decide +kernel) (by decide +kernel)
theorem wse_X7_draw : Cond.selects RX7 yX7_draw yX7_draw ∈ BIG := bm 566 (by decide +kernel) (by decide +kernel)
theorem wl_RX9_86 : Cond.fieldLink RX9 86 (TX10 3).1 (TX10 3).2.1 (TX10 3).2.2.1 ∈ BIG := bm 61 (by decide +kernel) (by decide +kernel)
theorem wl_RX9_89 : Cond.fieldLink RX9 89 (TX10 5).1 (TX10 5).2.1 (TX10 5).2.2.1 ∈ BIG := bm 68 (by decide +kernel) (by decide +kernel)
theorem wl_RX9_95 : Cond.fieldLink RX9 95 (TX7 0).1 (TX7 0).2.1 (TX7 0).2.2.1 ∈ BIG := bm 312 (by decide +kernel) (by decide +kernel)
theorem wl_RX9_99 : Cond.fieldLink RX9 99 (TX5 3).1 (TX5 3).2.1 (TX5 3).2.2.1 ∈ BIG := bm 252 (by decide +kernel) (by decide +kernel)
theorem wl_RX9_104 : Cond.fieldLink RX9 104 (TX5 4).1 (TX5 4).2.1 (TX5 4).2.2.1 ∈ BIG := bm 257 (by decide +kernel) (by decide +kernel)
theorem wm_RX9_107 : Cond.methodLink RX9 107 Lib.Math.max.name ∈ BIG := bm 573 (by decide +kernel) (by decide +kernel)
theorem wm_RX9_69 : Cond.methodLink RX9 69 yJ6_bitCount_0f7a4 ∈ BIG := bm 574 (by decide +kernel) (by decide +kernel)
theorem wl_RX9_110 : Cond.fieldLink RX9 110 (TX7 10).1 (TX7 10).2.1 (TX7 10).2.2.1 ∈ BIG := bm 347 (by decide +kernel) (by decide +kernel)
theorem wm_RX9_114 : Cond.methodLink RX9 114 yX3_sum ∈ BIG := bm 575 (by decide +kernel) (by decide +kernel)
theorem wm_RX9_63 : Cond.methodLink RX9 63 Lib.Math.min.name ∈ BIG := bm 576 (by decide +kernel) (by decide +kernel)
theorem wm_RX9_120 : Cond.methodLink RX9 120 yX7_note ∈ BIG := bm 577 (by decide +kernel) (by decide +kernel)
theorem wc_X7_note : Cond.code yX7_note cX7_note 5 none ∈ BIG := bm 580 (by decide +kernel) (by decide +kernel)
theorem wi_X7_note : Cond.instanceMethod yX7_note ∈ BIG := bm 578 (by decide +kernel) (by decide +kernel)
theorem wse_X7_note : Cond.selects RX7 yX7_note yX7_note ∈ BIG := bm 579 (by decide +kernel) (by decide +kernel)
theorem wl_RX9_124 : Cond.fieldLink RX9 124 (TX5 5).1 (TX5 5).2.1 (TX5 5).2.2.1 ∈ BIG := bm 261 (by decide +kernel) (by decide +kernel)
theorem wl_RX9_127 : Cond.fieldLink RX9 127 (TX5 2).1 (TX5 2).2.1 (TX5 2).2.2.1 ∈ BIG := bm 246 (by decide +kernel) (by decide +kernel)
theorem wm_RX11_229 : Cond.methodLink RX11 229 Lib.Math.min.name ∈ BIG := bm 589 (by decide +kernel) (by decide +kernel)
theorem wm_RX11_283 : Cond.methodLink RX11 283 Lib.Math.max.name ∈ BIG := bm 590 (by decide +kernel) (by decide +kernel)
theorem wl_RX9_133 : Cond.fieldLink RX9 133 (TX10 0).1 (TX10 0).2.1 (TX10 0).2.2.1 ∈ BIG := bm 52 (by decide +kernel) (by decide +kernel)
theorem wc_X11_keepWithin : Cond.code yX11_keepWithin cX11_keepWithin 2 (some .int) ∈ BIG := bm 588 (by decide +kernel) (by decide +kernel)
theorem wst_X11_keepWithin : Cond.static yX11_keepWithin ∈ BIG := bm 587 (by decide +kernel) (by decide +kernel)
theorem wl_RX9_140 : Cond.fieldLink RX9 140 (TX5 0).1 (TX5 0).2.1 (TX5 0).2.2.1 ∈ BIG := bm 236 (by decide +kernel) (by decide +kernel)
theorem wl_RX9_143 : Cond.fieldLink RX9 143 (TX10 1).1 (TX10 1).2.1 (TX10 1).2.2.1 ∈ BIG := bm 56 (by decide +kernel) (by decide +kernel)
theorem wl_RX9_146 : Cond.fieldLink RX9 146 (TX5 6).1 (TX5 6).2.1 (TX5 6).2.2.1 ∈ BIG := bm 268 (by decide +kernel) (by decide +kernel)
theorem wl_RX9_149 : Cond.fieldLink RX9 149 (TX5 7).1 (TX5 7).2.1 (TX5 7).2.2.1 ∈ BIG := bm 272 (by decide +kernel) (by decide +kernel)
theorem wm_RX9_152 : Cond.methodLink RX9 152 yX9_nextOf ∈ BIG := bm 599 (by decide +kernel) (by decide +kernel)
theorem win_RX9 : Cond.initialized RX9 ∈ BIG := bm 2 (by decide +kernel) (by decide +kernel)
theorem wc_X9_nextOf : Cond.code yX9_nextOf cX9_nextOf 4 (some .int) ∈ BIG := bm 601 (by decide +kernel) (by decide +kernel)
theorem wst_X9_nextOf : Cond.static yX9_nextOf ∈ BIG := bm 600 (by decide +kernel) (by decide +kernel)
theorem wm_RX9_155 : Cond.methodLink RX9 155 yX9_freeze ∈ BIG := bm 602 (by decide +kernel) (by decide +kernel)
theorem wc_X9_freeze : Cond.code yX9_freeze cX9_freeze 3 none ∈ BIG := bm 604 (by decide +kernel) (by decide +kernel)
theorem wst_X9_freeze : Cond.static yX9_freeze ∈ BIG := bm 603 (by decide +kernel) (by decide +kernel)
theorem wm_RX11_394 : Cond.methodLink RX11 394 yX11_sort ∈ BIG := bm 620 (by decide +kernel) (by decide +kernel)
theorem wc_X11_sort : Cond.code yX11_sort cX11_sort 6 none ∈ BIG := bm 622 (by decide +kernel) (by decide +kernel)
theorem wst_X11_sort : Cond.static yX11_sort ∈ BIG := bm 621 (by decide +kernel) (by decide +kernel)
theorem wc_X11_midOf : Cond.code yX11_midOf cX11_midOf 3 (some .int) ∈ BIG := bm 619 (by decide +kernel) (by decide +kernel)
theorem wst_X11_midOf : Cond.static yX11_midOf ∈ BIG := bm 618 (by decide +kernel) (by decide +kernel)
theorem wm_RX9_158 : Cond.methodLink RX9 158 yX10_middleOf ∈ BIG := bm 612 (by decide +kernel) (by decide +kernel)
theorem win_RX10 : Cond.initialized RX10 ∈ BIG := bm 3 (by decide +kernel) (by decide +kernel)
theorem wc_X10_middleOf : Cond.code yX10_middleOf cX10_middleOf 6 (some .int) ∈ BIG := bm 615 (by decide +kernel) (by decide +kernel)
theorem wi_X10_middleOf : Cond.instanceMethod yX10_middleOf ∈ BIG := bm 613 (by decide +kernel) (by decide +kernel)
theorem wse_X10_middleOf : Cond.selects RX10 yX10_middleOf yX10_middleOf ∈ BIG := bm 614 (by decide +kernel) (by decide +kernel)
theorem wl_RX9_58 : Cond.fieldLink RX9 58 (TX7 7).1 (TX7 7).2.1 (TX7 7).2.2.1 ∈ BIG := bm 337 (by decide +kernel) (by decide +kernel)
theorem wl_RX9_161 : Cond.fieldLink RX9 161 (TX5 1).1 (TX5 1).2.1 (TX5 1).2.2.1 ∈ BIG := bm 243 (by decide +kernel) (by decide +kernel)
theorem wm_RX9_22 : Cond.methodLink RX9 22 yX10_look ∈ BIG := bm 558 (by decide +kernel) (by decide +kernel)
theorem wc_X10_look : Cond.code yX10_look cX10_look 6 none ∈ BIG := bm 482 (by decide +kernel) (by decide +kernel)
theorem wi_X10_look : Cond.instanceMethod yX10_look ∈ BIG := bm 480 (by decide +kernel) (by decide +kernel)
theorem wse_X10_look : Cond.selects RX10 yX10_look yX10_look ∈ BIG := bm 481 (by decide +kernel) (by decide +kernel)
theorem wl_RX9_26 : Cond.fieldLink RX9 26 (TX10 4).1 (TX10 4).2.1 (TX10 4).2.2.1 ∈ BIG := bm 65 (by decide +kernel) (by decide +kernel)
theorem wm_RX9_30 : Cond.methodLink RX9 30 yX9_sendersOf ∈ BIG := bm 559 (by decide +kernel) (by decide +kernel)
theorem wc_X9_sendersOf : Cond.code yX9_sendersOf cX9_sendersOf 7 (some .int) ∈ BIG := bm 562 (by decide +kernel) (by decide +kernel)
theorem wi_X9_sendersOf : Cond.instanceMethod yX9_sendersOf ∈ BIG := bm 561 (by decide +kernel) (by decide +kernel)
theorem wse_X9_sendersOf : Cond.selects RX9 yX9_sendersOf yX9_sendersOf ∈ BIG := bp 2 (by decide +kernel) (by decide +kernel)
theorem wm_RX9_34 : Cond.methodLink RX9 34 yX9_callOrWait ∈ BIG := bm 570 (by decide +kernel) (by decide +kernel)
theorem wc_X9_callOrWait : Cond.code yX9_callOrWait cX9_callOrWait 5 none ∈ BIG := bm 572 (by decide +kernel) (by decide +kernel)
theorem wst_X9_callOrWait : Cond.static yX9_callOrWait ∈ BIG := bm 571 (by decide +kernel) (by decide +kernel)
theorem wm_RX9_37 : Cond.methodLink RX9 37 yX9_joinAll ∈ BIG := bm 581 (by decide +kernel) (by decide +kernel)
theorem wc_X9_joinAll : Cond.code yX9_joinAll cX9_joinAll 6 none ∈ BIG := bm 584 (by decide +kernel) (by decide +kernel)
theorem wi_X9_joinAll : Cond.instanceMethod yX9_joinAll ∈ BIG := bm 583 (by decide +kernel) (by decide +kernel)
theorem wse_X9_joinAll : Cond.selects RX9 yX9_joinAll yX9_joinAll ∈ BIG := bp 3 (by decide +kernel) (by decide +kernel)
theorem wm_RX9_41 : Cond.methodLink RX9 41 yX9_judge ∈ BIG := bm 591 (by decide +kernel) (by decide +kernel)
theorem wc_X9_judge : Cond.code yX9_judge cX9_judge 7 none ∈ BIG := bm 594 (by decide +kernel) (by decide +kernel)
theorem wi_X9_judge : Cond.instanceMethod yX9_judge ∈ BIG := bm 593 (by decide +kernel) (by decide +kernel)
theorem wse_X9_judge : Cond.selects RX9 yX9_judge yX9_judge ∈ BIG := bp 4 (by decide +kernel) (by decide +kernel)
theorem wm_RX9_45 : Cond.methodLink RX9 45 yX9_acknowledge ∈ BIG := bm 595 (by decide +kernel) (by decide +kernel)
theorem wc_X9_acknowledge : Cond.code yX9_acknowledge cX9_acknowledge 7 (some .int) ∈ BIG := bm 598 (by decide +kernel) (by decide +kernel)
theorem wi_X9_acknowledge : Cond.instanceMethod yX9_acknowledge ∈ BIG := bm 597 (by decide +kernel) (by decide +kernel)
theorem wse_X9_acknowledge : Cond.selects RX9 yX9_acknowledge yX9_acknowledge ∈ BIG := bp 5 (by decide +kernel) (by decide +kernel)
theorem wm_RX9_49 : Cond.methodLink RX9 49 yX9_outvote ∈ BIG := bm 605 (by decide +kernel) (by decide +kernel)
theorem wc_X9_outvote : Cond.code yX9_outvote cX9_outvote 5 (some .int) ∈ BIG := bm 607 (by decide +kernel) (by decide +kernel)
theorem wst_X9_outvote : Cond.static yX9_outvote ∈ BIG := bm 606 (by decide +kernel) (by decide +kernel)
theorem wm_RX9_52 : Cond.methodLink RX9 52 yX9_correct ∈ BIG := bm 608 (by decide +kernel) (by decide +kernel)
theorem wc_X9_correct : Cond.code yX9_correct cX9_correct 7 none ∈ BIG := bm 611 (by decide +kernel) (by decide +kernel)
theorem wi_X9_correct : Cond.instanceMethod yX9_correct ∈ BIG := bm 610 (by decide +kernel) (by decide +kernel)
theorem wse_X9_correct : Cond.selects RX9 yX9_correct yX9_correct ∈ BIG := bp 6 (by decide +kernel) (by decide +kernel)
theorem wm_RX9_55 : Cond.methodLink RX9 55 yX9_runClocks ∈ BIG := bm 623 (by decide +kernel) (by decide +kernel)
theorem wc_X9_runClocks : Cond.code yX9_runClocks cX9_runClocks 3 none ∈ BIG := bm 625 (by decide +kernel) (by decide +kernel)
theorem wst_X9_runClocks : Cond.static yX9_runClocks ∈ BIG := bm 624 (by decide +kernel) (by decide +kernel)
theorem wl_RX11_9 : Cond.fieldLink RX11 9 (TX11 0).1 (TX11 0).2.1 (TX11 0).2.2.1 ∈ BIG := bm 392 (by decide +kernel) (by decide +kernel)
theorem wl_RX11_13 : Cond.fieldLink RX11 13 (TX11 2).1 (TX11 2).2.1 (TX11 2).2.2.1 ∈ BIG := bm 394 (by decide +kernel) (by decide +kernel)
theorem wl_RX11_20 : Cond.fieldLink RX11 20 (TX11 8).1 (TX11 8).2.1 (TX11 8).2.2.1 ∈ BIG := bm 400 (by decide +kernel) (by decide +kernel)
theorem wl_RX11_27 : Cond.fieldLink RX11 27 (TX11 9).1 (TX11 9).2.1 (TX11 9).2.2.1 ∈ BIG := bm 401 (by decide +kernel) (by decide +kernel)
theorem wl_RX11_34 : Cond.fieldLink RX11 34 (TX11 10).1 (TX11 10).2.1 (TX11 10).2.2.1 ∈ BIG := bm 402 (by decide +kernel) (by decide +kernel)
theorem wl_RX11_41 : Cond.fieldLink RX11 41 (TX11 11).1 (TX11 11).2.1 (TX11 11).2.2.1 ∈ BIG := bm 403 (by decide +kernel) (by decide +kernel)
theorem wl_RX11_50 : Cond.fieldLink RX11 50 (TX11 12).1 (TX11 12).2.1 (TX11 12).2.2.1 ∈ BIG := bm 404 (by decide +kernel) (by decide +kernel)
theorem wl_RX11_57 : Cond.fieldLink RX11 57 (TX11 13).1 (TX11 13).2.1 (TX11 13).2.2.1 ∈ BIG := bm 405 (by decide +kernel) (by decide +kernel)
theorem wl_RX11_61 : Cond.fieldLink RX11 61 (TX11 14).1 (TX11 14).2.1 (TX11 14).2.2.1 ∈ BIG := bm 406 (by decide +kernel) (by decide +kernel)
theorem wl_RX11_64 : Cond.fieldLink RX11 64 (TX11 15).1 (TX11 15).2.1 (TX11 15).2.2.1 ∈ BIG := bm 407 (by decide +kernel) (by decide +kernel)
theorem wl_RX11_77 : Cond.fieldLink RX11 77 (TX11 3).1 (TX11 3).2.1 (TX11 3).2.2.1 ∈ BIG := bm 395 (by decide +kernel) (by decide +kernel)
theorem wl_RX11_81 : Cond.fieldLink RX11 81 (TX11 4).1 (TX11 4).2.1 (TX11 4).2.2.1 ∈ BIG := bm 396 (by decide +kernel) (by decide +kernel)
theorem wl_RX11_84 : Cond.fieldLink RX11 84 (TX11 5).1 (TX11 5).2.1 (TX11 5).2.2.1 ∈ BIG := bm 397 (by decide +kernel) (by decide +kernel)
theorem wl_RX11_90 : Cond.fieldLink RX11 90 (TX11 7).1 (TX11 7).2.1 (TX11 7).2.2.1 ∈ BIG := bm 399 (by decide +kernel) (by decide +kernel)
theorem wl_RX11_94 : Cond.fieldLink RX11 94 (TX11 1).1 (TX11 1).2.1 (TX11 1).2.2.1 ∈ BIG := bm 393 (by decide +kernel) (by decide +kernel)
theorem wm_RX11_97 : Cond.methodLink RX11 97 yX11_putBytes ∈ BIG := bm 445 (by decide +kernel) (by decide +kernel)
theorem wc_X11_putBytes : Cond.code yX11_putBytes cX11_putBytes 3 none ∈ BIG := bm 448 (by decide +kernel) (by decide +kernel)
theorem wi_X11_putBytes : Cond.instanceMethod yX11_putBytes ∈ BIG := bm 447 (by decide +kernel) (by decide +kernel)
theorem wse_X11_putBytes : Cond.selects RX11 yX11_putBytes yX11_putBytes ∈ BIG := bp 0 (by decide +kernel) (by decide +kernel)
theorem wm_RX11_101 : Cond.methodLink RX11 101 yX11_useTape ∈ BIG := bm 703 (by decide +kernel) (by decide +kernel)
theorem wc_X11_useTape : Cond.code yX11_useTape cX11_useTape 2 (some .int) ∈ BIG := bm 706 (by decide +kernel) (by decide +kernel)
theorem wi_X11_useTape : Cond.instanceMethod yX11_useTape ∈ BIG := bm 705 (by decide +kernel) (by decide +kernel)
theorem wse_X11_useTape : Cond.selects RX11 yX11_useTape yX11_useTape ∈ BIG := bp 9 (by decide +kernel) (by decide +kernel)
theorem wm_RX11_105 : Cond.methodLink RX11 105 yX8_load ∈ BIG := bm 707 (by decide +kernel) (by decide +kernel)
theorem wc_X8_load : Cond.code yX8_load cX8_load 8 none ∈ BIG := bm 710 (by decide +kernel) (by decide +kernel)
theorem wi_X8_load : Cond.instanceMethod yX8_load ∈ BIG := bm 708 (by decide +kernel) (by decide +kernel)
theorem wse_X8_load : Cond.selects RX8 yX8_load yX8_load ∈ BIG := bm 709 (by decide +kernel) (by decide +kernel)
theorem wm_RX11_109 : Cond.methodLink RX11 109 yX7_copyFrom ∈ BIG := bm 538 (by decide +kernel) (by decide +kernel)
theorem wm_RX11_113 : Cond.methodLink RX11 113 yX0_readInto ∈ BIG := bm 777 (by decide +kernel) (by decide +kernel)
theorem wc_X0_readInto : Cond.code yX0_readInto cX0_readInto 3 none ∈ BIG := bm 780 (by decide +kernel) (by decide +kernel)
theorem wi_X0_readInto : Cond.instanceMethod yX0_readInto ∈ BIG := bm 778 (by decide +kernel) (by decide +kernel)
theorem wse_X0_readInto : Cond.selects RX0 yX0_readInto yX0_readInto ∈ BIG := bm 779 (by decide +kernel) (by decide +kernel)
theorem wl_RX11_116 : Cond.fieldLink RX11 116 (TX8 0).1 (TX8 0).2.1 (TX8 0).2.2.1 ∈ BIG := bm 140 (by decide +kernel) (by decide +kernel)
theorem wcl_RX11_119 : Cond.classLink RX11 119 (zEx 1) ∈ BIG := bm 815 (by decide +kernel) (by decide +kernel)
theorem wine_1 : Cond.initialized (zEx 1) ∈ BIG := bm 23 (by decide +kernel) (by decide +kernel)
theorem wl_RX11_122 : Cond.fieldLink RX11 122 (TX7 9).1 (TX7 9).2.1 (TX7 9).2.2.1 ∈ BIG := bm 344 (by decide +kernel) (by decide +kernel)
theorem wcl_RX11_125 : Cond.classLink RX11 125 (zEx 2) ∈ BIG := bm 881 (by decide +kernel) (by decide +kernel)
theorem wine_2 : Cond.initialized (zEx 2) ∈ BIG := bm 24 (by decide +kernel) (by decide +kernel)
theorem wm_RX11_128 : Cond.methodLink RX11 128 yX6_forget ∈ BIG := bm 685 (by decide +kernel) (by decide +kernel)
theorem win_RX6 : Cond.initialized RX6 ∈ BIG := bm 12 (by decide +kernel) (by decide +kernel)
theorem wc_X6_forget : Cond.code yX6_forget cX6_forget 1 none ∈ BIG := bm 688 (by decide +kernel) (by decide +kernel)
theorem wi_X6_forget : Cond.instanceMethod yX6_forget ∈ BIG := bm 686 (by decide +kernel) (by decide +kernel)
theorem wse_X6_forget : Cond.selects RX6 yX6_forget yX6_forget ∈ BIG := bm 687 (by decide +kernel) (by decide +kernel)
theorem wm_RX11_131 : Cond.methodLink RX11 131 yX4_readAllLines ∈ BIG := bm 903 (by decide +kernel) (by decide +kernel)
theorem wc_X4_readAllLines : Cond.code yX4_readAllLines cX4_readAllLines 2 none ∈ BIG := bm 906 (by decide +kernel) (by decide +kernel)
theorem wi_X4_readAllLines : Cond.instanceMethod yX4_readAllLines ∈ BIG := bm 904 (by decide +kernel) (by decide +kernel)
theorem wse_X4_readAllLines : Cond.selects RX4 yX4_readAllLines yX4_readAllLines ∈ BIG := bm 905 (by decide +kernel) (by decide +kernel)
theorem wm_RX11_134 : Cond.methodLink RX11 134 yX4_made ∈ BIG := bm 939 (by decide +kernel) (by decide +kernel)
theorem wc_X4_made : Cond.code yX4_made cX4_made 1 (some ((.object "SlotCluster$Law"))) ∈ BIG := bm 942 (by decide +kernel) (by decide +kernel)
theorem wi_X4_made : Cond.instanceMethod yX4_made ∈ BIG := bm 940 (by decide +kernel) (by decide +kernel)
theorem wse_X4_made : Cond.selects RX4 yX4_made yX4_made ∈ BIG := bm 941 (by decide +kernel) (by decide +kernel)
theorem wl_RX11_138 : Cond.fieldLink RX11 138 (TX7 10).1 (TX7 10).2.1 (TX7 10).2.2.1 ∈ BIG := bm 348 (by decide +kernel) (by decide +kernel)
theorem wl_RX11_142 : Cond.fieldLink RX11 142 (TX3 0).1 (TX3 0).2.1 (TX3 0).2.2.1 ∈ BIG := bm 201 (by decide +kernel) (by decide +kernel)
theorem wl_RX11_145 : Cond.fieldLink RX11 145 (TX7 4).1 (TX7 4).2.1 (TX7 4).2.2.1 ∈ BIG := bm 327 (by decide +kernel) (by decide +kernel)
theorem wm_RX11_148 : Cond.methodLink RX11 148 yX11_isNode ∈ BIG := bm 960 (by decide +kernel) (by decide +kernel)
theorem wc_X11_isNode : Cond.code yX11_isNode cX11_isNode 2 (some .boolean) ∈ BIG := bm 963 (by decide +kernel) (by decide +kernel)
theorem wi_X11_isNode : Cond.instanceMethod yX11_isNode ∈ BIG := bm 962 (by decide +kernel) (by decide +kernel)
theorem wse_X11_isNode : Cond.selects RX11 yX11_isNode yX11_isNode ∈ BIG := bp 20 (by decide +kernel) (by decide +kernel)
theorem wcl_RX11_152 : Cond.classLink RX11 152 (zEx 3) ∈ BIG := bm 964 (by decide +kernel) (by decide +kernel)
theorem wine_3 : Cond.initialized (zEx 3) ∈ BIG := bm 25 (by decide +kernel) (by decide +kernel)
theorem wcl_RX11_155 : Cond.classLink RX11 155 (zEx 4) ∈ BIG := bm 979 (by decide +kernel) (by decide +kernel)
theorem wine_4 : Cond.initialized (zEx 4) ∈ BIG := bm 26 (by decide +kernel) (by decide +kernel)
theorem wl_RX11_158 : Cond.fieldLink RX11 158 (TX7 0).1 (TX7 0).2.1 (TX7 0).2.2.1 ∈ BIG := bm 316 (by decide +kernel) (by decide +kernel)
theorem wm_RX11_162 : Cond.methodLink RX11 162 yX5_told ∈ BIG := bm 994 (by decide +kernel) (by decide +kernel)
theorem wc_X5_told : Cond.code yX5_told cX5_told 2 (some .int) ∈ BIG := bm 997 (by decide +kernel) (by decide +kernel)
theorem wi_X5_told : Cond.instanceMethod yX5_told ∈ BIG := bm 995 (by decide +kernel) (by decide +kernel)
theorem wse_X5_told : Cond.selects RX5 yX5_told yX5_told ∈ BIG := bm 996 (by decide +kernel) (by decide +kernel)
theorem wl_RX11_168 : Cond.fieldLink RX11 168 (TX9 0).1 (TX9 0).2.1 (TX9 0).2.2.1 ∈ BIG := bm 88 (by decide +kernel) (by decide +kernel)
theorem wm_RX11_172 : Cond.methodLink RX11 172 yX10_look ∈ BIG := bm 479 (by decide +kernel) (by decide +kernel)
theorem wl_RX11_177 : Cond.fieldLink RX11 177 (TX10 2).1 (TX10 2).2.1 (TX10 2).2.2.1 ∈ BIG := bm 59 (by decide +kernel) (by decide +kernel)
theorem wl_RX11_180 : Cond.fieldLink RX11 180 (TX10 3).1 (TX10 3).2.1 (TX10 3).2.2.1 ∈ BIG := bm 62 (by decide +kernel) (by decide +kernel)
theorem wm_RX11_183 : Cond.methodLink RX11 183 yX3_sum ∈ BIG := bm 998 (by decide +kernel) (by decide +kernel)
theorem wl_RX11_187 : Cond.fieldLink RX11 187 (TX10 5).1 (TX10 5).2.1 (TX10 5).2.2.1 ∈ BIG := bm 69 (by decide +kernel) (by decide +kernel)
theorem wm_RX11_190 : Cond.methodLink RX11 190 yX1_load ∈ BIG := bm 518 (by decide +kernel) (by decide +kernel)
theorem wc_X1_load : Cond.code yX1_load cX1_load 5 none ∈ BIG := bm 521 (by decide +kernel) (by decide +kernel)
theorem wi_X1_load : Cond.instanceMethod yX1_load ∈ BIG := bm 519 (by decide +kernel) (by decide +kernel)
theorem wse_X1_load : Cond.selects RX1 yX1_load yX1_load ∈ BIG := bm 520 (by decide +kernel) (by decide +kernel)
theorem wm_RX11_193 : Cond.methodLink RX11 193 yX1_cliqueOf ∈ BIG := bm 999 (by decide +kernel) (by decide +kernel)
theorem wl_RX11_196 : Cond.fieldLink RX11 196 (TX5 3).1 (TX5 3).2.1 (TX5 3).2.2.1 ∈ BIG := bm 255 (by decide +kernel) (by decide +kernel)
theorem wm_RX11_199 : Cond.methodLink RX11 199 yX10_middleOf ∈ BIG := bm 1000 (by decide +kernel) (by decide +kernel)
theorem wm_RX11_202 : Cond.methodLink RX11 202 yX7_knowing ∈ BIG := bm 1001 (by decide +kernel) (by decide +kernel)
theorem wc_X7_knowing : Cond.code yX7_knowing cX7_knowing 4 (some .int) ∈ BIG := bm 1004 (by decide +kernel) (by decide +kernel)
theorem wi_X7_knowing : Cond.instanceMethod yX7_knowing ∈ BIG := bm 1002 (by decide +kernel) (by decide +kernel)
theorem wse_X7_knowing : Cond.selects RX7 yX7_knowing yX7_knowing ∈ BIG := bm 1003 (by decide +kernel) (by decide +kernel)
theorem wl_RX11_205 : Cond.fieldLink RX11 205 (TX10 0).1 (TX10 0).2.1 (TX10 0).2.2.1 ∈ BIG := bm 53 (by decide +kernel) (by decide +kernel)
theorem wl_RX11_209 : Cond.fieldLink RX11 209 (TX10 1).1 (TX10 1).2.1 (TX10 1).2.2.1 ∈ BIG := bm 57 (by decide +kernel) (by decide +kernel)
theorem wm_RX11_216 : Cond.methodLink RX11 216 yX6_remember ∈ BIG := bm 1027 (by decide +kernel) (by decide +kernel)
theorem wc_X6_remember : Cond.code yX6_remember cX6_remember 2 none ∈ BIG := bm 1030 (by decide +kernel) (by decide +kernel)
theorem wi_X6_remember : Cond.instanceMethod yX6_remember ∈ BIG := bm 1028 (by decide +kernel) (by decide +kernel)
theorem wse_X6_remember : Cond.selects RX6 yX6_remember yX6_remember ∈ BIG := bm 1029 (by decide +kernel) (by decide +kernel)
theorem wm_RX11_219 : Cond.methodLink RX11 219 yX9_play ∈ BIG := bm 554 (by decide +kernel) (by decide +kernel)
theorem wc_X9_play : Cond.code yX9_play cX9_play 6 (some .int) ∈ BIG := bm 557 (by decide +kernel) (by decide +kernel)
theorem wi_X9_play : Cond.instanceMethod yX9_play ∈ BIG := bm 555 (by decide +kernel) (by decide +kernel)
theorem wse_X9_play : Cond.selects RX9 yX9_play yX9_play ∈ BIG := bm 556 (by decide +kernel) (by decide +kernel)
theorem wcl_RX11_223 : Cond.classLink RX11 223 (zEx 5) ∈ BIG := bm 1040 (by decide +kernel) (by decide +kernel)
theorem wine_5 : Cond.initialized (zEx 5) ∈ BIG := bm 28 (by decide +kernel) (by decide +kernel)
theorem wm_RX11_226 : Cond.methodLink RX11 226 yX7_addNode ∈ BIG := bm 1055 (by decide +kernel) (by decide +kernel)
theorem wl_RX11_235 : Cond.fieldLink RX11 235 (TX5 4).1 (TX5 4).2.1 (TX5 4).2.2.1 ∈ BIG := bm 259 (by decide +kernel) (by decide +kernel)
theorem wl_RX11_238 : Cond.fieldLink RX11 238 (TX5 6).1 (TX5 6).2.1 (TX5 6).2.2.1 ∈ BIG := bm 269 (by decide +kernel) (by decide +kernel)
theorem wl_RX11_241 : Cond.fieldLink RX11 241 (TX5 7).1 (TX5 7).2.1 (TX5 7).2.2.1 ∈ BIG := bm 273 (by decide +kernel) (by decide +kernel)
theorem wl_RX11_244 : Cond.fieldLink RX11 244 (TX5 5).1 (TX5 5).2.1 (TX5 5).2.2.1 ∈ BIG := bm 265 (by decide +kernel) (by decide +kernel)
theorem wl_RX11_247 : Cond.fieldLink RX11 247 (TX5 9).1 (TX5 9).2.1 (TX5 9).2.2.1 ∈ BIG := bm 282 (by decide +kernel) (by decide +kernel)
theorem wl_RX11_250 : Cond.fieldLink RX11 250 (TX5 10).1 (TX5 10).2.1 (TX5 10).2.2.1 ∈ BIG := bm 286 (by decide +kernel) (by decide +kernel)
theorem wl_RX11_253 : Cond.fieldLink RX11 253 (TX5 0).1 (TX5 0).2.1 (TX5 0).2.2.1 ∈ BIG := bm 239 (by decide +kernel) (by decide +kernel)
theorem wl_RX11_256 : Cond.fieldLink RX11 256 (TX7 6).1 (TX7 6).2.1 (TX7 6).2.2.1 ∈ BIG := bm 335 (by decide +kernel) (by decide +kernel)
theorem wl_RX11_259 : Cond.fieldLink RX11 259 (TX7 5).1 (TX7 5).2.1 (TX7 5).2.2.1 ∈ BIG := bm 331 (by decide +kernel) (by decide +kernel)
theorem wm_RX11_262 : Cond.methodLink RX11 262 yX11_midOf ∈ BIG := bm 1091 (by decide +kernel) (by decide +kernel)
theorem wm_RX11_266 : Cond.methodLink RX11 266 yX7_spreadOfClocks ∈ BIG := bm 461 (by decide +kernel) (by decide +kernel)
theorem wc_X7_spreadOfClocks : Cond.code yX7_spreadOfClocks cX7_spreadOfClocks 6 (some .int) ∈ BIG := bm 464 (by decide +kernel) (by decide +kernel)
theorem wi_X7_spreadOfClocks : Cond.instanceMethod yX7_spreadOfClocks ∈ BIG := bm 462 (by decide +kernel) (by decide +kernel)
theorem wse_X7_spreadOfClocks : Cond.selects RX7 yX7_spreadOfClocks yX7_spreadOfClocks ∈ BIG := bm 463 (by decide +kernel) (by decide +kernel)
theorem wm_RX11_269 : Cond.methodLink RX11 269 yX1_countCliques ∈ BIG := bm 526 (by decide +kernel) (by decide +kernel)
theorem wc_X1_countCliques : Cond.code yX1_countCliques cX1_countCliques 4 (some .int) ∈ BIG := bm 529 (by decide +kernel) (by decide +kernel)
theorem wi_X1_countCliques : Cond.instanceMethod yX1_countCliques ∈ BIG := bm 527 (by decide +kernel) (by decide +kernel)
theorem wse_X1_countCliques : Cond.selects RX1 yX1_countCliques yX1_countCliques ∈ BIG := bm 528 (by decide +kernel) (by decide +kernel)
theorem wm_RX11_272 : Cond.methodLink RX11 272 yX7_inState ∈ BIG := bm 549 (by decide +kernel) (by decide +kernel)
theorem wm_RX11_275 : Cond.methodLink RX11 275 yJ6_bitCount_0f7a4 ∈ BIG := bm 693 (by decide +kernel) (by decide +kernel)
theorem wm_RX11_280 : Cond.methodLink RX11 280 yX11_isAhead ∈ BIG := bm 1106 (by decide +kernel) (by decide +kernel)
theorem wc_X11_isAhead : Cond.code yX11_isAhead cX11_isAhead 1 (some .boolean) ∈ BIG := bm 1108 (by decide +kernel) (by decide +kernel)
theorem wst_X11_isAhead : Cond.static yX11_isAhead ∈ BIG := bm 1107 (by decide +kernel) (by decide +kernel)
theorem wm_RX11_286 : Cond.methodLink RX11 286 yX11_lowest ∈ BIG := bm 550 (by decide +kernel) (by decide +kernel)
theorem wm_RX11_289 : Cond.methodLink RX11 289 Lib.Math.abs.name ∈ BIG := bm 630 (by decide +kernel) (by decide +kernel)
theorem wl_RX11_292 : Cond.fieldLink RX11 292 (TX10 4).1 (TX10 4).2.1 (TX10 4).2.2.1 ∈ BIG := bm 66 (by decide +kernel) (by decide +kernel)
theorem wm_RX11_295 : Cond.methodLink RX11 295 yX1_fewestToSpare ∈ BIG := bm 639 (by decide +kernel) (by decide +kernel)
theorem wc_X1_fewestToSpare : Cond.code yX1_fewestToSpare cX1_fewestToSpare 4 (some .int) ∈ BIG := bm 642 (by decide +kernel) (by decide +kernel)
theorem wi_X1_fewestToSpare : Cond.instanceMethod yX1_fewestToSpare ∈ BIG := bm 640 (by decide +kernel) (by decide +kernel)
theorem wse_X1_fewestToSpare : Cond.selects RX1 yX1_fewestToSpare yX1_fewestToSpare ∈ BIG := bm 641 (by decide +kernel) (by decide +kernel)
theorem wm_RX11_298 : Cond.methodLink RX11 298 yX1_inOrder ∈ BIG := bm 652 (by decide +kernel) (by decide +kernel)
theorem wc_X1_inOrder : Cond.code yX1_inOrder cX1_inOrder 5 (some .int) ∈ BIG := bm 655 (by decide +kernel) (by decide +kernel)
theorem wi_X1_inOrder : Cond.instanceMethod yX1_inOrder ∈ BIG := bm 653 (by decide +kernel) (by decide +kernel)
theorem wse_X1_inOrder : Cond.selects RX1 yX1_inOrder yX1_inOrder ∈ BIG := bm 654 (by decide +kernel) (by decide +kernel)
theorem wm_RX11_302 : Cond.methodLink RX11 302 yX11_courseRows ∈ BIG := bm 1116 (by decide +kernel) (by decide +kernel)
theorem wc_X11_courseRows : Cond.code yX11_courseRows cX11_courseRows 3 (some .int) ∈ BIG := bm 1119 (by decide +kernel) (by decide +kernel)
theorem wi_X11_courseRows : Cond.instanceMethod yX11_courseRows ∈ BIG := bm 1118 (by decide +kernel) (by decide +kernel)
theorem wse_X11_courseRows : Cond.selects RX11 yX11_courseRows yX11_courseRows ∈ BIG := bp 21 (by decide +kernel) (by decide +kernel)
theorem wm_RX11_305 : Cond.methodLink RX11 305 yX2_weighCourses ∈ BIG := bm 1120 (by decide +kernel) (by decide +kernel)
theorem wc_X2_weighCourses : Cond.code yX2_weighCourses cX2_weighCourses 5 none ∈ BIG := bm 1123 (by decide +kernel) (by decide +kernel)
theorem wi_X2_weighCourses : Cond.instanceMethod yX2_weighCourses ∈ BIG := bm 1121 (by decide +kernel) (by decide +kernel)
theorem wse_X2_weighCourses : Cond.selects RX2 yX2_weighCourses yX2_weighCourses ∈ BIG := bm 1122 (by decide +kernel) (by decide +kernel)
theorem wm_RX11_308 : Cond.methodLink RX11 308 yX2_firstFit ∈ BIG := bm 1127 (by decide +kernel) (by decide +kernel)
theorem wc_X2_firstFit : Cond.code yX2_firstFit cX2_firstFit 4 (some .int) ∈ BIG := bm 1130 (by decide +kernel) (by decide +kernel)
theorem wi_X2_firstFit : Cond.instanceMethod yX2_firstFit ∈ BIG := bm 1128 (by decide +kernel) (by decide +kernel)
theorem wse_X2_firstFit : Cond.selects RX2 yX2_firstFit yX2_firstFit ∈ BIG := bm 1129 (by decide +kernel) (by decide +kernel)
theorem wm_RX11_311 : Cond.methodLink RX11 311 yX2_countFits ∈ BIG := bm 1131 (by decide +kernel) (by decide +kernel)
theorem wm_RX11_314 : Cond.methodLink RX11 314 yX2_bestRound ∈ BIG := bm 1142 (by decide +kernel) (by decide +kernel)
theorem wc_X2_bestRound : Cond.code yX2_bestRound cX2_bestRound 5 (some .int) ∈ BIG := bm 1145 (by decide +kernel) (by decide +kernel)
theorem wi_X2_bestRound : Cond.instanceMethod yX2_bestRound ∈ BIG := bm 1143 (by decide +kernel) (by decide +kernel)
theorem wse_X2_bestRound : Cond.selects RX2 yX2_bestRound yX2_bestRound ∈ BIG := bm 1144 (by decide +kernel) (by decide +kernel)
theorem wm_RX11_317 : Cond.methodLink RX11 317 yX11_judgementRows ∈ BIG := bm 1159 (by decide +kernel) (by decide +kernel)
theorem wc_X11_judgementRows : Cond.code yX11_judgementRows cX11_judgementRows 4 (some .int) ∈ BIG := bm 1162 (by decide +kernel) (by decide +kernel)
theorem wi_X11_judgementRows : Cond.instanceMethod yX11_judgementRows ∈ BIG := bm 1161 (by decide +kernel) (by decide +kernel)
theorem wse_X11_judgementRows : Cond.selects RX11 yX11_judgementRows yX11_judgementRows ∈ BIG := bp 23 (by decide +kernel) (by decide +kernel)
theorem wm_RX11_320 : Cond.methodLink RX11 320 yX2_weighBlames ∈ BIG := bm 1163 (by decide +kernel) (by decide +kernel)
theorem wc_X2_weighBlames : Cond.code yX2_weighBlames cX2_weighBlames 5 none ∈ BIG := bm 1166 (by decide +kernel) (by decide +kernel)
theorem wi_X2_weighBlames : Cond.instanceMethod yX2_weighBlames ∈ BIG := bm 1164 (by decide +kernel) (by decide +kernel)
theorem wse_X2_weighBlames : Cond.selects RX2 yX2_weighBlames yX2_weighBlames ∈ BIG := bm 1165 (by decide +kernel) (by decide +kernel)
theorem wm_RX11_323 : Cond.methodLink RX11 323 yX2_bestPair ∈ BIG := bm 1184 (by decide +kernel) (by decide +kernel)
theorem wc_X2_bestPair : Cond.code yX2_bestPair cX2_bestPair 9 (some .int) ∈ BIG := bm 1187 (by decide +kernel) (by decide +kernel)
theorem wi_X2_bestPair : Cond.instanceMethod yX2_bestPair ∈ BIG := bm 1185 (by decide +kernel) (by decide +kernel)
theorem wse_X2_bestPair : Cond.selects RX2 yX2_bestPair yX2_bestPair ∈ BIG := bm 1186 (by decide +kernel) (by decide +kernel)
theorem wm_RX11_326 : Cond.methodLink RX11 326 yX1_weighPairs ∈ BIG := bm 1199 (by decide +kernel) (by decide +kernel)
theorem wc_X1_weighPairs : Cond.code yX1_weighPairs cX1_weighPairs 7 none ∈ BIG := bm 1202 (by decide +kernel) (by decide +kernel)
theorem wi_X1_weighPairs : Cond.instanceMethod yX1_weighPairs ∈ BIG := bm 1200 (by decide +kernel) (by decide +kernel)
theorem wse_X1_weighPairs : Cond.selects RX1 yX1_weighPairs yX1_weighPairs ∈ BIG := bm 1201 (by decide +kernel) (by decide +kernel)
theorem wm_RX11_329 : Cond.methodLink RX11 329 yX1_mostOfPairs ∈ BIG := bm 1206 (by decide +kernel) (by decide +kernel)
theorem wc_X1_mostOfPairs : Cond.code yX1_mostOfPairs cX1_mostOfPairs 1 (some .int) ∈ BIG := bm 1209 (by decide +kernel) (by decide +kernel)
theorem wi_X1_mostOfPairs : Cond.instanceMethod yX1_mostOfPairs ∈ BIG := bm 1207 (by decide +kernel) (by decide +kernel)
theorem wse_X1_mostOfPairs : Cond.selects RX1 yX1_mostOfPairs yX1_mostOfPairs ∈ BIG := bm 1208 (by decide +kernel) (by decide +kernel)
theorem wm_RX11_332 : Cond.methodLink RX11 332 yX1_partnerOf ∈ BIG := bm 1210 (by decide +kernel) (by decide +kernel)
theorem wc_X1_partnerOf : Cond.code yX1_partnerOf cX1_partnerOf 5 (some .int) ∈ BIG := bm 1213 (by decide +kernel) (by decide +kernel)
theorem wi_X1_partnerOf : Cond.instanceMethod yX1_partnerOf ∈ BIG := bm 1211 (by decide +kernel) (by decide +kernel)
theorem wse_X1_partnerOf : Cond.selects RX1 yX1_partnerOf yX1_partnerOf ∈ BIG := bm 1212 (by decide +kernel) (by decide +kernel)
theorem wl_RX11_338 : Cond.fieldLink RX11 338 (TX5 8).1 (TX5 8).2.1 (TX5 8).2.2.1 ∈ BIG := bm 278 (by decide +kernel) (by decide +kernel)
theorem wm_RX11_335 : Cond.methodLink RX11 335 yX11_nextOfShare ∈ BIG := bm 1225 (by decide +kernel) (by decide +kernel)
theorem wc_X11_nextOfShare : Cond.code yX11_nextOfShare cX11_nextOfShare 5 (some .int) ∈ BIG := bm 1228 (by decide +kernel) (by decide +kernel)
theorem wi_X11_nextOfShare : Cond.instanceMethod yX11_nextOfShare ∈ BIG := bm 1227 (by decide +kernel) (by decide +kernel)
theorem wse_X11_nextOfShare : Cond.selects RX11 yX11_nextOfShare yX11_nextOfShare ∈ BIG := bp 26 (by decide +kernel) (by decide +kernel)
theorem wm_RX11_341 : Cond.methodLink RX11 341 yX11_guardianHas ∈ BIG := bm 1236 (by decide +kernel) (by decide +kernel)
theorem wc_X11_guardianHas : Cond.code yX11_guardianHas cX11_guardianHas 5 (some .int) ∈ BIG := bm 1239 (by decide +kernel) (by decide +kernel)
theorem wi_X11_guardianHas : Cond.instanceMethod yX11_guardianHas ∈ BIG := bm 1238 (by decide +kernel) (by decide +kernel)
theorem wse_X11_guardianHas : Cond.selects RX11 yX11_guardianHas yX11_guardianHas ∈ BIG := bp 27 (by decide +kernel) (by decide +kernel)
theorem wm_RX11_345 : Cond.methodLink RX11 345 yX11_babblerHas ∈ BIG := bm 1240 (by decide +kernel) (by decide +kernel)
theorem wc_X11_babblerHas : Cond.code yX11_babblerHas cX11_babblerHas 2 (some .int) ∈ BIG := bm 1242 (by decide +kernel) (by decide +kernel)
theorem wst_X11_babblerHas : Cond.static yX11_babblerHas ∈ BIG := bm 1241 (by decide +kernel) (by decide +kernel)
theorem wm_RX11_348 : Cond.methodLink RX11 348 yX11_bit ∈ BIG := bm 1243 (by decide +kernel) (by decide +kernel)
theorem wk_RX11_351 : Cond.constantLong RX11 351 (100) ∈ BIG := bm 1251 (by decide +kernel) (by decide +kernel)
theorem wm_RX11_353 : Cond.methodLink RX11 353 yX11_choose ∈ BIG := bm 1252 (by decide +kernel) (by decide +kernel)
theorem wc_X11_choose : Cond.code yX11_choose cX11_choose 4 (some .int) ∈ BIG := bm 1254 (by decide +kernel) (by decide +kernel)
theorem wst_X11_choose : Cond.static yX11_choose ∈ BIG := bm 1253 (by decide +kernel) (by decide +kernel)
theorem wk_RX11_356 : Cond.constantLong RX11 356 (10000) ∈ BIG := bm 1255 (by decide +kernel) (by decide +kernel)
theorem wm_RX11_358 : Cond.methodLink RX11 358 Lib.MathLoose.max_long.x ∈ BIG := bm 1256 (by decide +kernel) (by decide +kernel)
theorem wst_Math_maxJ : Cond.static Lib.MathLoose.max_long.x ∈ BIG := bm 1257 (by decide +kernel) (by decide +kernel)
theorem wc_Math_maxJ : Cond.code Lib.MathLoose.max_long.x Lib.MathLoose.max_long.code 4 (some .long) ∈ BIG := bm 1258 (by decide +kernel) (by decide +kernel)
theorem wl_RX11_361 : Cond.fieldLink RX11 361 (TX5 1).1 (TX5 1).2.1 (TX5 1).2.2.1 ∈ BIG := bm 244 (by decide +kernel) (by decide +kernel)
theorem wl_RX11_364 : Cond.fieldLink RX11 364 (TX5 2).1 (TX5 2).2.1 (TX5 2).2.2.1 ∈ BIG := bm 248 (by decide +kernel) (by decide +kernel)
theorem wm_RX11_367 : Cond.methodLink RX11 367 yX11_playDraft ∈ BIG := bm 1280 (by decide +kernel) (by decide +kernel)
theorem wc_X11_playDraft : Cond.code yX11_playDraft cX11_playDraft 4 none ∈ BIG := bm 1283 (by decide +kernel) (by decide +kernel)
theorem wi_X11_playDraft : Cond.instanceMethod yX11_playDraft ∈ BIG := bm 1282 (by decide +kernel) (by decide +kernel)
theorem wse_X11_playDraft : Cond.selects RX11 yX11_playDraft yX11_playDraft ∈ BIG := bp 28 (by decide +kernel) (by decide +kernel)
theorem wl_RX11_371 : Cond.fieldLink RX11 371 (TX7 8).1 (TX7 8).2.1 (TX7 8).2.2.1 ∈ BIG := bm 342 (by decide +kernel) (by decide +kernel)
theorem wl_RX11_374 : Cond.fieldLink RX11 374 (TX7 2).1 (TX7 2).2.1 (TX7 2).2.2.1 ∈ BIG := bm 319 (by decide +kernel) (by decide +kernel)
theorem wm_RX11_377 : Cond.methodLink RX11 377 yX7_rowOf ∈ BIG := bm 1305 (by decide +kernel) (by decide +kernel)
theorem wc_X7_rowOf : Cond.code yX7_rowOf cX7_rowOf 5 (some .int) ∈ BIG := bm 1308 (by decide +kernel) (by decide +kernel)
theorem wi_X7_rowOf : Cond.instanceMethod yX7_rowOf ∈ BIG := bm 1306 (by decide +kernel) (by decide +kernel)
theorem wse_X7_rowOf : Cond.selects RX7 yX7_rowOf yX7_rowOf ∈ BIG := bm 1307 (by decide +kernel) (by decide +kernel)
theorem wm_RX11_380 : Cond.methodLink RX11 380 yX6_recall ∈ BIG := bm 672 (by decide +kernel) (by decide +kernel)
theorem wc_X6_recall : Cond.code yX6_recall cX6_recall 2 (some .boolean) ∈ BIG := bm 675 (by decide +kernel) (by decide +kernel)
theorem wi_X6_recall : Cond.instanceMethod yX6_recall ∈ BIG := bm 673 (by decide +kernel) (by decide +kernel)
theorem wse_X6_recall : Cond.selects RX6 yX6_recall yX6_recall ∈ BIG := bm 674 (by decide +kernel) (by decide +kernel)
theorem wl_RX11_384 : Cond.fieldLink RX11 384 (TX11 6).1 (TX11 6).2.1 (TX11 6).2.2.1 ∈ BIG := bm 398 (by decide +kernel) (by decide +kernel)
theorem wl_RX11_388 : Cond.fieldLink RX11 388 (TX7 7).1 (TX7 7).2.1 (TX7 7).2.2.1 ∈ BIG := bm 340 (by decide +kernel) (by decide +kernel)
theorem wl_RX11_391 : Cond.fieldLink RX11 391 (TX6 2).1 (TX6 2).2.1 (TX6 2).2.2.1 ∈ BIG := bm 384 (by decide +kernel) (by decide +kernel)
theorem wl_RX12_7 : Cond.fieldLink RX12 7 (TX12 1).1 (TX12 1).2.1 (TX12 1).2.2.1 ∈ BIG := bm 1323 (by decide +kernel) (by decide +kernel)
theorem wl_RX12_13 : Cond.fieldLink RX12 13 (TX12 2).1 (TX12 2).2.1 (TX12 2).2.2.1 ∈ BIG := bm 1324 (by decide +kernel) (by decide +kernel)
theorem wl_RX12_16 : Cond.fieldLink RX12 16 (TX12 4).1 (TX12 4).2.1 (TX12 4).2.2.1 ∈ BIG := bm 1326 (by decide +kernel) (by decide +kernel)
theorem wl_RX12_19 : Cond.fieldLink RX12 19 (TX12 5).1 (TX12 5).2.1 (TX12 5).2.2.1 ∈ BIG := bm 1327 (by decide +kernel) (by decide +kernel)
theorem wl_RX12_22 : Cond.fieldLink RX12 22 (TX12 7).1 (TX12 7).2.1 (TX12 7).2.2.1 ∈ BIG := bm 1329 (by decide +kernel) (by decide +kernel)
theorem wl_RX12_25 : Cond.fieldLink RX12 25 (TX12 12).1 (TX12 12).2.1 (TX12 12).2.2.1 ∈ BIG := bm 1334 (by decide +kernel) (by decide +kernel)
theorem wl_RX12_29 : Cond.fieldLink RX12 29 (TX12 14).1 (TX12 14).2.1 (TX12 14).2.2.1 ∈ BIG := bm 1336 (by decide +kernel) (by decide +kernel)
theorem wl_RX12_32 : Cond.fieldLink RX12 32 (TX12 19).1 (TX12 19).2.1 (TX12 19).2.2.1 ∈ BIG := bm 1341 (by decide +kernel) (by decide +kernel)
theorem wl_RX12_35 : Cond.fieldLink RX12 35 (TX12 20).1 (TX12 20).2.1 (TX12 20).2.2.1 ∈ BIG := bm 1342 (by decide +kernel) (by decide +kernel)
theorem wl_RX12_38 : Cond.fieldLink RX12 38 (TX12 21).1 (TX12 21).2.1 (TX12 21).2.2.1 ∈ BIG := bm 1343 (by decide +kernel) (by decide +kernel)
theorem wl_RX12_41 : Cond.fieldLink RX12 41 (TX12 22).1 (TX12 22).2.1 (TX12 22).2.2.1 ∈ BIG := bm 1344 (by decide +kernel) (by decide +kernel)
theorem wl_RX12_44 : Cond.fieldLink RX12 44 (TX12 23).1 (TX12 23).2.1 (TX12 23).2.2.1 ∈ BIG := bm 1345 (by decide +kernel) (by decide +kernel)
theorem wl_RX12_47 : Cond.fieldLink RX12 47 (TX12 26).1 (TX12 26).2.1 (TX12 26).2.2.1 ∈ BIG := bm 1348 (by decide +kernel) (by decide +kernel)
theorem wl_RX12_50 : Cond.fieldLink RX12 50 (TX12 27).1 (TX12 27).2.1 (TX12 27).2.2.1 ∈ BIG := bm 1349 (by decide +kernel) (by decide +kernel)
theorem wl_RX12_53 : Cond.fieldLink RX12 53 (TX12 28).1 (TX12 28).2.1 (TX12 28).2.2.1 ∈ BIG := bm 1350 (by decide +kernel) (by decide +kernel)
theorem wl_RX12_56 : Cond.fieldLink RX12 56 (TX12 29).1 (TX12 29).2.1 (TX12 29).2.2.1 ∈ BIG := bm 1351 (by decide +kernel) (by decide +kernel)
theorem wl_RX12_59 : Cond.fieldLink RX12 59 (TX12 0).1 (TX12 0).2.1 (TX12 0).2.2.1 ∈ BIG := bm 1322 (by decide +kernel) (by decide +kernel)
theorem wm_RX12_62 : Cond.methodLink RX12 62 yX12_isIn ∈ BIG := bm 1425 (by decide +kernel) (by decide +kernel)
theorem win_RX12 : Cond.initialized RX12 ∈ BIG := bm 13 (by decide +kernel) (by decide +kernel)
theorem wc_X12_isIn : Cond.code yX12_isIn cX12_isIn 3 (some .boolean) ∈ BIG := bm 1427 (by decide +kernel) (by decide +kernel)
theorem wst_X12_isIn : Cond.static yX12_isIn ∈ BIG := bm 1426 (by decide +kernel) (by decide +kernel)
theorem wm_RX12_66 : Cond.methodLink RX12 66 yX12_of ∈ BIG := bm 1502 (by decide +kernel) (by decide +kernel)
theorem wc_X12_of : Cond.code yX12_of cX12_of 3 (some .int) ∈ BIG := bm 1505 (by decide +kernel) (by decide +kernel)
theorem wi_X12_of : Cond.instanceMethod yX12_of ∈ BIG := bm 1504 (by decide +kernel) (by decide +kernel)
theorem wse_X12_of : Cond.selects RX12 yX12_of yX12_of ∈ BIG := bp 44 (by decide +kernel) (by decide +kernel)
theorem wm_RX12_70 : Cond.methodLink RX12 70 yX12_lesser ∈ BIG := bm 1606 (by decide +kernel) (by decide +kernel)
theorem wc_X12_lesser : Cond.code yX12_lesser cX12_lesser 2 (some .int) ∈ BIG := bm 1608 (by decide +kernel) (by decide +kernel)
theorem wst_X12_lesser : Cond.static yX12_lesser ∈ BIG := bm 1607 (by decide +kernel) (by decide +kernel)
theorem wm_RX12_73 : Cond.methodLink RX12 73 yX12_greater ∈ BIG := bm 1596 (by decide +kernel) (by decide +kernel)
theorem wc_X12_greater : Cond.code yX12_greater cX12_greater 2 (some .int) ∈ BIG := bm 1598 (by decide +kernel) (by decide +kernel)
theorem wst_X12_greater : Cond.static yX12_greater ∈ BIG := bm 1597 (by decide +kernel) (by decide +kernel)
theorem wl_RX12_76 : Cond.fieldLink RX12 76 (TX12 8).1 (TX12 8).2.1 (TX12 8).2.2.1 ∈ BIG := bm 1330 (by decide +kernel) (by decide +kernel)
theorem wl_RX12_79 : Cond.fieldLink RX12 79 (TX12 9).1 (TX12 9).2.1 (TX12 9).2.2.1 ∈ BIG := bm 1331 (by decide +kernel) (by decide +kernel)
theorem wl_RX12_82 : Cond.fieldLink RX12 82 (TX12 11).1 (TX12 11).2.1 (TX12 11).2.2.1 ∈ BIG := bm 1333 (by decide +kernel) (by decide +kernel)
theorem wl_RX12_85 : Cond.fieldLink RX12 85 (TX12 10).1 (TX12 10).2.1 (TX12 10).2.2.1 ∈ BIG := bm 1332 (by decide +kernel) (by decide +kernel)
theorem wm_RX12_88 : Cond.methodLink RX12 88 yX12_letter ∈ BIG := bm 1448 (by decide +kernel) (by decide +kernel)
theorem wc_X12_letter : Cond.code yX12_letter cX12_letter 2 (some .int) ∈ BIG := bm 1451 (by decide +kernel) (by decide +kernel)
theorem wi_X12_letter : Cond.instanceMethod yX12_letter ∈ BIG := bm 1450 (by decide +kernel) (by decide +kernel)
theorem wse_X12_letter : Cond.selects RX12 yX12_letter yX12_letter ∈ BIG := bp 33 (by decide +kernel) (by decide +kernel)
theorem wm_RX12_92 : Cond.methodLink RX12 92 yX12_skip ∈ BIG := bm 1444 (by decide +kernel) (by decide +kernel)
theorem wc_X12_skip : Cond.code yX12_skip cX12_skip 1 none ∈ BIG := bm 1447 (by decide +kernel) (by decide +kernel)
theorem wi_X12_skip : Cond.instanceMethod yX12_skip ∈ BIG := bm 1446 (by decide +kernel) (by decide +kernel)
theorem wse_X12_skip : Cond.selects RX12 yX12_skip yX12_skip ∈ BIG := bp 32 (by decide +kernel) (by decide +kernel)
theorem wm_RX12_95 : Cond.methodLink RX12 95 yJ0_length_8abf5 ∈ BIG := bm 1465 (by decide +kernel) (by decide +kernel)
theorem wm_RX12_101 : Cond.methodLink RX12 101 yJ0_charAt_5068e ∈ BIG := bm 1466 (by decide +kernel) (by decide +kernel)
theorem wm_RX12_105 : Cond.methodLink RX12 105 yX12_here ∈ BIG := bm 1473 (by decide +kernel) (by decide +kernel)
theorem wc_X12_here : Cond.code yX12_here cX12_here 1 (some .int) ∈ BIG := bm 1476 (by decide +kernel) (by decide +kernel)
theorem wi_X12_here : Cond.instanceMethod yX12_here ∈ BIG := bm 1475 (by decide +kernel) (by decide +kernel)
theorem wse_X12_here : Cond.selects RX12 yX12_here yX12_here ∈ BIG := bp 38 (by decide +kernel) (by decide +kernel)
theorem wm_RX12_108 : Cond.methodLink RX12 108 yX12_wrong ∈ BIG := bm 1452 (by decide +kernel) (by decide +kernel)
theorem wc_X12_wrong : Cond.code yX12_wrong cX12_wrong 2 none ∈ BIG := bm 1455 (by decide +kernel) (by decide +kernel)
theorem wi_X12_wrong : Cond.instanceMethod yX12_wrong ∈ BIG := bm 1454 (by decide +kernel) (by decide +kernel)
theorem wse_X12_wrong : Cond.selects RX12 yX12_wrong yX12_wrong ∈ BIG := bp 34 (by decide +kernel) (by decide +kernel)
theorem wm_RX12_112 : Cond.methodLink RX12 112 yX12_has ∈ BIG := bm 1461 (by decide +kernel) (by decide +kernel)
theorem wc_X12_has : Cond.code yX12_has cX12_has 4 (some .boolean) ∈ BIG := bm 1464 (by decide +kernel) (by decide +kernel)
theorem wi_X12_has : Cond.instanceMethod yX12_has ∈ BIG := bm 1463 (by decide +kernel) (by decide +kernel)
theorem wse_X12_has : Cond.selects RX12 yX12_has yX12_has ∈ BIG := bp 36 (by decide +kernel) (by decide +kernel)
theorem wm_RX12_116 : Cond.methodLink RX12 116 yX12_figures ∈ BIG := bm 1469 (by decide +kernel) (by decide +kernel)
theorem wc_X12_figures : Cond.code yX12_figures cX12_figures 5 (some .int) ∈ BIG := bm 1472 (by decide +kernel) (by decide +kernel)
theorem wi_X12_figures : Cond.instanceMethod yX12_figures ∈ BIG := bm 1471 (by decide +kernel) (by decide +kernel)
theorem wse_X12_figures : Cond.selects RX12 yX12_figures yX12_figures ∈ BIG := bp 37 (by decide +kernel) (by decide +kernel)
theorem wm_RX12_146 : Cond.methodLink RX12 146 yX12_lays ∈ BIG := bm 1545 (by decide +kernel) (by decide +kernel)
theorem wc_X12_lays : Cond.code yX12_lays cX12_lays 4 none ∈ BIG := bm 1548 (by decide +kernel) (by decide +kernel)
theorem wi_X12_lays : Cond.instanceMethod yX12_lays ∈ BIG := bm 1547 (by decide +kernel) (by decide +kernel)
theorem wse_X12_lays : Cond.selects RX12 yX12_lays yX12_lays ∈ BIG := bp 51 (by decide +kernel) (by decide +kernel)
theorem wm_RX12_123 : Cond.methodLink RX12 123 yX12_signed ∈ BIG := bm 1533 (by decide +kernel) (by decide +kernel)
theorem wc_X12_signed : Cond.code yX12_signed cX12_signed 4 (some .int) ∈ BIG := bm 1536 (by decide +kernel) (by decide +kernel)
theorem wi_X12_signed : Cond.instanceMethod yX12_signed ∈ BIG := bm 1535 (by decide +kernel) (by decide +kernel)
theorem wse_X12_signed : Cond.selects RX12 yX12_signed yX12_signed ∈ BIG := bp 49 (by decide +kernel) (by decide +kernel)
theorem wm_RX12_143 : Cond.methodLink RX12 143 yX12_joins ∈ BIG := bm 1541 (by decide +kernel) (by decide +kernel)
theorem wc_X12_joins : Cond.code yX12_joins cX12_joins 4 none ∈ BIG := bm 1544 (by decide +kernel) (by decide +kernel)
theorem wi_X12_joins : Cond.instanceMethod yX12_joins ∈ BIG := bm 1543 (by decide +kernel) (by decide +kernel)
theorem wse_X12_joins : Cond.selects RX12 yX12_joins yX12_joins ∈ BIG := bp 50 (by decide +kernel) (by decide +kernel)
theorem wm_RX12_152 : Cond.methodLink RX12 152 yX12_nodeLine ∈ BIG := bm 1527 (by decide +kernel) (by decide +kernel)
theorem wc_X12_nodeLine : Cond.code yX12_nodeLine cX12_nodeLine 9 none ∈ BIG := bm 1530 (by decide +kernel) (by decide +kernel)
theorem wi_X12_nodeLine : Cond.instanceMethod yX12_nodeLine ∈ BIG := bm 1529 (by decide +kernel) (by decide +kernel)
theorem wse_X12_nodeLine : Cond.selects RX12 yX12_nodeLine yX12_nodeLine ∈ BIG := bp 48 (by decide +kernel) (by decide +kernel)
theorem wm_RX12_157 : Cond.methodLink RX12 157 yX12_tells ∈ BIG := bm 1550 (by decide +kernel) (by decide +kernel)
theorem wc_X12_tells : Cond.code yX12_tells cX12_tells 5 none ∈ BIG := bm 1553 (by decide +kernel) (by decide +kernel)
theorem wi_X12_tells : Cond.instanceMethod yX12_tells ∈ BIG := bm 1552 (by decide +kernel) (by decide +kernel)
theorem wse_X12_tells : Cond.selects RX12 yX12_tells yX12_tells ∈ BIG := bp 52 (by decide +kernel) (by decide +kernel)
theorem wl_RX12_164 : Cond.fieldLink RX12 164 (TX12 13).1 (TX12 13).2.1 (TX12 13).2.2.1 ∈ BIG := bm 1335 (by decide +kernel) (by decide +kernel)
theorem wm_RX12_201 : Cond.methodLink RX12 201 yX12_part ∈ BIG := bm 1510 (by decide +kernel) (by decide +kernel)
theorem wc_X12_part : Cond.code yX12_part cX12_part 2 (some .int) ∈ BIG := bm 1513 (by decide +kernel) (by decide +kernel)
theorem wi_X12_part : Cond.instanceMethod yX12_part ∈ BIG := bm 1512 (by decide +kernel) (by decide +kernel)
theorem wse_X12_part : Cond.selects RX12 yX12_part yX12_part ∈ BIG := bp 46 (by decide +kernel) (by decide +kernel)
theorem wm_RX12_173 : Cond.methodLink RX12 173 yX12_isSign ∈ BIG := bm 1491 (by decide +kernel) (by decide +kernel)
theorem wc_X12_isSign : Cond.code yX12_isSign cX12_isSign 2 (some .boolean) ∈ BIG := bm 1494 (by decide +kernel) (by decide +kernel)
theorem wi_X12_isSign : Cond.instanceMethod yX12_isSign ∈ BIG := bm 1493 (by decide +kernel) (by decide +kernel)
theorem wse_X12_isSign : Cond.selects RX12 yX12_isSign yX12_isSign ∈ BIG := bp 42 (by decide +kernel) (by decide +kernel)
theorem wl_RX12_208 : Cond.fieldLink RX12 208 (TX12 15).1 (TX12 15).2.1 (TX12 15).2.2.1 ∈ BIG := bm 1337 (by decide +kernel) (by decide +kernel)
theorem wm_RX12_212 : Cond.methodLink RX12 212 yX12_sum ∈ BIG := bm 1506 (by decide +kernel) (by decide +kernel)
theorem wc_X12_sum : Cond.code yX12_sum cX12_sum 2 (some .int) ∈ BIG := bm 1509 (by decide +kernel) (by decide +kernel)
theorem wi_X12_sum : Cond.instanceMethod yX12_sum ∈ BIG := bm 1508 (by decide +kernel) (by decide +kernel)
theorem wse_X12_sum : Cond.selects RX12 yX12_sum yX12_sum ∈ BIG := bp 45 (by decide +kernel) (by decide +kernel)
theorem wm_RX12_217 : Cond.methodLink RX12 217 yX12_plain ∈ BIG := bm 1495 (by decide +kernel) (by decide +kernel)
theorem wc_X12_plain : Cond.code yX12_plain cX12_plain 4 (some .boolean) ∈ BIG := bm 1498 (by decide +kernel) (by decide +kernel)
theorem wi_X12_plain : Cond.instanceMethod yX12_plain ∈ BIG := bm 1497 (by decide +kernel) (by decide +kernel)
theorem wse_X12_plain : Cond.selects RX12 yX12_plain yX12_plain ∈ BIG := bp 43 (by decide +kernel) (by decide +kernel)
theorem wm_RX12_221 : Cond.methodLink RX12 221 yX12_atom ∈ BIG := bm 1486 (by decide +kernel) (by decide +kernel)
theorem wc_X12_atom : Cond.code yX12_atom cX12_atom 4 (some .boolean) ∈ BIG := bm 1489 (by decide +kernel) (by decide +kernel)
theorem wi_X12_atom : Cond.instanceMethod yX12_atom ∈ BIG := bm 1488 (by decide +kernel) (by decide +kernel)
theorem wse_X12_atom : Cond.selects RX12 yX12_atom yX12_atom ∈ BIG := bp 41 (by decide +kernel) (by decide +kernel)
theorem wm_RX12_224 : Cond.methodLink RX12 224 yX12_some ∈ BIG := bm 1478 (by decide +kernel) (by decide +kernel)
theorem wc_X12_some : Cond.code yX12_some cX12_some 3 (some .boolean) ∈ BIG := bm 1481 (by decide +kernel) (by decide +kernel)
theorem wi_X12_some : Cond.instanceMethod yX12_some ∈ BIG := bm 1480 (by decide +kernel) (by decide +kernel)
theorem wse_X12_some : Cond.selects RX12 yX12_some yX12_some ∈ BIG := bp 39 (by decide +kernel) (by decide +kernel)
theorem wm_RX12_229 : Cond.methodLink RX12 229 yX12_every ∈ BIG := bm 1482 (by decide +kernel) (by decide +kernel)
theorem wc_X12_every : Cond.code yX12_every cX12_every 3 (some .boolean) ∈ BIG := bm 1485 (by decide +kernel) (by decide +kernel)
theorem wi_X12_every : Cond.instanceMethod yX12_every ∈ BIG := bm 1484 (by decide +kernel) (by decide +kernel)
theorem wse_X12_every : Cond.selects RX12 yX12_every yX12_every ∈ BIG := bp 40 (by decide +kernel) (by decide +kernel)
theorem wl_RX12_240 : Cond.fieldLink RX12 240 (TX12 16).1 (TX12 16).2.1 (TX12 16).2.2.1 ∈ BIG := bm 1338 (by decide +kernel) (by decide +kernel)
theorem wl_RX12_242 : Cond.fieldLink RX12 242 (TX12 17).1 (TX12 17).2.1 (TX12 17).2.2.1 ∈ BIG := bm 1339 (by decide +kernel) (by decide +kernel)
theorem wl_RX12_245 : Cond.fieldLink RX12 245 (TX12 18).1 (TX12 18).2.1 (TX12 18).2.2.1 ∈ BIG := bm 1340 (by decide +kernel) (by decide +kernel)
theorem wm_RX12_167 : Cond.methodLink RX12 167 yX12_lawLine ∈ BIG := bm 1456 (by decide +kernel) (by decide +kernel)
theorem wc_X12_lawLine : Cond.code yX12_lawLine cX12_lawLine 4 none ∈ BIG := bm 1459 (by decide +kernel) (by decide +kernel)
theorem wi_X12_lawLine : Cond.instanceMethod yX12_lawLine ∈ BIG := bm 1458 (by decide +kernel) (by decide +kernel)
theorem wse_X12_lawLine : Cond.selects RX12 yX12_lawLine yX12_lawLine ∈ BIG := bp 35 (by decide +kernel) (by decide +kernel)
theorem wm_RX12_170 : Cond.methodLink RX12 170 yX12_clusterLine ∈ BIG := bm 1523 (by decide +kernel) (by decide +kernel)
theorem wc_X12_clusterLine : Cond.code yX12_clusterLine cX12_clusterLine 2 none ∈ BIG := bm 1526 (by decide +kernel) (by decide +kernel)
theorem wi_X12_clusterLine : Cond.instanceMethod yX12_clusterLine ∈ BIG := bm 1525 (by decide +kernel) (by decide +kernel)
theorem wse_X12_clusterLine : Cond.selects RX12 yX12_clusterLine yX12_clusterLine ∈ BIG := bp 47 (by decide +kernel) (by decide +kernel)
theorem wm_RX12_177 : Cond.methodLink RX12 177 yX12_putsAside ∈ BIG := bm 1432 (by decide +kernel) (by decide +kernel)
theorem wc_X12_putsAside : Cond.code yX12_putsAside cX12_putsAside 2 none ∈ BIG := bm 1435 (by decide +kernel) (by decide +kernel)
theorem wi_X12_putsAside : Cond.instanceMethod yX12_putsAside ∈ BIG := bm 1434 (by decide +kernel) (by decide +kernel)
theorem wse_X12_putsAside : Cond.selects RX12 yX12_putsAside yX12_putsAside ∈ BIG := bp 29 (by decide +kernel) (by decide +kernel)
theorem wm_RX12_180 : Cond.methodLink RX12 180 yX12_begins ∈ BIG := bm 1436 (by decide +kernel) (by decide +kernel)
theorem wc_X12_begins : Cond.code yX12_begins cX12_begins 1 none ∈ BIG := bm 1439 (by decide +kernel) (by decide +kernel)
theorem wi_X12_begins : Cond.instanceMethod yX12_begins ∈ BIG := bm 1438 (by decide +kernel) (by decide +kernel)
theorem wse_X12_begins : Cond.selects RX12 yX12_begins yX12_begins ∈ BIG := bp 30 (by decide +kernel) (by decide +kernel)
theorem wm_RX12_183 : Cond.methodLink RX12 183 yX12_reads ∈ BIG := bm 1440 (by decide +kernel) (by decide +kernel)
theorem wc_X12_reads : Cond.code yX12_reads cX12_reads 4 (some .int) ∈ BIG := bm 1443 (by decide +kernel) (by decide +kernel)
theorem wi_X12_reads : Cond.instanceMethod yX12_reads ∈ BIG := bm 1442 (by decide +kernel) (by decide +kernel)
theorem wse_X12_reads : Cond.selects RX12 yX12_reads yX12_reads ∈ BIG := bp 31 (by decide +kernel) (by decide +kernel)
theorem wm_RX12_187 : Cond.methodLink RX12 187 yX12_comesBack ∈ BIG := bm 1556 (by decide +kernel) (by decide +kernel)
theorem wc_X12_comesBack : Cond.code yX12_comesBack cX12_comesBack 2 none ∈ BIG := bm 1559 (by decide +kernel) (by decide +kernel)
theorem wi_X12_comesBack : Cond.instanceMethod yX12_comesBack ∈ BIG := bm 1558 (by decide +kernel) (by decide +kernel)
theorem wse_X12_comesBack : Cond.selects RX12 yX12_comesBack yX12_comesBack ∈ BIG := bp 53 (by decide +kernel) (by decide +kernel)
theorem wl_RX12_190 : Cond.fieldLink RX12 190 (TX12 6).1 (TX12 6).2.1 (TX12 6).2.2.1 ∈ BIG := bm 1328 (by decide +kernel) (by decide +kernel)
theorem wm_RX12_247 : Cond.methodLink RX12 247 yX12_bits ∈ BIG := bm 1599 (by decide +kernel) (by decide +kernel)
theorem wc_X12_bits : Cond.code yX12_bits cX12_bits 3 (some .int) ∈ BIG := bm 1601 (by decide +kernel) (by decide +kernel)
theorem wst_X12_bits : Cond.static yX12_bits ∈ BIG := bm 1600 (by decide +kernel) (by decide +kernel)
theorem wm_RX12_250 : Cond.methodLink RX12 250 yX12_inState ∈ BIG := bm 1602 (by decide +kernel) (by decide +kernel)
theorem wc_X12_inState : Cond.code yX12_inState cX12_inState 4 (some .int) ∈ BIG := bm 1605 (by decide +kernel) (by decide +kernel)
theorem wi_X12_inState : Cond.instanceMethod yX12_inState ∈ BIG := bm 1604 (by decide +kernel) (by decide +kernel)
theorem wse_X12_inState : Cond.selects RX12 yX12_inState yX12_inState ∈ BIG := bp 60 (by decide +kernel) (by decide +kernel)
theorem wm_RX12_253 : Cond.methodLink RX12 253 yX12_asks ∈ BIG := bm 1592 (by decide +kernel) (by decide +kernel)
theorem wc_X12_asks : Cond.code yX12_asks cX12_asks 5 none ∈ BIG := bm 1595 (by decide +kernel) (by decide +kernel)
theorem wi_X12_asks : Cond.instanceMethod yX12_asks ∈ BIG := bm 1594 (by decide +kernel) (by decide +kernel)
theorem wse_X12_asks : Cond.selects RX12 yX12_asks yX12_asks ∈ BIG := bp 59 (by decide +kernel) (by decide +kernel)
theorem wm_RX12_256 : Cond.methodLink RX12 256 yX12_heldUp ∈ BIG := bm 1588 (by decide +kernel) (by decide +kernel)
theorem wc_X12_heldUp : Cond.code yX12_heldUp cX12_heldUp 2 (some .int) ∈ BIG := bm 1591 (by decide +kernel) (by decide +kernel)
theorem wi_X12_heldUp : Cond.instanceMethod yX12_heldUp ∈ BIG := bm 1590 (by decide +kernel) (by decide +kernel)
theorem wse_X12_heldUp : Cond.selects RX12 yX12_heldUp yX12_heldUp ∈ BIG := bp 58 (by decide +kernel) (by decide +kernel)
theorem wm_RX12_259 : Cond.methodLink RX12 259 yX12_sentBy ∈ BIG := bm 1584 (by decide +kernel) (by decide +kernel)
theorem wc_X12_sentBy : Cond.code yX12_sentBy cX12_sentBy 2 (some .int) ∈ BIG := bm 1587 (by decide +kernel) (by decide +kernel)
theorem wi_X12_sentBy : Cond.instanceMethod yX12_sentBy ∈ BIG := bm 1586 (by decide +kernel) (by decide +kernel)
theorem wse_X12_sentBy : Cond.selects RX12 yX12_sentBy yX12_sentBy ∈ BIG := bp 57 (by decide +kernel) (by decide +kernel)
theorem wm_RX12_262 : Cond.methodLink RX12 262 yX12_isActive ∈ BIG := bm 1580 (by decide +kernel) (by decide +kernel)
theorem wc_X12_isActive : Cond.code yX12_isActive cX12_isActive 2 (some .boolean) ∈ BIG := bm 1583 (by decide +kernel) (by decide +kernel)
theorem wi_X12_isActive : Cond.instanceMethod yX12_isActive ∈ BIG := bm 1582 (by decide +kernel) (by decide +kernel)
theorem wse_X12_isActive : Cond.selects RX12 yX12_isActive yX12_isActive ∈ BIG := bp 56 (by decide +kernel) (by decide +kernel)
theorem wm_RX12_265 : Cond.methodLink RX12 265 yX12_shiftOf ∈ BIG := bm 1624 (by decide +kernel) (by decide +kernel)
theorem wc_X12_shiftOf : Cond.code yX12_shiftOf cX12_shiftOf 3 (some .int) ∈ BIG := bm 1627 (by decide +kernel) (by decide +kernel)
theorem wi_X12_shiftOf : Cond.instanceMethod yX12_shiftOf ∈ BIG := bm 1626 (by decide +kernel) (by decide +kernel)
theorem wse_X12_shiftOf : Cond.selects RX12 yX12_shiftOf yX12_shiftOf ∈ BIG := bp 64 (by decide +kernel) (by decide +kernel)
theorem wl_RX12_268 : Cond.fieldLink RX12 268 (TX12 24).1 (TX12 24).2.1 (TX12 24).2.2.1 ∈ BIG := bm 1346 (by decide +kernel) (by decide +kernel)
theorem wm_RX12_271 : Cond.methodLink RX12 271 yX12_isPassing ∈ BIG := bm 1576 (by decide +kernel) (by decide +kernel)
theorem wc_X12_isPassing : Cond.code yX12_isPassing cX12_isPassing 2 (some .boolean) ∈ BIG := bm 1579 (by decide +kernel) (by decide +kernel)
theorem wi_X12_isPassing : Cond.instanceMethod yX12_isPassing ∈ BIG := bm 1578 (by decide +kernel) (by decide +kernel)
theorem wse_X12_isPassing : Cond.selects RX12 yX12_isPassing yX12_isPassing ∈ BIG := bp 55 (by decide +kernel) (by decide +kernel)
theorem wm_RX12_274 : Cond.methodLink RX12 274 yX12_isOf ∈ BIG := bm 1613 (by decide +kernel) (by decide +kernel)
theorem wc_X12_isOf : Cond.code yX12_isOf cX12_isOf 2 (some .boolean) ∈ BIG := bm 1615 (by decide +kernel) (by decide +kernel)
theorem wst_X12_isOf : Cond.static yX12_isOf ∈ BIG := bm 1614 (by decide +kernel) (by decide +kernel)
theorem wm_RX12_278 : Cond.methodLink RX12 278 yX12_middle ∈ BIG := bm 1640 (by decide +kernel) (by decide +kernel)
theorem wc_X12_middle : Cond.code yX12_middle cX12_middle 5 (some .int) ∈ BIG := bm 1643 (by decide +kernel) (by decide +kernel)
theorem wi_X12_middle : Cond.instanceMethod yX12_middle ∈ BIG := bm 1642 (by decide +kernel) (by decide +kernel)
theorem wse_X12_middle : Cond.selects RX12 yX12_middle yX12_middle ∈ BIG := bp 68 (by decide +kernel) (by decide +kernel)
theorem wk_RX12_281 : Cond.constant RX12 281 (1103515245) ∈ BIG := bm 1684 (by decide +kernel) (by decide +kernel)
theorem wm_RX12_288 : Cond.methodLink RX12 288 yX12_logs ∈ BIG := bm 1693 (by decide +kernel) (by decide +kernel)
theorem wc_X12_logs : Cond.code yX12_logs cX12_logs 5 none ∈ BIG := bm 1696 (by decide +kernel) (by decide +kernel)
theorem wi_X12_logs : Cond.instanceMethod yX12_logs ∈ BIG := bm 1695 (by decide +kernel) (by decide +kernel)
theorem wse_X12_logs : Cond.selects RX12 yX12_logs yX12_logs ∈ BIG := bp 78 (by decide +kernel) (by decide +kernel)
theorem wm_RX12_282 : Cond.methodLink RX12 282 yX12_starts ∈ BIG := bm 1689 (by decide +kernel) (by decide +kernel)
theorem wc_X12_starts : Cond.code yX12_starts cX12_starts 3 none ∈ BIG := bm 1692 (by decide +kernel) (by decide +kernel)
theorem wi_X12_starts : Cond.instanceMethod yX12_starts ∈ BIG := bm 1691 (by decide +kernel) (by decide +kernel)
theorem wse_X12_starts : Cond.selects RX12 yX12_starts yX12_starts ∈ BIG := bp 77 (by decide +kernel) (by decide +kernel)
theorem wm_RX12_285 : Cond.methodLink RX12 285 yX12_collides ∈ BIG := bm 1697 (by decide +kernel) (by decide +kernel)
theorem wc_X12_collides : Cond.code yX12_collides cX12_collides 3 none ∈ BIG := bm 1700 (by decide +kernel) (by decide +kernel)
theorem wi_X12_collides : Cond.instanceMethod yX12_collides ∈ BIG := bm 1699 (by decide +kernel) (by decide +kernel)
theorem wse_X12_collides : Cond.selects RX12 yX12_collides yX12_collides ∈ BIG := bp 79 (by decide +kernel) (by decide +kernel)
theorem wm_RX12_291 : Cond.methodLink RX12 291 yX12_held ∈ BIG := bm 1705 (by decide +kernel) (by decide +kernel)
theorem wc_X12_held : Cond.code yX12_held cX12_held 2 (some .int) ∈ BIG := bm 1707 (by decide +kernel) (by decide +kernel)
theorem wst_X12_held : Cond.static yX12_held ∈ BIG := bm 1706 (by decide +kernel) (by decide +kernel)
theorem wm_RX12_294 : Cond.methodLink RX12 294 yX12_nextOf ∈ BIG := bm 1720 (by decide +kernel) (by decide +kernel)
theorem wc_X12_nextOf : Cond.code yX12_nextOf cX12_nextOf 4 (some .int) ∈ BIG := bm 1723 (by decide +kernel) (by decide +kernel)
theorem wi_X12_nextOf : Cond.instanceMethod yX12_nextOf ∈ BIG := bm 1722 (by decide +kernel) (by decide +kernel)
theorem wse_X12_nextOf : Cond.selects RX12 yX12_nextOf yX12_nextOf ∈ BIG := bp 84 (by decide +kernel) (by decide +kernel)
theorem wl_RX12_297 : Cond.fieldLink RX12 297 (TX12 25).1 (TX12 25).2.1 (TX12 25).2.2.1 ∈ BIG := bm 1347 (by decide +kernel) (by decide +kernel)
theorem wm_RX12_300 : Cond.methodLink RX12 300 yX12_isDenied ∈ BIG := bm 1716 (by decide +kernel) (by decide +kernel)
theorem wc_X12_isDenied : Cond.code yX12_isDenied cX12_isDenied 5 (some .boolean) ∈ BIG := bm 1719 (by decide +kernel) (by decide +kernel)
theorem wi_X12_isDenied : Cond.instanceMethod yX12_isDenied ∈ BIG := bm 1718 (by decide +kernel) (by decide +kernel)
theorem wse_X12_isDenied : Cond.selects RX12 yX12_isDenied yX12_isDenied ∈ BIG := bp 83 (by decide +kernel) (by decide +kernel)
theorem wm_RX12_303 : Cond.methodLink RX12 303 yX12_freezes ∈ BIG := bm 1724 (by decide +kernel) (by decide +kernel)
theorem wc_X12_freezes : Cond.code yX12_freezes cX12_freezes 3 none ∈ BIG := bm 1727 (by decide +kernel) (by decide +kernel)
theorem wi_X12_freezes : Cond.instanceMethod yX12_freezes ∈ BIG := bm 1726 (by decide +kernel) (by decide +kernel)
theorem wse_X12_freezes : Cond.selects RX12 yX12_freezes yX12_freezes ∈ BIG := bp 85 (by decide +kernel) (by decide +kernel)
theorem wm_RX12_307 : Cond.methodLink RX12 307 yX12_middleOf ∈ BIG := bm 1636 (by decide +kernel) (by decide +kernel)
theorem wc_X12_middleOf : Cond.code yX12_middleOf cX12_middleOf 5 (some .int) ∈ BIG := bm 1639 (by decide +kernel) (by decide +kernel)
theorem wi_X12_middleOf : Cond.instanceMethod yX12_middleOf ∈ BIG := bm 1638 (by decide +kernel) (by decide +kernel)
theorem wse_X12_middleOf : Cond.selects RX12 yX12_middleOf yX12_middleOf ∈ BIG := bp 67 (by decide +kernel) (by decide +kernel)
theorem wm_RX12_310 : Cond.methodLink RX12 310 yX12_draw ∈ BIG := bm 1680 (by decide +kernel) (by decide +kernel)
theorem wc_X12_draw : Cond.code yX12_draw cX12_draw 2 (some .int) ∈ BIG := bm 1683 (by decide +kernel) (by decide +kernel)
theorem wi_X12_draw : Cond.instanceMethod yX12_draw ∈ BIG := bm 1682 (by decide +kernel) (by decide +kernel)
theorem wse_X12_draw : Cond.selects RX12 yX12_draw yX12_draw ∈ BIG := bp 75 (by decide +kernel) (by decide +kernel)
theorem wm_RX12_313 : Cond.methodLink RX12 313 yX12_allShifts ∈ BIG := bm 1632 (by decide +kernel) (by decide +kernel)
theorem wc_X12_allShifts : Cond.code yX12_allShifts cX12_allShifts 3 none ∈ BIG := bm 1635 (by decide +kernel) (by decide +kernel)
theorem wi_X12_allShifts : Cond.instanceMethod yX12_allShifts ∈ BIG := bm 1634 (by decide +kernel) (by decide +kernel)
theorem wse_X12_allShifts : Cond.selects RX12 yX12_allShifts yX12_allShifts ∈ BIG := bp 66 (by decide +kernel) (by decide +kernel)
theorem wm_RX12_316 : Cond.methodLink RX12 316 yX12_sendersOf ∈ BIG := bm 1676 (by decide +kernel) (by decide +kernel)
theorem wc_X12_sendersOf : Cond.code yX12_sendersOf cX12_sendersOf 6 (some .int) ∈ BIG := bm 1679 (by decide +kernel) (by decide +kernel)
theorem wi_X12_sendersOf : Cond.instanceMethod yX12_sendersOf ∈ BIG := bm 1678 (by decide +kernel) (by decide +kernel)
theorem wse_X12_sendersOf : Cond.selects RX12 yX12_sendersOf yX12_sendersOf ∈ BIG := bp 74 (by decide +kernel) (by decide +kernel)
theorem wm_RX12_320 : Cond.methodLink RX12 320 yX12_calls ∈ BIG := bm 1685 (by decide +kernel) (by decide +kernel)
theorem wc_X12_calls : Cond.code yX12_calls cX12_calls 3 none ∈ BIG := bm 1688 (by decide +kernel) (by decide +kernel)
theorem wi_X12_calls : Cond.instanceMethod yX12_calls ∈ BIG := bm 1687 (by decide +kernel) (by decide +kernel)
theorem wse_X12_calls : Cond.selects RX12 yX12_calls yX12_calls ∈ BIG := bp 76 (by decide +kernel) (by decide +kernel)
theorem wm_RX12_323 : Cond.methodLink RX12 323 yX12_follow ∈ BIG := bm 1701 (by decide +kernel) (by decide +kernel)
theorem wc_X12_follow : Cond.code yX12_follow cX12_follow 4 none ∈ BIG := bm 1704 (by decide +kernel) (by decide +kernel)
theorem wi_X12_follow : Cond.instanceMethod yX12_follow ∈ BIG := bm 1703 (by decide +kernel) (by decide +kernel)
theorem wse_X12_follow : Cond.selects RX12 yX12_follow yX12_follow ∈ BIG := bp 80 (by decide +kernel) (by decide +kernel)
theorem wm_RX12_326 : Cond.methodLink RX12 326 yX12_counts ∈ BIG := bm 1708 (by decide +kernel) (by decide +kernel)
theorem wc_X12_counts : Cond.code yX12_counts cX12_counts 5 none ∈ BIG := bm 1711 (by decide +kernel) (by decide +kernel)
theorem wi_X12_counts : Cond.instanceMethod yX12_counts ∈ BIG := bm 1710 (by decide +kernel) (by decide +kernel)
theorem wse_X12_counts : Cond.selects RX12 yX12_counts yX12_counts ∈ BIG := bp 81 (by decide +kernel) (by decide +kernel)
theorem wm_RX12_329 : Cond.methodLink RX12 329 yX12_judges ∈ BIG := bm 1712 (by decide +kernel) (by decide +kernel)
theorem wc_X12_judges : Cond.code yX12_judges cX12_judges 4 none ∈ BIG := bm 1715 (by decide +kernel) (by decide +kernel)
theorem wi_X12_judges : Cond.instanceMethod yX12_judges ∈ BIG := bm 1714 (by decide +kernel) (by decide +kernel)
theorem wse_X12_judges : Cond.selects RX12 yX12_judges yX12_judges ∈ BIG := bp 82 (by decide +kernel) (by decide +kernel)
theorem wm_RX12_332 : Cond.methodLink RX12 332 yX12_corrects ∈ BIG := bm 1728 (by decide +kernel) (by decide +kernel)
theorem wc_X12_corrects : Cond.code yX12_corrects cX12_corrects 4 none ∈ BIG := bm 1731 (by decide +kernel) (by decide +kernel)
theorem wi_X12_corrects : Cond.instanceMethod yX12_corrects ∈ BIG := bm 1730 (by decide +kernel) (by decide +kernel)
theorem wse_X12_corrects : Cond.selects RX12 yX12_corrects yX12_corrects ∈ BIG := bp 86 (by decide +kernel) (by decide +kernel)
theorem wm_RX12_335 : Cond.methodLink RX12 335 yX12_passes ∈ BIG := bm 1672 (by decide +kernel) (by decide +kernel)
theorem wc_X12_passes : Cond.code yX12_passes cX12_passes 5 none ∈ BIG := bm 1675 (by decide +kernel) (by decide +kernel)
theorem wi_X12_passes : Cond.instanceMethod yX12_passes ∈ BIG := bm 1674 (by decide +kernel) (by decide +kernel)
theorem wse_X12_passes : Cond.selects RX12 yX12_passes yX12_passes ∈ BIG := bp 73 (by decide +kernel) (by decide +kernel)
theorem wk_RX12_339 : Cond.constant RX12 339 (2000000000) ∈ BIG := bm 1768 (by decide +kernel) (by decide +kernel)
theorem wk_RX12_340 : Cond.constant RX12 340 (-2000000000) ∈ BIG := bm 1769 (by decide +kernel) (by decide +kernel)
theorem wm_RX12_341 : Cond.methodLink RX12 341 yX12_isHeard ∈ BIG := bm 1620 (by decide +kernel) (by decide +kernel)
theorem wc_X12_isHeard : Cond.code yX12_isHeard cX12_isHeard 3 (some .boolean) ∈ BIG := bm 1623 (by decide +kernel) (by decide +kernel)
theorem wi_X12_isHeard : Cond.instanceMethod yX12_isHeard ∈ BIG := bm 1622 (by decide +kernel) (by decide +kernel)
theorem wse_X12_isHeard : Cond.selects RX12 yX12_isHeard yX12_isHeard ∈ BIG := bp 63 (by decide +kernel) (by decide +kernel)
theorem wm_RX12_344 : Cond.methodLink RX12 344 yX12_areFriends ∈ BIG := bm 1616 (by decide +kernel) (by decide +kernel)
theorem wc_X12_areFriends : Cond.code yX12_areFriends cX12_areFriends 3 (some .boolean) ∈ BIG := bm 1619 (by decide +kernel) (by decide +kernel)
theorem wi_X12_areFriends : Cond.instanceMethod yX12_areFriends ∈ BIG := bm 1618 (by decide +kernel) (by decide +kernel)
theorem wse_X12_areFriends : Cond.selects RX12 yX12_areFriends yX12_areFriends ∈ BIG := bp 62 (by decide +kernel) (by decide +kernel)
theorem wm_RX12_347 : Cond.methodLink RX12 347 yX12_isNode ∈ BIG := bm 1572 (by decide +kernel) (by decide +kernel)
theorem wc_X12_isNode : Cond.code yX12_isNode cX12_isNode 2 (some .boolean) ∈ BIG := bm 1575 (by decide +kernel) (by decide +kernel)
theorem wi_X12_isNode : Cond.instanceMethod yX12_isNode ∈ BIG := bm 1574 (by decide +kernel) (by decide +kernel)
theorem wse_X12_isNode : Cond.selects RX12 yX12_isNode yX12_isNode ∈ BIG := bp 54 (by decide +kernel) (by decide +kernel)
theorem wm_RX12_350 : Cond.methodLink RX12 350 yX12_cliqueOf ∈ BIG := bm 1609 (by decide +kernel) (by decide +kernel)
theorem wc_X12_cliqueOf : Cond.code yX12_cliqueOf cX12_cliqueOf 7 (some .int) ∈ BIG := bm 1612 (by decide +kernel) (by decide +kernel)
theorem wi_X12_cliqueOf : Cond.instanceMethod yX12_cliqueOf ∈ BIG := bm 1611 (by decide +kernel) (by decide +kernel)
theorem wse_X12_cliqueOf : Cond.selects RX12 yX12_cliqueOf yX12_cliqueOf ∈ BIG := bp 61 (by decide +kernel) (by decide +kernel)
theorem wm_RX12_353 : Cond.methodLink RX12 353 yX12_middleNow ∈ BIG := bm 1628 (by decide +kernel) (by decide +kernel)
theorem wc_X12_middleNow : Cond.code yX12_middleNow cX12_middleNow 2 (some .int) ∈ BIG := bm 1631 (by decide +kernel) (by decide +kernel)
theorem wi_X12_middleNow : Cond.instanceMethod yX12_middleNow ∈ BIG := bm 1630 (by decide +kernel) (by decide +kernel)
theorem wse_X12_middleNow : Cond.selects RX12 yX12_middleNow yX12_middleNow ∈ BIG := bp 65 (by decide +kernel) (by decide +kernel)
theorem wm_RX12_356 : Cond.methodLink RX12 356 yX12_knownOf ∈ BIG := bm 1644 (by decide +kernel) (by decide +kernel)
theorem wc_X12_knownOf : Cond.code yX12_knownOf cX12_knownOf 4 (some .int) ∈ BIG := bm 1647 (by decide +kernel) (by decide +kernel)
theorem wi_X12_knownOf : Cond.instanceMethod yX12_knownOf ∈ BIG := bm 1646 (by decide +kernel) (by decide +kernel)
theorem wse_X12_knownOf : Cond.selects RX12 yX12_knownOf yX12_knownOf ∈ BIG := bp 69 (by decide +kernel) (by decide +kernel)
theorem wm_RX12_359 : Cond.methodLink RX12 359 yX12_areTwo ∈ BIG := bm 1652 (by decide +kernel) (by decide +kernel)
theorem wc_X12_areTwo : Cond.code yX12_areTwo cX12_areTwo 3 none ∈ BIG := bm 1655 (by decide +kernel) (by decide +kernel)
theorem wi_X12_areTwo : Cond.instanceMethod yX12_areTwo ∈ BIG := bm 1654 (by decide +kernel) (by decide +kernel)
theorem wse_X12_areTwo : Cond.selects RX12 yX12_areTwo yX12_areTwo ∈ BIG := bp 70 (by decide +kernel) (by decide +kernel)
theorem wm_RX12_362 : Cond.methodLink RX12 362 yX12_remembers ∈ BIG := bm 1664 (by decide +kernel) (by decide +kernel)
theorem wc_X12_remembers : Cond.code yX12_remembers cX12_remembers 2 none ∈ BIG := bm 1667 (by decide +kernel) (by decide +kernel)
theorem wi_X12_remembers : Cond.instanceMethod yX12_remembers ∈ BIG := bm 1666 (by decide +kernel) (by decide +kernel)
theorem wse_X12_remembers : Cond.selects RX12 yX12_remembers yX12_remembers ∈ BIG := bp 71 (by decide +kernel) (by decide +kernel)
theorem wm_RX12_365 : Cond.methodLink RX12 365 yX12_goes ∈ BIG := bm 1668 (by decide +kernel) (by decide +kernel)
theorem wc_X12_goes : Cond.code yX12_goes cX12_goes 4 (some .int) ∈ BIG := bm 1671 (by decide +kernel) (by decide +kernel)
theorem wi_X12_goes : Cond.instanceMethod yX12_goes ∈ BIG := bm 1670 (by decide +kernel) (by decide +kernel)
theorem wse_X12_goes : Cond.selects RX12 yX12_goes yX12_goes ∈ BIG := bp 72 (by decide +kernel) (by decide +kernel)
theorem wm_RX12_368 : Cond.methodLink RX12 368 yX12_sets ∈ BIG := bm 1744 (by decide +kernel) (by decide +kernel)
theorem wc_X12_sets : Cond.code yX12_sets cX12_sets 4 (some .int) ∈ BIG := bm 1747 (by decide +kernel) (by decide +kernel)
theorem wi_X12_sets : Cond.instanceMethod yX12_sets ∈ BIG := bm 1746 (by decide +kernel) (by decide +kernel)
theorem wse_X12_sets : Cond.selects RX12 yX12_sets yX12_sets ∈ BIG := bp 87 (by decide +kernel) (by decide +kernel)
theorem wm_RX12_371 : Cond.methodLink RX12 371 yX12_spreadNow ∈ BIG := bm 1764 (by decide +kernel) (by decide +kernel)
theorem wc_X12_spreadNow : Cond.code yX12_spreadNow cX12_spreadNow 4 (some .int) ∈ BIG := bm 1767 (by decide +kernel) (by decide +kernel)
theorem wi_X12_spreadNow : Cond.instanceMethod yX12_spreadNow ∈ BIG := bm 1766 (by decide +kernel) (by decide +kernel)
theorem wse_X12_spreadNow : Cond.selects RX12 yX12_spreadNow yX12_spreadNow ∈ BIG := bp 88 (by decide +kernel) (by decide +kernel)
theorem wm_RX12_374 : Cond.methodLink RX12 374 yX12_lowest ∈ BIG := bm 1790 (by decide +kernel) (by decide +kernel)
theorem wc_X12_lowest : Cond.code yX12_lowest cX12_lowest 2 (some .int) ∈ BIG := bm 1792 (by decide +kernel) (by decide +kernel)
theorem wst_X12_lowest : Cond.static yX12_lowest ∈ BIG := bm 1791 (by decide +kernel) (by decide +kernel)
theorem wm_RX12_377 : Cond.methodLink RX12 377 yX12_sign ∈ BIG := bm 1797 (by decide +kernel) (by decide +kernel)
theorem wc_X12_sign : Cond.code yX12_sign cX12_sign 1 (some .int) ∈ BIG := bm 1799 (by decide +kernel) (by decide +kernel)
theorem wst_X12_sign : Cond.static yX12_sign ∈ BIG := bm 1798 (by decide +kernel) (by decide +kernel)
theorem wm_RX12_380 : Cond.methodLink RX12 380 yX12_areAllFriends ∈ BIG := bm 1808 (by decide +kernel) (by decide +kernel)
theorem wc_X12_areAllFriends : Cond.code yX12_areAllFriends cX12_areAllFriends 5 (some .boolean) ∈ BIG := bm 1811 (by decide +kernel) (by decide +kernel)
theorem wi_X12_areAllFriends : Cond.instanceMethod yX12_areAllFriends ∈ BIG := bm 1810 (by decide +kernel) (by decide +kernel)
theorem wse_X12_areAllFriends : Cond.selects RX12 yX12_areAllFriends yX12_areAllFriends ∈ BIG := bp 89 (by decide +kernel) (by decide +kernel)
theorem wm_RX12_383 : Cond.methodLink RX12 383 yX12_apart ∈ BIG := bm 1820 (by decide +kernel) (by decide +kernel)
theorem wc_X12_apart : Cond.code yX12_apart cX12_apart 3 (some .int) ∈ BIG := bm 1823 (by decide +kernel) (by decide +kernel)
theorem wi_X12_apart : Cond.instanceMethod yX12_apart ∈ BIG := bm 1822 (by decide +kernel) (by decide +kernel)
theorem wse_X12_apart : Cond.selects RX12 yX12_apart yX12_apart ∈ BIG := bp 91 (by decide +kernel) (by decide +kernel)
theorem wm_RX12_386 : Cond.methodLink RX12 386 yX12_allPaths ∈ BIG := bm 1816 (by decide +kernel) (by decide +kernel)
theorem wc_X12_allPaths : Cond.code yX12_allPaths cX12_allPaths 6 none ∈ BIG := bm 1819 (by decide +kernel) (by decide +kernel)
theorem wi_X12_allPaths : Cond.instanceMethod yX12_allPaths ∈ BIG := bm 1818 (by decide +kernel) (by decide +kernel)
theorem wse_X12_allPaths : Cond.selects RX12 yX12_allPaths yX12_allPaths ∈ BIG := bp 90 (by decide +kernel) (by decide +kernel)
theorem wm_RX12_389 : Cond.methodLink RX12 389 yX12_clockOf ∈ BIG := bm 1836 (by decide +kernel) (by decide +kernel)
theorem wc_X12_clockOf : Cond.code yX12_clockOf cX12_clockOf 2 (some .int) ∈ BIG := bm 1838 (by decide +kernel) (by decide +kernel)
theorem wst_X12_clockOf : Cond.static yX12_clockOf ∈ BIG := bm 1837 (by decide +kernel) (by decide +kernel)
theorem wm_RX12_392 : Cond.methodLink RX12 392 yX12_readMany ∈ BIG := bm 1828 (by decide +kernel) (by decide +kernel)
theorem wc_X12_readMany : Cond.code yX12_readMany cX12_readMany 4 (some .int) ∈ BIG := bm 1831 (by decide +kernel) (by decide +kernel)
theorem wi_X12_readMany : Cond.instanceMethod yX12_readMany ∈ BIG := bm 1830 (by decide +kernel) (by decide +kernel)
theorem wse_X12_readMany : Cond.selects RX12 yX12_readMany yX12_readMany ∈ BIG := bp 92 (by decide +kernel) (by decide +kernel)
theorem wm_RX12_395 : Cond.methodLink RX12 395 yX12_wrongReads ∈ BIG := bm 1832 (by decide +kernel) (by decide +kernel)
theorem wc_X12_wrongReads : Cond.code yX12_wrongReads cX12_wrongReads 5 (some .int) ∈ BIG := bm 1835 (by decide +kernel) (by decide +kernel)
theorem wi_X12_wrongReads : Cond.instanceMethod yX12_wrongReads ∈ BIG := bm 1834 (by decide +kernel) (by decide +kernel)
theorem wse_X12_wrongReads : Cond.selects RX12 yX12_wrongReads yX12_wrongReads ∈ BIG := bp 93 (by decide +kernel) (by decide +kernel)
theorem wm_RX12_398 : Cond.methodLink RX12 398 yX12_wouldHear ∈ BIG := bm 1855 (by decide +kernel) (by decide +kernel)
theorem wc_X12_wouldHear : Cond.code yX12_wouldHear cX12_wouldHear 3 (some .boolean) ∈ BIG := bm 1857 (by decide +kernel) (by decide +kernel)
theorem wst_X12_wouldHear : Cond.static yX12_wouldHear ∈ BIG := bm 1856 (by decide +kernel) (by decide +kernel)
theorem wm_RX12_401 : Cond.methodLink RX12 401 yX12_blameMany ∈ BIG := bm 1847 (by decide +kernel) (by decide +kernel)
theorem wc_X12_blameMany : Cond.code yX12_blameMany cX12_blameMany 4 (some .int) ∈ BIG := bm 1850 (by decide +kernel) (by decide +kernel)
theorem wi_X12_blameMany : Cond.instanceMethod yX12_blameMany ∈ BIG := bm 1849 (by decide +kernel) (by decide +kernel)
theorem wse_X12_blameMany : Cond.selects RX12 yX12_blameMany yX12_blameMany ∈ BIG := bp 94 (by decide +kernel) (by decide +kernel)
theorem wm_RX12_404 : Cond.methodLink RX12 404 yX12_wrongBlames ∈ BIG := bm 1851 (by decide +kernel) (by decide +kernel)
theorem wc_X12_wrongBlames : Cond.code yX12_wrongBlames cX12_wrongBlames 5 (some .int) ∈ BIG := bm 1854 (by decide +kernel) (by decide +kernel)
theorem wi_X12_wrongBlames : Cond.instanceMethod yX12_wrongBlames ∈ BIG := bm 1853 (by decide +kernel) (by decide +kernel)
theorem wse_X12_wrongBlames : Cond.selects RX12 yX12_wrongBlames yX12_wrongBlames ∈ BIG := bp 95 (by decide +kernel) (by decide +kernel)
theorem wm_RX12_407 : Cond.methodLink RX12 407 yX12_both ∈ BIG := bm 1870 (by decide +kernel) (by decide +kernel)
theorem wc_X12_both : Cond.code yX12_both cX12_both 4 (some .int) ∈ BIG := bm 1873 (by decide +kernel) (by decide +kernel)
theorem wi_X12_both : Cond.instanceMethod yX12_both ∈ BIG := bm 1872 (by decide +kernel) (by decide +kernel)
theorem wse_X12_both : Cond.selects RX12 yX12_both yX12_both ∈ BIG := bp 96 (by decide +kernel) (by decide +kernel)
theorem wm_RX12_410 : Cond.methodLink RX12 410 yX12_allBest ∈ BIG := bm 1874 (by decide +kernel) (by decide +kernel)
theorem wc_X12_allBest : Cond.code yX12_allBest cX12_allBest 5 none ∈ BIG := bm 1877 (by decide +kernel) (by decide +kernel)
theorem wi_X12_allBest : Cond.instanceMethod yX12_allBest ∈ BIG := bm 1876 (by decide +kernel) (by decide +kernel)
theorem wse_X12_allBest : Cond.selects RX12 yX12_allBest yX12_allBest ∈ BIG := bp 97 (by decide +kernel) (by decide +kernel)
theorem wm_RX12_413 : Cond.methodLink RX12 413 yX12_guardHas ∈ BIG := bm 1886 (by decide +kernel) (by decide +kernel)
theorem wc_X12_guardHas : Cond.code yX12_guardHas cX12_guardHas 4 (some .int) ∈ BIG := bm 1889 (by decide +kernel) (by decide +kernel)
theorem wi_X12_guardHas : Cond.instanceMethod yX12_guardHas ∈ BIG := bm 1888 (by decide +kernel) (by decide +kernel)
theorem wse_X12_guardHas : Cond.selects RX12 yX12_guardHas yX12_guardHas ∈ BIG := bp 98 (by decide +kernel) (by decide +kernel)
theorem wm_RX12_417 : Cond.methodLink RX12 417 yX12_talkHas ∈ BIG := bm 1890 (by decide +kernel) (by decide +kernel)
theorem wc_X12_talkHas : Cond.code yX12_talkHas cX12_talkHas 2 (some .int) ∈ BIG := bm 1892 (by decide +kernel) (by decide +kernel)
theorem wst_X12_talkHas : Cond.static yX12_talkHas ∈ BIG := bm 1891 (by decide +kernel) (by decide +kernel)
theorem wk_RX12_420 : Cond.constantLong RX12 420 (100) ∈ BIG := bm 1897 (by decide +kernel) (by decide +kernel)
theorem wk_RX12_422 : Cond.constantLong RX12 422 (10000) ∈ BIG := bm 1898 (by decide +kernel) (by decide +kernel)
theorem wm_RX12_424 : Cond.methodLink RX12 424 yX12_valueOf ∈ BIG := bm 1903 (by decide +kernel) (by decide +kernel)
theorem wc_X12_valueOf : Cond.code yX12_valueOf cX12_valueOf 4 (some .int) ∈ BIG := bm 1906 (by decide +kernel) (by decide +kernel)
theorem wi_X12_valueOf : Cond.instanceMethod yX12_valueOf ∈ BIG := bm 1905 (by decide +kernel) (by decide +kernel)
theorem wse_X12_valueOf : Cond.selects RX12 yX12_valueOf yX12_valueOf ∈ BIG := bp 99 (by decide +kernel) (by decide +kernel)
theorem wm_RX12_427 : Cond.methodLink RX12 427 yX12_logged ∈ BIG := bm 1931 (by decide +kernel) (by decide +kernel)
theorem wc_X12_logged : Cond.code yX12_logged cX12_logged 3 (some .int) ∈ BIG := bm 1934 (by decide +kernel) (by decide +kernel)
theorem wi_X12_logged : Cond.instanceMethod yX12_logged ∈ BIG := bm 1933 (by decide +kernel) (by decide +kernel)
theorem wse_X12_logged : Cond.selects RX12 yX12_logged yX12_logged ∈ BIG := bp 100 (by decide +kernel) (by decide +kernel)
theorem wl_RX12_430 : Cond.fieldLink RX12 430 (TX12 3).1 (TX12 3).2.1 (TX12 3).2.2.1 ∈ BIG := bm 1325 (by decide +kernel) (by decide +kernel)
theorem wl_RJ0_9 : Cond.fieldLink RJ0 9 "java/lang/String" "value" "[B" ∈ BIG := bm 1981 (by decide +kernel) (by decide +kernel)
theorem wl_RJ0_38 : Cond.fieldLink RJ0 38 "java/lang/String" "COMPACT_STRINGS" "Z" ∈ BIG := bm 730 (by decide +kernel) (by decide +kernel)
theorem wl_RJ0_15 : Cond.fieldLink RJ0 15 "java/lang/String" "coder" "B" ∈ BIG := bm 1982 (by decide +kernel) (by decide +kernel)
theorem wl_RJ0_1053 : Cond.fieldLink RJ0 1053 "jdk/internal/util/Preconditions" "SIOOBE_FORMATTER" "Ljava/util/function/BiFunction;" ∈ BIG := bm 746 (by decide +kernel) (by decide +kernel)
theorem wy_0_0 : u_lay RX0 TX0 0 ∈ BIG := bm 163 (by decide +kernel) (by decide +kernel)
theorem inB_X0 : ∀ w ∈ u_ws RX0 TX0 1, w ∈ BIG := by
  intro w h
  obtain ⟨k, hk, rfl⟩ := List.mem_map.mp h
  have hk := List.mem_range.mp hk
  rcases (show k = 0 by omega) with rfl
  · exact wy_0_0
theorem wy_1_0 : u_lay RX1 TX1 0 ∈ BIG := bm 106 (by decide +kernel) (by decide +kernel)
theorem wy_1_1 : u_lay RX1 TX1 1 ∈ BIG := bm 108 (by decide +kernel) (by decide +kernel)
theorem wy_1_2 : u_lay RX1 TX1 2 ∈ BIG := bm 110 (by decide +kernel) (by decide +kernel)
theorem wy_1_3 : u_lay RX1 TX1 3 ∈ BIG := bm 112 (by decide +kernel) (by decide +kernel)
theorem wy_1_4 : u_lay RX1 TX1 4 ∈ BIG := bm 114 (by decide +kernel) (by decide +kernel)
theorem inB_X1 : ∀ w ∈ u_ws RX1 TX1 5, w ∈ BIG := by
  intro w h
  obtain ⟨k, hk, rfl⟩ := List.mem_map.mp h
  have hk := List.mem_range.mp hk
  rcases (show k = 0 ∨ k = 1 ∨ k = 2 ∨ k = 3 ∨ k = 4 by omega) with rfl | rfl | rfl | rfl | rfl
  · exact wy_1_0
  · exact wy_1_1
  · exact wy_1_2
  · exact wy_1_3
  · exact wy_1_4
theorem wy_2_0 : u_lay RX2 TX2 0 ∈ BIG := bm 126 (by decide +kernel) (by decide +kernel)
theorem wy_2_1 : u_lay RX2 TX2 1 ∈ BIG := bm 128 (by decide +kernel) (by decide +kernel)
theorem wy_2_2 : u_lay RX2 TX2 2 ∈ BIG := bm 130 (by decide +kernel) (by decide +kernel)
theorem inB_X2 : ∀ w ∈ u_ws RX2 TX2 3, w ∈ BIG := by
  intro w h
  obtain ⟨k, hk, rfl⟩ := List.mem_map.mp h
  have hk := List.mem_range.mp hk
  rcases (show k = 0 ∨ k = 1 ∨ k = 2 by omega) with rfl | rfl | rfl
  · exact wy_2_0
  · exact wy_2_1
  · exact wy_2_2
theorem wy_3_0 : u_lay RX3 TX3 0 ∈ BIG := bm 207 (by decide +kernel) (by decide +kernel)
theorem wy_3_1 : u_lay RX3 TX3 1 ∈ BIG := bm 209 (by decide +kernel) (by decide +kernel)
theorem wy_3_2 : u_lay RX3 TX3 2 ∈ BIG := bm 211 (by decide +kernel) (by decide +kernel)
theorem wy_3_3 : u_lay RX3 TX3 3 ∈ BIG := bm 213 (by decide +kernel) (by decide +kernel)
theorem wy_3_4 : u_lay RX3 TX3 4 ∈ BIG := bm 215 (by decide +kernel) (by decide +kernel)
theorem wy_3_5 : u_lay RX3 TX3 5 ∈ BIG := bm 217 (by decide +kernel) (by decide +kernel)
theorem inB_X3 : ∀ w ∈ u_ws RX3 TX3 6, w ∈ BIG := by
  intro w h
  obtain ⟨k, hk, rfl⟩ := List.mem_map.mp h
  have hk := List.mem_range.mp hk
  rcases (show k = 0 ∨ k = 1 ∨ k = 2 ∨ k = 3 ∨ k = 4 ∨ k = 5 by omega) with rfl | rfl | rfl | rfl | rfl | rfl
  · exact wy_3_0
  · exact wy_3_1
  · exact wy_3_2
  · exact wy_3_3
  · exact wy_3_4
  · exact wy_3_5
theorem wy_4_0 : u_lay RX4 TX4 0 ∈ BIG := bm 179 (by decide +kernel) (by decide +kernel)
theorem wy_4_1 : u_lay RX4 TX4 1 ∈ BIG := bm 181 (by decide +kernel) (by decide +kernel)
theorem wy_4_2 : u_lay RX4 TX4 2 ∈ BIG := bm 183 (by decide +kernel) (by decide +kernel)
theorem wy_4_3 : u_lay RX4 TX4 3 ∈ BIG := bm 185 (by decide +kernel) (by decide +kernel)
theorem wy_4_4 : u_lay RX4 TX4 4 ∈ BIG := bm 187 (by decide +kernel) (by decide +kernel)
theorem wy_4_5 : u_lay RX4 TX4 5 ∈ BIG := bm 189 (by decide +kernel) (by decide +kernel)
theorem wy_4_6 : u_lay RX4 TX4 6 ∈ BIG := bm 191 (by decide +kernel) (by decide +kernel)
theorem inB_X4 : ∀ w ∈ u_ws RX4 TX4 7, w ∈ BIG := by
  intro w h
  obtain ⟨k, hk, rfl⟩ := List.mem_map.mp h
  have hk := List.mem_range.mp hk
  rcases (show k = 0 ∨ k = 1 ∨ k = 2 ∨ k = 3 ∨ k = 4 ∨ k = 5 ∨ k = 6 by omega) with rfl | rfl | rfl | rfl | rfl | rfl | rfl
  · exact wy_4_0
  · exact wy_4_1
  · exact wy_4_2
  · exact wy_4_3
  · exact wy_4_4
  · exact wy_4_5
  · exact wy_4_6
theorem wy_5_0 : u_lay RX5 TX5 0 ∈ BIG := bm 287 (by decide +kernel) (by decide +kernel)
theorem wy_5_1 : u_lay RX5 TX5 1 ∈ BIG := bm 289 (by decide +kernel) (by decide +kernel)
theorem wy_5_2 : u_lay RX5 TX5 2 ∈ BIG := bm 291 (by decide +kernel) (by decide +kernel)
theorem wy_5_3 : u_lay RX5 TX5 3 ∈ BIG := bm 293 (by decide +kernel) (by decide +kernel)
theorem wy_5_4 : u_lay RX5 TX5 4 ∈ BIG := bm 295 (by decide +kernel) (by decide +kernel)
theorem wy_5_5 : u_lay RX5 TX5 5 ∈ BIG := bm 297 (by decide +kernel) (by decide +kernel)
theorem wy_5_6 : u_lay RX5 TX5 6 ∈ BIG := bm 299 (by decide +kernel) (by decide +kernel)
theorem wy_5_7 : u_lay RX5 TX5 7 ∈ BIG := bm 301 (by decide +kernel) (by decide +kernel)
theorem wy_5_8 : u_lay RX5 TX5 8 ∈ BIG := bm 303 (by decide +kernel) (by decide +kernel)
theorem wy_5_9 : u_lay RX5 TX5 9 ∈ BIG := bm 305 (by decide +kernel) (by decide +kernel)
theorem wy_5_10 : u_lay RX5 TX5 10 ∈ BIG := bm 307 (by decide +kernel) (by decide +kernel)
theorem inB_X5 : ∀ w ∈ u_ws RX5 TX5 11, w ∈ BIG := by
  intro w h
  obtain ⟨k, hk, rfl⟩ := List.mem_map.mp h
  have hk := List.mem_range.mp hk
  rcases (show k = 0 ∨ k = 1 ∨ k = 2 ∨ k = 3 ∨ k = 4 ∨ k = 5 ∨ k = 6 ∨ k = 7 ∨ k = 8 ∨ k = 9 ∨ k = 10 by omega) with rfl | rfl | rfl | rfl | rfl | rfl | rfl | rfl | rfl | rfl | rfl
  · exact wy_5_0
  · exact wy_5_1
  · exact wy_5_2
  · exact wy_5_3
  · exact wy_5_4
  · exact wy_5_5
  · exact wy_5_6
  · exact wy_5_7
  · exact wy_5_8
  · exact wy_5_9
  · exact wy_5_10
theorem wy_6_0 : u_lay RX6 TX6 0 ∈ BIG := bm 385 (by decide +kernel) (by decide +kernel)
theorem wy_6_1 : u_lay RX6 TX6 1 ∈ BIG := bm 387 (by decide +kernel) (by decide +kernel)
theorem wy_6_2 : u_lay RX6 TX6 2 ∈ BIG := bm 389 (by decide +kernel) (by decide +kernel)
theorem inB_X6 : ∀ w ∈ u_ws RX6 TX6 3, w ∈ BIG := by
  intro w h
  obtain ⟨k, hk, rfl⟩ := List.mem_map.mp h
  have hk := List.mem_range.mp hk
  rcases (show k = 0 ∨ k = 1 ∨ k = 2 by omega) with rfl | rfl | rfl
  · exact wy_6_0
  · exact wy_6_1
  · exact wy_6_2
theorem wy_7_0 : u_lay RX7 TX7 0 ∈ BIG := bm 349 (by decide +kernel) (by decide +kernel)
theorem wy_7_1 : u_lay RX7 TX7 1 ∈ BIG := bm 351 (by decide +kernel) (by decide +kernel)
theorem wy_7_2 : u_lay RX7 TX7 2 ∈ BIG := bm 353 (by decide +kernel) (by decide +kernel)
theorem wy_7_3 : u_lay RX7 TX7 3 ∈ BIG := bm 355 (by decide +kernel) (by decide +kernel)
theorem wy_7_4 : u_lay RX7 TX7 4 ∈ BIG := bm 357 (by decide +kernel) (by decide +kernel)
theorem wy_7_5 : u_lay RX7 TX7 5 ∈ BIG := bm 359 (by decide +kernel) (by decide +kernel)
theorem wy_7_6 : u_lay RX7 TX7 6 ∈ BIG := bm 361 (by decide +kernel) (by decide +kernel)
theorem wy_7_7 : u_lay RX7 TX7 7 ∈ BIG := bm 363 (by decide +kernel) (by decide +kernel)
theorem wy_7_8 : u_lay RX7 TX7 8 ∈ BIG := bm 365 (by decide +kernel) (by decide +kernel)
theorem wy_7_9 : u_lay RX7 TX7 9 ∈ BIG := bm 367 (by decide +kernel) (by decide +kernel)
theorem wy_7_10 : u_lay RX7 TX7 10 ∈ BIG := bm 369 (by decide +kernel) (by decide +kernel)
theorem inB_X7 : ∀ w ∈ u_ws RX7 TX7 11, w ∈ BIG := by
  intro w h
  obtain ⟨k, hk, rfl⟩ := List.mem_map.mp h
  have hk := List.mem_range.mp hk
  rcases (show k = 0 ∨ k = 1 ∨ k = 2 ∨ k = 3 ∨ k = 4 ∨ k = 5 ∨ k = 6 ∨ k = 7 ∨ k = 8 ∨ k = 9 ∨ k = 10 by omega) with rfl | rfl | rfl | rfl | rfl | rfl | rfl | rfl | rfl | rfl | rfl
  · exact wy_7_0
  · exact wy_7_1
  · exact wy_7_2
  · exact wy_7_3
  · exact wy_7_4
  · exact wy_7_5
  · exact wy_7_6
  · exact wy_7_7
  · exact wy_7_8
  · exact wy_7_9
  · exact wy_7_10
theorem wy_8_0 : u_lay RX8 TX8 0 ∈ BIG := bm 145 (by decide +kernel) (by decide +kernel)
theorem wy_8_1 : u_lay RX8 TX8 1 ∈ BIG := bm 147 (by decide +kernel) (by decide +kernel)
theorem wy_8_2 : u_lay RX8 TX8 2 ∈ BIG := bm 149 (by decide +kernel) (by decide +kernel)
theorem wy_8_3 : u_lay RX8 TX8 3 ∈ BIG := bm 151 (by decide +kernel) (by decide +kernel)
theorem wy_8_4 : u_lay RX8 TX8 4 ∈ BIG := bm 153 (by decide +kernel) (by decide +kernel)
theorem inB_X8 : ∀ w ∈ u_ws RX8 TX8 5, w ∈ BIG := by
  intro w h
  obtain ⟨k, hk, rfl⟩ := List.mem_map.mp h
  have hk := List.mem_range.mp hk
  rcases (show k = 0 ∨ k = 1 ∨ k = 2 ∨ k = 3 ∨ k = 4 by omega) with rfl | rfl | rfl | rfl | rfl
  · exact wy_8_0
  · exact wy_8_1
  · exact wy_8_2
  · exact wy_8_3
  · exact wy_8_4
theorem wy_9_0 : u_lay RX9 TX9 0 ∈ BIG := bm 90 (by decide +kernel) (by decide +kernel)
theorem wy_9_1 : u_lay RX9 TX9 1 ∈ BIG := bm 92 (by decide +kernel) (by decide +kernel)
theorem inB_X9 : ∀ w ∈ u_ws RX9 TX9 2, w ∈ BIG := by
  intro w h
  obtain ⟨k, hk, rfl⟩ := List.mem_map.mp h
  have hk := List.mem_range.mp hk
  rcases (show k = 0 ∨ k = 1 by omega) with rfl | rfl
  · exact wy_9_0
  · exact wy_9_1
theorem wy_10_0 : u_lay RX10 TX10 0 ∈ BIG := bm 71 (by decide +kernel) (by decide +kernel)
theorem wy_10_1 : u_lay RX10 TX10 1 ∈ BIG := bm 73 (by decide +kernel) (by decide +kernel)
theorem wy_10_2 : u_lay RX10 TX10 2 ∈ BIG := bm 75 (by decide +kernel) (by decide +kernel)
theorem wy_10_3 : u_lay RX10 TX10 3 ∈ BIG := bm 77 (by decide +kernel) (by decide +kernel)
theorem wy_10_4 : u_lay RX10 TX10 4 ∈ BIG := bm 79 (by decide +kernel) (by decide +kernel)
theorem wy_10_5 : u_lay RX10 TX10 5 ∈ BIG := bm 81 (by decide +kernel) (by decide +kernel)
theorem wy_10_6 : u_lay RX10 TX10 6 ∈ BIG := bm 83 (by decide +kernel) (by decide +kernel)
theorem inB_X10 : ∀ w ∈ u_ws RX10 TX10 7, w ∈ BIG := by
  intro w h
  obtain ⟨k, hk, rfl⟩ := List.mem_map.mp h
  have hk := List.mem_range.mp hk
  rcases (show k = 0 ∨ k = 1 ∨ k = 2 ∨ k = 3 ∨ k = 4 ∨ k = 5 ∨ k = 6 by omega) with rfl | rfl | rfl | rfl | rfl | rfl | rfl
  · exact wy_10_0
  · exact wy_10_1
  · exact wy_10_2
  · exact wy_10_3
  · exact wy_10_4
  · exact wy_10_5
  · exact wy_10_6
theorem wy_11_0 : u_lay RX11 TX11 0 ∈ BIG := bm 408 (by decide +kernel) (by decide +kernel)
theorem wy_11_1 : u_lay RX11 TX11 1 ∈ BIG := bm 410 (by decide +kernel) (by decide +kernel)
theorem wy_11_2 : u_lay RX11 TX11 2 ∈ BIG := bm 412 (by decide +kernel) (by decide +kernel)
theorem wy_11_3 : u_lay RX11 TX11 3 ∈ BIG := bm 414 (by decide +kernel) (by decide +kernel)
theorem wy_11_4 : u_lay RX11 TX11 4 ∈ BIG := bm 416 (by decide +kernel) (by decide +kernel)
theorem wy_11_5 : u_lay RX11 TX11 5 ∈ BIG := bm 418 (by decide +kernel) (by decide +kernel)
theorem wy_11_6 : u_lay RX11 TX11 6 ∈ BIG := bm 420 (by decide +kernel) (by decide +kernel)
theorem wy_11_7 : u_lay RX11 TX11 7 ∈ BIG := bm 422 (by decide +kernel) (by decide +kernel)
theorem wy_11_8 : u_lay RX11 TX11 8 ∈ BIG := bm 424 (by decide +kernel) (by decide +kernel)
theorem wy_11_9 : u_lay RX11 TX11 9 ∈ BIG := bm 426 (by decide +kernel) (by decide +kernel)
theorem wy_11_10 : u_lay RX11 TX11 10 ∈ BIG := bm 428 (by decide +kernel) (by decide +kernel)
theorem wy_11_11 : u_lay RX11 TX11 11 ∈ BIG := bm 430 (by decide +kernel) (by decide +kernel)
theorem wy_11_12 : u_lay RX11 TX11 12 ∈ BIG := bm 432 (by decide +kernel) (by decide +kernel)
theorem wy_11_13 : u_lay RX11 TX11 13 ∈ BIG := bm 434 (by decide +kernel) (by decide +kernel)
theorem wy_11_14 : u_lay RX11 TX11 14 ∈ BIG := bm 436 (by decide +kernel) (by decide +kernel)
theorem wy_11_15 : u_lay RX11 TX11 15 ∈ BIG := bm 438 (by decide +kernel) (by decide +kernel)
theorem inB_X11 : ∀ w ∈ u_ws RX11 TX11 16, w ∈ BIG := by
  intro w h
  obtain ⟨k, hk, rfl⟩ := List.mem_map.mp h
  have hk := List.mem_range.mp hk
  rcases (show k = 0 ∨ k = 1 ∨ k = 2 ∨ k = 3 ∨ k = 4 ∨ k = 5 ∨ k = 6 ∨ k = 7 ∨ k = 8 ∨ k = 9 ∨ k = 10 ∨ k = 11 ∨ k = 12 ∨ k = 13 ∨ k = 14 ∨ k = 15 by omega) with rfl | rfl | rfl | rfl | rfl | rfl | rfl | rfl | rfl | rfl | rfl | rfl | rfl | rfl | rfl | rfl
  · exact wy_11_0
  · exact wy_11_1
  · exact wy_11_2
  · exact wy_11_3
  · exact wy_11_4
  · exact wy_11_5
  · exact wy_11_6
  · exact wy_11_7
  · exact wy_11_8
  · exact wy_11_9
  · exact wy_11_10
  · exact wy_11_11
  · exact wy_11_12
  · exact wy_11_13
  · exact wy_11_14
  · exact wy_11_15
theorem wy_12_0 : u_lay RX12 TX12 0 ∈ BIG := bm 1352 (by decide +kernel) (by decide +kernel)
theorem wy_12_1 : u_lay RX12 TX12 1 ∈ BIG := bm 1354 (by decide +kernel) (by decide +kernel)
theorem wy_12_2 : u_lay RX12 TX12 2 ∈ BIG := bm 1356 (by decide +kernel) (by decide +kernel)
theorem wy_12_3 : u_lay RX12 TX12 3 ∈ BIG := bm 1358 (by decide +kernel) (by decide +kernel)
theorem wy_12_4 : u_lay RX12 TX12 4 ∈ BIG := bm 1360 (by decide +kernel) (by decide +kernel)
theorem wy_12_5 : u_lay RX12 TX12 5 ∈ BIG := bm 1362 (by decide +kernel) (by decide +kernel)
theorem wy_12_6 : u_lay RX12 TX12 6 ∈ BIG := bm 1364 (by decide +kernel) (by decide +kernel)
theorem wy_12_7 : u_lay RX12 TX12 7 ∈ BIG := bm 1366 (by decide +kernel) (by decide +kernel)
theorem wy_12_8 : u_lay RX12 TX12 8 ∈ BIG := bm 1368 (by decide +kernel) (by decide +kernel)
theorem wy_12_9 : u_lay RX12 TX12 9 ∈ BIG := bm 1370 (by decide +kernel) (by decide +kernel)
theorem wy_12_10 : u_lay RX12 TX12 10 ∈ BIG := bm 1372 (by decide +kernel) (by decide +kernel)
theorem wy_12_11 : u_lay RX12 TX12 11 ∈ BIG := bm 1374 (by decide +kernel) (by decide +kernel)
theorem wy_12_12 : u_lay RX12 TX12 12 ∈ BIG := bm 1376 (by decide +kernel) (by decide +kernel)
theorem wy_12_13 : u_lay RX12 TX12 13 ∈ BIG := bm 1378 (by decide +kernel) (by decide +kernel)
theorem wy_12_14 : u_lay RX12 TX12 14 ∈ BIG := bm 1380 (by decide +kernel) (by decide +kernel)
theorem wy_12_15 : u_lay RX12 TX12 15 ∈ BIG := bm 1382 (by decide +kernel) (by decide +kernel)
theorem wy_12_16 : u_lay RX12 TX12 16 ∈ BIG := bm 1384 (by decide +kernel) (by decide +kernel)
theorem wy_12_17 : u_lay RX12 TX12 17 ∈ BIG := bm 1386 (by decide +kernel) (by decide +kernel)
theorem wy_12_18 : u_lay RX12 TX12 18 ∈ BIG := bm 1388 (by decide +kernel) (by decide +kernel)
theorem wy_12_19 : u_lay RX12 TX12 19 ∈ BIG := bm 1390 (by decide +kernel) (by decide +kernel)
theorem wy_12_20 : u_lay RX12 TX12 20 ∈ BIG := bm 1392 (by decide +kernel) (by decide +kernel)
theorem wy_12_21 : u_lay RX12 TX12 21 ∈ BIG := bm 1394 (by decide +kernel) (by decide +kernel)
theorem wy_12_22 : u_lay RX12 TX12 22 ∈ BIG := bm 1396 (by decide +kernel) (by decide +kernel)
theorem wy_12_23 : u_lay RX12 TX12 23 ∈ BIG := bm 1398 (by decide +kernel) (by decide +kernel)
theorem wy_12_24 : u_lay RX12 TX12 24 ∈ BIG := bm 1400 (by decide +kernel) (by decide +kernel)
theorem wy_12_25 : u_lay RX12 TX12 25 ∈ BIG := bm 1402 (by decide +kernel) (by decide +kernel)
theorem wy_12_26 : u_lay RX12 TX12 26 ∈ BIG := bm 1404 (by decide +kernel) (by decide +kernel)
theorem wy_12_27 : u_lay RX12 TX12 27 ∈ BIG := bm 1406 (by decide +kernel) (by decide +kernel)
theorem wy_12_28 : u_lay RX12 TX12 28 ∈ BIG := bm 1408 (by decide +kernel) (by decide +kernel)
theorem wy_12_29 : u_lay RX12 TX12 29 ∈ BIG := bm 1410 (by decide +kernel) (by decide +kernel)
theorem inB_X12 : ∀ w ∈ u_ws RX12 TX12 30, w ∈ BIG := by
  intro w h
  obtain ⟨k, hk, rfl⟩ := List.mem_map.mp h
  have hk := List.mem_range.mp hk
  rcases (show k = 0 ∨ k = 1 ∨ k = 2 ∨ k = 3 ∨ k = 4 ∨ k = 5 ∨ k = 6 ∨ k = 7 ∨ k = 8 ∨ k = 9 ∨ k = 10 ∨ k = 11 ∨ k = 12 ∨ k = 13 ∨ k = 14 ∨ k = 15 ∨ k = 16 ∨ k = 17 ∨ k = 18 ∨ k = 19 ∨ k = 20 ∨ k = 21 ∨ k = 22 ∨ k = 23 ∨ k = 24 ∨ k = 25 ∨ k = 26 ∨ k = 27 ∨ k = 28 ∨ k = 29 by omega) with rfl | rfl | rfl | rfl | rfl | rfl | rfl | rfl | rfl | rfl | rfl | rfl | rfl | rfl | rfl | rfl | rfl | rfl | rfl | rfl | rfl | rfl | rfl | rfl | rfl | rfl | rfl | rfl | rfl | rfl
  · exact wy_12_0
  · exact wy_12_1
  · exact wy_12_2
  · exact wy_12_3
  · exact wy_12_4
  · exact wy_12_5
  · exact wy_12_6
  · exact wy_12_7
  · exact wy_12_8
  · exact wy_12_9
  · exact wy_12_10
  · exact wy_12_11
  · exact wy_12_12
  · exact wy_12_13
  · exact wy_12_14
  · exact wy_12_15
  · exact wy_12_16
  · exact wy_12_17
  · exact wy_12_18
  · exact wy_12_19
  · exact wy_12_20
  · exact wy_12_21
  · exact wy_12_22
  · exact wy_12_23
  · exact wy_12_24
  · exact wy_12_25
  · exact wy_12_26
  · exact wy_12_27
  · exact wy_12_28
  · exact wy_12_29
theorem wn_RX11_19 : zNest[0]? = some ((Cond.methodLinkNest "SlotCluster" (19 : Nat) ({ cls := "SlotCluster$Turn", name := "<init>", desc := "()V" } : MethodName) "SlotCluster")) := rfl
theorem wn_RX11_26 : zNest[1]? = some ((Cond.methodLinkNest "SlotCluster" (26 : Nat) ({ cls := "SlotCluster$Groups", name := "<init>", desc := "()V" } : MethodName) "SlotCluster")) := rfl
theorem wn_RX11_33 : zNest[2]? = some ((Cond.methodLinkNest "SlotCluster" (33 : Nat) ({ cls := "SlotCluster$Guess", name := "<init>", desc := "()V" } : MethodName) "SlotCluster")) := rfl
theorem wn_RX11_40 : zNest[3]? = some ((Cond.methodLinkNest "SlotCluster" (40 : Nat) ({ cls := "SlotCluster$Text", name := "<init>", desc := "()V" } : MethodName) "SlotCluster")) := rfl
theorem wn_RX0_82 : zNest[4]? = some ((Cond.methodLinkNest "SlotCluster$ClusterReader" (82 : Nat) ({ cls := "SlotCluster", name := "bit", desc := "(I)I" } : MethodName) "SlotCluster")) := rfl
theorem wn_RX1_31 : zNest[5]? = some ((Cond.methodLinkNest "SlotCluster$Groups" (31 : Nat) ({ cls := "SlotCluster", name := "isIn", desc := "(II)Z" } : MethodName) "SlotCluster")) := rfl
theorem wn_RX1_38 : zNest[6]? = some ((Cond.methodLinkNest "SlotCluster$Groups" (38 : Nat) ({ cls := "SlotCluster", name := "bit", desc := "(I)I" } : MethodName) "SlotCluster")) := rfl
theorem wn_RX1_84 : zNest[7]? = some ((Cond.methodLinkNest "SlotCluster$Groups" (84 : Nat) ({ cls := "SlotCluster", name := "lowest", desc := "(I)I" } : MethodName) "SlotCluster")) := rfl
theorem wn_RX3_37 : zNest[8]? = some ((Cond.methodLinkNest "SlotCluster$Law" (37 : Nat) ({ cls := "SlotCluster", name := "bit", desc := "(I)I" } : MethodName) "SlotCluster")) := rfl
theorem wn_RX7_35 : zNest[9]? = some ((Cond.methodLinkNest "SlotCluster$State" (35 : Nat) ({ cls := "SlotCluster$Node", name := "<init>", desc := "()V" } : MethodName) "SlotCluster")) := rfl
theorem wn_RX7_68 : zNest[10]? = some ((Cond.methodLinkNest "SlotCluster$State" (68 : Nat) ({ cls := "SlotCluster", name := "bit", desc := "(I)I" } : MethodName) "SlotCluster")) := rfl
theorem wn_RX7_75 : zNest[11]? = some ((Cond.methodLinkNest "SlotCluster$State" (75 : Nat) ({ cls := "SlotCluster", name := "isIn", desc := "(II)Z" } : MethodName) "SlotCluster")) := rfl
theorem wn_RX9_11 : zNest[12]? = some ((Cond.methodLinkNest "SlotCluster$Turn" (11 : Nat) ({ cls := "SlotCluster$View", name := "<init>", desc := "()V" } : MethodName) "SlotCluster")) := rfl
theorem wn_RX9_130 : zNest[13]? = some ((Cond.methodLinkNest "SlotCluster$Turn" (130 : Nat) ({ cls := "SlotCluster", name := "lowest", desc := "(I)I" } : MethodName) "SlotCluster")) := rfl
theorem wn_RX9_137 : zNest[14]? = some ((Cond.methodLinkNest "SlotCluster$Turn" (137 : Nat) ({ cls := "SlotCluster", name := "keepWithin", desc := "(II)I" } : MethodName) "SlotCluster")) := rfl
theorem wn_RX9_78 : zNest[15]? = some ((Cond.methodLinkNest "SlotCluster$Turn" (78 : Nat) ({ cls := "SlotCluster", name := "isIn", desc := "(II)Z" } : MethodName) "SlotCluster")) := rfl
theorem wn_RX9_92 : zNest[16]? = some ((Cond.methodLinkNest "SlotCluster$Turn" (92 : Nat) ({ cls := "SlotCluster", name := "bit", desc := "(I)I" } : MethodName) "SlotCluster")) := rfl
theorem wn_RX10_88 : zNest[17]? = some ((Cond.methodLinkNest "SlotCluster$View" (88 : Nat) ({ cls := "SlotCluster", name := "bit", desc := "(I)I" } : MethodName) "SlotCluster")) := rfl
theorem wn_RX10_94 : zNest[18]? = some ((Cond.methodLinkNest "SlotCluster$View" (94 : Nat) ({ cls := "SlotCluster", name := "isIn", desc := "(II)Z" } : MethodName) "SlotCluster")) := rfl
theorem wn_RX10_98 : zNest[19]? = some ((Cond.methodLinkNest "SlotCluster$View" (98 : Nat) ({ cls := "SlotCluster", name := "midOf", desc := "([II)I" } : MethodName) "SlotCluster")) := rfl
theorem wx_1 : ∀ w ∈ (vx_at0 RX11 121 (zEx 1) ["java/lang/RuntimeException", "java/lang/Exception"]).filter goodWord, w ∈ BIG := fun w h => List.mem_filter.mpr ⟨(by decide +kernel : ∀ w ∈ (vx_at0 RX11 121 (zEx 1) ["java/lang/RuntimeException", "java/lang/Exception"]).filter goodWord, w ∈ lw_tbl) w h, (List.mem_filter.mp h).2⟩
theorem wx_n1 : ∀ w ∈ (vx_at0 RX11 121 (zEx 1) ["java/lang/RuntimeException", "java/lang/Exception"]).filter (fun w => !goodWord w), w ∈ Cond.castable (zEx 1) (zEx 1) :: zDecl.map Cond.declares := by decide +kernel
theorem wx_g1 : ∀ w ∈ Cond.classLink RX11 119 (zEx 1) :: Cond.initialized (zEx 1) :: vx_at0 RX11 121 (zEx 1) ["java/lang/RuntimeException", "java/lang/Exception"], vx_ot w = true := by decide +kernel
theorem wx_2 : ∀ w ∈ (vx_at0 RX11 127 (zEx 2) ["java/lang/RuntimeException", "java/lang/Exception"]).filter goodWord, w ∈ BIG := fun w h => List.mem_filter.mpr ⟨(by decide +kernel : ∀ w ∈ (vx_at0 RX11 127 (zEx 2) ["java/lang/RuntimeException", "java/lang/Exception"]).filter goodWord, w ∈ lw_tbl) w h, (List.mem_filter.mp h).2⟩
theorem wx_n2 : ∀ w ∈ (vx_at0 RX11 127 (zEx 2) ["java/lang/RuntimeException", "java/lang/Exception"]).filter (fun w => !goodWord w), w ∈ Cond.castable (zEx 2) (zEx 2) :: zDecl.map Cond.declares := by decide +kernel
theorem wx_g2 : ∀ w ∈ Cond.classLink RX11 125 (zEx 2) :: Cond.initialized (zEx 2) :: vx_at0 RX11 127 (zEx 2) ["java/lang/RuntimeException", "java/lang/Exception"], vx_ot w = true := by decide +kernel
theorem wx_3 : ∀ w ∈ (vx_at0 RX11 154 (zEx 3) ["java/lang/RuntimeException", "java/lang/Exception"]).filter goodWord, w ∈ BIG := fun w h => List.mem_filter.mpr ⟨(by decide +kernel : ∀ w ∈ (vx_at0 RX11 154 (zEx 3) ["java/lang/RuntimeException", "java/lang/Exception"]).filter goodWord, w ∈ lw_tbl) w h, (List.mem_filter.mp h).2⟩
theorem wx_n3 : ∀ w ∈ (vx_at0 RX11 154 (zEx 3) ["java/lang/RuntimeException", "java/lang/Exception"]).filter (fun w => !goodWord w), w ∈ Cond.castable (zEx 3) (zEx 3) :: zDecl.map Cond.declares := by decide +kernel
theorem wx_g3 : ∀ w ∈ Cond.classLink RX11 152 (zEx 3) :: Cond.initialized (zEx 3) :: vx_at0 RX11 154 (zEx 3) ["java/lang/RuntimeException", "java/lang/Exception"], vx_ot w = true := by decide +kernel
theorem wx_4 : ∀ w ∈ (vx_at0 RX11 157 (zEx 4) ["java/lang/RuntimeException", "java/lang/Exception"]).filter goodWord, w ∈ BIG := fun w h => List.mem_filter.mpr ⟨(by decide +kernel : ∀ w ∈ (vx_at0 RX11 157 (zEx 4) ["java/lang/RuntimeException", "java/lang/Exception"]).filter goodWord, w ∈ lw_tbl) w h, (List.mem_filter.mp h).2⟩
theorem wx_n4 : ∀ w ∈ (vx_at0 RX11 157 (zEx 4) ["java/lang/RuntimeException", "java/lang/Exception"]).filter (fun w => !goodWord w), w ∈ Cond.castable (zEx 4) (zEx 4) :: zDecl.map Cond.declares := by decide +kernel
theorem wx_g4 : ∀ w ∈ Cond.classLink RX11 155 (zEx 4) :: Cond.initialized (zEx 4) :: vx_at0 RX11 157 (zEx 4) ["java/lang/RuntimeException", "java/lang/Exception"], vx_ot w = true := by decide +kernel
theorem wx_5 : ∀ w ∈ (vx_at0 RX11 225 (zEx 5) ["java/lang/RuntimeException", "java/lang/Exception"]).filter goodWord, w ∈ BIG := fun w h => List.mem_filter.mpr ⟨(by decide +kernel : ∀ w ∈ (vx_at0 RX11 225 (zEx 5) ["java/lang/RuntimeException", "java/lang/Exception"]).filter goodWord, w ∈ lw_tbl) w h, (List.mem_filter.mp h).2⟩
theorem wx_n5 : ∀ w ∈ (vx_at0 RX11 225 (zEx 5) ["java/lang/RuntimeException", "java/lang/Exception"]).filter (fun w => !goodWord w), w ∈ Cond.castable (zEx 5) (zEx 5) :: zDecl.map Cond.declares := by decide +kernel
theorem wx_g5 : ∀ w ∈ Cond.classLink RX11 223 (zEx 5) :: Cond.initialized (zEx 5) :: vx_at0 RX11 225 (zEx 5) ["java/lang/RuntimeException", "java/lang/Exception"], vx_ot w = true := by decide +kernel
abbrev wb_X0_init : List Cond := Cond.code yX0_init cX0_init 2 none :: BIG
abbrev wb_X8_isAt : List Cond := Cond.code yX8_isAt cX8_isAt 2 (some .boolean) :: BIG
abbrev wb_X8_fail : List Cond := Cond.code yX8_fail cX8_fail 1 none :: BIG
abbrev wb_X8_takes : List Cond := Cond.code yX8_takes cX8_takes 3 (some .boolean) :: BIG
abbrev wb_X5_reset : List Cond := Cond.code yX5_reset cX5_reset 3 none :: BIG
abbrev wb_X7_addNode : List Cond := Cond.code yX7_addNode cX7_addNode 3 (some .int) :: BIG
abbrev wb_X8_takeNumber : List Cond := Cond.code yX8_takeNumber cX8_takeNumber 4 (some .int) :: BIG
abbrev wb_X11_bit : List Cond := Cond.code yX11_bit cX11_bit 1 (some .int) :: BIG
abbrev wb_X0_readNode : List Cond := Cond.code yX0_readNode cX0_readNode 4 none :: BIG
abbrev wb_X0_readLine : List Cond := Cond.code yX0_readLine cX0_readLine 2 none :: BIG
abbrev wb_X0_readInto : List Cond := Cond.code yX0_readInto cX0_readInto 3 none :: BIG
abbrev wb_X1_init : List Cond := Cond.code yX1_init cX1_init 1 none :: BIG
abbrev wb_X11_isIn : List Cond := Cond.code yX11_isIn cX11_isIn 2 (some .boolean) :: BIG
abbrev wb_X1_load : List Cond := Cond.code yX1_load cX1_load 5 none :: BIG
abbrev wb_X1_cliqueOf : List Cond := Cond.code yX1_cliqueOf cX1_cliqueOf 5 (some .int) :: BIG
abbrev wb_X1_countCliques : List Cond := Cond.code yX1_countCliques cX1_countCliques 4 (some .int) :: BIG
abbrev wb_J6_bitCount_0f7a4 : List Cond := Cond.code yJ6_bitCount_0f7a4 cJ6_bitCount_0f7a4 1 (some .int) :: BIG
abbrev wb_X1_areFriends : List Cond := Cond.code yX1_areFriends cX1_areFriends 3 (some .boolean) :: BIG
abbrev wb_X1_fewestToSpare : List Cond := Cond.code yX1_fewestToSpare cX1_fewestToSpare 4 (some .int) :: BIG
abbrev wb_X1_putInOrder : List Cond := Cond.code yX1_putInOrder cX1_putInOrder 7 (some .int) :: BIG
abbrev wb_X1_inOrder : List Cond := Cond.code yX1_inOrder cX1_inOrder 5 (some .int) :: BIG
abbrev wb_X11_lowest : List Cond := Cond.code yX11_lowest cX11_lowest 2 (some .int) :: BIG
abbrev wb_X1_weighPairs : List Cond := Cond.code yX1_weighPairs cX1_weighPairs 7 none :: BIG
abbrev wb_X1_mostOfPairs : List Cond := Cond.code yX1_mostOfPairs cX1_mostOfPairs 1 (some .int) :: BIG
abbrev wb_X1_firstPartner : List Cond := Cond.code yX1_firstPartner cX1_firstPartner 5 (some .int) :: BIG
abbrev wb_X1_partnerOf : List Cond := Cond.code yX1_partnerOf cX1_partnerOf 5 (some .int) :: BIG
abbrev wb_X2_init : List Cond := Cond.code yX2_init cX2_init 1 none :: BIG
abbrev wb_X2_clockOf : List Cond := Cond.code yX2_clockOf cX2_clockOf 2 (some .int) :: BIG
abbrev wb_X2_weighCourses : List Cond := Cond.code yX2_weighCourses cX2_weighCourses 5 none :: BIG
abbrev wb_X2_isHeard : List Cond := Cond.code yX2_isHeard cX2_isHeard 3 (some .boolean) :: BIG
abbrev wb_X2_weighBlames : List Cond := Cond.code yX2_weighBlames cX2_weighBlames 5 none :: BIG
abbrev wb_X2_countFits : List Cond := Cond.code yX2_countFits cX2_countFits 3 (some .int) :: BIG
abbrev wb_X2_firstFit : List Cond := Cond.code yX2_firstFit cX2_firstFit 4 (some .int) :: BIG
abbrev wb_X2_greatestPart : List Cond := Cond.code yX2_greatestPart cX2_greatestPart 5 (some .int) :: BIG
abbrev wb_X2_bestRound : List Cond := Cond.code yX2_bestRound cX2_bestRound 5 (some .int) :: BIG
abbrev wb_X2_countHearing : List Cond := Cond.code yX2_countHearing cX2_countHearing 5 (some .int) :: BIG
abbrev wb_X2_bestPair : List Cond := Cond.code yX2_bestPair cX2_bestPair 9 (some .int) :: BIG
abbrev wb_X3_init : List Cond := Cond.code yX3_init cX3_init 6 none :: BIG
abbrev wb_X7_inState : List Cond := Cond.code yX7_inState cX7_inState 4 (some .int) :: BIG
abbrev wb_X3_partOf : List Cond := Cond.code yX3_partOf cX3_partOf 5 (some .int) :: BIG
abbrev wb_X3_joined : List Cond := Cond.code yX3_joined cX3_joined 3 (some .int) :: BIG
abbrev wb_X3_holds : List Cond := Cond.code yX3_holds cX3_holds 8 (some .boolean) :: BIG
abbrev wb_X3_sum : List Cond := Cond.code yX3_sum cX3_sum 7 (some .int) :: BIG
abbrev wb_X4_init : List Cond := Cond.code yX4_init cX4_init 2 none :: BIG
abbrev wb_X4_copyOf : List Cond := Cond.code yX4_copyOf cX4_copyOf 4 (some ((.array .int))) :: BIG
abbrev wb_X4_made : List Cond := Cond.code yX4_made cX4_made 1 (some ((.object "SlotCluster$Law"))) :: BIG
abbrev wb_X8_takeAny : List Cond := Cond.code yX8_takeAny cX8_takeAny 4 (some .int) :: BIG
abbrev wb_X4_emit : List Cond := Cond.code yX4_emit cX4_emit 2 none :: BIG
abbrev wb_X4_readSum : List Cond := Cond.code yX4_readSum cX4_readSum 4 none :: BIG
abbrev wb_X4_readAtom : List Cond := Cond.code yX4_readAtom cX4_readAtom 5 none :: BIG
abbrev wb_X4_readEach : List Cond := Cond.code yX4_readEach cX4_readEach 3 none :: BIG
abbrev wb_X4_readAny : List Cond := Cond.code yX4_readAny cX4_readAny 3 none :: BIG
abbrev wb_X4_readLine : List Cond := Cond.code yX4_readLine cX4_readLine 3 none :: BIG
abbrev wb_X4_readAllLines : List Cond := Cond.code yX4_readAllLines cX4_readAllLines 2 none :: BIG
abbrev wb_X5_init : List Cond := Cond.code yX5_init cX5_init 1 none :: BIG
abbrev wb_X5_copyFrom : List Cond := Cond.code yX5_copyFrom cX5_copyFrom 2 none :: BIG
abbrev wb_X5_told : List Cond := Cond.code yX5_told cX5_told 2 (some .int) :: BIG
abbrev wb_X6_init : List Cond := Cond.code yX6_init cX6_init 3 none :: BIG
abbrev wb_X7_copyFrom : List Cond := Cond.code yX7_copyFrom cX7_copyFrom 3 none :: BIG
abbrev wb_X6_remember : List Cond := Cond.code yX6_remember cX6_remember 2 none :: BIG
abbrev wb_X6_recall : List Cond := Cond.code yX6_recall cX6_recall 2 (some .boolean) :: BIG
abbrev wb_X6_forget : List Cond := Cond.code yX6_forget cX6_forget 1 none :: BIG
abbrev wb_X7_init : List Cond := Cond.code yX7_init cX7_init 3 none :: BIG
abbrev wb_X7_knowing : List Cond := Cond.code yX7_knowing cX7_knowing 4 (some .int) :: BIG
abbrev wb_X7_spreadOfClocks : List Cond := Cond.code yX7_spreadOfClocks cX7_spreadOfClocks 6 (some .int) :: BIG
abbrev wb_X7_draw : List Cond := Cond.code yX7_draw cX7_draw 1 (some .int) :: BIG
abbrev wb_X7_note : List Cond := Cond.code yX7_note cX7_note 5 none :: BIG
abbrev wb_X7_rowOf : List Cond := Cond.code yX7_rowOf cX7_rowOf 5 (some .int) :: BIG
abbrev wb_X8_init : List Cond := Cond.code yX8_init cX8_init 1 none :: BIG
abbrev wb_X8_isLetter : List Cond := Cond.code yX8_isLetter cX8_isLetter 1 (some .boolean) :: BIG
abbrev wb_X8_isDigit : List Cond := Cond.code yX8_isDigit cX8_isDigit 1 (some .boolean) :: BIG
abbrev wb_X8_wordAt : List Cond := Cond.code yX8_wordAt cX8_wordAt 8 (some .int) :: BIG
abbrev wb_X8_numberAt : List Cond := Cond.code yX8_numberAt cX8_numberAt 6 (some .int) :: BIG
abbrev wb_X8_put : List Cond := Cond.code yX8_put cX8_put 3 none :: BIG
abbrev wb_X8_load : List Cond := Cond.code yX8_load cX8_load 8 none :: BIG
abbrev wb_X10_init : List Cond := Cond.code yX10_init cX10_init 1 none :: BIG
abbrev wb_X9_init : List Cond := Cond.code yX9_init cX9_init 1 none :: BIG
abbrev wb_X10_look : List Cond := Cond.code yX10_look cX10_look 6 none :: BIG
abbrev wb_X9_sendersOf : List Cond := Cond.code yX9_sendersOf cX9_sendersOf 7 (some .int) :: BIG
abbrev wb_X9_callOrWait : List Cond := Cond.code yX9_callOrWait cX9_callOrWait 5 none :: BIG
abbrev wb_X11_keepWithin : List Cond := Cond.code yX11_keepWithin cX11_keepWithin 2 (some .int) :: BIG
abbrev wb_X9_joinAll : List Cond := Cond.code yX9_joinAll cX9_joinAll 6 none :: BIG
abbrev wb_X9_judge : List Cond := Cond.code yX9_judge cX9_judge 7 none :: BIG
abbrev wb_X9_nextOf : List Cond := Cond.code yX9_nextOf cX9_nextOf 4 (some .int) :: BIG
abbrev wb_X9_freeze : List Cond := Cond.code yX9_freeze cX9_freeze 3 none :: BIG
abbrev wb_X9_acknowledge : List Cond := Cond.code yX9_acknowledge cX9_acknowledge 7 (some .int) :: BIG
abbrev wb_X9_outvote : List Cond := Cond.code yX9_outvote cX9_outvote 5 (some .int) :: BIG
abbrev wb_X11_sort : List Cond := Cond.code yX11_sort cX11_sort 6 none :: BIG
abbrev wb_X11_midOf : List Cond := Cond.code yX11_midOf cX11_midOf 3 (some .int) :: BIG
abbrev wb_X10_middleOf : List Cond := Cond.code yX10_middleOf cX10_middleOf 6 (some .int) :: BIG
abbrev wb_X9_correct : List Cond := Cond.code yX9_correct cX9_correct 7 none :: BIG
abbrev wb_X9_runClocks : List Cond := Cond.code yX9_runClocks cX9_runClocks 3 none :: BIG
abbrev wb_X9_play : List Cond := Cond.code yX9_play cX9_play 6 (some .int) :: BIG
abbrev wb_X11_init : List Cond := Cond.code yX11_init cX11_init 2 none :: BIG
abbrev wb_X11_putBytes : List Cond := Cond.code yX11_putBytes cX11_putBytes 3 none :: BIG
abbrev wb_X11_feed : List Cond := Cond.code yX11_feed cX11_feed 6 (some .int) :: BIG
abbrev wb_X11_end : List Cond := Cond.code yX11_end cX11_end 2 (some .boolean) :: BIG
abbrev wb_X11_useTape : List Cond := Cond.code yX11_useTape cX11_useTape 2 (some .int) :: BIG
abbrev wb_X11_cluster : List Cond := Cond.code yX11_cluster cX11_cluster 1 (some .int) :: BIG
abbrev wb_X11_law : List Cond := Cond.code yX11_law cX11_law 1 (some .int) :: BIG
abbrev wb_X11_fault : List Cond := Cond.code yX11_fault cX11_fault 1 (some .int) :: BIG
abbrev wb_X11_isNode : List Cond := Cond.code yX11_isNode cX11_isNode 2 (some .boolean) :: BIG
abbrev wb_X11_node : List Cond := Cond.code yX11_node cX11_node 3 (some .int) :: BIG
abbrev wb_X11_shift : List Cond := Cond.code yX11_shift cX11_shift 3 (some .int) :: BIG
abbrev wb_X11_hears : List Cond := Cond.code yX11_hears cX11_hears 3 (some .boolean) :: BIG
abbrev wb_X11_rounds : List Cond := Cond.code yX11_rounds cX11_rounds 4 (some .int) :: BIG
abbrev wb_X11_add : List Cond := Cond.code yX11_add cX11_add 2 (some .int) :: BIG
abbrev wb_X11_power : List Cond := Cond.code yX11_power cX11_power 6 (some .int) :: BIG
abbrev wb_X11_spoil : List Cond := Cond.code yX11_spoil cX11_spoil 6 (some .int) :: BIG
abbrev wb_X11_set : List Cond := Cond.code yX11_set cX11_set 4 (some .int) :: BIG
abbrev wb_X11_tune : List Cond := Cond.code yX11_tune cX11_tune 4 (some .int) :: BIG
abbrev wb_X11_mid : List Cond := Cond.code yX11_mid cX11_mid 3 (some .int) :: BIG
abbrev wb_X11_spread : List Cond := Cond.code yX11_spread cX11_spread 1 (some .int) :: BIG
abbrev wb_X11_agreed : List Cond := Cond.code yX11_agreed cX11_agreed 3 (some .boolean) :: BIG
abbrev wb_X11_cliques : List Cond := Cond.code yX11_cliques cX11_cliques 1 (some .int) :: BIG
abbrev wb_X11_settles : List Cond := Cond.code yX11_settles cX11_settles 3 (some .int) :: BIG
abbrev wb_X11_isAhead : List Cond := Cond.code yX11_isAhead cX11_isAhead 1 (some .boolean) :: BIG
abbrev wb_X11_widest : List Cond := Cond.code yX11_widest cX11_widest 4 (some .int) :: BIG
abbrev wb_X11_leads : List Cond := Cond.code yX11_leads cX11_leads 4 (some .int) :: BIG
abbrev wb_X11_narrow : List Cond := Cond.code yX11_narrow cX11_narrow 4 (some .int) :: BIG
abbrev wb_X11_tight : List Cond := Cond.code yX11_tight cX11_tight 5 (some .int) :: BIG
abbrev wb_X11_spare : List Cond := Cond.code yX11_spare cX11_spare 1 (some .int) :: BIG
abbrev wb_X11_order : List Cond := Cond.code yX11_order cX11_order 2 (some .int) :: BIG
abbrev wb_X11_courseRows : List Cond := Cond.code yX11_courseRows cX11_courseRows 3 (some .int) :: BIG
abbrev wb_X11_read : List Cond := Cond.code yX11_read cX11_read 3 (some .int) :: BIG
abbrev wb_X11_when : List Cond := Cond.code yX11_when cX11_when 2 (some .int) :: BIG
abbrev wb_X11_judgementRows : List Cond := Cond.code yX11_judgementRows cX11_judgementRows 4 (some .int) :: BIG
abbrev wb_X11_blame : List Cond := Cond.code yX11_blame cX11_blame 2 (some .int) :: BIG
abbrev wb_X11_guilty : List Cond := Cond.code yX11_guilty cX11_guilty 2 (some .int) :: BIG
abbrev wb_X11_probe : List Cond := Cond.code yX11_probe cX11_probe 2 (some .int) :: BIG
abbrev wb_X11_pairs : List Cond := Cond.code yX11_pairs cX11_pairs 2 (some .int) :: BIG
abbrev wb_X11_nextOfShare : List Cond := Cond.code yX11_nextOfShare cX11_nextOfShare 5 (some .int) :: BIG
abbrev wb_X11_share : List Cond := Cond.code yX11_share cX11_share 4 (some .int) :: BIG
abbrev wb_X11_guardianHas : List Cond := Cond.code yX11_guardianHas cX11_guardianHas 5 (some .int) :: BIG
abbrev wb_X11_babblerHas : List Cond := Cond.code yX11_babblerHas cX11_babblerHas 2 (some .int) :: BIG
abbrev wb_X11_rests : List Cond := Cond.code yX11_rests cX11_rests 6 (some .int) :: BIG
abbrev wb_X11_choose : List Cond := Cond.code yX11_choose cX11_choose 4 (some .int) :: BIG
abbrev wb_X11_odds : List Cond := Cond.code yX11_odds cX11_odds 14 (some .int) :: BIG
abbrev wb_X11_most : List Cond := Cond.code yX11_most cX11_most 8 (some .int) :: BIG
abbrev wb_X11_byState : List Cond := Cond.code yX11_byState cX11_byState 2 (some .int) :: BIG
abbrev wb_X11_twins : List Cond := Cond.code yX11_twins cX11_twins 5 (some .int) :: BIG
abbrev wb_X11_playDraft : List Cond := Cond.code yX11_playDraft cX11_playDraft 4 none :: BIG
abbrev wb_X11_ahead : List Cond := Cond.code yX11_ahead cX11_ahead 4 (some .int) :: BIG
abbrev wb_X11_trial : List Cond := Cond.code yX11_trial cX11_trial 3 (some .int) :: BIG
abbrev wb_X11_span : List Cond := Cond.code yX11_span cX11_span 6 (some .int) :: BIG
abbrev wb_X11_led : List Cond := Cond.code yX11_led cX11_led 6 (some .int) :: BIG
abbrev wb_X11_log : List Cond := Cond.code yX11_log cX11_log 3 (some .int) :: BIG
abbrev wb_X11_seed : List Cond := Cond.code yX11_seed cX11_seed 3 (some .int) :: BIG
abbrev wb_X11_undo : List Cond := Cond.code yX11_undo cX11_undo 1 (some .boolean) :: BIG
abbrev wb_X11_image : List Cond := Cond.code yX11_image cX11_image 1 none :: BIG
abbrev wb_X11_back : List Cond := Cond.code yX11_back cX11_back 1 (some .boolean) :: BIG
abbrev wb_X11_count : List Cond := Cond.code yX11_count cX11_count 2 (some .int) :: BIG
abbrev wb_X12_init : List Cond := Cond.code yX12_init cX12_init 1 none :: BIG
abbrev wb_X12_thrown : List Cond := Cond.code yX12_thrown cX12_thrown 1 (some .int) :: BIG
abbrev wb_X12_isIn : List Cond := Cond.code yX12_isIn cX12_isIn 3 (some .boolean) :: BIG
abbrev wb_X12_lesser : List Cond := Cond.code yX12_lesser cX12_lesser 2 (some .int) :: BIG
abbrev wb_X12_greater : List Cond := Cond.code yX12_greater cX12_greater 2 (some .int) :: BIG
abbrev wb_X12_isOf : List Cond := Cond.code yX12_isOf cX12_isOf 2 (some .boolean) :: BIG
abbrev wb_X12_bits : List Cond := Cond.code yX12_bits cX12_bits 3 (some .int) :: BIG
abbrev wb_X12_of : List Cond := Cond.code yX12_of cX12_of 3 (some .int) :: BIG
abbrev wb_X12_lays : List Cond := Cond.code yX12_lays cX12_lays 4 none :: BIG
abbrev wb_X12_isNode : List Cond := Cond.code yX12_isNode cX12_isNode 2 (some .boolean) :: BIG
abbrev wb_X12_isActive : List Cond := Cond.code yX12_isActive cX12_isActive 2 (some .boolean) :: BIG
abbrev wb_X12_held : List Cond := Cond.code yX12_held cX12_held 2 (some .int) :: BIG
abbrev wb_X12_sign : List Cond := Cond.code yX12_sign cX12_sign 1 (some .int) :: BIG
abbrev wb_X12_inState : List Cond := Cond.code yX12_inState cX12_inState 4 (some .int) :: BIG
abbrev wb_X12_feed : List Cond := Cond.code yX12_feed cX12_feed 8 (some .int) :: BIG
abbrev wb_X12_end : List Cond := Cond.code yX12_end cX12_end 2 (some .boolean) :: BIG
abbrev wb_X12_letter : List Cond := Cond.code yX12_letter cX12_letter 2 (some .int) :: BIG
abbrev wb_X12_skip : List Cond := Cond.code yX12_skip cX12_skip 1 none :: BIG
abbrev wb_X12_isSign : List Cond := Cond.code yX12_isSign cX12_isSign 2 (some .boolean) :: BIG
abbrev wb_X12_has : List Cond := Cond.code yX12_has cX12_has 4 (some .boolean) :: BIG
abbrev wb_X12_wrong : List Cond := Cond.code yX12_wrong cX12_wrong 2 none :: BIG
abbrev wb_X12_here : List Cond := Cond.code yX12_here cX12_here 1 (some .int) :: BIG
abbrev wb_X12_figures : List Cond := Cond.code yX12_figures cX12_figures 5 (some .int) :: BIG
abbrev wb_X12_signed : List Cond := Cond.code yX12_signed cX12_signed 4 (some .int) :: BIG
abbrev wb_X12_joins : List Cond := Cond.code yX12_joins cX12_joins 4 none :: BIG
abbrev wb_X12_nodeLine : List Cond := Cond.code yX12_nodeLine cX12_nodeLine 9 none :: BIG
abbrev wb_X12_tells : List Cond := Cond.code yX12_tells cX12_tells 5 none :: BIG
abbrev wb_X12_clusterLine : List Cond := Cond.code yX12_clusterLine cX12_clusterLine 2 none :: BIG
abbrev wb_X12_begins : List Cond := Cond.code yX12_begins cX12_begins 1 none :: BIG
abbrev wb_X12_part : List Cond := Cond.code yX12_part cX12_part 2 (some .int) :: BIG
abbrev wb_X12_sum : List Cond := Cond.code yX12_sum cX12_sum 2 (some .int) :: BIG
abbrev wb_X12_plain : List Cond := Cond.code yX12_plain cX12_plain 4 (some .boolean) :: BIG
abbrev wb_X12_atom : List Cond := Cond.code yX12_atom cX12_atom 4 (some .boolean) :: BIG
abbrev wb_X12_every : List Cond := Cond.code yX12_every cX12_every 3 (some .boolean) :: BIG
abbrev wb_X12_some : List Cond := Cond.code yX12_some cX12_some 3 (some .boolean) :: BIG
abbrev wb_X12_lawLine : List Cond := Cond.code yX12_lawLine cX12_lawLine 4 none :: BIG
abbrev wb_X12_reads : List Cond := Cond.code yX12_reads cX12_reads 4 (some .int) :: BIG
abbrev wb_X12_putsAside : List Cond := Cond.code yX12_putsAside cX12_putsAside 2 none :: BIG
abbrev wb_X12_comesBack : List Cond := Cond.code yX12_comesBack cX12_comesBack 2 none :: BIG
abbrev wb_X12_cluster : List Cond := Cond.code yX12_cluster cX12_cluster 2 (some .int) :: BIG
abbrev wb_X12_law : List Cond := Cond.code yX12_law cX12_law 3 (some .int) :: BIG
abbrev wb_X12_fault : List Cond := Cond.code yX12_fault cX12_fault 1 (some .int) :: BIG
abbrev wb_X12_asks : List Cond := Cond.code yX12_asks cX12_asks 5 none :: BIG
abbrev wb_X12_heldUp : List Cond := Cond.code yX12_heldUp cX12_heldUp 2 (some .int) :: BIG
abbrev wb_X12_sentBy : List Cond := Cond.code yX12_sentBy cX12_sentBy 2 (some .int) :: BIG
abbrev wb_X12_shiftOf : List Cond := Cond.code yX12_shiftOf cX12_shiftOf 3 (some .int) :: BIG
abbrev wb_X12_isPassing : List Cond := Cond.code yX12_isPassing cX12_isPassing 2 (some .boolean) :: BIG
abbrev wb_X12_isHeard : List Cond := Cond.code yX12_isHeard cX12_isHeard 3 (some .boolean) :: BIG
abbrev wb_X12_allShifts : List Cond := Cond.code yX12_allShifts cX12_allShifts 3 none :: BIG
abbrev wb_X12_middle : List Cond := Cond.code yX12_middle cX12_middle 5 (some .int) :: BIG
abbrev wb_X12_middleOf : List Cond := Cond.code yX12_middleOf cX12_middleOf 5 (some .int) :: BIG
abbrev wb_X12_draw : List Cond := Cond.code yX12_draw cX12_draw 2 (some .int) :: BIG
abbrev wb_X12_logs : List Cond := Cond.code yX12_logs cX12_logs 5 none :: BIG
abbrev wb_X12_starts : List Cond := Cond.code yX12_starts cX12_starts 3 none :: BIG
abbrev wb_X12_collides : List Cond := Cond.code yX12_collides cX12_collides 3 none :: BIG
abbrev wb_X12_calls : List Cond := Cond.code yX12_calls cX12_calls 3 none :: BIG
abbrev wb_X12_follow : List Cond := Cond.code yX12_follow cX12_follow 4 none :: BIG
abbrev wb_X12_counts : List Cond := Cond.code yX12_counts cX12_counts 5 none :: BIG
abbrev wb_X12_nextOf : List Cond := Cond.code yX12_nextOf cX12_nextOf 4 (some .int) :: BIG
abbrev wb_X12_isDenied : List Cond := Cond.code yX12_isDenied cX12_isDenied 5 (some .boolean) :: BIG
abbrev wb_X12_freezes : List Cond := Cond.code yX12_freezes cX12_freezes 3 none :: BIG
abbrev wb_X12_judges : List Cond := Cond.code yX12_judges cX12_judges 4 none :: BIG
abbrev wb_X12_corrects : List Cond := Cond.code yX12_corrects cX12_corrects 4 none :: BIG
abbrev wb_X12_sendersOf : List Cond := Cond.code yX12_sendersOf cX12_sendersOf 6 (some .int) :: BIG
abbrev wb_X12_passes : List Cond := Cond.code yX12_passes cX12_passes 5 none :: BIG
abbrev wb_X12_goes : List Cond := Cond.code yX12_goes cX12_goes 4 (some .int) :: BIG
abbrev wb_X12_spreadNow : List Cond := Cond.code yX12_spreadNow cX12_spreadNow 4 (some .int) :: BIG
abbrev wb_X12_areFriends : List Cond := Cond.code yX12_areFriends cX12_areFriends 3 (some .boolean) :: BIG
abbrev wb_X12_cliqueOf : List Cond := Cond.code yX12_cliqueOf cX12_cliqueOf 7 (some .int) :: BIG
abbrev wb_X12_middleNow : List Cond := Cond.code yX12_middleNow cX12_middleNow 2 (some .int) :: BIG
abbrev wb_X12_knownOf : List Cond := Cond.code yX12_knownOf cX12_knownOf 4 (some .int) :: BIG
abbrev wb_X12_node : List Cond := Cond.code yX12_node cX12_node 3 (some .int) :: BIG
abbrev wb_X12_areTwo : List Cond := Cond.code yX12_areTwo cX12_areTwo 3 none :: BIG
abbrev wb_X12_shift : List Cond := Cond.code yX12_shift cX12_shift 3 (some .int) :: BIG
abbrev wb_X12_hears : List Cond := Cond.code yX12_hears cX12_hears 3 (some .boolean) :: BIG
abbrev wb_X12_remembers : List Cond := Cond.code yX12_remembers cX12_remembers 2 none :: BIG
abbrev wb_X12_sets : List Cond := Cond.code yX12_sets cX12_sets 4 (some .int) :: BIG
abbrev wb_X12_rounds : List Cond := Cond.code yX12_rounds cX12_rounds 2 (some .int) :: BIG
abbrev wb_X12_add : List Cond := Cond.code yX12_add cX12_add 2 (some .int) :: BIG
abbrev wb_X12_power : List Cond := Cond.code yX12_power cX12_power 4 (some .int) :: BIG
abbrev wb_X12_spoil : List Cond := Cond.code yX12_spoil cX12_spoil 5 (some .int) :: BIG
abbrev wb_X12_set : List Cond := Cond.code yX12_set cX12_set 3 (some .int) :: BIG
abbrev wb_X12_tune : List Cond := Cond.code yX12_tune cX12_tune 3 (some .int) :: BIG
abbrev wb_X12_mid : List Cond := Cond.code yX12_mid cX12_mid 3 (some .int) :: BIG
abbrev wb_X12_spread : List Cond := Cond.code yX12_spread cX12_spread 1 (some .int) :: BIG
abbrev wb_X12_agreed : List Cond := Cond.code yX12_agreed cX12_agreed 4 (some .boolean) :: BIG
abbrev wb_X12_cliques : List Cond := Cond.code yX12_cliques cX12_cliques 4 (some .int) :: BIG
abbrev wb_X12_settles : List Cond := Cond.code yX12_settles cX12_settles 4 (some .int) :: BIG
abbrev wb_X12_widest : List Cond := Cond.code yX12_widest cX12_widest 4 (some .int) :: BIG
abbrev wb_X12_lowest : List Cond := Cond.code yX12_lowest cX12_lowest 2 (some .int) :: BIG
abbrev wb_X12_leads : List Cond := Cond.code yX12_leads cX12_leads 5 (some .int) :: BIG
abbrev wb_X12_narrow : List Cond := Cond.code yX12_narrow cX12_narrow 3 (some .int) :: BIG
abbrev wb_X12_tight : List Cond := Cond.code yX12_tight cX12_tight 4 (some .int) :: BIG
abbrev wb_X12_areAllFriends : List Cond := Cond.code yX12_areAllFriends cX12_areAllFriends 5 (some .boolean) :: BIG
abbrev wb_X12_spare : List Cond := Cond.code yX12_spare cX12_spare 4 (some .int) :: BIG
abbrev wb_X12_apart : List Cond := Cond.code yX12_apart cX12_apart 3 (some .int) :: BIG
abbrev wb_X12_allPaths : List Cond := Cond.code yX12_allPaths cX12_allPaths 6 none :: BIG
abbrev wb_X12_order : List Cond := Cond.code yX12_order cX12_order 9 (some .int) :: BIG
abbrev wb_X12_clockOf : List Cond := Cond.code yX12_clockOf cX12_clockOf 2 (some .int) :: BIG
abbrev wb_X12_readMany : List Cond := Cond.code yX12_readMany cX12_readMany 4 (some .int) :: BIG
abbrev wb_X12_wrongReads : List Cond := Cond.code yX12_wrongReads cX12_wrongReads 5 (some .int) :: BIG
abbrev wb_X12_read : List Cond := Cond.code yX12_read cX12_read 8 (some .int) :: BIG
abbrev wb_X12_when : List Cond := Cond.code yX12_when cX12_when 9 (some .int) :: BIG
abbrev wb_X12_wouldHear : List Cond := Cond.code yX12_wouldHear cX12_wouldHear 3 (some .boolean) :: BIG
abbrev wb_X12_blameMany : List Cond := Cond.code yX12_blameMany cX12_blameMany 4 (some .int) :: BIG
abbrev wb_X12_wrongBlames : List Cond := Cond.code yX12_wrongBlames cX12_wrongBlames 5 (some .int) :: BIG
abbrev wb_X12_blame : List Cond := Cond.code yX12_blame cX12_blame 4 (some .int) :: BIG
abbrev wb_X12_guilty : List Cond := Cond.code yX12_guilty cX12_guilty 5 (some .int) :: BIG
abbrev wb_X12_probe : List Cond := Cond.code yX12_probe cX12_probe 8 (some .int) :: BIG
abbrev wb_X12_both : List Cond := Cond.code yX12_both cX12_both 4 (some .int) :: BIG
abbrev wb_X12_allBest : List Cond := Cond.code yX12_allBest cX12_allBest 5 none :: BIG
abbrev wb_X12_pairs : List Cond := Cond.code yX12_pairs cX12_pairs 7 (some .int) :: BIG
abbrev wb_X12_share : List Cond := Cond.code yX12_share cX12_share 6 (some .int) :: BIG
abbrev wb_X12_guardHas : List Cond := Cond.code yX12_guardHas cX12_guardHas 4 (some .int) :: BIG
abbrev wb_X12_talkHas : List Cond := Cond.code yX12_talkHas cX12_talkHas 2 (some .int) :: BIG
abbrev wb_X12_rests : List Cond := Cond.code yX12_rests cX12_rests 6 (some .int) :: BIG
abbrev wb_X12_odds : List Cond := Cond.code yX12_odds cX12_odds 13 (some .int) :: BIG
abbrev wb_X12_valueOf : List Cond := Cond.code yX12_valueOf cX12_valueOf 4 (some .int) :: BIG
abbrev wb_X12_most : List Cond := Cond.code yX12_most cX12_most 4 (some .int) :: BIG
abbrev wb_X12_byState : List Cond := Cond.code yX12_byState cX12_byState 2 (some .int) :: BIG
abbrev wb_X12_twins : List Cond := Cond.code yX12_twins cX12_twins 4 (some .int) :: BIG
abbrev wb_X12_ahead : List Cond := Cond.code yX12_ahead cX12_ahead 6 (some .int) :: BIG
abbrev wb_X12_trial : List Cond := Cond.code yX12_trial cX12_trial 5 (some .int) :: BIG
abbrev wb_X12_span : List Cond := Cond.code yX12_span cX12_span 7 (some .int) :: BIG
abbrev wb_X12_logged : List Cond := Cond.code yX12_logged cX12_logged 3 (some .int) :: BIG
abbrev wb_X12_led : List Cond := Cond.code yX12_led cX12_led 6 (some .int) :: BIG
abbrev wb_X12_log : List Cond := Cond.code yX12_log cX12_log 3 (some .int) :: BIG
abbrev wb_X12_seed : List Cond := Cond.code yX12_seed cX12_seed 3 (some .int) :: BIG
abbrev wb_X12_undo : List Cond := Cond.code yX12_undo cX12_undo 2 (some .boolean) :: BIG
abbrev wb_X12_image : List Cond := Cond.code yX12_image cX12_image 2 none :: BIG
abbrev wb_X12_back : List Cond := Cond.code yX12_back cX12_back 2 (some .boolean) :: BIG
abbrev wb_X12_count : List Cond := Cond.code yX12_count cX12_count 2 (some .int) :: BIG
abbrev wb_J0_length_8abf5 : List Cond := Cond.code yJ0_length_8abf5 cJ0_length_8abf5 1 (some .int) :: BIG
abbrev wb_J0_charAt_5068e : List Cond := Cond.code yJ0_charAt_5068e cJ0_charAt_5068e 2 (some .char) :: BIG
abbrev wb_J0_coder_7d493 : List Cond := Cond.code yJ0_coder_7d493 cJ0_coder_7d493 1 (some .byte) :: BIG
abbrev wb_J0_isLatin1_aae02 : List Cond := Cond.code yJ0_isLatin1_aae02 cJ0_isLatin1_aae02 1 (some .boolean) :: BIG
abbrev wb_J0_checkIndex_df160 : List Cond := Cond.code yJ0_checkIndex_df160 cJ0_checkIndex_df160 2 none :: BIG
abbrev wb_J3_checkIndex_8e157 : List Cond := Cond.code yJ3_checkIndex_8e157 cJ3_checkIndex_8e157 3 (some .int) :: BIG
abbrev wb_J1_charAt_3b067 : List Cond := Cond.code yJ1_charAt_3b067 cJ1_charAt_3b067 2 (some .char) :: BIG
