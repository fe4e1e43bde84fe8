theorem dX11_led_22 : decode cX11_led 22 = .ok (.getfield 77, 3) := by decide +kernel
theorem dX11_led_25 : decode cX11_led 25 = .ok (.getfield 374, 3) := by decide +kernel
theorem dX11_led_28 : decode cX11_led 28 = .ok (.iconst 1, 1) := by decide +kernel
theorem dX11_led_29 : decode cX11_led 29 = .ok (.isub, 1) := by decide +kernel
theorem dX11_led_30 : decode cX11_led 30 = .ok (.istore 5, 2) := by decide +kernel
theorem dX11_led_32 : decode cX11_led 32 = .ok (.iload 5, 2) := by decide +kernel
theorem dX11_led_34 : decode cX11_led 34 = .ok (.ifCond .lt 38, 3) := by decide +kernel
theorem dX11_led_37 : decode cX11_led 37 = .ok (.aload_n 0, 1) := by decide +kernel
theorem dX11_led_38 : decode cX11_led 38 = .ok (.getfield 77, 3) := by decide +kernel
theorem dX11_led_41 : decode cX11_led 41 = .ok (.iload 5, 2) := by decide +kernel
theorem dX11_led_43 : decode cX11_led 43 = .ok (.iconst 1, 1) := by decide +kernel
theorem dX11_led_44 : decode cX11_led 44 = .ok (.invokevirtual 377, 3) := by decide +kernel
theorem dX11_led_47 : decode cX11_led 47 = .ok (.iload_n 1, 1) := by decide +kernel
theorem dX11_led_48 : decode cX11_led 48 = .ok (.if_icmp .ne 18, 3) := by decide +kernel
theorem dX11_led_51 : decode cX11_led 51 = .ok (.iinc 3 1, 3) := by decide +kernel
theorem dX11_led_54 : decode cX11_led 54 = .ok (.aload_n 0, 1) := by decide +kernel
theorem dX11_led_55 : decode cX11_led 55 = .ok (.getfield 77, 3) := by decide +kernel
theorem dX11_led_58 : decode cX11_led 58 = .ok (.iload 5, 2) := by decide +kernel
theorem dX11_led_60 : decode cX11_led 60 = .ok (.iconst 0, 1) := by decide +kernel
theorem dX11_led_61 : decode cX11_led 61 = .ok (.invokevirtual 377, 3) := by decide +kernel
theorem dX11_led_64 : decode cX11_led 64 = .ok (.istore 4, 2) := by decide +kernel
theorem dX11_led_66 : decode cX11_led 66 = .ok (.iinc 5 (-1), 3) := by decide +kernel
theorem dX11_led_69 : decode cX11_led 69 = .ok (.goto (-37), 3) := by decide +kernel
theorem dX11_led_72 : decode cX11_led 72 = .ok (.iload_n 2, 1) := by decide +kernel
theorem dX11_led_73 : decode cX11_led 73 = .ok (.ifCond .eq 8, 3) := by decide +kernel
theorem dX11_led_76 : decode cX11_led 76 = .ok (.iload 4, 2) := by decide +kernel
theorem dX11_led_78 : decode cX11_led 78 = .ok (.goto 4, 3) := by decide +kernel
theorem dX11_led_81 : decode cX11_led 81 = .ok (.iload_n 3, 1) := by decide +kernel
theorem dX11_led_82 : decode cX11_led 82 = .ok (.ireturn, 1) := by decide +kernel
set_option maxRecDepth 20000 in
theorem ggX11_log_X7_rowOf : GoodIn wsX11_log wsX7_rowOf := goodIn_r _ [8, 9, 10, 11, 28, 29, 30, 31, 32, 33, 34, 35, 36, 37, 38] (by decide +kernel) (by decide +kernel)
set_option maxRecDepth 20000 in
theorem gX11_log_X7_rowOf : GoodIn wsX11_log (wsV RX11 377 RX7 yX7_rowOf wsX7_rowOf) := goodIn_app (goodIn_of _ (by decide +kernel)) ggX11_log_X7_rowOf
theorem dX11_log_0 : decode cX11_log 0 = .ok (.iload_n 2, 1) := by decide +kernel
theorem dX11_log_1 : decode cX11_log 1 = .ok (.ifCond .lt 8, 3) := by decide +kernel
theorem dX11_log_4 : decode cX11_log 4 = .ok (.iload_n 2, 1) := by decide +kernel
theorem dX11_log_5 : decode cX11_log 5 = .ok (.iconst 3, 1) := by decide +kernel
theorem dX11_log_6 : decode cX11_log 6 = .ok (.if_icmp .le 11, 3) := by decide +kernel
theorem dX11_log_9 : decode cX11_log 9 = .ok (.new 155, 3) := by decide +kernel
theorem dX11_log_12 : decode cX11_log 12 = .ok (.dup, 1) := by decide +kernel
theorem dX11_log_13 : decode cX11_log 13 = .ok (.invokespecial 157, 3) := by decide +kernel
theorem dX11_log_16 : decode cX11_log 16 = .ok (.athrow, 1) := by decide +kernel
theorem dX11_log_17 : decode cX11_log 17 = .ok (.aload_n 0, 1) := by decide +kernel
theorem dX11_log_18 : decode cX11_log 18 = .ok (.getfield 77, 3) := by decide +kernel
theorem dX11_log_21 : decode cX11_log 21 = .ok (.iload_n 1, 1) := by decide +kernel
theorem dX11_log_22 : decode cX11_log 22 = .ok (.iload_n 2, 1) := by decide +kernel
theorem dX11_log_23 : decode cX11_log 23 = .ok (.invokevirtual 377, 3) := by decide +kernel
theorem dX11_log_26 : decode cX11_log 26 = .ok (.ireturn, 1) := by decide +kernel
theorem dX11_seed_0 : decode cX11_seed 0 = .ok (.aload_n 0, 1) := by decide +kernel
theorem dX11_seed_1 : decode cX11_seed 1 = .ok (.getfield 77, 3) := by decide +kernel
theorem dX11_seed_4 : decode cX11_seed 4 = .ok (.getfield 371, 3) := by decide +kernel
theorem dX11_seed_7 : decode cX11_seed 7 = .ok (.istore_n 2, 1) := by decide +kernel
theorem dX11_seed_8 : decode cX11_seed 8 = .ok (.aload_n 0, 1) := by decide +kernel
theorem dX11_seed_9 : decode cX11_seed 9 = .ok (.getfield 77, 3) := by decide +kernel
theorem dX11_seed_12 : decode cX11_seed 12 = .ok (.iload_n 1, 1) := by decide +kernel
theorem dX11_seed_13 : decode cX11_seed 13 = .ok (.putfield 371, 3) := by decide +kernel
theorem dX11_seed_16 : decode cX11_seed 16 = .ok (.iload_n 2, 1) := by decide +kernel
theorem dX11_seed_17 : decode cX11_seed 17 = .ok (.ireturn, 1) := by decide +kernel
set_option maxRecDepth 20000 in
theorem ggX11_undo_X6_recall : GoodIn wsX11_undo wsX6_recall := goodIn_r _ [7, 8, 9, 10, 11, 12, 13, 14, 15, 16, 17, 18, 19, 20, 21, 22, 23, 24, 25, 26, 27, 28, 29, 30, 31, 32, 33, 34, 35, 36, 37, 38, 39, 40, 41, 42, 43, 44, 45, 46, 63, 64, 65, 66, 67, 68, 69, 70, 71, 72, 73, 74, 75, 76, 77, 78, 79, 80, 81, 82, 83, 84, 85, 86, 87] (by decide +kernel) (by decide +kernel)
set_option maxRecDepth 20000 in
theorem gX11_undo_X6_recall : GoodIn wsX11_undo (wsV RX11 380 RX6 yX6_recall wsX6_recall) := goodIn_app (goodIn_of _ (by decide +kernel)) ggX11_undo_X6_recall
theorem dX11_undo_0 : decode cX11_undo 0 = .ok (.aload_n 0, 1) := by decide +kernel
theorem dX11_undo_1 : decode cX11_undo 1 = .ok (.getfield 90, 3) := by decide +kernel
theorem dX11_undo_4 : decode cX11_undo 4 = .ok (.aload_n 0, 1) := by decide +kernel
theorem dX11_undo_5 : decode cX11_undo 5 = .ok (.getfield 77, 3) := by decide +kernel
theorem dX11_undo_8 : decode cX11_undo 8 = .ok (.invokevirtual 380, 3) := by decide +kernel
theorem dX11_undo_11 : decode cX11_undo 11 = .ok (.ireturn, 1) := by decide +kernel
set_option maxRecDepth 20000 in
theorem ggX11_image_X7_copyFrom : GoodIn wsX11_image wsX7_copyFrom := goodIn_r _ [8, 9, 10, 11, 12, 13, 14, 15, 16, 17, 18, 19, 20, 21, 22, 23, 24, 25, 26, 27, 28, 29, 30, 31, 32, 33, 34, 35, 36, 37, 38, 39, 56, 57, 58, 59, 60, 61, 62, 63, 64, 65, 66, 67, 68, 69, 70, 71, 72, 73, 74, 75, 76, 77] (by decide +kernel) (by decide +kernel)
set_option maxRecDepth 20000 in
theorem gX11_image_X7_copyFrom : GoodIn wsX11_image (wsV RX11 109 RX7 yX7_copyFrom wsX7_copyFrom) := goodIn_app (goodIn_of _ (by decide +kernel)) ggX11_image_X7_copyFrom
theorem dX11_image_0 : decode cX11_image 0 = .ok (.aload_n 0, 1) := by decide +kernel
theorem dX11_image_1 : decode cX11_image 1 = .ok (.getfield 84, 3) := by decide +kernel
theorem dX11_image_4 : decode cX11_image 4 = .ok (.aload_n 0, 1) := by decide +kernel
theorem dX11_image_5 : decode cX11_image 5 = .ok (.getfield 77, 3) := by decide +kernel
theorem dX11_image_8 : decode cX11_image 8 = .ok (.invokevirtual 109, 3) := by decide +kernel
theorem dX11_image_11 : decode cX11_image 11 = .ok (.aload_n 0, 1) := by decide +kernel
theorem dX11_image_12 : decode cX11_image 12 = .ok (.iconst 1, 1) := by decide +kernel
theorem dX11_image_13 : decode cX11_image 13 = .ok (.putfield 384, 3) := by decide +kernel
theorem dX11_image_16 : decode cX11_image 16 = .ok (.return_, 1) := by decide +kernel
set_option maxRecDepth 20000 in
theorem ggX11_back_X7_copyFrom : GoodIn wsX11_back wsX7_copyFrom := goodIn_r _ [9, 10, 11, 12, 13, 14, 15, 16, 17, 18, 19, 20, 21, 22, 23, 24, 25, 26, 27, 28, 29, 30, 31, 32, 33, 34, 35, 36, 37, 38, 39, 40, 63, 64, 65, 66, 67, 68, 69, 70, 71, 72, 73, 74, 75, 76, 77, 78, 79, 80, 81, 82, 83, 84] (by decide +kernel) (by decide +kernel)
set_option maxRecDepth 20000 in
theorem gX11_back_X7_copyFrom : GoodIn wsX11_back (wsV RX11 109 RX7 yX7_copyFrom wsX7_copyFrom) := goodIn_app (goodIn_of _ (by decide +kernel)) ggX11_back_X7_copyFrom
set_option maxRecDepth 20000 in
theorem ggX11_back_X6_forget : GoodIn wsX11_back wsX6_forget := goodIn_r _ [45, 46, 85, 86, 87] (by decide +kernel) (by decide +kernel)
set_option maxRecDepth 20000 in
theorem gX11_back_X6_forget : GoodIn wsX11_back (wsV RX11 128 RX6 yX6_forget wsX6_forget) := goodIn_app (goodIn_of _ (by decide +kernel)) ggX11_back_X6_forget
theorem dX11_back_0 : decode cX11_back 0 = .ok (.aload_n 0, 1) := by decide +kernel
theorem dX11_back_1 : decode cX11_back 1 = .ok (.getfield 384, 3) := by decide +kernel
theorem dX11_back_4 : decode cX11_back 4 = .ok (.ifCond .ne 5, 3) := by decide +kernel
theorem dX11_back_7 : decode cX11_back 7 = .ok (.iconst 0, 1) := by decide +kernel
theorem dX11_back_8 : decode cX11_back 8 = .ok (.ireturn, 1) := by decide +kernel
theorem dX11_back_9 : decode cX11_back 9 = .ok (.aload_n 0, 1) := by decide +kernel
theorem dX11_back_10 : decode cX11_back 10 = .ok (.getfield 77, 3) := by decide +kernel
theorem dX11_back_13 : decode cX11_back 13 = .ok (.aload_n 0, 1) := by decide +kernel
theorem dX11_back_14 : decode cX11_back 14 = .ok (.getfield 84, 3) := by decide +kernel
theorem dX11_back_17 : decode cX11_back 17 = .ok (.invokevirtual 109, 3) := by decide +kernel
theorem dX11_back_20 : decode cX11_back 20 = .ok (.aload_n 0, 1) := by decide +kernel
theorem dX11_back_21 : decode cX11_back 21 = .ok (.getfield 90, 3) := by decide +kernel
theorem dX11_back_24 : decode cX11_back 24 = .ok (.invokevirtual 128, 3) := by decide +kernel
theorem dX11_back_27 : decode cX11_back 27 = .ok (.iconst 1, 1) := by decide +kernel
theorem dX11_back_28 : decode cX11_back 28 = .ok (.ireturn, 1) := by decide +kernel
set_option maxRecDepth 20000 in
theorem ggX11_count_X7_inState : GoodIn wsX11_count wsX7_inState := goodIn_r _ [16, 17, 18, 19, 20, 21, 22, 46, 47, 48, 49, 50, 51, 52, 53, 54, 55, 56, 66, 67, 68, 69, 70, 71, 72, 73, 74, 75, 76] (by decide +kernel) (by decide +kernel)
set_option maxRecDepth 20000 in
theorem gX11_count_X7_inState : GoodIn wsX11_count (wsV RX11 272 RX7 yX7_inState wsX7_inState) := goodIn_app (goodIn_of _ (by decide +kernel)) ggX11_count_X7_inState
set_option maxRecDepth 20000 in
theorem ggX11_count_J6_bitCount_0f7a4 : GoodIn wsX11_count wsJ6_bitCount_0f7a4 := goodIn_r _ [26, 27, 28, 29] (by decide +kernel) (by decide +kernel)
set_option maxRecDepth 20000 in
theorem gX11_count_J6_bitCount_0f7a4 : GoodIn wsX11_count (va_wsS RX11 275 yJ6_bitCount_0f7a4 wsJ6_bitCount_0f7a4) := goodIn_app (goodIn_of _ (by decide +kernel)) ggX11_count_J6_bitCount_0f7a4
theorem dX11_count_0 : decode cX11_count 0 = .ok (.iload_n 1, 1) := by decide +kernel
theorem dX11_count_1 : decode cX11_count 1 = .ok (.tableswitch 130 0 8 #[51, 59, 67, 78, 86, 94, 102, 114, 122], 51) := by decide +kernel
theorem dX11_count_52 : decode cX11_count 52 = .ok (.aload_n 0, 1) := by decide +kernel
theorem dX11_count_53 : decode cX11_count 53 = .ok (.getfield 77, 3) := by decide +kernel
theorem dX11_count_56 : decode cX11_count 56 = .ok (.getfield 145, 3) := by decide +kernel
theorem dX11_count_59 : decode cX11_count 59 = .ok (.ireturn, 1) := by decide +kernel
theorem dX11_count_60 : decode cX11_count 60 = .ok (.aload_n 0, 1) := by decide +kernel
theorem dX11_count_61 : decode cX11_count 61 = .ok (.getfield 77, 3) := by decide +kernel
theorem dX11_count_64 : decode cX11_count 64 = .ok (.getfield 122, 3) := by decide +kernel
theorem dX11_count_67 : decode cX11_count 67 = .ok (.ireturn, 1) := by decide +kernel
theorem dX11_count_68 : decode cX11_count 68 = .ok (.aload_n 0, 1) := by decide +kernel
theorem dX11_count_69 : decode cX11_count 69 = .ok (.getfield 77, 3) := by decide +kernel
theorem dX11_count_72 : decode cX11_count 72 = .ok (.getfield 138, 3) := by decide +kernel
theorem dX11_count_75 : decode cX11_count 75 = .ok (.getfield 142, 3) := by decide +kernel
theorem dX11_count_78 : decode cX11_count 78 = .ok (.ireturn, 1) := by decide +kernel
theorem dX11_count_79 : decode cX11_count 79 = .ok (.aload_n 0, 1) := by decide +kernel
theorem dX11_count_80 : decode cX11_count 80 = .ok (.getfield 77, 3) := by decide +kernel
theorem dX11_count_83 : decode cX11_count 83 = .ok (.getfield 259, 3) := by decide +kernel
theorem dX11_count_86 : decode cX11_count 86 = .ok (.ireturn, 1) := by decide +kernel
theorem dX11_count_87 : decode cX11_count 87 = .ok (.aload_n 0, 1) := by decide +kernel
theorem dX11_count_88 : decode cX11_count 88 = .ok (.getfield 77, 3) := by decide +kernel
theorem dX11_count_91 : decode cX11_count 91 = .ok (.getfield 256, 3) := by decide +kernel
theorem dX11_count_94 : decode cX11_count 94 = .ok (.ireturn, 1) := by decide +kernel
theorem dX11_count_95 : decode cX11_count 95 = .ok (.aload_n 0, 1) := by decide +kernel
theorem dX11_count_96 : decode cX11_count 96 = .ok (.getfield 77, 3) := by decide +kernel
theorem dX11_count_99 : decode cX11_count 99 = .ok (.getfield 388, 3) := by decide +kernel
theorem dX11_count_102 : decode cX11_count 102 = .ok (.ireturn, 1) := by decide +kernel
theorem dX11_count_103 : decode cX11_count 103 = .ok (.aload_n 0, 1) := by decide +kernel
theorem dX11_count_104 : decode cX11_count 104 = .ok (.getfield 77, 3) := by decide +kernel
theorem dX11_count_107 : decode cX11_count 107 = .ok (.iconst 2, 1) := by decide +kernel
theorem dX11_count_108 : decode cX11_count 108 = .ok (.invokevirtual 272, 3) := by decide +kernel
theorem dX11_count_111 : decode cX11_count 111 = .ok (.invokestatic 275, 3) := by decide +kernel
theorem dX11_count_114 : decode cX11_count 114 = .ok (.ireturn, 1) := by decide +kernel
theorem dX11_count_115 : decode cX11_count 115 = .ok (.aload_n 0, 1) := by decide +kernel
theorem dX11_count_116 : decode cX11_count 116 = .ok (.getfield 77, 3) := by decide +kernel
theorem dX11_count_119 : decode cX11_count 119 = .ok (.getfield 374, 3) := by decide +kernel
theorem dX11_count_122 : decode cX11_count 122 = .ok (.ireturn, 1) := by decide +kernel
theorem dX11_count_123 : decode cX11_count 123 = .ok (.aload_n 0, 1) := by decide +kernel
theorem dX11_count_124 : decode cX11_count 124 = .ok (.getfield 90, 3) := by decide +kernel
theorem dX11_count_127 : decode cX11_count 127 = .ok (.getfield 391, 3) := by decide +kernel
theorem dX11_count_130 : decode cX11_count 130 = .ok (.ireturn, 1) := by decide +kernel
theorem dX11_count_131 : decode cX11_count 131 = .ok (.iconst (-1), 1) := by decide +kernel
theorem dX11_count_132 : decode cX11_count 132 = .ok (.ireturn, 1) := by decide +kernel
theorem dX11_bit_0 : decode cX11_bit 0 = .ok (.iconst 1, 1) := by decide +kernel
theorem dX11_bit_1 : decode cX11_bit 1 = .ok (.iload_n 0, 1) := by decide +kernel
theorem dX11_bit_2 : decode cX11_bit 2 = .ok (.ishl, 1) := by decide +kernel
theorem dX11_bit_3 : decode cX11_bit 3 = .ok (.ireturn, 1) := by decide +kernel
theorem dX11_isIn_0 : decode cX11_isIn 0 = .ok (.iload_n 0, 1) := by decide +kernel
theorem dX11_isIn_1 : decode cX11_isIn 1 = .ok (.iload_n 1, 1) := by decide +kernel
theorem dX11_isIn_2 : decode cX11_isIn 2 = .ok (.ishr, 1) := by decide +kernel
theorem dX11_isIn_3 : decode cX11_isIn 3 = .ok (.iconst 1, 1) := by decide +kernel
theorem dX11_isIn_4 : decode cX11_isIn 4 = .ok (.iand, 1) := by decide +kernel
theorem dX11_isIn_5 : decode cX11_isIn 5 = .ok (.ifCond .eq 7, 3) := by decide +kernel
theorem dX11_isIn_8 : decode cX11_isIn 8 = .ok (.iconst 1, 1) := by decide +kernel
theorem dX11_isIn_9 : decode cX11_isIn 9 = .ok (.goto 4, 3) := by decide +kernel
theorem dX11_isIn_12 : decode cX11_isIn 12 = .ok (.iconst 0, 1) := by decide +kernel
theorem dX11_isIn_13 : decode cX11_isIn 13 = .ok (.ireturn, 1) := by decide +kernel
set_option maxRecDepth 20000 in
theorem ggX11_lowest_X11_isIn : GoodIn wsX11_lowest wsX11_isIn := goodIn_r _ [4] (by decide +kernel) (by decide +kernel)
set_option maxRecDepth 20000 in
theorem gX11_lowest_X11_isIn : GoodIn wsX11_lowest (va_wsS RX11 212 yX11_isIn wsX11_isIn) := goodIn_app (goodIn_of _ (by decide +kernel)) ggX11_lowest_X11_isIn
theorem dX11_lowest_0 : decode cX11_lowest 0 = .ok (.iconst 0, 1) := by decide +kernel
theorem dX11_lowest_1 : decode cX11_lowest 1 = .ok (.istore_n 1, 1) := by decide +kernel
theorem dX11_lowest_2 : decode cX11_lowest 2 = .ok (.iload_n 1, 1) := by decide +kernel
theorem dX11_lowest_3 : decode cX11_lowest 3 = .ok (.bipush 8, 2) := by decide +kernel
theorem dX11_lowest_5 : decode cX11_lowest 5 = .ok (.if_icmp .ge 19, 3) := by decide +kernel
theorem dX11_lowest_8 : decode cX11_lowest 8 = .ok (.iload_n 0, 1) := by decide +kernel
theorem dX11_lowest_9 : decode cX11_lowest 9 = .ok (.iload_n 1, 1) := by decide +kernel
theorem dX11_lowest_10 : decode cX11_lowest 10 = .ok (.invokestatic 212, 3) := by decide +kernel
theorem dX11_lowest_13 : decode cX11_lowest 13 = .ok (.ifCond .eq 5, 3) := by decide +kernel
theorem dX11_lowest_16 : decode cX11_lowest 16 = .ok (.iload_n 1, 1) := by decide +kernel
theorem dX11_lowest_17 : decode cX11_lowest 17 = .ok (.ireturn, 1) := by decide +kernel
theorem dX11_lowest_18 : decode cX11_lowest 18 = .ok (.iinc 1 1, 3) := by decide +kernel
theorem dX11_lowest_21 : decode cX11_lowest 21 = .ok (.goto (-19), 3) := by decide +kernel
theorem dX11_lowest_24 : decode cX11_lowest 24 = .ok (.iconst (-1), 1) := by decide +kernel
theorem dX11_lowest_25 : decode cX11_lowest 25 = .ok (.ireturn, 1) := by decide +kernel
theorem dX11_keepWithin_0 : decode cX11_keepWithin 0 = .ok (.iload_n 1, 1) := by decide +kernel
theorem dX11_keepWithin_1 : decode cX11_keepWithin 1 = .ok (.ineg, 1) := by decide +kernel
theorem dX11_keepWithin_2 : decode cX11_keepWithin 2 = .ok (.iload_n 1, 1) := by decide +kernel
theorem dX11_keepWithin_3 : decode cX11_keepWithin 3 = .ok (.iload_n 0, 1) := by decide +kernel
theorem dX11_keepWithin_4 : decode cX11_keepWithin 4 = .ok (.invokestatic 229, 3) := by decide +kernel
theorem dX11_keepWithin_7 : decode cX11_keepWithin 7 = .ok (.invokestatic 283, 3) := by decide +kernel
theorem dX11_keepWithin_10 : decode cX11_keepWithin 10 = .ok (.ireturn, 1) := by decide +kernel
set_option maxRecDepth 20000 in
theorem ggX11_midOf_X11_sort : GoodIn wsX11_midOf wsX11_sort := goodIn_r _ [4] (by decide +kernel) (by decide +kernel)
set_option maxRecDepth 20000 in
theorem gX11_midOf_X11_sort : GoodIn wsX11_midOf (va_wsS RX11 394 yX11_sort wsX11_sort) := goodIn_app (goodIn_of _ (by decide +kernel)) ggX11_midOf_X11_sort
theorem dX11_midOf_0 : decode cX11_midOf 0 = .ok (.iload_n 1, 1) := by decide +kernel
theorem dX11_midOf_1 : decode cX11_midOf 1 = .ok (.iconst 1, 1) := by decide +kernel
theorem dX11_midOf_2 : decode cX11_midOf 2 = .ok (.if_icmp .lt 9, 3) := by decide +kernel
theorem dX11_midOf_5 : decode cX11_midOf 5 = .ok (.iload_n 1, 1) := by decide +kernel
theorem dX11_midOf_6 : decode cX11_midOf 6 = .ok (.aload_n 0, 1) := by decide +kernel
theorem dX11_midOf_7 : decode cX11_midOf 7 = .ok (.arraylength, 1) := by decide +kernel
theorem dX11_midOf_8 : decode cX11_midOf 8 = .ok (.if_icmp .le 5, 3) := by decide +kernel
theorem dX11_midOf_11 : decode cX11_midOf 11 = .ok (.iconst 0, 1) := by decide +kernel
theorem dX11_midOf_12 : decode cX11_midOf 12 = .ok (.ireturn, 1) := by decide +kernel
theorem dX11_midOf_13 : decode cX11_midOf 13 = .ok (.aload_n 0, 1) := by decide +kernel
theorem dX11_midOf_14 : decode cX11_midOf 14 = .ok (.iload_n 1, 1) := by decide +kernel
theorem dX11_midOf_15 : decode cX11_midOf 15 = .ok (.invokestatic 394, 3) := by decide +kernel
theorem dX11_midOf_18 : decode cX11_midOf 18 = .ok (.iload_n 1, 1) := by decide +kernel
theorem dX11_midOf_19 : decode cX11_midOf 19 = .ok (.bipush 8, 2) := by decide +kernel
theorem dX11_midOf_21 : decode cX11_midOf 21 = .ok (.if_icmp .lt 7, 3) := by decide +kernel
theorem dX11_midOf_24 : decode cX11_midOf 24 = .ok (.iconst 2, 1) := by decide +kernel
theorem dX11_midOf_25 : decode cX11_midOf 25 = .ok (.goto 13, 3) := by decide +kernel
theorem dX11_midOf_28 : decode cX11_midOf 28 = .ok (.iload_n 1, 1) := by decide +kernel
theorem dX11_midOf_29 : decode cX11_midOf 29 = .ok (.iconst 3, 1) := by decide +kernel
theorem dX11_midOf_30 : decode cX11_midOf 30 = .ok (.if_icmp .lt 7, 3) := by decide +kernel
theorem dX11_midOf_33 : decode cX11_midOf 33 = .ok (.iconst 1, 1) := by decide +kernel
theorem dX11_midOf_34 : decode cX11_midOf 34 = .ok (.goto 4, 3) := by decide +kernel
theorem dX11_midOf_37 : decode cX11_midOf 37 = .ok (.iconst 0, 1) := by decide +kernel
theorem dX11_midOf_38 : decode cX11_midOf 38 = .ok (.istore_n 2, 1) := by decide +kernel
theorem dX11_midOf_39 : decode cX11_midOf 39 = .ok (.aload_n 0, 1) := by decide +kernel
theorem dX11_midOf_40 : decode cX11_midOf 40 = .ok (.iload_n 2, 1) := by decide +kernel
theorem dX11_midOf_41 : decode cX11_midOf 41 = .ok (.iaload, 1) := by decide +kernel
theorem dX11_midOf_42 : decode cX11_midOf 42 = .ok (.aload_n 0, 1) := by decide +kernel
theorem dX11_midOf_43 : decode cX11_midOf 43 = .ok (.iload_n 1, 1) := by decide +kernel
theorem dX11_midOf_44 : decode cX11_midOf 44 = .ok (.iconst 1, 1) := by decide +kernel
theorem dX11_midOf_45 : decode cX11_midOf 45 = .ok (.isub, 1) := by decide +kernel
theorem dX11_midOf_46 : decode cX11_midOf 46 = .ok (.iload_n 2, 1) := by decide +kernel
theorem dX11_midOf_47 : decode cX11_midOf 47 = .ok (.isub, 1) := by decide +kernel
theorem dX11_midOf_48 : decode cX11_midOf 48 = .ok (.iaload, 1) := by decide +kernel
theorem dX11_midOf_49 : decode cX11_midOf 49 = .ok (.iadd, 1) := by decide +kernel
theorem dX11_midOf_50 : decode cX11_midOf 50 = .ok (.iconst 2, 1) := by decide +kernel
theorem dX11_midOf_51 : decode cX11_midOf 51 = .ok (.idiv, 1) := by decide +kernel
theorem dX11_midOf_52 : decode cX11_midOf 52 = .ok (.ireturn, 1) := by decide +kernel
theorem dX11_sort_0 : decode cX11_sort 0 = .ok (.iconst 1, 1) := by decide +kernel
theorem dX11_sort_1 : decode cX11_sort 1 = .ok (.istore_n 2, 1) := by decide +kernel
theorem dX11_sort_2 : decode cX11_sort 2 = .ok (.iload_n 2, 1) := by decide +kernel
theorem dX11_sort_3 : decode cX11_sort 3 = .ok (.iload_n 1, 1) := by decide +kernel
theorem dX11_sort_4 : decode cX11_sort 4 = .ok (.if_icmp .ge 65, 3) := by decide +kernel
theorem dX11_sort_7 : decode cX11_sort 7 = .ok (.iload_n 2, 1) := by decide +kernel
theorem dX11_sort_8 : decode cX11_sort 8 = .ok (.aload_n 0, 1) := by decide +kernel
theorem dX11_sort_9 : decode cX11_sort 9 = .ok (.arraylength, 1) := by decide +kernel
theorem dX11_sort_10 : decode cX11_sort 10 = .ok (.if_icmp .ge 59, 3) := by decide +kernel
theorem dX11_sort_13 : decode cX11_sort 13 = .ok (.aload_n 0, 1) := by decide +kernel
theorem dX11_sort_14 : decode cX11_sort 14 = .ok (.iload_n 2, 1) := by decide +kernel
theorem dX11_sort_15 : decode cX11_sort 15 = .ok (.iaload, 1) := by decide +kernel
theorem dX11_sort_16 : decode cX11_sort 16 = .ok (.istore_n 3, 1) := by decide +kernel
theorem dX11_sort_17 : decode cX11_sort 17 = .ok (.iload_n 2, 1) := by decide +kernel
theorem dX11_sort_18 : decode cX11_sort 18 = .ok (.istore 4, 2) := by decide +kernel
theorem dX11_sort_20 : decode cX11_sort 20 = .ok (.iload_n 2, 1) := by decide +kernel
theorem dX11_sort_21 : decode cX11_sort 21 = .ok (.iconst 1, 1) := by decide +kernel
theorem dX11_sort_22 : decode cX11_sort 22 = .ok (.isub, 1) := by decide +kernel
theorem dX11_sort_23 : decode cX11_sort 23 = .ok (.istore 5, 2) := by decide +kernel
theorem dX11_sort_25 : decode cX11_sort 25 = .ok (.iload 5, 2) := by decide +kernel
theorem dX11_sort_27 : decode cX11_sort 27 = .ok (.ifCond .lt 31, 3) := by decide +kernel
theorem dX11_sort_30 : decode cX11_sort 30 = .ok (.aload_n 0, 1) := by decide +kernel
theorem dX11_sort_31 : decode cX11_sort 31 = .ok (.iload 5, 2) := by decide +kernel
theorem dX11_sort_33 : decode cX11_sort 33 = .ok (.iaload, 1) := by decide +kernel
theorem dX11_sort_34 : decode cX11_sort 34 = .ok (.iload_n 3, 1) := by decide +kernel
theorem dX11_sort_35 : decode cX11_sort 35 = .ok (.if_icmp .le 23, 3) := by decide +kernel
theorem dX11_sort_38 : decode cX11_sort 38 = .ok (.aload_n 0, 1) := by decide +kernel
theorem dX11_sort_39 : decode cX11_sort 39 = .ok (.iload 5, 2) := by decide +kernel
theorem dX11_sort_41 : decode cX11_sort 41 = .ok (.iconst 1, 1) := by decide +kernel
theorem dX11_sort_42 : decode cX11_sort 42 = .ok (.iadd, 1) := by decide +kernel
theorem dX11_sort_43 : decode cX11_sort 43 = .ok (.aload_n 0, 1) := by decide +kernel
theorem dX11_sort_44 : decode cX11_sort 44 = .ok (.iload 5, 2) := by decide +kernel
theorem dX11_sort_46 : decode cX11_sort 46 = .ok (.iaload, 1) := by decide +kernel
theorem dX11_sort_47 : decode cX11_sort 47 = .ok (.iastore, 1) := by decide +kernel
theorem dX11_sort_48 : decode cX11_sort 48 = .ok (.iload 5, 2) := by decide +kernel
theorem dX11_sort_50 : decode cX11_sort 50 = .ok (.istore 4, 2) := by decide +kernel
theorem dX11_sort_52 : decode cX11_sort 52 = .ok (.iinc 5 (-1), 3) := by decide +kernel
theorem dX11_sort_55 : decode cX11_sort 55 = .ok (.goto (-30), 3) := by decide +kernel
theorem dX11_sort_58 : decode cX11_sort 58 = .ok (.aload_n 0, 1) := by decide +kernel
theorem dX11_sort_59 : decode cX11_sort 59 = .ok (.iload 4, 2) := by decide +kernel
theorem dX11_sort_61 : decode cX11_sort 61 = .ok (.iload_n 3, 1) := by decide +kernel
theorem dX11_sort_62 : decode cX11_sort 62 = .ok (.iastore, 1) := by decide +kernel
theorem dX11_sort_63 : decode cX11_sort 63 = .ok (.iinc 2 1, 3) := by decide +kernel
theorem dX11_sort_66 : decode cX11_sort 66 = .ok (.goto (-64), 3) := by decide +kernel
theorem dX11_sort_69 : decode cX11_sort 69 = .ok (.return_, 1) := by decide +kernel
theorem dX12_init_0 : decode cX12_init 0 = .ok (.aload_n 0, 1) := by decide +kernel
theorem dX12_init_1 : decode cX12_init 1 = .ok (.invokespecial 1, 3) := by decide +kernel
theorem dX12_init_4 : decode cX12_init 4 = .ok (.aload_n 0, 1) := by decide +kernel
theorem dX12_init_5 : decode cX12_init 5 = .ok (.sipush 737, 3) := by decide +kernel
theorem dX12_init_8 : decode cX12_init 8 = .ok (.newarray .int, 2) := by decide +kernel
theorem dX12_init_10 : decode cX12_init 10 = .ok (.putfield 7, 3) := by decide +kernel
theorem dX12_init_13 : decode cX12_init 13 = .ok (.aload_n 0, 1) := by decide +kernel
theorem dX12_init_14 : decode cX12_init 14 = .ok (.sipush 737, 3) := by decide +kernel
theorem dX12_init_17 : decode cX12_init 17 = .ok (.newarray .int, 2) := by decide +kernel
theorem dX12_init_19 : decode cX12_init 19 = .ok (.putfield 13, 3) := by decide +kernel
theorem dX12_init_22 : decode cX12_init 22 = .ok (.aload_n 0, 1) := by decide +kernel
theorem dX12_init_23 : decode cX12_init 23 = .ok (.sipush 337, 3) := by decide +kernel
theorem dX12_init_26 : decode cX12_init 26 = .ok (.newarray .int, 2) := by decide +kernel
theorem dX12_init_28 : decode cX12_init 28 = .ok (.putfield 16, 3) := by decide +kernel
theorem dX12_init_31 : decode cX12_init 31 = .ok (.aload_n 0, 1) := by decide +kernel
theorem dX12_init_32 : decode cX12_init 32 = .ok (.sipush 4044, 3) := by decide +kernel
theorem dX12_init_35 : decode cX12_init 35 = .ok (.newarray .int, 2) := by decide +kernel
theorem dX12_init_37 : decode cX12_init 37 = .ok (.putfield 19, 3) := by decide +kernel
theorem dX12_init_40 : decode cX12_init 40 = .ok (.aload_n 0, 1) := by decide +kernel
theorem dX12_init_41 : decode cX12_init 41 = .ok (.sipush 400, 3) := by decide +kernel
theorem dX12_init_44 : decode cX12_init 44 = .ok (.newarray .int, 2) := by decide +kernel
theorem dX12_init_46 : decode cX12_init 46 = .ok (.putfield 22, 3) := by decide +kernel
theorem dX12_init_49 : decode cX12_init 49 = .ok (.aload_n 0, 1) := by decide +kernel
theorem dX12_init_50 : decode cX12_init 50 = .ok (.iconst (-1), 1) := by decide +kernel
theorem dX12_init_51 : decode cX12_init 51 = .ok (.putfield 25, 3) := by decide +kernel
theorem dX12_init_54 : decode cX12_init 54 = .ok (.aload_n 0, 1) := by decide +kernel
theorem dX12_init_55 : decode cX12_init 55 = .ok (.bipush 7, 2) := by decide +kernel
theorem dX12_init_57 : decode cX12_init 57 = .ok (.newarray .int, 2) := by decide +kernel
theorem dX12_init_59 : decode cX12_init 59 = .ok (.putfield 29, 3) := by decide +kernel
theorem dX12_init_62 : decode cX12_init 62 = .ok (.aload_n 0, 1) := by decide +kernel
theorem dX12_init_63 : decode cX12_init 63 = .ok (.bipush 64, 2) := by decide +kernel
theorem dX12_init_65 : decode cX12_init 65 = .ok (.newarray .int, 2) := by decide +kernel
theorem dX12_init_67 : decode cX12_init 67 = .ok (.putfield 32, 3) := by decide +kernel
theorem dX12_init_70 : decode cX12_init 70 = .ok (.aload_n 0, 1) := by decide +kernel
theorem dX12_init_71 : decode cX12_init 71 = .ok (.bipush 8, 2) := by decide +kernel
theorem dX12_init_73 : decode cX12_init 73 = .ok (.newarray .int, 2) := by decide +kernel
theorem dX12_init_75 : decode cX12_init 75 = .ok (.putfield 35, 3) := by decide +kernel
theorem dX12_init_78 : decode cX12_init 78 = .ok (.aload_n 0, 1) := by decide +kernel
theorem dX12_init_79 : decode cX12_init 79 = .ok (.bipush 8, 2) := by decide +kernel
theorem dX12_init_81 : decode cX12_init 81 = .ok (.newarray .int, 2) := by decide +kernel
theorem dX12_init_83 : decode cX12_init 83 = .ok (.putfield 38, 3) := by decide +kernel
theorem dX12_init_86 : decode cX12_init 86 = .ok (.aload_n 0, 1) := by decide +kernel
theorem dX12_init_87 : decode cX12_init 87 = .ok (.bipush 21, 2) := by decide +kernel
theorem dX12_init_89 : decode cX12_init 89 = .ok (.newarray .int, 2) := by decide +kernel
theorem dX12_init_91 : decode cX12_init 91 = .ok (.putfield 41, 3) := by decide +kernel
theorem dX12_init_94 : decode cX12_init 94 = .ok (.aload_n 0, 1) := by decide +kernel
theorem dX12_init_95 : decode cX12_init 95 = .ok (.bipush 8, 2) := by decide +kernel
theorem dX12_init_97 : decode cX12_init 97 = .ok (.newarray .int, 2) := by decide +kernel
theorem dX12_init_99 : decode cX12_init 99 = .ok (.putfield 44, 3) := by decide +kernel
theorem dX12_init_102 : decode cX12_init 102 = .ok (.aload_n 0, 1) := by decide +kernel
theorem dX12_init_103 : decode cX12_init 103 = .ok (.sipush 256, 3) := by decide +kernel
theorem dX12_init_106 : decode cX12_init 106 = .ok (.newarray .int, 2) := by decide +kernel
theorem dX12_init_108 : decode cX12_init 108 = .ok (.putfield 47, 3) := by decide +kernel
theorem dX12_init_111 : decode cX12_init 111 = .ok (.aload_n 0, 1) := by decide +kernel
theorem dX12_init_112 : decode cX12_init 112 = .ok (.sipush 2048, 3) := by decide +kernel
theorem dX12_init_115 : decode cX12_init 115 = .ok (.newarray .int, 2) := by decide +kernel
theorem dX12_init_117 : decode cX12_init 117 = .ok (.putfield 50, 3) := by decide +kernel
theorem dX12_init_120 : decode cX12_init 120 = .ok (.aload_n 0, 1) := by decide +kernel
theorem dX12_init_121 : decode cX12_init 121 = .ok (.bipush 8, 2) := by decide +kernel
theorem dX12_init_123 : decode cX12_init 123 = .ok (.newarray .int, 2) := by decide +kernel
theorem dX12_init_125 : decode cX12_init 125 = .ok (.putfield 53, 3) := by decide +kernel
theorem dX12_init_128 : decode cX12_init 128 = .ok (.aload_n 0, 1) := by decide +kernel
theorem dX12_init_129 : decode cX12_init 129 = .ok (.sipush 243, 3) := by decide +kernel
theorem dX12_init_132 : decode cX12_init 132 = .ok (.newarray .int, 2) := by decide +kernel
theorem dX12_init_134 : decode cX12_init 134 = .ok (.putfield 56, 3) := by decide +kernel
theorem dX12_init_137 : decode cX12_init 137 = .ok (.aload_n 0, 1) := by decide +kernel
theorem dX12_init_138 : decode cX12_init 138 = .ok (.getfield 7, 3) := by decide +kernel
theorem dX12_init_141 : decode cX12_init 141 = .ok (.iconst 1, 1) := by decide +kernel
theorem dX12_init_142 : decode cX12_init 142 = .ok (.iconst (-1), 1) := by decide +kernel
theorem dX12_init_143 : decode cX12_init 143 = .ok (.iastore, 1) := by decide +kernel
theorem dX12_init_144 : decode cX12_init 144 = .ok (.aload_n 0, 1) := by decide +kernel
theorem dX12_init_145 : decode cX12_init 145 = .ok (.getfield 7, 3) := by decide +kernel
theorem dX12_init_148 : decode cX12_init 148 = .ok (.iconst 4, 1) := by decide +kernel
theorem dX12_init_149 : decode cX12_init 149 = .ok (.bipush 100, 2) := by decide +kernel
theorem dX12_init_151 : decode cX12_init 151 = .ok (.iastore, 1) := by decide +kernel
theorem dX12_init_152 : decode cX12_init 152 = .ok (.aload_n 0, 1) := by decide +kernel
theorem dX12_init_153 : decode cX12_init 153 = .ok (.getfield 7, 3) := by decide +kernel
theorem dX12_init_156 : decode cX12_init 156 = .ok (.iconst 5, 1) := by decide +kernel
theorem dX12_init_157 : decode cX12_init 157 = .ok (.bipush 50, 2) := by decide +kernel
theorem dX12_init_159 : decode cX12_init 159 = .ok (.iastore, 1) := by decide +kernel
theorem dX12_init_160 : decode cX12_init 160 = .ok (.aload_n 0, 1) := by decide +kernel
theorem dX12_init_161 : decode cX12_init 161 = .ok (.getfield 7, 3) := by decide +kernel
theorem dX12_init_164 : decode cX12_init 164 = .ok (.bipush 8, 2) := by decide +kernel
theorem dX12_init_166 : decode cX12_init 166 = .ok (.iconst 1, 1) := by decide +kernel
theorem dX12_init_167 : decode cX12_init 167 = .ok (.iastore, 1) := by decide +kernel
theorem dX12_init_168 : decode cX12_init 168 = .ok (.return_, 1) := by decide +kernel
theorem dX12_thrown_0 : decode cX12_thrown 0 = .ok (.aload_n 0, 1) := by decide +kernel
theorem dX12_thrown_1 : decode cX12_thrown 1 = .ok (.getfield 59, 3) := by decide +kernel
theorem dX12_thrown_4 : decode cX12_thrown 4 = .ok (.ireturn, 1) := by decide +kernel
theorem dX12_isIn_0 : decode cX12_isIn 0 = .ok (.iload_n 0, 1) := by decide +kernel
theorem dX12_isIn_1 : decode cX12_isIn 1 = .ok (.iload_n 1, 1) := by decide +kernel
theorem dX12_isIn_2 : decode cX12_isIn 2 = .ok (.if_icmp .lt 12, 3) := by decide +kernel
theorem dX12_isIn_5 : decode cX12_isIn 5 = .ok (.iload_n 0, 1) := by decide +kernel
theorem dX12_isIn_6 : decode cX12_isIn 6 = .ok (.iload_n 2, 1) := by decide +kernel
theorem dX12_isIn_7 : decode cX12_isIn 7 = .ok (.if_icmp .gt 7, 3) := by decide +kernel
theorem dX12_isIn_10 : decode cX12_isIn 10 = .ok (.iconst 1, 1) := by decide +kernel
theorem dX12_isIn_11 : decode cX12_isIn 11 = .ok (.goto 4, 3) := by decide +kernel
theorem dX12_isIn_14 : decode cX12_isIn 14 = .ok (.iconst 0, 1) := by decide +kernel
theorem dX12_isIn_15 : decode cX12_isIn 15 = .ok (.ireturn, 1) := by decide +kernel
theorem dX12_lesser_0 : decode cX12_lesser 0 = .ok (.iload_n 0, 1) := by decide +kernel
theorem dX12_lesser_1 : decode cX12_lesser 1 = .ok (.iload_n 1, 1) := by decide +kernel
theorem dX12_lesser_2 : decode cX12_lesser 2 = .ok (.if_icmp .ge 7, 3) := by decide +kernel
theorem dX12_lesser_5 : decode cX12_lesser 5 = .ok (.iload_n 0, 1) := by decide +kernel
theorem dX12_lesser_6 : decode cX12_lesser 6 = .ok (.goto 4, 3) := by decide +kernel
theorem dX12_lesser_9 : decode cX12_lesser 9 = .ok (.iload_n 1, 1) := by decide +kernel
theorem dX12_lesser_10 : decode cX12_lesser 10 = .ok (.ireturn, 1) := by decide +kernel
theorem dX12_greater_0 : decode cX12_greater 0 = .ok (.iload_n 0, 1) := by decide +kernel
theorem dX12_greater_1 : decode cX12_greater 1 = .ok (.iload_n 1, 1) := by decide +kernel
theorem dX12_greater_2 : decode cX12_greater 2 = .ok (.if_icmp .le 7, 3) := by decide +kernel
theorem dX12_greater_5 : decode cX12_greater 5 = .ok (.iload_n 0, 1) := by decide +kernel
theorem dX12_greater_6 : decode cX12_greater 6 = .ok (.goto 4, 3) := by decide +kernel
theorem dX12_greater_9 : decode cX12_greater 9 = .ok (.iload_n 1, 1) := by decide +kernel
theorem dX12_greater_10 : decode cX12_greater 10 = .ok (.ireturn, 1) := by decide +kernel
theorem dX12_isOf_0 : decode cX12_isOf 0 = .ok (.iload_n 0, 1) := by decide +kernel
theorem dX12_isOf_1 : decode cX12_isOf 1 = .ok (.iload_n 1, 1) := by decide +kernel
theorem dX12_isOf_2 : decode cX12_isOf 2 = .ok (.ishr, 1) := by decide +kernel
theorem dX12_isOf_3 : decode cX12_isOf 3 = .ok (.iconst 1, 1) := by decide +kernel
theorem dX12_isOf_4 : decode cX12_isOf 4 = .ok (.iand, 1) := by decide +kernel
theorem dX12_isOf_5 : decode cX12_isOf 5 = .ok (.iconst 1, 1) := by decide +kernel
theorem dX12_isOf_6 : decode cX12_isOf 6 = .ok (.if_icmp .ne 7, 3) := by decide +kernel
theorem dX12_isOf_9 : decode cX12_isOf 9 = .ok (.iconst 1, 1) := by decide +kernel
theorem dX12_isOf_10 : decode cX12_isOf 10 = .ok (.goto 4, 3) := by decide +kernel
theorem dX12_isOf_13 : decode cX12_isOf 13 = .ok (.iconst 0, 1) := by decide +kernel
theorem dX12_isOf_14 : decode cX12_isOf 14 = .ok (.ireturn, 1) := by decide +kernel
theorem dX12_bits_0 : decode cX12_bits 0 = .ok (.iconst 0, 1) := by decide +kernel
theorem dX12_bits_1 : decode cX12_bits 1 = .ok (.istore_n 1, 1) := by decide +kernel
theorem dX12_bits_2 : decode cX12_bits 2 = .ok (.iconst 0, 1) := by decide +kernel
theorem dX12_bits_3 : decode cX12_bits 3 = .ok (.istore_n 2, 1) := by decide +kernel
theorem dX12_bits_4 : decode cX12_bits 4 = .ok (.iload_n 2, 1) := by decide +kernel
theorem dX12_bits_5 : decode cX12_bits 5 = .ok (.bipush 31, 2) := by decide +kernel
theorem dX12_bits_7 : decode cX12_bits 7 = .ok (.if_icmp .ge 17, 3) := by decide +kernel
theorem dX12_bits_10 : decode cX12_bits 10 = .ok (.iload_n 1, 1) := by decide +kernel
theorem dX12_bits_11 : decode cX12_bits 11 = .ok (.iload_n 0, 1) := by decide +kernel
theorem dX12_bits_12 : decode cX12_bits 12 = .ok (.iload_n 2, 1) := by decide +kernel
theorem dX12_bits_13 : decode cX12_bits 13 = .ok (.ishr, 1) := by decide +kernel
theorem dX12_bits_14 : decode cX12_bits 14 = .ok (.iconst 1, 1) := by decide +kernel
theorem dX12_bits_15 : decode cX12_bits 15 = .ok (.iand, 1) := by decide +kernel
theorem dX12_bits_16 : decode cX12_bits 16 = .ok (.iadd, 1) := by decide +kernel
theorem dX12_bits_17 : decode cX12_bits 17 = .ok (.istore_n 1, 1) := by decide +kernel
theorem dX12_bits_18 : decode cX12_bits 18 = .ok (.iinc 2 1, 3) := by decide +kernel
theorem dX12_bits_21 : decode cX12_bits 21 = .ok (.goto (-17), 3) := by decide +kernel
theorem dX12_bits_24 : decode cX12_bits 24 = .ok (.iload_n 1, 1) := by decide +kernel
theorem dX12_bits_25 : decode cX12_bits 25 = .ok (.ireturn, 1) := by decide +kernel
theorem dX12_of_0 : decode cX12_of 0 = .ok (.aload_n 0, 1) := by decide +kernel
theorem dX12_of_1 : decode cX12_of 1 = .ok (.getfield 7, 3) := by decide +kernel
theorem dX12_of_4 : decode cX12_of 4 = .ok (.bipush 9, 2) := by decide +kernel
theorem dX12_of_6 : decode cX12_of 6 = .ok (.bipush 11, 2) := by decide +kernel
theorem dX12_of_8 : decode cX12_of 8 = .ok (.iload_n 1, 1) := by decide +kernel
theorem dX12_of_9 : decode cX12_of 9 = .ok (.imul, 1) := by decide +kernel
theorem dX12_of_10 : decode cX12_of 10 = .ok (.iadd, 1) := by decide +kernel
theorem dX12_of_11 : decode cX12_of 11 = .ok (.iload_n 2, 1) := by decide +kernel
theorem dX12_of_12 : decode cX12_of 12 = .ok (.iadd, 1) := by decide +kernel
theorem dX12_of_13 : decode cX12_of 13 = .ok (.iaload, 1) := by decide +kernel
theorem dX12_of_14 : decode cX12_of 14 = .ok (.ireturn, 1) := by decide +kernel
theorem dX12_lays_0 : decode cX12_lays 0 = .ok (.aload_n 0, 1) := by decide +kernel
theorem dX12_lays_1 : decode cX12_lays 1 = .ok (.getfield 7, 3) := by decide +kernel
theorem dX12_lays_4 : decode cX12_lays 4 = .ok (.bipush 9, 2) := by decide +kernel
theorem dX12_lays_6 : decode cX12_lays 6 = .ok (.bipush 11, 2) := by decide +kernel
theorem dX12_lays_8 : decode cX12_lays 8 = .ok (.iload_n 1, 1) := by decide +kernel
theorem dX12_lays_9 : decode cX12_lays 9 = .ok (.imul, 1) := by decide +kernel
theorem dX12_lays_10 : decode cX12_lays 10 = .ok (.iadd, 1) := by decide +kernel
theorem dX12_lays_11 : decode cX12_lays 11 = .ok (.iload_n 2, 1) := by decide +kernel
theorem dX12_lays_12 : decode cX12_lays 12 = .ok (.iadd, 1) := by decide +kernel
theorem dX12_lays_13 : decode cX12_lays 13 = .ok (.iload_n 3, 1) := by decide +kernel
theorem dX12_lays_14 : decode cX12_lays 14 = .ok (.iastore, 1) := by decide +kernel
theorem dX12_lays_15 : decode cX12_lays 15 = .ok (.return_, 1) := by decide +kernel
set_option maxRecDepth 20000 in
theorem ggX12_isNode_X12_isIn : GoodIn wsX12_isNode wsX12_isIn := goodIn_r _ [5] (by decide +kernel) (by decide +kernel)
set_option maxRecDepth 20000 in
theorem gX12_isNode_X12_isIn : GoodIn wsX12_isNode (va_wsS RX12 62 yX12_isIn wsX12_isIn) := goodIn_app (goodIn_of _ (by decide +kernel)) ggX12_isNode_X12_isIn
theorem dX12_isNode_0 : decode cX12_isNode 0 = .ok (.iload_n 1, 1) := by decide +kernel
theorem dX12_isNode_1 : decode cX12_isNode 1 = .ok (.iconst 0, 1) := by decide +kernel
theorem dX12_isNode_2 : decode cX12_isNode 2 = .ok (.aload_n 0, 1) := by decide +kernel
theorem dX12_isNode_3 : decode cX12_isNode 3 = .ok (.getfield 7, 3) := by decide +kernel
theorem dX12_isNode_6 : decode cX12_isNode 6 = .ok (.iconst 3, 1) := by decide +kernel
theorem dX12_isNode_7 : decode cX12_isNode 7 = .ok (.iaload, 1) := by decide +kernel
theorem dX12_isNode_8 : decode cX12_isNode 8 = .ok (.iconst 1, 1) := by decide +kernel
theorem dX12_isNode_9 : decode cX12_isNode 9 = .ok (.isub, 1) := by decide +kernel
theorem dX12_isNode_10 : decode cX12_isNode 10 = .ok (.invokestatic 62, 3) := by decide +kernel
theorem dX12_isNode_13 : decode cX12_isNode 13 = .ok (.ireturn, 1) := by decide +kernel
set_option maxRecDepth 20000 in
theorem ggX12_isActive_X12_of : GoodIn wsX12_isActive wsX12_of := goodIn_r _ [5, 6, 7, 8, 9, 10, 11, 12, 13, 14, 15, 16, 17, 18, 19, 20, 21, 22, 23, 24, 25, 26, 27, 28, 29, 30, 31, 32, 33, 34, 35, 36] (by decide +kernel) (by decide +kernel)
set_option maxRecDepth 20000 in
theorem gX12_isActive_X12_of : GoodIn wsX12_isActive (wsV RX12 66 RX12 yX12_of wsX12_of) := goodIn_app (goodIn_of _ (by decide +kernel)) ggX12_isActive_X12_of
theorem dX12_isActive_0 : decode cX12_isActive 0 = .ok (.aload_n 0, 1) := by decide +kernel
theorem dX12_isActive_1 : decode cX12_isActive 1 = .ok (.iload_n 1, 1) := by decide +kernel
theorem dX12_isActive_2 : decode cX12_isActive 2 = .ok (.iconst 3, 1) := by decide +kernel
theorem dX12_isActive_3 : decode cX12_isActive 3 = .ok (.invokevirtual 66, 3) := by decide +kernel
theorem dX12_isActive_6 : decode cX12_isActive 6 = .ok (.iconst 2, 1) := by decide +kernel
theorem dX12_isActive_7 : decode cX12_isActive 7 = .ok (.if_icmp .ne 7, 3) := by decide +kernel
theorem dX12_isActive_10 : decode cX12_isActive 10 = .ok (.iconst 1, 1) := by decide +kernel
theorem dX12_isActive_11 : decode cX12_isActive 11 = .ok (.goto 4, 3) := by decide +kernel
theorem dX12_isActive_14 : decode cX12_isActive 14 = .ok (.iconst 0, 1) := by decide +kernel
theorem dX12_isActive_15 : decode cX12_isActive 15 = .ok (.ireturn, 1) := by decide +kernel
set_option maxRecDepth 20000 in
theorem ggX12_held_X12_lesser : GoodIn wsX12_held wsX12_lesser := goodIn_r _ [4] (by decide +kernel) (by decide +kernel)
set_option maxRecDepth 20000 in
theorem gX12_held_X12_lesser : GoodIn wsX12_held (va_wsS RX12 70 yX12_lesser wsX12_lesser) := goodIn_app (goodIn_of _ (by decide +kernel)) ggX12_held_X12_lesser
set_option maxRecDepth 20000 in
theorem ggX12_held_X12_greater : GoodIn wsX12_held wsX12_greater := goodIn_r _ [7] (by decide +kernel) (by decide +kernel)
set_option maxRecDepth 20000 in
theorem gX12_held_X12_greater : GoodIn wsX12_held (va_wsS RX12 73 yX12_greater wsX12_greater) := goodIn_app (goodIn_of _ (by decide +kernel)) ggX12_held_X12_greater
theorem dX12_held_0 : decode cX12_held 0 = .ok (.iload_n 1, 1) := by decide +kernel
theorem dX12_held_1 : decode cX12_held 1 = .ok (.ineg, 1) := by decide +kernel
theorem dX12_held_2 : decode cX12_held 2 = .ok (.iload_n 1, 1) := by decide +kernel
theorem dX12_held_3 : decode cX12_held 3 = .ok (.iload_n 0, 1) := by decide +kernel
theorem dX12_held_4 : decode cX12_held 4 = .ok (.invokestatic 70, 3) := by decide +kernel
theorem dX12_held_7 : decode cX12_held 7 = .ok (.invokestatic 73, 3) := by decide +kernel
theorem dX12_held_10 : decode cX12_held 10 = .ok (.ireturn, 1) := by decide +kernel
theorem dX12_sign_0 : decode cX12_sign 0 = .ok (.iload_n 0, 1) := by decide +kernel
theorem dX12_sign_1 : decode cX12_sign 1 = .ok (.ifCond .ge 8, 3) := by decide +kernel
theorem dX12_sign_4 : decode cX12_sign 4 = .ok (.iload_n 0, 1) := by decide +kernel
theorem dX12_sign_5 : decode cX12_sign 5 = .ok (.ineg, 1) := by decide +kernel
theorem dX12_sign_6 : decode cX12_sign 6 = .ok (.goto 4, 3) := by decide +kernel
theorem dX12_sign_9 : decode cX12_sign 9 = .ok (.iload_n 0, 1) := by decide +kernel
theorem dX12_sign_10 : decode cX12_sign 10 = .ok (.ireturn, 1) := by decide +kernel
set_option maxRecDepth 20000 in
theorem ggX12_inState_X12_of : GoodIn wsX12_inState wsX12_of := goodIn_r _ [6, 1, 7, 8, 9, 10, 11, 12, 13, 14, 15, 16, 17, 18, 19, 20, 21, 22, 23, 24, 25, 26, 27, 28, 29, 30, 31, 32, 33, 34, 35, 36] (by decide +kernel) (by decide +kernel)
set_option maxRecDepth 20000 in
theorem gX12_inState_X12_of : GoodIn wsX12_inState (wsV RX12 66 RX12 yX12_of wsX12_of) := goodIn_app (goodIn_of _ (by decide +kernel)) ggX12_inState_X12_of
theorem dX12_inState_0 : decode cX12_inState 0 = .ok (.iconst 0, 1) := by decide +kernel
theorem dX12_inState_1 : decode cX12_inState 1 = .ok (.istore_n 2, 1) := by decide +kernel
theorem dX12_inState_2 : decode cX12_inState 2 = .ok (.iconst 0, 1) := by decide +kernel
theorem dX12_inState_3 : decode cX12_inState 3 = .ok (.istore_n 3, 1) := by decide +kernel
theorem dX12_inState_4 : decode cX12_inState 4 = .ok (.iload_n 3, 1) := by decide +kernel
theorem dX12_inState_5 : decode cX12_inState 5 = .ok (.aload_n 0, 1) := by decide +kernel
theorem dX12_inState_6 : decode cX12_inState 6 = .ok (.getfield 7, 3) := by decide +kernel
theorem dX12_inState_9 : decode cX12_inState 9 = .ok (.iconst 3, 1) := by decide +kernel
theorem dX12_inState_10 : decode cX12_inState 10 = .ok (.iaload, 1) := by decide +kernel
theorem dX12_inState_11 : decode cX12_inState 11 = .ok (.if_icmp .ge 29, 3) := by decide +kernel
theorem dX12_inState_14 : decode cX12_inState 14 = .ok (.iload_n 2, 1) := by decide +kernel
theorem dX12_inState_15 : decode cX12_inState 15 = .ok (.aload_n 0, 1) := by decide +kernel
theorem dX12_inState_16 : decode cX12_inState 16 = .ok (.iload_n 3, 1) := by decide +kernel
theorem dX12_inState_17 : decode cX12_inState 17 = .ok (.iconst 3, 1) := by decide +kernel
theorem dX12_inState_18 : decode cX12_inState 18 = .ok (.invokevirtual 66, 3) := by decide +kernel
theorem dX12_inState_21 : decode cX12_inState 21 = .ok (.iload_n 1, 1) := by decide +kernel
theorem dX12_inState_22 : decode cX12_inState 22 = .ok (.if_icmp .ne 9, 3) := by decide +kernel
theorem dX12_inState_25 : decode cX12_inState 25 = .ok (.iconst 1, 1) := by decide +kernel
theorem dX12_inState_26 : decode cX12_inState 26 = .ok (.iload_n 3, 1) := by decide +kernel
theorem dX12_inState_27 : decode cX12_inState 27 = .ok (.ishl, 1) := by decide +kernel
theorem dX12_inState_28 : decode cX12_inState 28 = .ok (.goto 4, 3) := by decide +kernel
theorem dX12_inState_31 : decode cX12_inState 31 = .ok (.iconst 0, 1) := by decide +kernel
theorem dX12_inState_32 : decode cX12_inState 32 = .ok (.ior, 1) := by decide +kernel
theorem dX12_inState_33 : decode cX12_inState 33 = .ok (.istore_n 2, 1) := by decide +kernel
theorem dX12_inState_34 : decode cX12_inState 34 = .ok (.iinc 3 1, 3) := by decide +kernel
theorem dX12_inState_37 : decode cX12_inState 37 = .ok (.goto (-33), 3) := by decide +kernel
theorem dX12_inState_40 : decode cX12_inState 40 = .ok (.iload_n 2, 1) := by decide +kernel
theorem dX12_inState_41 : decode cX12_inState 41 = .ok (.ireturn, 1) := by decide +kernel
theorem dX12_feed_0 : decode cX12_feed 0 = .ok (.aload_n 0, 1) := by decide +kernel
theorem dX12_feed_1 : decode cX12_feed 1 = .ok (.iconst 0, 1) := by decide +kernel
theorem dX12_feed_2 : decode cX12_feed 2 = .ok (.putfield 59, 3) := by decide +kernel
theorem dX12_feed_5 : decode cX12_feed 5 = .ok (.aload_n 0, 1) := by decide +kernel
theorem dX12_feed_6 : decode cX12_feed 6 = .ok (.getfield 76, 3) := by decide +kernel
theorem dX12_feed_9 : decode cX12_feed 9 = .ok (.bipush 20, 2) := by decide +kernel
theorem dX12_feed_11 : decode cX12_feed 11 = .ok (.iadd, 1) := by decide +kernel
theorem dX12_feed_12 : decode cX12_feed 12 = .ok (.sipush 400, 3) := by decide +kernel
theorem dX12_feed_15 : decode cX12_feed 15 = .ok (.if_icmp .le 5, 3) := by decide +kernel
theorem dX12_feed_18 : decode cX12_feed 18 = .ok (.iconst (-1), 1) := by decide +kernel
theorem dX12_feed_19 : decode cX12_feed 19 = .ok (.ireturn, 1) := by decide +kernel
theorem dX12_feed_20 : decode cX12_feed 20 = .ok (.iconst 0, 1) := by decide +kernel
theorem dX12_feed_21 : decode cX12_feed 21 = .ok (.istore 6, 2) := by decide +kernel
theorem dX12_feed_23 : decode cX12_feed 23 = .ok (.iload 6, 2) := by decide +kernel
theorem dX12_feed_25 : decode cX12_feed 25 = .ok (.bipush 20, 2) := by decide +kernel
theorem dX12_feed_27 : decode cX12_feed 27 = .ok (.if_icmp .ge 93, 3) := by decide +kernel
theorem dX12_feed_30 : decode cX12_feed 30 = .ok (.iload 6, 2) := by decide +kernel
theorem dX12_feed_32 : decode cX12_feed 32 = .ok (.iconst 4, 1) := by decide +kernel
theorem dX12_feed_33 : decode cX12_feed 33 = .ok (.if_icmp .ge 7, 3) := by decide +kernel
theorem dX12_feed_36 : decode cX12_feed 36 = .ok (.iload_n 1, 1) := by decide +kernel
theorem dX12_feed_37 : decode cX12_feed 37 = .ok (.goto 39, 3) := by decide +kernel
theorem dX12_feed_40 : decode cX12_feed 40 = .ok (.iload 6, 2) := by decide +kernel
theorem dX12_feed_42 : decode cX12_feed 42 = .ok (.bipush 8, 2) := by decide +kernel
theorem dX12_feed_44 : decode cX12_feed 44 = .ok (.if_icmp .ge 7, 3) := by decide +kernel
theorem dX12_feed_47 : decode cX12_feed 47 = .ok (.iload_n 2, 1) := by decide +kernel
theorem dX12_feed_48 : decode cX12_feed 48 = .ok (.goto 28, 3) := by decide +kernel
theorem dX12_feed_51 : decode cX12_feed 51 = .ok (.iload 6, 2) := by decide +kernel
theorem dX12_feed_53 : decode cX12_feed 53 = .ok (.bipush 12, 2) := by decide +kernel
theorem dX12_feed_55 : decode cX12_feed 55 = .ok (.if_icmp .ge 7, 3) := by decide +kernel
theorem dX12_feed_58 : decode cX12_feed 58 = .ok (.iload_n 3, 1) := by decide +kernel
theorem dX12_feed_59 : decode cX12_feed 59 = .ok (.goto 17, 3) := by decide +kernel
theorem dX12_feed_62 : decode cX12_feed 62 = .ok (.iload 6, 2) := by decide +kernel
theorem dX12_feed_64 : decode cX12_feed 64 = .ok (.bipush 16, 2) := by decide +kernel
theorem dX12_feed_66 : decode cX12_feed 66 = .ok (.if_icmp .ge 8, 3) := by decide +kernel
theorem dX12_feed_69 : decode cX12_feed 69 = .ok (.iload 4, 2) := by decide +kernel
theorem dX12_feed_71 : decode cX12_feed 71 = .ok (.goto 5, 3) := by decide +kernel
theorem dX12_feed_74 : decode cX12_feed 74 = .ok (.iload 5, 2) := by decide +kernel
theorem dX12_feed_76 : decode cX12_feed 76 = .ok (.istore 7, 2) := by decide +kernel
theorem dX12_feed_78 : decode cX12_feed 78 = .ok (.aload_n 0, 1) := by decide +kernel
theorem dX12_feed_79 : decode cX12_feed 79 = .ok (.getfield 22, 3) := by decide +kernel
theorem dX12_feed_82 : decode cX12_feed 82 = .ok (.aload_n 0, 1) := by decide +kernel
theorem dX12_feed_83 : decode cX12_feed 83 = .ok (.getfield 76, 3) := by decide +kernel
theorem dX12_feed_86 : decode cX12_feed 86 = .ok (.iload 7, 2) := by decide +kernel
theorem dX12_feed_88 : decode cX12_feed 88 = .ok (.bipush 24, 2) := by decide +kernel
theorem dX12_feed_90 : decode cX12_feed 90 = .ok (.bipush 8, 2) := by decide +kernel
theorem dX12_feed_92 : decode cX12_feed 92 = .ok (.iload 6, 2) := by decide +kernel
theorem dX12_feed_94 : decode cX12_feed 94 = .ok (.iconst 4, 1) := by decide +kernel
theorem dX12_feed_95 : decode cX12_feed 95 = .ok (.irem, 1) := by decide +kernel
theorem dX12_feed_96 : decode cX12_feed 96 = .ok (.imul, 1) := by decide +kernel
theorem dX12_feed_97 : decode cX12_feed 97 = .ok (.isub, 1) := by decide +kernel
theorem dX12_feed_98 : decode cX12_feed 98 = .ok (.iushr, 1) := by decide +kernel
theorem dX12_feed_99 : decode cX12_feed 99 = .ok (.sipush 255, 3) := by decide +kernel
theorem dX12_feed_102 : decode cX12_feed 102 = .ok (.iand, 1) := by decide +kernel
theorem dX12_feed_103 : decode cX12_feed 103 = .ok (.iastore, 1) := by decide +kernel
theorem dX12_feed_104 : decode cX12_feed 104 = .ok (.aload_n 0, 1) := by decide +kernel
theorem dX12_feed_105 : decode cX12_feed 105 = .ok (.dup, 1) := by decide +kernel
theorem dX12_feed_106 : decode cX12_feed 106 = .ok (.getfield 76, 3) := by decide +kernel
theorem dX12_feed_109 : decode cX12_feed 109 = .ok (.iconst 1, 1) := by decide +kernel
theorem dX12_feed_110 : decode cX12_feed 110 = .ok (.iadd, 1) := by decide +kernel
theorem dX12_feed_111 : decode cX12_feed 111 = .ok (.putfield 76, 3) := by decide +kernel
theorem dX12_feed_114 : decode cX12_feed 114 = .ok (.iinc 6 1, 3) := by decide +kernel
theorem dX12_feed_117 : decode cX12_feed 117 = .ok (.goto (-94), 3) := by decide +kernel
theorem dX12_feed_120 : decode cX12_feed 120 = .ok (.aload_n 0, 1) := by decide +kernel
theorem dX12_feed_121 : decode cX12_feed 121 = .ok (.getfield 76, 3) := by decide +kernel
theorem dX12_feed_124 : decode cX12_feed 124 = .ok (.ireturn, 1) := by decide +kernel
set_option maxRecDepth 20000 in
theorem ggX12_end_X12_isIn : GoodIn wsX12_end wsX12_isIn := goodIn_r _ [6] (by decide +kernel) (by decide +kernel)
set_option maxRecDepth 20000 in
theorem gX12_end_X12_isIn : GoodIn wsX12_end (va_wsS RX12 62 yX12_isIn wsX12_isIn) := goodIn_app (goodIn_of _ (by decide +kernel)) ggX12_end_X12_isIn
theorem dX12_end_0 : decode cX12_end 0 = .ok (.aload_n 0, 1) := by decide +kernel
theorem dX12_end_1 : decode cX12_end 1 = .ok (.iconst 0, 1) := by decide +kernel
theorem dX12_end_2 : decode cX12_end 2 = .ok (.putfield 59, 3) := by decide +kernel
theorem dX12_end_5 : decode cX12_end 5 = .ok (.iload_n 1, 1) := by decide +kernel
theorem dX12_end_6 : decode cX12_end 6 = .ok (.iconst 0, 1) := by decide +kernel
theorem dX12_end_7 : decode cX12_end 7 = .ok (.aload_n 0, 1) := by decide +kernel
theorem dX12_end_8 : decode cX12_end 8 = .ok (.getfield 76, 3) := by decide +kernel
theorem dX12_end_11 : decode cX12_end 11 = .ok (.invokestatic 62, 3) := by decide +kernel
theorem dX12_end_14 : decode cX12_end 14 = .ok (.ifCond .ne 5, 3) := by decide +kernel
theorem dX12_end_17 : decode cX12_end 17 = .ok (.iconst 0, 1) := by decide +kernel
theorem dX12_end_18 : decode cX12_end 18 = .ok (.ireturn, 1) := by decide +kernel
theorem dX12_end_19 : decode cX12_end 19 = .ok (.aload_n 0, 1) := by decide +kernel
theorem dX12_end_20 : decode cX12_end 20 = .ok (.iload_n 1, 1) := by decide +kernel
theorem dX12_end_21 : decode cX12_end 21 = .ok (.putfield 76, 3) := by decide +kernel
theorem dX12_end_24 : decode cX12_end 24 = .ok (.iconst 1, 1) := by decide +kernel
theorem dX12_end_25 : decode cX12_end 25 = .ok (.ireturn, 1) := by decide +kernel
theorem dX12_letter_0 : decode cX12_letter 0 = .ok (.aload_n 0, 1) := by decide +kernel
theorem dX12_letter_1 : decode cX12_letter 1 = .ok (.getfield 79, 3) := by decide +kernel
theorem dX12_letter_4 : decode cX12_letter 4 = .ok (.iconst (-1), 1) := by decide +kernel
theorem dX12_letter_5 : decode cX12_letter 5 = .ok (.if_icmp .ne 12, 3) := by decide +kernel
theorem dX12_letter_8 : decode cX12_letter 8 = .ok (.aload_n 0, 1) := by decide +kernel
theorem dX12_letter_9 : decode cX12_letter 9 = .ok (.getfield 22, 3) := by decide +kernel
theorem dX12_letter_12 : decode cX12_letter 12 = .ok (.iload_n 1, 1) := by decide +kernel
theorem dX12_letter_13 : decode cX12_letter 13 = .ok (.iaload, 1) := by decide +kernel
theorem dX12_letter_14 : decode cX12_letter 14 = .ok (.goto 14, 3) := by decide +kernel
theorem dX12_letter_17 : decode cX12_letter 17 = .ok (.aload_n 0, 1) := by decide +kernel
theorem dX12_letter_18 : decode cX12_letter 18 = .ok (.getfield 7, 3) := by decide +kernel
theorem dX12_letter_21 : decode cX12_letter 21 = .ok (.aload_n 0, 1) := by decide +kernel
theorem dX12_letter_22 : decode cX12_letter 22 = .ok (.getfield 79, 3) := by decide +kernel
theorem dX12_letter_25 : decode cX12_letter 25 = .ok (.iload_n 1, 1) := by decide +kernel
theorem dX12_letter_26 : decode cX12_letter 26 = .ok (.iadd, 1) := by decide +kernel
theorem dX12_letter_27 : decode cX12_letter 27 = .ok (.iaload, 1) := by decide +kernel
theorem dX12_letter_28 : decode cX12_letter 28 = .ok (.ireturn, 1) := by decide +kernel
set_option maxRecDepth 20000 in
theorem ggX12_skip_X12_letter : GoodIn wsX12_skip wsX12_letter := goodIn_r _ [7, 8, 9, 10, 11, 12, 13, 14, 15, 16, 17, 18, 19, 20, 21, 22, 23, 24, 25, 26, 27, 28, 29, 30, 31, 32, 33, 34, 35, 36, 37, 38, 39, 40] (by decide +kernel) (by decide +kernel)
set_option maxRecDepth 20000 in
theorem gX12_skip_X12_letter : GoodIn wsX12_skip (wsV RX12 88 RX12 yX12_letter wsX12_letter) := goodIn_app (goodIn_of _ (by decide +kernel)) ggX12_skip_X12_letter
theorem dX12_skip_0 : decode cX12_skip 0 = .ok (.aload_n 0, 1) := by decide +kernel
theorem dX12_skip_1 : decode cX12_skip 1 = .ok (.getfield 82, 3) := by decide +kernel
theorem dX12_skip_4 : decode cX12_skip 4 = .ok (.aload_n 0, 1) := by decide +kernel
theorem dX12_skip_5 : decode cX12_skip 5 = .ok (.getfield 85, 3) := by decide +kernel
theorem dX12_skip_8 : decode cX12_skip 8 = .ok (.if_icmp .ge 29, 3) := by decide +kernel
theorem dX12_skip_11 : decode cX12_skip 11 = .ok (.aload_n 0, 1) := by decide +kernel
theorem dX12_skip_12 : decode cX12_skip 12 = .ok (.aload_n 0, 1) := by decide +kernel
theorem dX12_skip_13 : decode cX12_skip 13 = .ok (.getfield 82, 3) := by decide +kernel
theorem dX12_skip_16 : decode cX12_skip 16 = .ok (.invokevirtual 88, 3) := by decide +kernel
theorem dX12_skip_19 : decode cX12_skip 19 = .ok (.bipush 32, 2) := by decide +kernel
theorem dX12_skip_21 : decode cX12_skip 21 = .ok (.if_icmp .ne 16, 3) := by decide +kernel
theorem dX12_skip_24 : decode cX12_skip 24 = .ok (.aload_n 0, 1) := by decide +kernel
theorem dX12_skip_25 : decode cX12_skip 25 = .ok (.dup, 1) := by decide +kernel
theorem dX12_skip_26 : decode cX12_skip 26 = .ok (.getfield 82, 3) := by decide +kernel
theorem dX12_skip_29 : decode cX12_skip 29 = .ok (.iconst 1, 1) := by decide +kernel
theorem dX12_skip_30 : decode cX12_skip 30 = .ok (.iadd, 1) := by decide +kernel
theorem dX12_skip_31 : decode cX12_skip 31 = .ok (.putfield 82, 3) := by decide +kernel
theorem dX12_skip_34 : decode cX12_skip 34 = .ok (.goto (-34), 3) := by decide +kernel
theorem dX12_skip_37 : decode cX12_skip 37 = .ok (.return_, 1) := by decide +kernel
set_option maxRecDepth 20000 in
theorem ggX12_isSign_X12_skip : GoodIn wsX12_isSign wsX12_skip := goodIn_r _ [7, 1, 2, 8, 9, 10, 6, 11, 12, 13, 14, 15, 16, 17, 18, 19, 20, 21, 22, 23, 24, 25, 26, 27, 28, 29, 30, 31, 32, 33, 34, 35, 36, 37, 38, 39, 40, 41, 42, 43, 44] (by decide +kernel) (by decide +kernel)
set_option maxRecDepth 20000 in
theorem gX12_isSign_X12_skip : GoodIn wsX12_isSign (wsV RX12 92 RX12 yX12_skip wsX12_skip) := goodIn_app (goodIn_of _ (by decide +kernel)) ggX12_isSign_X12_skip
set_option maxRecDepth 20000 in
theorem ggX12_isSign_X12_letter : GoodIn wsX12_isSign wsX12_letter := goodIn_r _ [11, 12, 13, 14, 15, 16, 17, 18, 19, 20, 21, 22, 23, 24, 25, 26, 27, 28, 29, 30, 31, 32, 33, 34, 35, 36, 37, 38, 39, 40, 41, 42, 43, 44] (by decide +kernel) (by decide +kernel)
set_option maxRecDepth 20000 in
theorem gX12_isSign_X12_letter : GoodIn wsX12_isSign (wsV RX12 88 RX12 yX12_letter wsX12_letter) := goodIn_app (goodIn_of _ (by decide +kernel)) ggX12_isSign_X12_letter
theorem dX12_isSign_0 : decode cX12_isSign 0 = .ok (.aload_n 0, 1) := by decide +kernel
theorem dX12_isSign_1 : decode cX12_isSign 1 = .ok (.invokevirtual 92, 3) := by decide +kernel
theorem dX12_isSign_4 : decode cX12_isSign 4 = .ok (.aload_n 0, 1) := by decide +kernel
theorem dX12_isSign_5 : decode cX12_isSign 5 = .ok (.getfield 82, 3) := by decide +kernel
theorem dX12_isSign_8 : decode cX12_isSign 8 = .ok (.aload_n 0, 1) := by decide +kernel
theorem dX12_isSign_9 : decode cX12_isSign 9 = .ok (.getfield 85, 3) := by decide +kernel
theorem dX12_isSign_12 : decode cX12_isSign 12 = .ok (.if_icmp .ge 19, 3) := by decide +kernel
theorem dX12_isSign_15 : decode cX12_isSign 15 = .ok (.aload_n 0, 1) := by decide +kernel
theorem dX12_isSign_16 : decode cX12_isSign 16 = .ok (.aload_n 0, 1) := by decide +kernel
theorem dX12_isSign_17 : decode cX12_isSign 17 = .ok (.getfield 82, 3) := by decide +kernel
theorem dX12_isSign_20 : decode cX12_isSign 20 = .ok (.invokevirtual 88, 3) := by decide +kernel
theorem dX12_isSign_23 : decode cX12_isSign 23 = .ok (.iload_n 1, 1) := by decide +kernel
theorem dX12_isSign_24 : decode cX12_isSign 24 = .ok (.if_icmp .ne 7, 3) := by decide +kernel
theorem dX12_isSign_27 : decode cX12_isSign 27 = .ok (.iconst 1, 1) := by decide +kernel
theorem dX12_isSign_28 : decode cX12_isSign 28 = .ok (.goto 4, 3) := by decide +kernel
theorem dX12_isSign_31 : decode cX12_isSign 31 = .ok (.iconst 0, 1) := by decide +kernel
theorem dX12_isSign_32 : decode cX12_isSign 32 = .ok (.ireturn, 1) := by decide +kernel
set_option maxRecDepth 20000 in
theorem ggX12_has_X12_skip : GoodIn wsX12_has wsX12_skip := goodIn_r _ [7, 1, 2, 8, 9, 10, 6, 11, 12, 13, 14, 67, 68, 69, 70, 71, 72, 73, 74, 75, 76, 77, 78, 79, 80, 81, 82, 83, 84, 85, 86, 87, 88, 89, 90, 91, 92, 93, 94, 95, 96] (by decide +kernel) (by decide +kernel)
set_option maxRecDepth 20000 in
theorem gX12_has_X12_skip : GoodIn wsX12_has (wsV RX12 92 RX12 yX12_skip wsX12_skip) := goodIn_app (goodIn_of _ (by decide +kernel)) ggX12_has_X12_skip
set_option maxRecDepth 20000 in
theorem ggX12_has_X12_letter : GoodIn wsX12_has wsX12_letter := goodIn_r _ [11, 12, 13, 14, 67, 68, 69, 70, 71, 72, 73, 74, 75, 76, 77, 78, 79, 80, 81, 82, 83, 84, 85, 86, 87, 88, 89, 90, 91, 92, 93, 94, 95, 96] (by decide +kernel) (by decide +kernel)
set_option maxRecDepth 20000 in
theorem gX12_has_X12_letter : GoodIn wsX12_has (wsV RX12 88 RX12 yX12_letter wsX12_letter) := goodIn_app (goodIn_of _ (by decide +kernel)) ggX12_has_X12_letter
set_option maxRecDepth 20000 in
theorem ggX12_has_X12_isIn : GoodIn wsX12_has wsX12_isIn := goodIn_r _ [17] (by decide +kernel) (by decide +kernel)
set_option maxRecDepth 20000 in
theorem gX12_has_X12_isIn : GoodIn wsX12_has (va_wsS RX12 62 yX12_isIn wsX12_isIn) := goodIn_app (goodIn_of _ (by decide +kernel)) ggX12_has_X12_isIn
set_option maxRecDepth 20000 in
theorem ggX12_has_J0_length_8abf5 : GoodIn wsX12_has wsJ0_length_8abf5 := goodIn_r _ [22, 23, 24, 25, 26, 21, 27, 28, 29] (by decide +kernel) (by decide +kernel)
set_option maxRecDepth 20000 in
theorem gX12_has_J0_length_8abf5 : GoodIn wsX12_has (wsV RX12 95 RJ0 yJ0_length_8abf5 wsJ0_length_8abf5) := goodIn_app (goodIn_of _ (by decide +kernel)) ggX12_has_J0_length_8abf5
set_option maxRecDepth 20000 in
theorem ggX12_has_J0_charAt_5068e : GoodIn wsX12_has wsJ0_charAt_5068e := goodIn_r _ [33, 23, 34, 35, 36, 21, 37, 28, 29, 38, 39, 40, 41, 42, 43, 44, 45, 46, 47, 48, 49, 50, 51, 52, 53, 54, 55, 56, 57, 58, 59, 60, 61, 62, 63, 64, 65, 66] (by decide +kernel) (by decide +kernel)
set_option maxRecDepth 20000 in
theorem gX12_has_J0_charAt_5068e : GoodIn wsX12_has (wsV RX12 101 RJ0 yJ0_charAt_5068e wsJ0_charAt_5068e) := goodIn_app (goodIn_of _ (by decide +kernel)) ggX12_has_J0_charAt_5068e
theorem dX12_has_0 : decode cX12_has 0 = .ok (.aload_n 0, 1) := by decide +kernel
theorem dX12_has_1 : decode cX12_has 1 = .ok (.invokevirtual 92, 3) := by decide +kernel
theorem dX12_has_4 : decode cX12_has 4 = .ok (.aload_n 0, 1) := by decide +kernel
theorem dX12_has_5 : decode cX12_has 5 = .ok (.getfield 82, 3) := by decide +kernel
theorem dX12_has_8 : decode cX12_has 8 = .ok (.istore_n 2, 1) := by decide +kernel
theorem dX12_has_9 : decode cX12_has 9 = .ok (.iload_n 2, 1) := by decide +kernel
theorem dX12_has_10 : decode cX12_has 10 = .ok (.aload_n 0, 1) := by decide +kernel
theorem dX12_has_11 : decode cX12_has 11 = .ok (.getfield 85, 3) := by decide +kernel
theorem dX12_has_14 : decode cX12_has 14 = .ok (.if_icmp .ge 24, 3) := by decide +kernel
theorem dX12_has_17 : decode cX12_has 17 = .ok (.aload_n 0, 1) := by decide +kernel
theorem dX12_has_18 : decode cX12_has 18 = .ok (.iload_n 2, 1) := by decide +kernel
theorem dX12_has_19 : decode cX12_has 19 = .ok (.invokevirtual 88, 3) := by decide +kernel
theorem dX12_has_22 : decode cX12_has 22 = .ok (.bipush 97, 2) := by decide +kernel
theorem dX12_has_24 : decode cX12_has 24 = .ok (.bipush 122, 2) := by decide +kernel
theorem dX12_has_26 : decode cX12_has 26 = .ok (.invokestatic 62, 3) := by decide +kernel
theorem dX12_has_29 : decode cX12_has 29 = .ok (.ifCond .eq 9, 3) := by decide +kernel
theorem dX12_has_32 : decode cX12_has 32 = .ok (.iinc 2 1, 3) := by decide +kernel
theorem dX12_has_35 : decode cX12_has 35 = .ok (.goto (-26), 3) := by decide +kernel
theorem dX12_has_38 : decode cX12_has 38 = .ok (.iload_n 2, 1) := by decide +kernel
theorem dX12_has_39 : decode cX12_has 39 = .ok (.aload_n 0, 1) := by decide +kernel
theorem dX12_has_40 : decode cX12_has 40 = .ok (.getfield 82, 3) := by decide +kernel
theorem dX12_has_43 : decode cX12_has 43 = .ok (.isub, 1) := by decide +kernel
theorem dX12_has_44 : decode cX12_has 44 = .ok (.aload_n 1, 1) := by decide +kernel
theorem dX12_has_45 : decode cX12_has 45 = .ok (.invokevirtual 95, 3) := by decide +kernel
theorem dX12_has_48 : decode cX12_has 48 = .ok (.if_icmp .eq 5, 3) := by decide +kernel
theorem dX12_has_51 : decode cX12_has 51 = .ok (.iconst 0, 1) := by decide +kernel
theorem dX12_has_52 : decode cX12_has 52 = .ok (.ireturn, 1) := by decide +kernel
theorem dX12_has_53 : decode cX12_has 53 = .ok (.iconst 0, 1) := by decide +kernel
theorem dX12_has_54 : decode cX12_has 54 = .ok (.istore_n 3, 1) := by decide +kernel
theorem dX12_has_55 : decode cX12_has 55 = .ok (.iload_n 3, 1) := by decide +kernel
theorem dX12_has_56 : decode cX12_has 56 = .ok (.aload_n 1, 1) := by decide +kernel
theorem dX12_has_57 : decode cX12_has 57 = .ok (.invokevirtual 95, 3) := by decide +kernel
theorem dX12_has_60 : decode cX12_has 60 = .ok (.if_icmp .ge 29, 3) := by decide +kernel
theorem dX12_has_63 : decode cX12_has 63 = .ok (.aload_n 0, 1) := by decide +kernel
theorem dX12_has_64 : decode cX12_has 64 = .ok (.aload_n 0, 1) := by decide +kernel
theorem dX12_has_65 : decode cX12_has 65 = .ok (.getfield 82, 3) := by decide +kernel
theorem dX12_has_68 : decode cX12_has 68 = .ok (.iload_n 3, 1) := by decide +kernel
theorem dX12_has_69 : decode cX12_has 69 = .ok (.iadd, 1) := by decide +kernel
theorem dX12_has_70 : decode cX12_has 70 = .ok (.invokevirtual 88, 3) := by decide +kernel
theorem dX12_has_73 : decode cX12_has 73 = .ok (.aload_n 1, 1) := by decide +kernel
theorem dX12_has_74 : decode cX12_has 74 = .ok (.iload_n 3, 1) := by decide +kernel
theorem dX12_has_75 : decode cX12_has 75 = .ok (.invokevirtual 101, 3) := by decide +kernel
theorem dX12_has_78 : decode cX12_has 78 = .ok (.if_icmp .eq 5, 3) := by decide +kernel
theorem dX12_has_81 : decode cX12_has 81 = .ok (.iconst 0, 1) := by decide +kernel
theorem dX12_has_82 : decode cX12_has 82 = .ok (.ireturn, 1) := by decide +kernel
theorem dX12_has_83 : decode cX12_has 83 = .ok (.iinc 3 1, 3) := by decide +kernel
theorem dX12_has_86 : decode cX12_has 86 = .ok (.goto (-31), 3) := by decide +kernel
theorem dX12_has_89 : decode cX12_has 89 = .ok (.aload_n 0, 1) := by decide +kernel
theorem dX12_has_90 : decode cX12_has 90 = .ok (.iload_n 2, 1) := by decide +kernel
theorem dX12_has_91 : decode cX12_has 91 = .ok (.putfield 82, 3) := by decide +kernel
theorem dX12_has_94 : decode cX12_has 94 = .ok (.iconst 1, 1) := by decide +kernel
theorem dX12_has_95 : decode cX12_has 95 = .ok (.ireturn, 1) := by decide +kernel
theorem dX12_wrong_0 : decode cX12_wrong 0 = .ok (.aload_n 0, 1) := by decide +kernel
theorem dX12_wrong_1 : decode cX12_wrong 1 = .ok (.getfield 25, 3) := by decide +kernel
theorem dX12_wrong_4 : decode cX12_wrong 4 = .ok (.iconst (-1), 1) := by decide +kernel
theorem dX12_wrong_5 : decode cX12_wrong 5 = .ok (.if_icmp .ne 8, 3) := by decide +kernel
theorem dX12_wrong_8 : decode cX12_wrong 8 = .ok (.aload_n 0, 1) := by decide +kernel
theorem dX12_wrong_9 : decode cX12_wrong 9 = .ok (.iload_n 1, 1) := by decide +kernel
theorem dX12_wrong_10 : decode cX12_wrong 10 = .ok (.putfield 25, 3) := by decide +kernel
theorem dX12_wrong_13 : decode cX12_wrong 13 = .ok (.return_, 1) := by decide +kernel
set_option maxRecDepth 20000 in
theorem ggX12_here_X12_skip : GoodIn wsX12_here wsX12_skip := goodIn_r _ [6, 1, 7, 8, 9, 10, 5, 11, 12, 13, 14, 15, 16, 17, 18, 19, 20, 21, 22, 23, 24, 25, 26, 27, 28, 29, 30, 31, 32, 33, 34, 35, 36, 37, 38, 39, 40, 41, 42, 43, 44] (by decide +kernel) (by decide +kernel)
set_option maxRecDepth 20000 in
theorem gX12_here_X12_skip : GoodIn wsX12_here (wsV RX12 92 RX12 yX12_skip wsX12_skip) := goodIn_app (goodIn_of _ (by decide +kernel)) ggX12_here_X12_skip
theorem dX12_here_0 : decode cX12_here 0 = .ok (.aload_n 0, 1) := by decide +kernel
theorem dX12_here_1 : decode cX12_here 1 = .ok (.invokevirtual 92, 3) := by decide +kernel
theorem dX12_here_4 : decode cX12_here 4 = .ok (.aload_n 0, 1) := by decide +kernel
theorem dX12_here_5 : decode cX12_here 5 = .ok (.getfield 82, 3) := by decide +kernel
theorem dX12_here_8 : decode cX12_here 8 = .ok (.ireturn, 1) := by decide +kernel
set_option maxRecDepth 20000 in
theorem ggX12_figures_X12_here : GoodIn wsX12_figures wsX12_here := goodIn_r _ [8, 2, 9, 10, 11, 7, 12, 3, 13, 14, 15, 16, 17, 18, 19, 27, 28, 29, 30, 31, 32, 33, 34, 35, 36, 37, 38, 39, 40, 41, 42, 43, 44, 45, 46, 47, 48, 49, 50, 51, 52, 53, 54, 55, 56] (by decide +kernel) (by decide +kernel)
set_option maxRecDepth 20000 in
theorem gX12_figures_X12_here : GoodIn wsX12_figures (wsV RX12 105 RX12 yX12_here wsX12_here) := goodIn_app (goodIn_of _ (by decide +kernel)) ggX12_figures_X12_here
set_option maxRecDepth 20000 in
theorem ggX12_figures_X12_letter : GoodIn wsX12_figures wsX12_letter := goodIn_r _ [16, 17, 18, 19, 27, 28, 29, 30, 31, 32, 33, 34, 35, 36, 37, 38, 39, 40, 41, 42, 43, 44, 45, 46, 47, 48, 49, 50, 51, 52, 53, 54, 55, 56] (by decide +kernel) (by decide +kernel)
set_option maxRecDepth 20000 in
theorem gX12_figures_X12_letter : GoodIn wsX12_figures (wsV RX12 88 RX12 yX12_letter wsX12_letter) := goodIn_app (goodIn_of _ (by decide +kernel)) ggX12_figures_X12_letter
set_option maxRecDepth 20000 in
theorem ggX12_figures_X12_isIn : GoodIn wsX12_figures wsX12_isIn := goodIn_r _ [22] (by decide +kernel) (by decide +kernel)
set_option maxRecDepth 20000 in
theorem gX12_figures_X12_isIn : GoodIn wsX12_figures (va_wsS RX12 62 yX12_isIn wsX12_isIn) := goodIn_app (goodIn_of _ (by decide +kernel)) ggX12_figures_X12_isIn
set_option maxRecDepth 20000 in
theorem ggX12_figures_X12_wrong : GoodIn wsX12_figures wsX12_wrong := goodIn_r _ [26, 1, 27, 28, 29, 30, 31, 32, 33, 34, 35, 36, 37, 38, 39, 40, 41, 42, 43, 44, 45, 46, 47, 48, 49, 50, 51, 52, 53, 54, 55, 56] (by decide +kernel) (by decide +kernel)
set_option maxRecDepth 20000 in
theorem gX12_figures_X12_wrong : GoodIn wsX12_figures (wsV RX12 108 RX12 yX12_wrong wsX12_wrong) := goodIn_app (goodIn_of _ (by decide +kernel)) ggX12_figures_X12_wrong
theorem dX12_figures_0 : decode cX12_figures 0 = .ok (.aload_n 0, 1) := by decide +kernel
theorem dX12_figures_1 : decode cX12_figures 1 = .ok (.getfield 25, 3) := by decide +kernel
theorem dX12_figures_4 : decode cX12_figures 4 = .ok (.iconst (-1), 1) := by decide +kernel
theorem dX12_figures_5 : decode cX12_figures 5 = .ok (.if_icmp .eq 5, 3) := by decide +kernel
theorem dX12_figures_8 : decode cX12_figures 8 = .ok (.iconst 0, 1) := by decide +kernel
theorem dX12_figures_9 : decode cX12_figures 9 = .ok (.ireturn, 1) := by decide +kernel
theorem dX12_figures_10 : decode cX12_figures 10 = .ok (.aload_n 0, 1) := by decide +kernel
theorem dX12_figures_11 : decode cX12_figures 11 = .ok (.invokevirtual 105, 3) := by decide +kernel
theorem dX12_figures_14 : decode cX12_figures 14 = .ok (.istore_n 3, 1) := by decide +kernel
theorem dX12_figures_15 : decode cX12_figures 15 = .ok (.iconst 0, 1) := by decide +kernel
theorem dX12_figures_16 : decode cX12_figures 16 = .ok (.istore 4, 2) := by decide +kernel
theorem dX12_figures_18 : decode cX12_figures 18 = .ok (.aload_n 0, 1) := by decide +kernel
theorem dX12_figures_19 : decode cX12_figures 19 = .ok (.getfield 82, 3) := by decide +kernel
theorem dX12_figures_22 : decode cX12_figures 22 = .ok (.aload_n 0, 1) := by decide +kernel
theorem dX12_figures_23 : decode cX12_figures 23 = .ok (.getfield 85, 3) := by decide +kernel
theorem dX12_figures_26 : decode cX12_figures 26 = .ok (.if_icmp .ge 63, 3) := by decide +kernel
theorem dX12_figures_29 : decode cX12_figures 29 = .ok (.aload_n 0, 1) := by decide +kernel
theorem dX12_figures_30 : decode cX12_figures 30 = .ok (.aload_n 0, 1) := by decide +kernel
theorem dX12_figures_31 : decode cX12_figures 31 = .ok (.getfield 82, 3) := by decide +kernel
theorem dX12_figures_34 : decode cX12_figures 34 = .ok (.invokevirtual 88, 3) := by decide +kernel
theorem dX12_figures_37 : decode cX12_figures 37 = .ok (.bipush 48, 2) := by decide +kernel
theorem dX12_figures_39 : decode cX12_figures 39 = .ok (.bipush 57, 2) := by decide +kernel
theorem dX12_figures_41 : decode cX12_figures 41 = .ok (.invokestatic 62, 3) := by decide +kernel
theorem dX12_figures_44 : decode cX12_figures 44 = .ok (.ifCond .eq 45, 3) := by decide +kernel
theorem dX12_figures_47 : decode cX12_figures 47 = .ok (.aload_n 0, 1) := by decide +kernel
theorem dX12_figures_48 : decode cX12_figures 48 = .ok (.getfield 82, 3) := by decide +kernel
theorem dX12_figures_51 : decode cX12_figures 51 = .ok (.iload_n 3, 1) := by decide +kernel
theorem dX12_figures_52 : decode cX12_figures 52 = .ok (.isub, 1) := by decide +kernel
theorem dX12_figures_53 : decode cX12_figures 53 = .ok (.iconst 3, 1) := by decide +kernel
theorem dX12_figures_54 : decode cX12_figures 54 = .ok (.if_icmp .gt 35, 3) := by decide +kernel
theorem dX12_figures_57 : decode cX12_figures 57 = .ok (.bipush 10, 2) := by decide +kernel
theorem dX12_figures_59 : decode cX12_figures 59 = .ok (.iload 4, 2) := by decide +kernel
theorem dX12_figures_61 : decode cX12_figures 61 = .ok (.imul, 1) := by decide +kernel
theorem dX12_figures_62 : decode cX12_figures 62 = .ok (.aload_n 0, 1) := by decide +kernel
theorem dX12_figures_63 : decode cX12_figures 63 = .ok (.aload_n 0, 1) := by decide +kernel
theorem dX12_figures_64 : decode cX12_figures 64 = .ok (.getfield 82, 3) := by decide +kernel
theorem dX12_figures_67 : decode cX12_figures 67 = .ok (.invokevirtual 88, 3) := by decide +kernel
theorem dX12_figures_70 : decode cX12_figures 70 = .ok (.iadd, 1) := by decide +kernel
theorem dX12_figures_71 : decode cX12_figures 71 = .ok (.bipush 48, 2) := by decide +kernel
theorem dX12_figures_73 : decode cX12_figures 73 = .ok (.isub, 1) := by decide +kernel
theorem dX12_figures_74 : decode cX12_figures 74 = .ok (.istore 4, 2) := by decide +kernel
theorem dX12_figures_76 : decode cX12_figures 76 = .ok (.aload_n 0, 1) := by decide +kernel
theorem dX12_figures_77 : decode cX12_figures 77 = .ok (.dup, 1) := by decide +kernel
theorem dX12_figures_78 : decode cX12_figures 78 = .ok (.getfield 82, 3) := by decide +kernel
theorem dX12_figures_81 : decode cX12_figures 81 = .ok (.iconst 1, 1) := by decide +kernel
theorem dX12_figures_82 : decode cX12_figures 82 = .ok (.iadd, 1) := by decide +kernel
theorem dX12_figures_83 : decode cX12_figures 83 = .ok (.putfield 82, 3) := by decide +kernel
theorem dX12_figures_86 : decode cX12_figures 86 = .ok (.goto (-68), 3) := by decide +kernel
theorem dX12_figures_89 : decode cX12_figures 89 = .ok (.aload_n 0, 1) := by decide +kernel
theorem dX12_figures_90 : decode cX12_figures 90 = .ok (.getfield 82, 3) := by decide +kernel
theorem dX12_figures_93 : decode cX12_figures 93 = .ok (.iload_n 3, 1) := by decide +kernel
theorem dX12_figures_94 : decode cX12_figures 94 = .ok (.if_icmp .eq 25, 3) := by decide +kernel
theorem dX12_figures_97 : decode cX12_figures 97 = .ok (.aload_n 0, 1) := by decide +kernel
theorem dX12_figures_98 : decode cX12_figures 98 = .ok (.getfield 82, 3) := by decide +kernel
theorem dX12_figures_101 : decode cX12_figures 101 = .ok (.iload_n 3, 1) := by decide +kernel
theorem dX12_figures_102 : decode cX12_figures 102 = .ok (.isub, 1) := by decide +kernel
theorem dX12_figures_103 : decode cX12_figures 103 = .ok (.iconst 3, 1) := by decide +kernel
theorem dX12_figures_104 : decode cX12_figures 104 = .ok (.if_icmp .gt 15, 3) := by decide +kernel
theorem dX12_figures_107 : decode cX12_figures 107 = .ok (.iload 4, 2) := by decide +kernel
theorem dX12_figures_109 : decode cX12_figures 109 = .ok (.iload_n 1, 1) := by decide +kernel
theorem dX12_figures_110 : decode cX12_figures 110 = .ok (.if_icmp .lt 9, 3) := by decide +kernel
theorem dX12_figures_113 : decode cX12_figures 113 = .ok (.iload 4, 2) := by decide +kernel
theorem dX12_figures_115 : decode cX12_figures 115 = .ok (.iload_n 2, 1) := by decide +kernel
theorem dX12_figures_116 : decode cX12_figures 116 = .ok (.if_icmp .le 8, 3) := by decide +kernel
theorem dX12_figures_119 : decode cX12_figures 119 = .ok (.aload_n 0, 1) := by decide +kernel
theorem dX12_figures_120 : decode cX12_figures 120 = .ok (.iload_n 3, 1) := by decide +kernel
theorem dX12_figures_121 : decode cX12_figures 121 = .ok (.invokevirtual 108, 3) := by decide +kernel
theorem dX12_figures_124 : decode cX12_figures 124 = .ok (.iload 4, 2) := by decide +kernel
theorem dX12_figures_126 : decode cX12_figures 126 = .ok (.ireturn, 1) := by decide +kernel
set_option maxRecDepth 20000 in
theorem ggX12_signed_X12_has : GoodIn wsX12_signed wsX12_has := goodIn_r _ [6, 7, 8, 9, 10, 11, 5, 12, 13, 14, 15, 16, 17, 18, 19, 20, 21, 22, 23, 24, 25, 26, 27, 28, 29, 30, 31, 32, 33, 34, 35, 36, 37, 38, 39, 40, 41, 42, 43, 44, 45, 46, 47, 48, 49, 50, 51, 52, 53, 54, 55, 56, 57, 58, 59, 60, 61, 62, 63, 64, 65, 66, 67, 68, 69, 70, 71, 84, 85, 86, 87, 88, 89, 90, 91, 92, 93, 94, 95, 96, 97, 98, 99, 100, 101, 102, 103, 104, 105, 106, 107, 108, 109, 110, 111, 112, 113] (by decide +kernel) (by decide +kernel)
set_option maxRecDepth 20000 in
theorem gX12_signed_X12_has : GoodIn wsX12_signed (wsV RX12 112 RX12 yX12_has wsX12_has) := goodIn_app (goodIn_of _ (by decide +kernel)) ggX12_signed_X12_has
set_option maxRecDepth 20000 in
theorem ggX12_signed_X12_figures : GoodIn wsX12_signed wsX12_figures := goodIn_r _ [75, 1, 7, 8, 76, 77, 78, 5, 79, 9, 10, 11, 12, 13, 14, 15, 16, 17, 18, 19, 20, 21, 22, 80, 81, 82, 83, 84, 85, 86, 87, 88, 89, 90, 91, 92, 93, 94, 95, 96, 97, 98, 99, 100, 101, 102, 103, 104, 105, 106, 107, 108, 109, 110, 111, 112, 113] (by decide +kernel) (by decide +kernel)
set_option maxRecDepth 20000 in
theorem gX12_signed_X12_figures : GoodIn wsX12_signed (wsV RX12 116 RX12 yX12_figures wsX12_figures) := goodIn_app (goodIn_of _ (by decide +kernel)) ggX12_signed_X12_figures
theorem dX12_signed_0 : decode cX12_signed 0 = .ok (.aload_n 0, 1) := by decide +kernel
theorem dX12_signed_1 : decode cX12_signed 1 = .ok (.getfield 25, 3) := by decide +kernel
theorem dX12_signed_4 : decode cX12_signed 4 = .ok (.iconst (-1), 1) := by decide +kernel
theorem dX12_signed_5 : decode cX12_signed 5 = .ok (.if_icmp .eq 5, 3) := by decide +kernel
theorem dX12_signed_8 : decode cX12_signed 8 = .ok (.iconst 0, 1) := by decide +kernel
theorem dX12_signed_9 : decode cX12_signed 9 = .ok (.ireturn, 1) := by decide +kernel
theorem dX12_signed_10 : decode cX12_signed 10 = .ok (.aload_n 0, 1) := by decide +kernel
theorem dX12_signed_11 : decode cX12_signed 11 = .ok (.aload_n 1, 1) := by decide +kernel
theorem dX12_signed_12 : decode cX12_signed 12 = .ok (.invokevirtual 112, 3) := by decide +kernel
theorem dX12_signed_15 : decode cX12_signed 15 = .ok (.ifCond .eq 10, 3) := by decide +kernel
theorem dX12_signed_18 : decode cX12_signed 18 = .ok (.aload_n 0, 1) := by decide +kernel
theorem dX12_signed_19 : decode cX12_signed 19 = .ok (.iconst 0, 1) := by decide +kernel
theorem dX12_signed_20 : decode cX12_signed 20 = .ok (.iload_n 3, 1) := by decide +kernel
theorem dX12_signed_21 : decode cX12_signed 21 = .ok (.invokevirtual 116, 3) := by decide +kernel
theorem dX12_signed_24 : decode cX12_signed 24 = .ok (.ireturn, 1) := by decide +kernel
theorem dX12_signed_25 : decode cX12_signed 25 = .ok (.aload_n 0, 1) := by decide +kernel
theorem dX12_signed_26 : decode cX12_signed 26 = .ok (.aload_n 2, 1) := by decide +kernel
theorem dX12_signed_27 : decode cX12_signed 27 = .ok (.invokevirtual 112, 3) := by decide +kernel
theorem dX12_signed_30 : decode cX12_signed 30 = .ok (.ifCond .eq 13, 3) := by decide +kernel
theorem dX12_signed_33 : decode cX12_signed 33 = .ok (.aload_n 0, 1) := by decide +kernel
theorem dX12_signed_34 : decode cX12_signed 34 = .ok (.iconst 0, 1) := by decide +kernel
theorem dX12_signed_35 : decode cX12_signed 35 = .ok (.iload_n 3, 1) := by decide +kernel
theorem dX12_signed_36 : decode cX12_signed 36 = .ok (.invokevirtual 116, 3) := by decide +kernel
theorem dX12_signed_39 : decode cX12_signed 39 = .ok (.ineg, 1) := by decide +kernel
theorem dX12_signed_40 : decode cX12_signed 40 = .ok (.goto 4, 3) := by decide +kernel
theorem dX12_signed_43 : decode cX12_signed 43 = .ok (.iconst 0, 1) := by decide +kernel
theorem dX12_signed_44 : decode cX12_signed 44 = .ok (.ireturn, 1) := by decide +kernel
set_option maxRecDepth 20000 in
theorem ggX12_nodeLine_X12_wrong : GoodIn wsX12_nodeLine wsX12_wrong := goodIn_r _ [7, 2, 96, 97, 98, 99, 100, 101, 102, 103, 104, 105, 106, 107, 108, 109, 110, 111, 112, 113, 114, 115, 116, 117, 118, 119, 120, 121, 122, 123, 124, 125] (by decide +kernel) (by decide +kernel)
set_option maxRecDepth 20000 in
theorem gX12_nodeLine_X12_wrong : GoodIn wsX12_nodeLine (wsV RX12 108 RX12 yX12_wrong wsX12_wrong) := goodIn_app (goodIn_of _ (by decide +kernel)) ggX12_nodeLine_X12_wrong
set_option maxRecDepth 20000 in
theorem ggX12_nodeLine_X12_signed : GoodIn wsX12_nodeLine wsX12_signed := goodIn_r _ [11, 2, 12, 13, 14, 6, 15, 16, 17, 18, 19, 20, 21, 22, 23, 24, 25, 26, 27, 1, 28, 29, 30, 31, 32, 33, 34, 35, 36, 37, 38, 39, 40, 41, 42, 43, 44, 45, 46, 47, 48, 49, 50, 51, 52, 53, 54, 55, 56, 57, 58, 59, 60, 61, 62, 63, 64, 65, 66, 67, 68, 69, 70, 71, 72, 73, 74, 75, 76, 77, 78, 79, 80, 81, 82, 83, 84, 85, 86, 87, 3, 4, 5, 7, 96, 97, 98, 99, 100, 101, 102, 103, 104, 105, 106, 107, 108, 109, 110, 111, 112, 113, 114, 115, 116, 117, 118, 119, 120, 121, 122, 123, 124, 125] (by decide +kernel) (by decide +kernel)
set_option maxRecDepth 20000 in
theorem gX12_nodeLine_X12_signed : GoodIn wsX12_nodeLine (wsV RX12 123 RX12 yX12_signed wsX12_signed) := goodIn_app (goodIn_of _ (by decide +kernel)) ggX12_nodeLine_X12_signed
set_option maxRecDepth 20000 in
theorem ggX12_nodeLine_X12_has : GoodIn wsX12_nodeLine wsX12_has := goodIn_r _ [15, 16, 17, 18, 19, 20, 6, 21, 22, 23, 24, 25, 26, 27, 1, 28, 29, 30, 31, 32, 33, 34, 35, 36, 37, 38, 39, 40, 41, 42, 43, 44, 45, 46, 47, 48, 49, 50, 51, 52, 53, 54, 55, 56, 57, 58, 59, 60, 61, 62, 63, 64, 65, 66, 67, 68, 69, 70, 71, 72, 73, 74, 75, 76, 77, 78, 79, 96, 97, 98, 99, 100, 101, 102, 103, 104, 105, 106, 107, 108, 109, 110, 111, 112, 113, 114, 115, 116, 117, 118, 119, 120, 121, 122, 123, 124, 125] (by decide +kernel) (by decide +kernel)
set_option maxRecDepth 20000 in
theorem gX12_nodeLine_X12_has : GoodIn wsX12_nodeLine (wsV RX12 112 RX12 yX12_has wsX12_has) := goodIn_app (goodIn_of _ (by decide +kernel)) ggX12_nodeLine_X12_has
set_option maxRecDepth 20000 in
theorem ggX12_nodeLine_X12_figures : GoodIn wsX12_nodeLine wsX12_figures := goodIn_r _ [83, 2, 16, 17, 84, 85, 86, 6, 87, 18, 19, 20, 21, 22, 23, 24, 25, 26, 27, 1, 28, 29, 30, 3, 4, 5, 7, 96, 97, 98, 99, 100, 101, 102, 103, 104, 105, 106, 107, 108, 109, 110, 111, 112, 113, 114, 115, 116, 117, 118, 119, 120, 121, 122, 123, 124, 125] (by decide +kernel) (by decide +kernel)
set_option maxRecDepth 20000 in
theorem gX12_nodeLine_X12_figures : GoodIn wsX12_nodeLine (wsV RX12 116 RX12 yX12_figures wsX12_figures) := goodIn_app (goodIn_of _ (by decide +kernel)) ggX12_nodeLine_X12_figures
set_option maxRecDepth 20000 in
theorem ggX12_nodeLine_X12_joins : GoodIn wsX12_nodeLine wsX12_joins := goodIn_r _ [91, 1, 92, 93, 94, 6, 95, 96, 97, 98, 99, 100, 101, 102, 103, 104, 105, 106, 107, 108, 109, 110, 111, 112, 113, 114, 115, 116, 117, 118, 119, 120, 121, 122, 123, 124, 125] (by decide +kernel) (by decide +kernel)
set_option maxRecDepth 20000 in
theorem gX12_nodeLine_X12_joins : GoodIn wsX12_nodeLine (wsV RX12 143 RX12 yX12_joins wsX12_joins) := goodIn_app (goodIn_of _ (by decide +kernel)) ggX12_nodeLine_X12_joins
set_option maxRecDepth 20000 in
theorem ggX12_nodeLine_X12_lays : GoodIn wsX12_nodeLine wsX12_lays := goodIn_r _ [95, 1, 96, 97, 98, 99, 100, 101, 102, 103, 104, 105, 106, 107, 108, 109, 110, 111, 112, 113, 114, 115, 116, 117, 118, 119, 120, 121, 122, 123, 124, 125] (by decide +kernel) (by decide +kernel)
set_option maxRecDepth 20000 in
theorem gX12_nodeLine_X12_lays : GoodIn wsX12_nodeLine (wsV RX12 146 RX12 yX12_lays wsX12_lays) := goodIn_app (goodIn_of _ (by decide +kernel)) ggX12_nodeLine_X12_lays
theorem dX12_nodeLine_0 : decode cX12_nodeLine 0 = .ok (.aload_n 0, 1) := by decide +kernel
theorem dX12_nodeLine_1 : decode cX12_nodeLine 1 = .ok (.getfield 7, 3) := by decide +kernel
theorem dX12_nodeLine_4 : decode cX12_nodeLine 4 = .ok (.iconst 3, 1) := by decide +kernel
theorem dX12_nodeLine_5 : decode cX12_nodeLine 5 = .ok (.iaload, 1) := by decide +kernel
theorem dX12_nodeLine_6 : decode cX12_nodeLine 6 = .ok (.bipush 8, 2) := by decide +kernel
theorem dX12_nodeLine_8 : decode cX12_nodeLine 8 = .ok (.if_icmp .ne 8, 3) := by decide +kernel
theorem dX12_nodeLine_11 : decode cX12_nodeLine 11 = .ok (.aload_n 0, 1) := by decide +kernel
theorem dX12_nodeLine_12 : decode cX12_nodeLine 12 = .ok (.iload_n 1, 1) := by decide +kernel
theorem dX12_nodeLine_13 : decode cX12_nodeLine 13 = .ok (.invokevirtual 108, 3) := by decide +kernel
theorem dX12_nodeLine_16 : decode cX12_nodeLine 16 = .ok (.aload_n 0, 1) := by decide +kernel
theorem dX12_nodeLine_17 : decode cX12_nodeLine 17 = .ok (.getfield 25, 3) := by decide +kernel
theorem dX12_nodeLine_20 : decode cX12_nodeLine 20 = .ok (.iconst (-1), 1) := by decide +kernel
theorem dX12_nodeLine_21 : decode cX12_nodeLine 21 = .ok (.if_icmp .eq 4, 3) := by decide +kernel
theorem dX12_nodeLine_24 : decode cX12_nodeLine 24 = .ok (.return_, 1) := by decide +kernel
theorem dX12_nodeLine_25 : decode cX12_nodeLine 25 = .ok (.aload_n 0, 1) := by decide +kernel
theorem dX12_nodeLine_26 : decode cX12_nodeLine 26 = .ok (.ldc 119, 2) := by decide +kernel
theorem dX12_nodeLine_28 : decode cX12_nodeLine 28 = .ok (.ldc 121, 2) := by decide +kernel
theorem dX12_nodeLine_30 : decode cX12_nodeLine 30 = .ok (.sipush 999, 3) := by decide +kernel
theorem dX12_nodeLine_33 : decode cX12_nodeLine 33 = .ok (.invokevirtual 123, 3) := by decide +kernel
theorem dX12_nodeLine_36 : decode cX12_nodeLine 36 = .ok (.istore_n 2, 1) := by decide +kernel
theorem dX12_nodeLine_37 : decode cX12_nodeLine 37 = .ok (.aload_n 0, 1) := by decide +kernel
theorem dX12_nodeLine_38 : decode cX12_nodeLine 38 = .ok (.ldc 127, 2) := by decide +kernel
theorem dX12_nodeLine_40 : decode cX12_nodeLine 40 = .ok (.ldc 129, 2) := by decide +kernel
theorem dX12_nodeLine_42 : decode cX12_nodeLine 42 = .ok (.bipush 9, 2) := by decide +kernel
theorem dX12_nodeLine_44 : decode cX12_nodeLine 44 = .ok (.invokevirtual 123, 3) := by decide +kernel
theorem dX12_nodeLine_47 : decode cX12_nodeLine 47 = .ok (.istore_n 3, 1) := by decide +kernel
theorem dX12_nodeLine_48 : decode cX12_nodeLine 48 = .ok (.aload_n 0, 1) := by decide +kernel
theorem dX12_nodeLine_49 : decode cX12_nodeLine 49 = .ok (.getfield 25, 3) := by decide +kernel
theorem dX12_nodeLine_52 : decode cX12_nodeLine 52 = .ok (.iconst (-1), 1) := by decide +kernel
theorem dX12_nodeLine_53 : decode cX12_nodeLine 53 = .ok (.if_icmp .ne 22, 3) := by decide +kernel
theorem dX12_nodeLine_56 : decode cX12_nodeLine 56 = .ok (.aload_n 0, 1) := by decide +kernel
theorem dX12_nodeLine_57 : decode cX12_nodeLine 57 = .ok (.ldc 131, 2) := by decide +kernel
theorem dX12_nodeLine_59 : decode cX12_nodeLine 59 = .ok (.invokevirtual 112, 3) := by decide +kernel
theorem dX12_nodeLine_62 : decode cX12_nodeLine 62 = .ok (.ifCond .eq 13, 3) := by decide +kernel
theorem dX12_nodeLine_65 : decode cX12_nodeLine 65 = .ok (.aload_n 0, 1) := by decide +kernel
theorem dX12_nodeLine_66 : decode cX12_nodeLine 66 = .ok (.iconst 0, 1) := by decide +kernel
theorem dX12_nodeLine_67 : decode cX12_nodeLine 67 = .ok (.bipush 100, 2) := by decide +kernel
theorem dX12_nodeLine_69 : decode cX12_nodeLine 69 = .ok (.invokevirtual 116, 3) := by decide +kernel
theorem dX12_nodeLine_72 : decode cX12_nodeLine 72 = .ok (.goto 4, 3) := by decide +kernel
theorem dX12_nodeLine_75 : decode cX12_nodeLine 75 = .ok (.iconst 0, 1) := by decide +kernel
theorem dX12_nodeLine_76 : decode cX12_nodeLine 76 = .ok (.istore 4, 2) := by decide +kernel
theorem dX12_nodeLine_78 : decode cX12_nodeLine 78 = .ok (.iconst 0, 1) := by decide +kernel
theorem dX12_nodeLine_79 : decode cX12_nodeLine 79 = .ok (.istore 5, 2) := by decide +kernel
theorem dX12_nodeLine_81 : decode cX12_nodeLine 81 = .ok (.aload_n 0, 1) := by decide +kernel
theorem dX12_nodeLine_82 : decode cX12_nodeLine 82 = .ok (.getfield 25, 3) := by decide +kernel
theorem dX12_nodeLine_85 : decode cX12_nodeLine 85 = .ok (.iconst (-1), 1) := by decide +kernel
theorem dX12_nodeLine_86 : decode cX12_nodeLine 86 = .ok (.if_icmp .ne 45, 3) := by decide +kernel
theorem dX12_nodeLine_89 : decode cX12_nodeLine 89 = .ok (.aload_n 0, 1) := by decide +kernel
theorem dX12_nodeLine_90 : decode cX12_nodeLine 90 = .ok (.ldc 133, 2) := by decide +kernel
theorem dX12_nodeLine_92 : decode cX12_nodeLine 92 = .ok (.invokevirtual 112, 3) := by decide +kernel
theorem dX12_nodeLine_95 : decode cX12_nodeLine 95 = .ok (.ifCond .eq 7, 3) := by decide +kernel
theorem dX12_nodeLine_98 : decode cX12_nodeLine 98 = .ok (.iconst 1, 1) := by decide +kernel
theorem dX12_nodeLine_99 : decode cX12_nodeLine 99 = .ok (.goto 30, 3) := by decide +kernel
theorem dX12_nodeLine_102 : decode cX12_nodeLine 102 = .ok (.aload_n 0, 1) := by decide +kernel
theorem dX12_nodeLine_103 : decode cX12_nodeLine 103 = .ok (.ldc 135, 2) := by decide +kernel
theorem dX12_nodeLine_105 : decode cX12_nodeLine 105 = .ok (.invokevirtual 112, 3) := by decide +kernel
theorem dX12_nodeLine_108 : decode cX12_nodeLine 108 = .ok (.ifCond .eq 7, 3) := by decide +kernel
theorem dX12_nodeLine_111 : decode cX12_nodeLine 111 = .ok (.iconst 2, 1) := by decide +kernel
theorem dX12_nodeLine_112 : decode cX12_nodeLine 112 = .ok (.goto 17, 3) := by decide +kernel
theorem dX12_nodeLine_115 : decode cX12_nodeLine 115 = .ok (.aload_n 0, 1) := by decide +kernel
theorem dX12_nodeLine_116 : decode cX12_nodeLine 116 = .ok (.ldc 137, 2) := by decide +kernel
theorem dX12_nodeLine_118 : decode cX12_nodeLine 118 = .ok (.invokevirtual 112, 3) := by decide +kernel
theorem dX12_nodeLine_121 : decode cX12_nodeLine 121 = .ok (.ifCond .eq 7, 3) := by decide +kernel
theorem dX12_nodeLine_124 : decode cX12_nodeLine 124 = .ok (.iconst 3, 1) := by decide +kernel
theorem dX12_nodeLine_125 : decode cX12_nodeLine 125 = .ok (.goto 4, 3) := by decide +kernel
theorem dX12_nodeLine_128 : decode cX12_nodeLine 128 = .ok (.iconst 0, 1) := by decide +kernel
theorem dX12_nodeLine_129 : decode cX12_nodeLine 129 = .ok (.istore 5, 2) := by decide +kernel
theorem dX12_nodeLine_131 : decode cX12_nodeLine 131 = .ok (.iload 5, 2) := by decide +kernel
theorem dX12_nodeLine_133 : decode cX12_nodeLine 133 = .ok (.iconst 1, 1) := by decide +kernel
theorem dX12_nodeLine_134 : decode cX12_nodeLine 134 = .ok (.if_icmp .eq 9, 3) := by decide +kernel
theorem dX12_nodeLine_137 : decode cX12_nodeLine 137 = .ok (.iload 5, 2) := by decide +kernel
theorem dX12_nodeLine_139 : decode cX12_nodeLine 139 = .ok (.iconst 3, 1) := by decide +kernel
theorem dX12_nodeLine_140 : decode cX12_nodeLine 140 = .ok (.if_icmp .ne 13, 3) := by decide +kernel
theorem dX12_nodeLine_143 : decode cX12_nodeLine 143 = .ok (.aload_n 0, 1) := by decide +kernel
theorem dX12_nodeLine_144 : decode cX12_nodeLine 144 = .ok (.iconst 0, 1) := by decide +kernel
theorem dX12_nodeLine_145 : decode cX12_nodeLine 145 = .ok (.bipush 99, 2) := by decide +kernel
theorem dX12_nodeLine_147 : decode cX12_nodeLine 147 = .ok (.invokevirtual 116, 3) := by decide +kernel
theorem dX12_nodeLine_150 : decode cX12_nodeLine 150 = .ok (.goto 4, 3) := by decide +kernel
theorem dX12_nodeLine_153 : decode cX12_nodeLine 153 = .ok (.iconst 0, 1) := by decide +kernel
theorem dX12_nodeLine_154 : decode cX12_nodeLine 154 = .ok (.istore 6, 2) := by decide +kernel
theorem dX12_nodeLine_156 : decode cX12_nodeLine 156 = .ok (.iconst 1, 1) := by decide +kernel
theorem dX12_nodeLine_157 : decode cX12_nodeLine 157 = .ok (.istore 7, 2) := by decide +kernel
theorem dX12_nodeLine_159 : decode cX12_nodeLine 159 = .ok (.aload_n 0, 1) := by decide +kernel
theorem dX12_nodeLine_160 : decode cX12_nodeLine 160 = .ok (.getfield 25, 3) := by decide +kernel
theorem dX12_nodeLine_163 : decode cX12_nodeLine 163 = .ok (.iconst (-1), 1) := by decide +kernel
theorem dX12_nodeLine_164 : decode cX12_nodeLine 164 = .ok (.if_icmp .ne 32, 3) := by decide +kernel
theorem dX12_nodeLine_167 : decode cX12_nodeLine 167 = .ok (.aload_n 0, 1) := by decide +kernel
theorem dX12_nodeLine_168 : decode cX12_nodeLine 168 = .ok (.ldc 139, 2) := by decide +kernel
theorem dX12_nodeLine_170 : decode cX12_nodeLine 170 = .ok (.invokevirtual 112, 3) := by decide +kernel
theorem dX12_nodeLine_173 : decode cX12_nodeLine 173 = .ok (.ifCond .eq 7, 3) := by decide +kernel
theorem dX12_nodeLine_176 : decode cX12_nodeLine 176 = .ok (.iconst 0, 1) := by decide +kernel
theorem dX12_nodeLine_177 : decode cX12_nodeLine 177 = .ok (.goto 17, 3) := by decide +kernel
theorem dX12_nodeLine_180 : decode cX12_nodeLine 180 = .ok (.aload_n 0, 1) := by decide +kernel
theorem dX12_nodeLine_181 : decode cX12_nodeLine 181 = .ok (.ldc 141, 2) := by decide +kernel
theorem dX12_nodeLine_183 : decode cX12_nodeLine 183 = .ok (.invokevirtual 112, 3) := by decide +kernel
theorem dX12_nodeLine_186 : decode cX12_nodeLine 186 = .ok (.ifCond .eq 7, 3) := by decide +kernel
theorem dX12_nodeLine_189 : decode cX12_nodeLine 189 = .ok (.iconst 2, 1) := by decide +kernel
theorem dX12_nodeLine_190 : decode cX12_nodeLine 190 = .ok (.goto 4, 3) := by decide +kernel
theorem dX12_nodeLine_193 : decode cX12_nodeLine 193 = .ok (.iconst 1, 1) := by decide +kernel
theorem dX12_nodeLine_194 : decode cX12_nodeLine 194 = .ok (.istore 7, 2) := by decide +kernel
theorem dX12_nodeLine_196 : decode cX12_nodeLine 196 = .ok (.aload_n 0, 1) := by decide +kernel
theorem dX12_nodeLine_197 : decode cX12_nodeLine 197 = .ok (.getfield 25, 3) := by decide +kernel
theorem dX12_nodeLine_200 : decode cX12_nodeLine 200 = .ok (.iconst (-1), 1) := by decide +kernel
theorem dX12_nodeLine_201 : decode cX12_nodeLine 201 = .ok (.if_icmp .eq 4, 3) := by decide +kernel
theorem dX12_nodeLine_204 : decode cX12_nodeLine 204 = .ok (.return_, 1) := by decide +kernel
theorem dX12_nodeLine_205 : decode cX12_nodeLine 205 = .ok (.aload_n 0, 1) := by decide +kernel
theorem dX12_nodeLine_206 : decode cX12_nodeLine 206 = .ok (.getfield 7, 3) := by decide +kernel
theorem dX12_nodeLine_209 : decode cX12_nodeLine 209 = .ok (.iconst 3, 1) := by decide +kernel
theorem dX12_nodeLine_210 : decode cX12_nodeLine 210 = .ok (.iaload, 1) := by decide +kernel
theorem dX12_nodeLine_211 : decode cX12_nodeLine 211 = .ok (.istore 8, 2) := by decide +kernel
theorem dX12_nodeLine_213 : decode cX12_nodeLine 213 = .ok (.aload_n 0, 1) := by decide +kernel
theorem dX12_nodeLine_214 : decode cX12_nodeLine 214 = .ok (.iload_n 3, 1) := by decide +kernel
theorem dX12_nodeLine_215 : decode cX12_nodeLine 215 = .ok (.invokevirtual 143, 3) := by decide +kernel
theorem dX12_nodeLine_218 : decode cX12_nodeLine 218 = .ok (.aload_n 0, 1) := by decide +kernel
theorem dX12_nodeLine_219 : decode cX12_nodeLine 219 = .ok (.iload 8, 2) := by decide +kernel
theorem dX12_nodeLine_221 : decode cX12_nodeLine 221 = .ok (.iconst 0, 1) := by decide +kernel
theorem dX12_nodeLine_222 : decode cX12_nodeLine 222 = .ok (.iload_n 2, 1) := by decide +kernel
theorem dX12_nodeLine_223 : decode cX12_nodeLine 223 = .ok (.invokevirtual 146, 3) := by decide +kernel
theorem dX12_nodeLine_226 : decode cX12_nodeLine 226 = .ok (.aload_n 0, 1) := by decide +kernel
theorem dX12_nodeLine_227 : decode cX12_nodeLine 227 = .ok (.iload 8, 2) := by decide +kernel
theorem dX12_nodeLine_229 : decode cX12_nodeLine 229 = .ok (.bipush 8, 2) := by decide +kernel
theorem dX12_nodeLine_231 : decode cX12_nodeLine 231 = .ok (.iload 4, 2) := by decide +kernel
theorem dX12_nodeLine_233 : decode cX12_nodeLine 233 = .ok (.invokevirtual 146, 3) := by decide +kernel
theorem dX12_nodeLine_236 : decode cX12_nodeLine 236 = .ok (.aload_n 0, 1) := by decide +kernel
theorem dX12_nodeLine_237 : decode cX12_nodeLine 237 = .ok (.iload 8, 2) := by decide +kernel
theorem dX12_nodeLine_239 : decode cX12_nodeLine 239 = .ok (.bipush 9, 2) := by decide +kernel
theorem dX12_nodeLine_241 : decode cX12_nodeLine 241 = .ok (.iload 5, 2) := by decide +kernel
theorem dX12_nodeLine_243 : decode cX12_nodeLine 243 = .ok (.invokevirtual 146, 3) := by decide +kernel
theorem dX12_nodeLine_246 : decode cX12_nodeLine 246 = .ok (.aload_n 0, 1) := by decide +kernel
theorem dX12_nodeLine_247 : decode cX12_nodeLine 247 = .ok (.iload 8, 2) := by decide +kernel
theorem dX12_nodeLine_249 : decode cX12_nodeLine 249 = .ok (.bipush 10, 2) := by decide +kernel
theorem dX12_nodeLine_251 : decode cX12_nodeLine 251 = .ok (.iload 6, 2) := by decide +kernel
theorem dX12_nodeLine_253 : decode cX12_nodeLine 253 = .ok (.invokevirtual 146, 3) := by decide +kernel
theorem dX12_nodeLine_256 : decode cX12_nodeLine 256 = .ok (.aload_n 0, 1) := by decide +kernel
theorem dX12_nodeLine_257 : decode cX12_nodeLine 257 = .ok (.iload 8, 2) := by decide +kernel
theorem dX12_nodeLine_259 : decode cX12_nodeLine 259 = .ok (.iconst 3, 1) := by decide +kernel
theorem dX12_nodeLine_260 : decode cX12_nodeLine 260 = .ok (.iload 7, 2) := by decide +kernel
theorem dX12_nodeLine_262 : decode cX12_nodeLine 262 = .ok (.invokevirtual 146, 3) := by decide +kernel
theorem dX12_nodeLine_265 : decode cX12_nodeLine 265 = .ok (.iload 7, 2) := by decide +kernel
theorem dX12_nodeLine_267 : decode cX12_nodeLine 267 = .ok (.iconst 2, 1) := by decide +kernel
theorem dX12_nodeLine_268 : decode cX12_nodeLine 268 = .ok (.if_icmp .ne 14, 3) := by decide +kernel
theorem dX12_nodeLine_271 : decode cX12_nodeLine 271 = .ok (.aload_n 0, 1) := by decide +kernel
theorem dX12_nodeLine_272 : decode cX12_nodeLine 272 = .ok (.iload 8, 2) := by decide +kernel
theorem dX12_nodeLine_274 : decode cX12_nodeLine 274 = .ok (.iconst 5, 1) := by decide +kernel
theorem dX12_nodeLine_275 : decode cX12_nodeLine 275 = .ok (.iconst 1, 1) := by decide +kernel
theorem dX12_nodeLine_276 : decode cX12_nodeLine 276 = .ok (.iload 8, 2) := by decide +kernel
theorem dX12_nodeLine_278 : decode cX12_nodeLine 278 = .ok (.ishl, 1) := by decide +kernel
theorem dX12_nodeLine_279 : decode cX12_nodeLine 279 = .ok (.invokevirtual 146, 3) := by decide +kernel
theorem dX12_nodeLine_282 : decode cX12_nodeLine 282 = .ok (.return_, 1) := by decide +kernel
set_option maxRecDepth 20000 in
theorem ggX12_joins_X12_lays : GoodIn wsX12_joins wsX12_lays := goodIn_r _ [6, 1, 7, 8, 9, 10, 11, 12, 13, 14, 15, 16, 17, 18, 19, 20, 21, 22, 23, 24, 25, 26, 27, 28, 29, 30, 31, 32, 33, 34, 35, 36] (by decide +kernel) (by decide +kernel)
set_option maxRecDepth 20000 in
theorem gX12_joins_X12_lays : GoodIn wsX12_joins (wsV RX12 146 RX12 yX12_lays wsX12_lays) := goodIn_app (goodIn_of _ (by decide +kernel)) ggX12_joins_X12_lays
theorem dX12_joins_0 : decode cX12_joins 0 = .ok (.aload_n 0, 1) := by decide +kernel
theorem dX12_joins_1 : decode cX12_joins 1 = .ok (.getfield 7, 3) := by decide +kernel
theorem dX12_joins_4 : decode cX12_joins 4 = .ok (.iconst 3, 1) := by decide +kernel
theorem dX12_joins_5 : decode cX12_joins 5 = .ok (.iaload, 1) := by decide +kernel
theorem dX12_joins_6 : decode cX12_joins 6 = .ok (.istore_n 2, 1) := by decide +kernel
theorem dX12_joins_7 : decode cX12_joins 7 = .ok (.iconst 0, 1) := by decide +kernel
theorem dX12_joins_8 : decode cX12_joins 8 = .ok (.istore_n 3, 1) := by decide +kernel
theorem dX12_joins_9 : decode cX12_joins 9 = .ok (.iload_n 3, 1) := by decide +kernel
theorem dX12_joins_10 : decode cX12_joins 10 = .ok (.bipush 11, 2) := by decide +kernel
theorem dX12_joins_12 : decode cX12_joins 12 = .ok (.if_icmp .ge 16, 3) := by decide +kernel
theorem dX12_joins_15 : decode cX12_joins 15 = .ok (.aload_n 0, 1) := by decide +kernel
theorem dX12_joins_16 : decode cX12_joins 16 = .ok (.iload_n 2, 1) := by decide +kernel
theorem dX12_joins_17 : decode cX12_joins 17 = .ok (.iload_n 3, 1) := by decide +kernel
theorem dX12_joins_18 : decode cX12_joins 18 = .ok (.iconst 0, 1) := by decide +kernel
theorem dX12_joins_19 : decode cX12_joins 19 = .ok (.invokevirtual 146, 3) := by decide +kernel
theorem dX12_joins_22 : decode cX12_joins 22 = .ok (.iinc 3 1, 3) := by decide +kernel
theorem dX12_joins_25 : decode cX12_joins 25 = .ok (.goto (-16), 3) := by decide +kernel
theorem dX12_joins_28 : decode cX12_joins 28 = .ok (.aload_n 0, 1) := by decide +kernel
theorem dX12_joins_29 : decode cX12_joins 29 = .ok (.iload_n 2, 1) := by decide +kernel
theorem dX12_joins_30 : decode cX12_joins 30 = .ok (.iconst 1, 1) := by decide +kernel
theorem dX12_joins_31 : decode cX12_joins 31 = .ok (.iload_n 1, 1) := by decide +kernel
theorem dX12_joins_32 : decode cX12_joins 32 = .ok (.invokevirtual 146, 3) := by decide +kernel
theorem dX12_joins_35 : decode cX12_joins 35 = .ok (.aload_n 0, 1) := by decide +kernel
theorem dX12_joins_36 : decode cX12_joins 36 = .ok (.iload_n 2, 1) := by decide +kernel
theorem dX12_joins_37 : decode cX12_joins 37 = .ok (.iconst 3, 1) := by decide +kernel
theorem dX12_joins_38 : decode cX12_joins 38 = .ok (.iconst 1, 1) := by decide +kernel
theorem dX12_joins_39 : decode cX12_joins 39 = .ok (.invokevirtual 146, 3) := by decide +kernel
theorem dX12_joins_42 : decode cX12_joins 42 = .ok (.aload_n 0, 1) := by decide +kernel
theorem dX12_joins_43 : decode cX12_joins 43 = .ok (.iload_n 2, 1) := by decide +kernel
theorem dX12_joins_44 : decode cX12_joins 44 = .ok (.iconst 4, 1) := by decide +kernel
theorem dX12_joins_45 : decode cX12_joins 45 = .ok (.iconst 2, 1) := by decide +kernel
theorem dX12_joins_46 : decode cX12_joins 46 = .ok (.iload_n 2, 1) := by decide +kernel
theorem dX12_joins_47 : decode cX12_joins 47 = .ok (.iadd, 1) := by decide +kernel
theorem dX12_joins_48 : decode cX12_joins 48 = .ok (.invokevirtual 146, 3) := by decide +kernel
theorem dX12_joins_51 : decode cX12_joins 51 = .ok (.aload_n 0, 1) := by decide +kernel
theorem dX12_joins_52 : decode cX12_joins 52 = .ok (.getfield 7, 3) := by decide +kernel
theorem dX12_joins_55 : decode cX12_joins 55 = .ok (.iconst 3, 1) := by decide +kernel
theorem dX12_joins_56 : decode cX12_joins 56 = .ok (.dup2, 1) := by decide +kernel
theorem dX12_joins_57 : decode cX12_joins 57 = .ok (.iaload, 1) := by decide +kernel
theorem dX12_joins_58 : decode cX12_joins 58 = .ok (.iconst 1, 1) := by decide +kernel
theorem dX12_joins_59 : decode cX12_joins 59 = .ok (.iadd, 1) := by decide +kernel
theorem dX12_joins_60 : decode cX12_joins 60 = .ok (.iastore, 1) := by decide +kernel
theorem dX12_joins_61 : decode cX12_joins 61 = .ok (.return_, 1) := by decide +kernel
set_option maxRecDepth 20000 in
theorem ggX12_tells_X12_figures : GoodIn wsX12_tells wsX12_figures := goodIn_r _ [7, 1, 8, 9, 10, 11, 12, 6, 13, 14, 15, 16, 17, 18, 19, 20, 21, 22, 23, 2, 24, 25, 26, 27, 28, 29, 30, 31, 32, 33, 34, 35, 36, 37, 38, 39, 40, 41, 42, 43, 44, 45, 46, 47, 48, 49, 50, 51, 52, 53, 54, 55, 56, 57, 58, 59, 60] (by decide +kernel) (by decide +kernel)
set_option maxRecDepth 20000 in
theorem gX12_tells_X12_figures : GoodIn wsX12_tells (wsV RX12 116 RX12 yX12_figures wsX12_figures) := goodIn_app (goodIn_of _ (by decide +kernel)) ggX12_tells_X12_figures
theorem dX12_tells_0 : decode cX12_tells 0 = .ok (.aload_n 0, 1) := by decide +kernel
theorem dX12_tells_1 : decode cX12_tells 1 = .ok (.iload_n 2, 1) := by decide +kernel
theorem dX12_tells_2 : decode cX12_tells 2 = .ok (.iload_n 3, 1) := by decide +kernel
theorem dX12_tells_3 : decode cX12_tells 3 = .ok (.invokevirtual 116, 3) := by decide +kernel
theorem dX12_tells_6 : decode cX12_tells 6 = .ok (.istore 4, 2) := by decide +kernel
theorem dX12_tells_8 : decode cX12_tells 8 = .ok (.aload_n 0, 1) := by decide +kernel
theorem dX12_tells_9 : decode cX12_tells 9 = .ok (.getfield 25, 3) := by decide +kernel
theorem dX12_tells_12 : decode cX12_tells 12 = .ok (.iconst (-1), 1) := by decide +kernel
theorem dX12_tells_13 : decode cX12_tells 13 = .ok (.if_icmp .ne 11, 3) := by decide +kernel
theorem dX12_tells_16 : decode cX12_tells 16 = .ok (.aload_n 0, 1) := by decide +kernel
theorem dX12_tells_17 : decode cX12_tells 17 = .ok (.getfield 7, 3) := by decide +kernel
theorem dX12_tells_20 : decode cX12_tells 20 = .ok (.iload_n 1, 1) := by decide +kernel
theorem dX12_tells_21 : decode cX12_tells 21 = .ok (.iload 4, 2) := by decide +kernel
theorem dX12_tells_23 : decode cX12_tells 23 = .ok (.iastore, 1) := by decide +kernel
theorem dX12_tells_24 : decode cX12_tells 24 = .ok (.return_, 1) := by decide +kernel
set_option maxRecDepth 20000 in
theorem ggX12_clusterLine_X12_here : GoodIn wsX12_clusterLine wsX12_here := goodIn_r _ [6, 1, 7, 8, 9, 5, 10, 11, 12, 13, 14, 15, 16, 17, 18, 104, 105, 106, 107, 108, 109, 110, 111, 112, 113, 114, 115, 116, 117, 118, 119, 120, 121, 122, 123, 124, 125, 126, 127, 128, 129, 130, 131, 132, 133] (by decide +kernel) (by decide +kernel)
set_option maxRecDepth 20000 in
theorem gX12_clusterLine_X12_here : GoodIn wsX12_clusterLine (wsV RX12 105 RX12 yX12_here wsX12_here) := goodIn_app (goodIn_of _ (by decide +kernel)) ggX12_clusterLine_X12_here
set_option maxRecDepth 20000 in
theorem ggX12_clusterLine_X12_has : GoodIn wsX12_clusterLine wsX12_has := goodIn_r _ [22, 1, 11, 7, 8, 9, 5, 10, 12, 13, 14, 15, 16, 17, 18, 23, 24, 25, 26, 27, 28, 29, 30, 31, 32, 33, 34, 35, 36, 37, 38, 39, 40, 41, 42, 43, 44, 45, 46, 47, 48, 49, 50, 51, 52, 53, 54, 55, 56, 57, 58, 59, 60, 61, 62, 63, 64, 65, 66, 67, 68, 69, 70, 71, 72, 73, 74, 104, 105, 106, 107, 108, 109, 110, 111, 112, 113, 114, 115, 116, 117, 118, 119, 120, 121, 122, 123, 124, 125, 126, 127, 128, 129, 130, 131, 132, 133] (by decide +kernel) (by decide +kernel)
set_option maxRecDepth 20000 in
theorem gX12_clusterLine_X12_has : GoodIn wsX12_clusterLine (wsV RX12 112 RX12 yX12_has wsX12_has) := goodIn_app (goodIn_of _ (by decide +kernel)) ggX12_clusterLine_X12_has
set_option maxRecDepth 20000 in
theorem ggX12_clusterLine_X12_nodeLine : GoodIn wsX12_clusterLine wsX12_nodeLine := goodIn_r _ [78, 18, 79, 80, 81, 82, 5, 83, 84, 85, 86, 87, 19, 20, 21, 22, 1, 11, 7, 8, 9, 10, 12, 13, 14, 15, 16, 17, 23, 24, 25, 26, 27, 28, 29, 30, 31, 32, 33, 34, 35, 36, 37, 38, 39, 40, 41, 42, 43, 44, 45, 46, 47, 48, 49, 50, 51, 52, 53, 54, 55, 56, 57, 58, 59, 60, 61, 62, 63, 64, 65, 66, 67, 68, 69, 70, 71, 72, 73, 74, 88, 89, 90, 91, 2, 3, 4, 6, 92, 93, 94, 95, 96, 97, 98, 99, 104, 105, 106, 107, 108, 109, 110, 111, 112, 113, 114, 115, 116, 117, 118, 119, 120, 121, 122, 123, 124, 125, 126, 127, 128, 129, 130, 131, 132, 133] (by decide +kernel) (by decide +kernel)
set_option maxRecDepth 20000 in
theorem gX12_clusterLine_X12_nodeLine : GoodIn wsX12_clusterLine (wsV RX12 152 RX12 yX12_nodeLine wsX12_nodeLine) := goodIn_app (goodIn_of _ (by decide +kernel)) ggX12_clusterLine_X12_nodeLine
set_option maxRecDepth 20000 in
theorem ggX12_clusterLine_X12_tells : GoodIn wsX12_clusterLine wsX12_tells := goodIn_r _ [103, 79, 18, 88, 89, 90, 5, 91, 1, 11, 2, 3, 4, 6, 7, 8, 9, 10, 12, 13, 14, 15, 16, 17, 23, 24, 25, 80, 81, 82, 83, 104, 105, 106, 107, 108, 109, 110, 111, 112, 113, 114, 115, 116, 117, 118, 119, 120, 121, 122, 123, 124, 125, 126, 127, 128, 129, 130, 131, 132, 133] (by decide +kernel) (by decide +kernel)
set_option maxRecDepth 20000 in
theorem gX12_clusterLine_X12_tells : GoodIn wsX12_clusterLine (wsV RX12 157 RX12 yX12_tells wsX12_tells) := goodIn_app (goodIn_of _ (by decide +kernel)) ggX12_clusterLine_X12_tells
set_option maxRecDepth 20000 in
theorem ggX12_clusterLine_X12_wrong : GoodIn wsX12_clusterLine wsX12_wrong := goodIn_r _ [83, 79, 104, 105, 106, 107, 108, 109, 110, 111, 112, 113, 114, 115, 116, 117, 118, 119, 120, 121, 122, 123, 124, 125, 126, 127, 128, 129, 130, 131, 132, 133] (by decide +kernel) (by decide +kernel)
set_option maxRecDepth 20000 in
theorem gX12_clusterLine_X12_wrong : GoodIn wsX12_clusterLine (wsV RX12 108 RX12 yX12_wrong wsX12_wrong) := goodIn_app (goodIn_of _ (by decide +kernel)) ggX12_clusterLine_X12_wrong
theorem dX12_clusterLine_0 : decode cX12_clusterLine 0 = .ok (.aload_n 0, 1) := by decide +kernel
theorem dX12_clusterLine_1 : decode cX12_clusterLine 1 = .ok (.invokevirtual 105, 3) := by decide +kernel
theorem dX12_clusterLine_4 : decode cX12_clusterLine 4 = .ok (.istore_n 1, 1) := by decide +kernel
theorem dX12_clusterLine_5 : decode cX12_clusterLine 5 = .ok (.aload_n 0, 1) := by decide +kernel
theorem dX12_clusterLine_6 : decode cX12_clusterLine 6 = .ok (.ldc 150, 2) := by decide +kernel
theorem dX12_clusterLine_8 : decode cX12_clusterLine 8 = .ok (.invokevirtual 112, 3) := by decide +kernel
theorem dX12_clusterLine_11 : decode cX12_clusterLine 11 = .ok (.ifCond .eq 11, 3) := by decide +kernel
theorem dX12_clusterLine_14 : decode cX12_clusterLine 14 = .ok (.aload_n 0, 1) := by decide +kernel
theorem dX12_clusterLine_15 : decode cX12_clusterLine 15 = .ok (.iload_n 1, 1) := by decide +kernel
theorem dX12_clusterLine_16 : decode cX12_clusterLine 16 = .ok (.invokevirtual 152, 3) := by decide +kernel
theorem dX12_clusterLine_19 : decode cX12_clusterLine 19 = .ok (.goto 75, 3) := by decide +kernel
theorem dX12_clusterLine_22 : decode cX12_clusterLine 22 = .ok (.aload_n 0, 1) := by decide +kernel
theorem dX12_clusterLine_23 : decode cX12_clusterLine 23 = .ok (.ldc 155, 2) := by decide +kernel
theorem dX12_clusterLine_25 : decode cX12_clusterLine 25 = .ok (.invokevirtual 112, 3) := by decide +kernel
theorem dX12_clusterLine_28 : decode cX12_clusterLine 28 = .ok (.ifCond .eq 15, 3) := by decide +kernel
theorem dX12_clusterLine_31 : decode cX12_clusterLine 31 = .ok (.aload_n 0, 1) := by decide +kernel
theorem dX12_clusterLine_32 : decode cX12_clusterLine 32 = .ok (.iconst 4, 1) := by decide +kernel
theorem dX12_clusterLine_33 : decode cX12_clusterLine 33 = .ok (.iconst 1, 1) := by decide +kernel
theorem dX12_clusterLine_34 : decode cX12_clusterLine 34 = .ok (.sipush 999, 3) := by decide +kernel
theorem dX12_clusterLine_37 : decode cX12_clusterLine 37 = .ok (.invokevirtual 157, 3) := by decide +kernel
theorem dX12_clusterLine_40 : decode cX12_clusterLine 40 = .ok (.goto 54, 3) := by decide +kernel
theorem dX12_clusterLine_43 : decode cX12_clusterLine 43 = .ok (.aload_n 0, 1) := by decide +kernel
theorem dX12_clusterLine_44 : decode cX12_clusterLine 44 = .ok (.ldc 160, 2) := by decide +kernel
theorem dX12_clusterLine_46 : decode cX12_clusterLine 46 = .ok (.invokevirtual 112, 3) := by decide +kernel
theorem dX12_clusterLine_49 : decode cX12_clusterLine 49 = .ok (.ifCond .eq 15, 3) := by decide +kernel
theorem dX12_clusterLine_52 : decode cX12_clusterLine 52 = .ok (.aload_n 0, 1) := by decide +kernel
theorem dX12_clusterLine_53 : decode cX12_clusterLine 53 = .ok (.iconst 5, 1) := by decide +kernel
theorem dX12_clusterLine_54 : decode cX12_clusterLine 54 = .ok (.iconst 1, 1) := by decide +kernel
theorem dX12_clusterLine_55 : decode cX12_clusterLine 55 = .ok (.sipush 999, 3) := by decide +kernel
theorem dX12_clusterLine_58 : decode cX12_clusterLine 58 = .ok (.invokevirtual 157, 3) := by decide +kernel
theorem dX12_clusterLine_61 : decode cX12_clusterLine 61 = .ok (.goto 33, 3) := by decide +kernel
theorem dX12_clusterLine_64 : decode cX12_clusterLine 64 = .ok (.aload_n 0, 1) := by decide +kernel
theorem dX12_clusterLine_65 : decode cX12_clusterLine 65 = .ok (.ldc 162, 2) := by decide +kernel
theorem dX12_clusterLine_67 : decode cX12_clusterLine 67 = .ok (.invokevirtual 112, 3) := by decide +kernel
theorem dX12_clusterLine_70 : decode cX12_clusterLine 70 = .ok (.ifCond .eq 16, 3) := by decide +kernel
theorem dX12_clusterLine_73 : decode cX12_clusterLine 73 = .ok (.aload_n 0, 1) := by decide +kernel
theorem dX12_clusterLine_74 : decode cX12_clusterLine 74 = .ok (.bipush 6, 2) := by decide +kernel
theorem dX12_clusterLine_76 : decode cX12_clusterLine 76 = .ok (.iconst 0, 1) := by decide +kernel
theorem dX12_clusterLine_77 : decode cX12_clusterLine 77 = .ok (.sipush 999, 3) := by decide +kernel
theorem dX12_clusterLine_80 : decode cX12_clusterLine 80 = .ok (.invokevirtual 157, 3) := by decide +kernel
theorem dX12_clusterLine_83 : decode cX12_clusterLine 83 = .ok (.goto 11, 3) := by decide +kernel
theorem dX12_clusterLine_86 : decode cX12_clusterLine 86 = .ok (.aload_n 0, 1) := by decide +kernel
theorem dX12_clusterLine_87 : decode cX12_clusterLine 87 = .ok (.aload_n 0, 1) := by decide +kernel
theorem dX12_clusterLine_88 : decode cX12_clusterLine 88 = .ok (.getfield 82, 3) := by decide +kernel
theorem dX12_clusterLine_91 : decode cX12_clusterLine 91 = .ok (.invokevirtual 108, 3) := by decide +kernel
theorem dX12_clusterLine_94 : decode cX12_clusterLine 94 = .ok (.return_, 1) := by decide +kernel
theorem dX12_begins_0 : decode cX12_begins 0 = .ok (.aload_n 0, 1) := by decide +kernel
theorem dX12_begins_1 : decode cX12_begins 1 = .ok (.iconst (-1), 1) := by decide +kernel
theorem dX12_begins_2 : decode cX12_begins 2 = .ok (.putfield 25, 3) := by decide +kernel
theorem dX12_begins_5 : decode cX12_begins 5 = .ok (.aload_n 0, 1) := by decide +kernel
theorem dX12_begins_6 : decode cX12_begins 6 = .ok (.iconst (-1), 1) := by decide +kernel
theorem dX12_begins_7 : decode cX12_begins 7 = .ok (.putfield 79, 3) := by decide +kernel
theorem dX12_begins_10 : decode cX12_begins 10 = .ok (.aload_n 0, 1) := by decide +kernel
theorem dX12_begins_11 : decode cX12_begins 11 = .ok (.aload_n 0, 1) := by decide +kernel
theorem dX12_begins_12 : decode cX12_begins 12 = .ok (.getfield 76, 3) := by decide +kernel
theorem dX12_begins_15 : decode cX12_begins 15 = .ok (.putfield 85, 3) := by decide +kernel
theorem dX12_begins_18 : decode cX12_begins 18 = .ok (.aload_n 0, 1) := by decide +kernel
theorem dX12_begins_19 : decode cX12_begins 19 = .ok (.iconst 0, 1) := by decide +kernel
theorem dX12_begins_20 : decode cX12_begins 20 = .ok (.putfield 76, 3) := by decide +kernel
theorem dX12_begins_23 : decode cX12_begins 23 = .ok (.aload_n 0, 1) := by decide +kernel
theorem dX12_begins_24 : decode cX12_begins 24 = .ok (.iconst 0, 1) := by decide +kernel
theorem dX12_begins_25 : decode cX12_begins 25 = .ok (.putfield 82, 3) := by decide +kernel
theorem dX12_begins_28 : decode cX12_begins 28 = .ok (.aload_n 0, 1) := by decide +kernel
theorem dX12_begins_29 : decode cX12_begins 29 = .ok (.iconst 0, 1) := by decide +kernel
theorem dX12_begins_30 : decode cX12_begins 30 = .ok (.putfield 164, 3) := by decide +kernel
theorem dX12_begins_33 : decode cX12_begins 33 = .ok (.return_, 1) := by decide +kernel
set_option maxRecDepth 20000 in
theorem ggX12_reads_X12_skip : GoodIn wsX12_reads wsX12_skip := goodIn_r _ [8, 1, 2, 9, 10, 11, 7, 12, 13, 14, 15, 150, 151, 152, 153, 154, 155, 156, 157, 158, 159, 160, 161, 162, 163, 164, 165, 166, 167, 168, 169, 170, 171, 172, 173, 174, 175, 176, 177, 178, 179] (by decide +kernel) (by decide +kernel)
set_option maxRecDepth 20000 in
theorem gX12_reads_X12_skip : GoodIn wsX12_reads (wsV RX12 92 RX12 yX12_skip wsX12_skip) := goodIn_app (goodIn_of _ (by decide +kernel)) ggX12_reads_X12_skip
set_option maxRecDepth 20000 in
theorem ggX12_reads_X12_wrong : GoodIn wsX12_reads wsX12_wrong := goodIn_r _ [19, 3, 150, 151, 152, 153, 154, 155, 156, 157, 158, 159, 160, 161, 162, 163, 164, 165, 166, 167, 168, 169, 170, 171, 172, 173, 174, 175, 176, 177, 178, 179] (by decide +kernel) (by decide +kernel)
set_option maxRecDepth 20000 in
theorem gX12_reads_X12_wrong : GoodIn wsX12_reads (wsV RX12 108 RX12 yX12_wrong wsX12_wrong) := goodIn_app (goodIn_of _ (by decide +kernel)) ggX12_reads_X12_wrong
set_option maxRecDepth 20000 in
theorem ggX12_reads_X12_lawLine : GoodIn wsX12_reads wsX12_lawLine := goodIn_r _ [23, 1, 3, 24, 25, 26, 27, 28, 29, 7, 30, 2, 4, 5, 6, 8, 9, 10, 11, 12, 13, 14, 15, 31, 32, 33, 34, 35, 36, 37, 38, 39, 40, 41, 42, 43, 44, 45, 46, 47, 48, 49, 50, 51, 52, 53, 54, 55, 56, 57, 58, 59, 60, 61, 62, 63, 64, 65, 66, 67, 68, 69, 70, 71, 72, 73, 74, 75, 76, 77, 78, 79, 80, 81, 82, 16, 17, 18, 19, 83, 84, 85, 86, 87, 88, 89, 90, 91, 92, 93, 94, 95, 96, 97, 98, 99, 100, 101, 102, 103, 104, 105, 106, 107, 108, 109, 110, 111, 112, 113, 114, 115, 116, 117, 118, 119, 120, 121, 122, 123, 124, 125, 150, 151, 152, 153, 154, 155, 156, 157, 158, 159, 160, 161, 162, 163, 164, 165, 166, 167, 168, 169, 170, 171, 172, 173, 174, 175, 176, 177, 178, 179] (by decide +kernel) (by decide +kernel)
set_option maxRecDepth 20000 in
theorem gX12_reads_X12_lawLine : GoodIn wsX12_reads (wsV RX12 167 RX12 yX12_lawLine wsX12_lawLine) := goodIn_app (goodIn_of _ (by decide +kernel)) ggX12_reads_X12_lawLine
set_option maxRecDepth 20000 in
theorem ggX12_reads_X12_clusterLine : GoodIn wsX12_reads wsX12_clusterLine := goodIn_r _ [129, 1, 87, 88, 89, 7, 90, 4, 5, 6, 8, 2, 9, 10, 11, 12, 13, 14, 15, 27, 28, 29, 30, 31, 32, 33, 34, 35, 36, 37, 38, 39, 40, 41, 42, 43, 44, 45, 46, 47, 48, 49, 50, 51, 52, 53, 54, 55, 56, 57, 58, 59, 60, 61, 62, 63, 64, 65, 66, 67, 68, 69, 70, 71, 72, 73, 74, 75, 76, 77, 78, 79, 80, 81, 82, 130, 131, 132, 133, 3, 16, 17, 18, 19, 134, 135, 136, 137, 83, 84, 85, 86, 138, 139, 140, 141, 142, 143, 144, 145, 146, 147, 148, 149, 150, 151, 152, 153, 154, 155, 156, 157, 158, 159, 160, 161, 162, 163, 164, 165, 166, 167, 168, 169, 170, 171, 172, 173, 174, 175, 176, 177, 178, 179] (by decide +kernel) (by decide +kernel)
set_option maxRecDepth 20000 in
theorem gX12_reads_X12_clusterLine : GoodIn wsX12_reads (wsV RX12 170 RX12 yX12_clusterLine wsX12_clusterLine) := goodIn_app (goodIn_of _ (by decide +kernel)) ggX12_reads_X12_clusterLine
set_option maxRecDepth 20000 in
theorem ggX12_reads_X12_isSign : GoodIn wsX12_reads wsX12_isSign := goodIn_r _ [103, 1, 2, 4, 5, 6, 7, 8, 9, 10, 11, 12, 13, 14, 15, 150, 151, 152, 153, 154, 155, 156, 157, 158, 159, 160, 161, 162, 163, 164, 165, 166, 167, 168, 169, 170, 171, 172, 173, 174, 175, 176, 177, 178, 179] (by decide +kernel) (by decide +kernel)
set_option maxRecDepth 20000 in
theorem gX12_reads_X12_isSign : GoodIn wsX12_reads (wsV RX12 173 RX12 yX12_isSign wsX12_isSign) := goodIn_app (goodIn_of _ (by decide +kernel)) ggX12_reads_X12_isSign
theorem dX12_reads_0 : decode cX12_reads 0 = .ok (.aload_n 0, 1) := by decide +kernel
theorem dX12_reads_1 : decode cX12_reads 1 = .ok (.invokevirtual 92, 3) := by decide +kernel
theorem dX12_reads_4 : decode cX12_reads 4 = .ok (.aload_n 0, 1) := by decide +kernel
theorem dX12_reads_5 : decode cX12_reads 5 = .ok (.getfield 82, 3) := by decide +kernel
theorem dX12_reads_8 : decode cX12_reads 8 = .ok (.aload_n 0, 1) := by decide +kernel
theorem dX12_reads_9 : decode cX12_reads 9 = .ok (.getfield 85, 3) := by decide +kernel
theorem dX12_reads_12 : decode cX12_reads 12 = .ok (.if_icmp .ge 7, 3) := by decide +kernel
theorem dX12_reads_15 : decode cX12_reads 15 = .ok (.iconst 1, 1) := by decide +kernel
theorem dX12_reads_16 : decode cX12_reads 16 = .ok (.goto 4, 3) := by decide +kernel
theorem dX12_reads_19 : decode cX12_reads 19 = .ok (.iconst 0, 1) := by decide +kernel
theorem dX12_reads_20 : decode cX12_reads 20 = .ok (.istore_n 2, 1) := by decide +kernel
theorem dX12_reads_21 : decode cX12_reads 21 = .ok (.iconst 0, 1) := by decide +kernel
theorem dX12_reads_22 : decode cX12_reads 22 = .ok (.istore_n 3, 1) := by decide +kernel
theorem dX12_reads_23 : decode cX12_reads 23 = .ok (.iload_n 2, 1) := by decide +kernel
theorem dX12_reads_24 : decode cX12_reads 24 = .ok (.ifCond .eq 120, 3) := by decide +kernel
theorem dX12_reads_27 : decode cX12_reads 27 = .ok (.aload_n 0, 1) := by decide +kernel
theorem dX12_reads_28 : decode cX12_reads 28 = .ok (.getfield 25, 3) := by decide +kernel
theorem dX12_reads_31 : decode cX12_reads 31 = .ok (.iconst (-1), 1) := by decide +kernel
theorem dX12_reads_32 : decode cX12_reads 32 = .ok (.if_icmp .ne 112, 3) := by decide +kernel
theorem dX12_reads_35 : decode cX12_reads 35 = .ok (.aload_n 0, 1) := by decide +kernel
theorem dX12_reads_36 : decode cX12_reads 36 = .ok (.invokevirtual 92, 3) := by decide +kernel
theorem dX12_reads_39 : decode cX12_reads 39 = .ok (.iload_n 3, 1) := by decide +kernel
theorem dX12_reads_40 : decode cX12_reads 40 = .ok (.iload_n 1, 1) := by decide +kernel
theorem dX12_reads_41 : decode cX12_reads 41 = .ok (.ifCond .eq 8, 3) := by decide +kernel
theorem dX12_reads_44 : decode cX12_reads 44 = .ok (.bipush 12, 2) := by decide +kernel
theorem dX12_reads_46 : decode cX12_reads 46 = .ok (.goto 5, 3) := by decide +kernel
theorem dX12_reads_49 : decode cX12_reads 49 = .ok (.bipush 14, 2) := by decide +kernel
theorem dX12_reads_51 : decode cX12_reads 51 = .ok (.if_icmp .ne 14, 3) := by decide +kernel
theorem dX12_reads_54 : decode cX12_reads 54 = .ok (.aload_n 0, 1) := by decide +kernel
theorem dX12_reads_55 : decode cX12_reads 55 = .ok (.aload_n 0, 1) := by decide +kernel
theorem dX12_reads_56 : decode cX12_reads 56 = .ok (.getfield 82, 3) := by decide +kernel
theorem dX12_reads_59 : decode cX12_reads 59 = .ok (.invokevirtual 108, 3) := by decide +kernel
theorem dX12_reads_62 : decode cX12_reads 62 = .ok (.goto 18, 3) := by decide +kernel
theorem dX12_reads_65 : decode cX12_reads 65 = .ok (.iload_n 1, 1) := by decide +kernel
theorem dX12_reads_66 : decode cX12_reads 66 = .ok (.ifCond .eq 10, 3) := by decide +kernel
theorem dX12_reads_69 : decode cX12_reads 69 = .ok (.aload_n 0, 1) := by decide +kernel
theorem dX12_reads_70 : decode cX12_reads 70 = .ok (.invokevirtual 167, 3) := by decide +kernel
theorem dX12_reads_73 : decode cX12_reads 73 = .ok (.goto 7, 3) := by decide +kernel
theorem dX12_reads_76 : decode cX12_reads 76 = .ok (.aload_n 0, 1) := by decide +kernel
theorem dX12_reads_77 : decode cX12_reads 77 = .ok (.invokevirtual 170, 3) := by decide +kernel
theorem dX12_reads_80 : decode cX12_reads 80 = .ok (.iinc 3 1, 3) := by decide +kernel
theorem dX12_reads_83 : decode cX12_reads 83 = .ok (.aload_n 0, 1) := by decide +kernel
theorem dX12_reads_84 : decode cX12_reads 84 = .ok (.invokevirtual 92, 3) := by decide +kernel
theorem dX12_reads_87 : decode cX12_reads 87 = .ok (.aload_n 0, 1) := by decide +kernel
theorem dX12_reads_88 : decode cX12_reads 88 = .ok (.getfield 25, 3) := by decide +kernel
theorem dX12_reads_91 : decode cX12_reads 91 = .ok (.iconst (-1), 1) := by decide +kernel
theorem dX12_reads_92 : decode cX12_reads 92 = .ok (.if_icmp .ne 14, 3) := by decide +kernel
theorem dX12_reads_95 : decode cX12_reads 95 = .ok (.aload_n 0, 1) := by decide +kernel
theorem dX12_reads_96 : decode cX12_reads 96 = .ok (.getfield 82, 3) := by decide +kernel
theorem dX12_reads_99 : decode cX12_reads 99 = .ok (.aload_n 0, 1) := by decide +kernel
theorem dX12_reads_100 : decode cX12_reads 100 = .ok (.getfield 85, 3) := by decide +kernel
theorem dX12_reads_103 : decode cX12_reads 103 = .ok (.if_icmp .ne 8, 3) := by decide +kernel
theorem dX12_reads_106 : decode cX12_reads 106 = .ok (.iconst 0, 1) := by decide +kernel
theorem dX12_reads_107 : decode cX12_reads 107 = .ok (.istore_n 2, 1) := by decide +kernel
theorem dX12_reads_108 : decode cX12_reads 108 = .ok (.goto (-85), 3) := by decide +kernel
theorem dX12_reads_111 : decode cX12_reads 111 = .ok (.aload_n 0, 1) := by decide +kernel
theorem dX12_reads_112 : decode cX12_reads 112 = .ok (.bipush 59, 2) := by decide +kernel
theorem dX12_reads_114 : decode cX12_reads 114 = .ok (.invokevirtual 173, 3) := by decide +kernel
theorem dX12_reads_117 : decode cX12_reads 117 = .ok (.ifCond .eq 16, 3) := by decide +kernel
theorem dX12_reads_120 : decode cX12_reads 120 = .ok (.aload_n 0, 1) := by decide +kernel
theorem dX12_reads_121 : decode cX12_reads 121 = .ok (.dup, 1) := by decide +kernel
theorem dX12_reads_122 : decode cX12_reads 122 = .ok (.getfield 82, 3) := by decide +kernel
theorem dX12_reads_125 : decode cX12_reads 125 = .ok (.iconst 1, 1) := by decide +kernel
theorem dX12_reads_126 : decode cX12_reads 126 = .ok (.iadd, 1) := by decide +kernel
theorem dX12_reads_127 : decode cX12_reads 127 = .ok (.putfield 82, 3) := by decide +kernel
theorem dX12_reads_130 : decode cX12_reads 130 = .ok (.goto (-107), 3) := by decide +kernel
theorem dX12_reads_133 : decode cX12_reads 133 = .ok (.aload_n 0, 1) := by decide +kernel
theorem dX12_reads_134 : decode cX12_reads 134 = .ok (.aload_n 0, 1) := by decide +kernel
theorem dX12_reads_135 : decode cX12_reads 135 = .ok (.getfield 82, 3) := by decide +kernel
theorem dX12_reads_138 : decode cX12_reads 138 = .ok (.invokevirtual 108, 3) := by decide +kernel
theorem dX12_reads_141 : decode cX12_reads 141 = .ok (.goto (-118), 3) := by decide +kernel
theorem dX12_reads_144 : decode cX12_reads 144 = .ok (.iload_n 3, 1) := by decide +kernel
theorem dX12_reads_145 : decode cX12_reads 145 = .ok (.ireturn, 1) := by decide +kernel
theorem dX12_putsAside_0 : decode cX12_putsAside 0 = .ok (.iconst 0, 1) := by decide +kernel
theorem dX12_putsAside_1 : decode cX12_putsAside 1 = .ok (.istore_n 1, 1) := by decide +kernel
theorem dX12_putsAside_2 : decode cX12_putsAside 2 = .ok (.iload_n 1, 1) := by decide +kernel
theorem dX12_putsAside_3 : decode cX12_putsAside 3 = .ok (.sipush 337, 3) := by decide +kernel
theorem dX12_putsAside_6 : decode cX12_putsAside 6 = .ok (.if_icmp .ge 21, 3) := by decide +kernel
theorem dX12_putsAside_9 : decode cX12_putsAside 9 = .ok (.aload_n 0, 1) := by decide +kernel
theorem dX12_putsAside_10 : decode cX12_putsAside 10 = .ok (.getfield 16, 3) := by decide +kernel
theorem dX12_putsAside_13 : decode cX12_putsAside 13 = .ok (.iload_n 1, 1) := by decide +kernel
theorem dX12_putsAside_14 : decode cX12_putsAside 14 = .ok (.aload_n 0, 1) := by decide +kernel
theorem dX12_putsAside_15 : decode cX12_putsAside 15 = .ok (.getfield 7, 3) := by decide +kernel
theorem dX12_putsAside_18 : decode cX12_putsAside 18 = .ok (.iload_n 1, 1) := by decide +kernel
theorem dX12_putsAside_19 : decode cX12_putsAside 19 = .ok (.iaload, 1) := by decide +kernel
theorem dX12_putsAside_20 : decode cX12_putsAside 20 = .ok (.iastore, 1) := by decide +kernel
theorem dX12_putsAside_21 : decode cX12_putsAside 21 = .ok (.iinc 1 1, 3) := by decide +kernel
theorem dX12_putsAside_24 : decode cX12_putsAside 24 = .ok (.goto (-22), 3) := by decide +kernel
theorem dX12_putsAside_27 : decode cX12_putsAside 27 = .ok (.return_, 1) := by decide +kernel
theorem dX12_comesBack_0 : decode cX12_comesBack 0 = .ok (.iconst 0, 1) := by decide +kernel
theorem dX12_comesBack_1 : decode cX12_comesBack 1 = .ok (.istore_n 1, 1) := by decide +kernel
theorem dX12_comesBack_2 : decode cX12_comesBack 2 = .ok (.iload_n 1, 1) := by decide +kernel
theorem dX12_comesBack_3 : decode cX12_comesBack 3 = .ok (.sipush 337, 3) := by decide +kernel
theorem dX12_comesBack_6 : decode cX12_comesBack 6 = .ok (.if_icmp .ge 21, 3) := by decide +kernel
theorem dX12_comesBack_9 : decode cX12_comesBack 9 = .ok (.aload_n 0, 1) := by decide +kernel
theorem dX12_comesBack_10 : decode cX12_comesBack 10 = .ok (.getfield 7, 3) := by decide +kernel
theorem dX12_comesBack_13 : decode cX12_comesBack 13 = .ok (.iload_n 1, 1) := by decide +kernel
theorem dX12_comesBack_14 : decode cX12_comesBack 14 = .ok (.aload_n 0, 1) := by decide +kernel
theorem dX12_comesBack_15 : decode cX12_comesBack 15 = .ok (.getfield 16, 3) := by decide +kernel
theorem dX12_comesBack_18 : decode cX12_comesBack 18 = .ok (.iload_n 1, 1) := by decide +kernel
theorem dX12_comesBack_19 : decode cX12_comesBack 19 = .ok (.iaload, 1) := by decide +kernel
theorem dX12_comesBack_20 : decode cX12_comesBack 20 = .ok (.iastore, 1) := by decide +kernel
theorem dX12_comesBack_21 : decode cX12_comesBack 21 = .ok (.iinc 1 1, 3) := by decide +kernel
theorem dX12_comesBack_24 : decode cX12_comesBack 24 = .ok (.goto (-22), 3) := by decide +kernel
theorem dX12_comesBack_27 : decode cX12_comesBack 27 = .ok (.return_, 1) := by decide +kernel
set_option maxRecDepth 20000 in
theorem ggX12_cluster_X12_putsAside : GoodIn wsX12_cluster wsX12_putsAside := goodIn_r _ [9, 10, 2, 170, 171, 172, 173, 174, 175, 176, 177, 178, 179, 180, 181, 182, 183, 184, 185, 186, 187, 188, 189, 190, 191, 192, 193, 194, 195, 196, 197, 198, 199] (by decide +kernel) (by decide +kernel)
set_option maxRecDepth 20000 in
theorem gX12_cluster_X12_putsAside : GoodIn wsX12_cluster (wsV RX12 177 RX12 yX12_putsAside wsX12_putsAside) := goodIn_app (goodIn_of _ (by decide +kernel)) ggX12_cluster_X12_putsAside
set_option maxRecDepth 20000 in
theorem ggX12_cluster_X12_begins : GoodIn wsX12_cluster wsX12_begins := goodIn_r _ [14, 1, 15, 16, 17, 18, 19, 170, 171, 172, 173, 174, 175, 176, 177, 178, 179, 180, 181, 182, 183, 184, 185, 186, 187, 188, 189, 190, 191, 192, 193, 194, 195, 196, 197, 198, 199] (by decide +kernel) (by decide +kernel)
set_option maxRecDepth 20000 in
theorem gX12_cluster_X12_begins : GoodIn wsX12_cluster (wsV RX12 180 RX12 yX12_begins wsX12_begins) := goodIn_app (goodIn_of _ (by decide +kernel)) ggX12_cluster_X12_begins
set_option maxRecDepth 20000 in
theorem ggX12_cluster_X12_reads : GoodIn wsX12_cluster wsX12_reads := goodIn_r _ [23, 18, 17, 1, 24, 25, 26, 8, 27, 28, 29, 30, 31, 15, 32, 2, 33, 34, 35, 36, 37, 38, 39, 40, 41, 42, 43, 44, 45, 46, 47, 48, 49, 50, 51, 52, 53, 54, 55, 56, 57, 58, 59, 60, 61, 62, 63, 64, 65, 66, 67, 68, 69, 70, 71, 72, 73, 74, 75, 76, 77, 78, 79, 80, 81, 82, 83, 84, 85, 86, 87, 88, 89, 90, 91, 92, 93, 94, 95, 96, 97, 98, 99, 100, 101, 102, 103, 104, 105, 106, 107, 108, 109, 110, 111, 112, 113, 114, 115, 19, 116, 117, 118, 119, 120, 121, 122, 123, 124, 125, 126, 127, 128, 129, 130, 131, 132, 133, 134, 135, 136, 137, 138, 139, 140, 141, 142, 143, 144, 145, 146, 147, 148, 149, 150, 151, 152, 153, 154, 155, 156, 157, 158, 159, 160, 161, 162, 163, 164, 165, 170, 171, 172, 173, 174, 175, 176, 177, 178, 179, 180, 181, 182, 183, 184, 185, 186, 187, 188, 189, 190, 191, 192, 193, 194, 195, 196, 197, 198, 199] (by decide +kernel) (by decide +kernel)
set_option maxRecDepth 20000 in
theorem gX12_cluster_X12_reads : GoodIn wsX12_cluster (wsV RX12 183 RX12 yX12_reads wsX12_reads) := goodIn_app (goodIn_of _ (by decide +kernel)) ggX12_cluster_X12_reads
set_option maxRecDepth 20000 in
theorem ggX12_cluster_X12_comesBack : GoodIn wsX12_cluster wsX12_comesBack := goodIn_r _ [169, 2, 10, 170, 171, 172, 173, 174, 175, 176, 177, 178, 179, 180, 181, 182, 183, 184, 185, 186, 187, 188, 189, 190, 191, 192, 193, 194, 195, 196, 197, 198, 199] (by decide +kernel) (by decide +kernel)
set_option maxRecDepth 20000 in
theorem gX12_cluster_X12_comesBack : GoodIn wsX12_cluster (wsV RX12 187 RX12 yX12_comesBack wsX12_comesBack) := goodIn_app (goodIn_of _ (by decide +kernel)) ggX12_cluster_X12_comesBack
theorem dX12_cluster_0 : decode cX12_cluster 0 = .ok (.aload_n 0, 1) := by decide +kernel
theorem dX12_cluster_1 : decode cX12_cluster 1 = .ok (.invokevirtual 177, 3) := by decide +kernel
theorem dX12_cluster_4 : decode cX12_cluster 4 = .ok (.aload_n 0, 1) := by decide +kernel
theorem dX12_cluster_5 : decode cX12_cluster 5 = .ok (.invokevirtual 180, 3) := by decide +kernel
theorem dX12_cluster_8 : decode cX12_cluster 8 = .ok (.aload_n 0, 1) := by decide +kernel
theorem dX12_cluster_9 : decode cX12_cluster 9 = .ok (.iconst 0, 1) := by decide +kernel
theorem dX12_cluster_10 : decode cX12_cluster 10 = .ok (.invokevirtual 183, 3) := by decide +kernel
theorem dX12_cluster_13 : decode cX12_cluster 13 = .ok (.istore_n 1, 1) := by decide +kernel
theorem dX12_cluster_14 : decode cX12_cluster 14 = .ok (.aload_n 0, 1) := by decide +kernel
theorem dX12_cluster_15 : decode cX12_cluster 15 = .ok (.aload_n 0, 1) := by decide +kernel
theorem dX12_cluster_16 : decode cX12_cluster 16 = .ok (.getfield 25, 3) := by decide +kernel
theorem dX12_cluster_19 : decode cX12_cluster 19 = .ok (.iconst (-1), 1) := by decide +kernel
theorem dX12_cluster_20 : decode cX12_cluster 20 = .ok (.if_icmp .eq 7, 3) := by decide +kernel
theorem dX12_cluster_23 : decode cX12_cluster 23 = .ok (.iconst 1, 1) := by decide +kernel
theorem dX12_cluster_24 : decode cX12_cluster 24 = .ok (.goto 19, 3) := by decide +kernel
theorem dX12_cluster_27 : decode cX12_cluster 27 = .ok (.aload_n 0, 1) := by decide +kernel
theorem dX12_cluster_28 : decode cX12_cluster 28 = .ok (.getfield 7, 3) := by decide +kernel
theorem dX12_cluster_31 : decode cX12_cluster 31 = .ok (.iconst 0, 1) := by decide +kernel
theorem dX12_cluster_32 : decode cX12_cluster 32 = .ok (.iaload, 1) := by decide +kernel
theorem dX12_cluster_33 : decode cX12_cluster 33 = .ok (.bipush 12, 2) := by decide +kernel
theorem dX12_cluster_35 : decode cX12_cluster 35 = .ok (.if_icmp .ne 7, 3) := by decide +kernel
theorem dX12_cluster_38 : decode cX12_cluster 38 = .ok (.iconst 2, 1) := by decide +kernel
theorem dX12_cluster_39 : decode cX12_cluster 39 = .ok (.goto 4, 3) := by decide +kernel
theorem dX12_cluster_42 : decode cX12_cluster 42 = .ok (.iconst 0, 1) := by decide +kernel
theorem dX12_cluster_43 : decode cX12_cluster 43 = .ok (.putfield 59, 3) := by decide +kernel
theorem dX12_cluster_46 : decode cX12_cluster 46 = .ok (.aload_n 0, 1) := by decide +kernel
theorem dX12_cluster_47 : decode cX12_cluster 47 = .ok (.getfield 59, 3) := by decide +kernel
theorem dX12_cluster_50 : decode cX12_cluster 50 = .ok (.ifCond .le 9, 3) := by decide +kernel
theorem dX12_cluster_53 : decode cX12_cluster 53 = .ok (.aload_n 0, 1) := by decide +kernel
theorem dX12_cluster_54 : decode cX12_cluster 54 = .ok (.invokevirtual 187, 3) := by decide +kernel
theorem dX12_cluster_57 : decode cX12_cluster 57 = .ok (.iconst 0, 1) := by decide +kernel
theorem dX12_cluster_58 : decode cX12_cluster 58 = .ok (.ireturn, 1) := by decide +kernel
theorem dX12_cluster_59 : decode cX12_cluster 59 = .ok (.aload_n 0, 1) := by decide +kernel
theorem dX12_cluster_60 : decode cX12_cluster 60 = .ok (.getfield 7, 3) := by decide +kernel
theorem dX12_cluster_63 : decode cX12_cluster 63 = .ok (.iconst 0, 1) := by decide +kernel
theorem dX12_cluster_64 : decode cX12_cluster 64 = .ok (.dup2, 1) := by decide +kernel
theorem dX12_cluster_65 : decode cX12_cluster 65 = .ok (.iaload, 1) := by decide +kernel
theorem dX12_cluster_66 : decode cX12_cluster 66 = .ok (.iconst 1, 1) := by decide +kernel
theorem dX12_cluster_67 : decode cX12_cluster 67 = .ok (.iadd, 1) := by decide +kernel
theorem dX12_cluster_68 : decode cX12_cluster 68 = .ok (.iastore, 1) := by decide +kernel
theorem dX12_cluster_69 : decode cX12_cluster 69 = .ok (.aload_n 0, 1) := by decide +kernel
theorem dX12_cluster_70 : decode cX12_cluster 70 = .ok (.iconst 0, 1) := by decide +kernel
theorem dX12_cluster_71 : decode cX12_cluster 71 = .ok (.putfield 190, 3) := by decide +kernel
theorem dX12_cluster_74 : decode cX12_cluster 74 = .ok (.aload_n 0, 1) := by decide +kernel
theorem dX12_cluster_75 : decode cX12_cluster 75 = .ok (.getfield 7, 3) := by decide +kernel
theorem dX12_cluster_78 : decode cX12_cluster 78 = .ok (.iconst 0, 1) := by decide +kernel
theorem dX12_cluster_79 : decode cX12_cluster 79 = .ok (.iaload, 1) := by decide +kernel
theorem dX12_cluster_80 : decode cX12_cluster 80 = .ok (.ireturn, 1) := by decide +kernel
set_option maxRecDepth 20000 in
theorem ggX12_part_X12_skip : GoodIn wsX12_part wsX12_skip := goodIn_r _ [9, 2, 3, 10, 11, 12, 8, 13, 14, 15, 16, 85, 86, 87, 88, 89, 90, 91, 92, 93, 94, 95, 96, 97, 98, 99, 100, 101, 102, 103, 104, 105, 106, 107, 108, 109, 110, 111, 112, 113, 114] (by decide +kernel) (by decide +kernel)
set_option maxRecDepth 20000 in
theorem gX12_part_X12_skip : GoodIn wsX12_part (wsV RX12 92 RX12 yX12_skip wsX12_skip) := goodIn_app (goodIn_of _ (by decide +kernel)) ggX12_part_X12_skip
set_option maxRecDepth 20000 in
theorem ggX12_part_X12_letter : GoodIn wsX12_part wsX12_letter := goodIn_r _ [13, 14, 15, 16, 85, 86, 87, 88, 89, 90, 91, 92, 93, 94, 95, 96, 97, 98, 99, 100, 101, 102, 103, 104, 105, 106, 107, 108, 109, 110, 111, 112, 113, 114] (by decide +kernel) (by decide +kernel)
set_option maxRecDepth 20000 in
theorem gX12_part_X12_letter : GoodIn wsX12_part (wsV RX12 88 RX12 yX12_letter wsX12_letter) := goodIn_app (goodIn_of _ (by decide +kernel)) ggX12_part_X12_letter
set_option maxRecDepth 20000 in
theorem ggX12_part_X12_isIn : GoodIn wsX12_part wsX12_isIn := goodIn_r _ [19] (by decide +kernel) (by decide +kernel)
set_option maxRecDepth 20000 in
theorem gX12_part_X12_isIn : GoodIn wsX12_part (va_wsS RX12 62 yX12_isIn wsX12_isIn) := goodIn_app (goodIn_of _ (by decide +kernel)) ggX12_part_X12_isIn
set_option maxRecDepth 20000 in
theorem ggX12_part_X12_figures : GoodIn wsX12_part wsX12_figures := goodIn_r _ [23, 1, 2, 3, 24, 25, 26, 8, 27, 5, 6, 7, 9, 10, 11, 12, 13, 14, 15, 16, 17, 18, 19, 28, 29, 30, 31, 85, 86, 87, 88, 89, 90, 91, 92, 93, 94, 95, 96, 97, 98, 99, 100, 101, 102, 103, 104, 105, 106, 107, 108, 109, 110, 111, 112, 113, 114] (by decide +kernel) (by decide +kernel)
set_option maxRecDepth 20000 in
theorem gX12_part_X12_figures : GoodIn wsX12_part (wsV RX12 116 RX12 yX12_figures wsX12_figures) := goodIn_app (goodIn_of _ (by decide +kernel)) ggX12_part_X12_figures
set_option maxRecDepth 20000 in
theorem ggX12_part_X12_has : GoodIn wsX12_part wsX12_has := goodIn_r _ [35, 2, 3, 5, 6, 7, 8, 9, 10, 11, 12, 13, 14, 15, 16, 17, 18, 19, 36, 37, 38, 39, 40, 41, 42, 43, 44, 45, 46, 47, 48, 49, 50, 51, 52, 53, 54, 55, 56, 57, 58, 59, 60, 61, 62, 63, 64, 65, 66, 67, 68, 69, 70, 71, 72, 73, 74, 75, 76, 77, 78, 79, 80, 81, 82, 83, 84, 85, 86, 87, 88, 89, 90, 91, 92, 93, 94, 95, 96, 97, 98, 99, 100, 101, 102, 103, 104, 105, 106, 107, 108, 109, 110, 111, 112, 113, 114] (by decide +kernel) (by decide +kernel)
set_option maxRecDepth 20000 in
theorem gX12_part_X12_has : GoodIn wsX12_part (wsV RX12 112 RX12 yX12_has wsX12_has) := goodIn_app (goodIn_of _ (by decide +kernel)) ggX12_part_X12_has
set_option maxRecDepth 20000 in
theorem ggX12_part_X12_wrong : GoodIn wsX12_part wsX12_wrong := goodIn_r _ [31, 1, 85, 86, 87, 88, 89, 90, 91, 92, 93, 94, 95, 96, 97, 98, 99, 100, 101, 102, 103, 104, 105, 106, 107, 108, 109, 110, 111, 112, 113, 114] (by decide +kernel) (by decide +kernel)
set_option maxRecDepth 20000 in
theorem gX12_part_X12_wrong : GoodIn wsX12_part (wsV RX12 108 RX12 yX12_wrong wsX12_wrong) := goodIn_app (goodIn_of _ (by decide +kernel)) ggX12_part_X12_wrong
theorem dX12_part_0 : decode cX12_part 0 = .ok (.aload_n 0, 1) := by decide +kernel
theorem dX12_part_1 : decode cX12_part 1 = .ok (.getfield 25, 3) := by decide +kernel
theorem dX12_part_4 : decode cX12_part 4 = .ok (.iconst (-1), 1) := by decide +kernel
theorem dX12_part_5 : decode cX12_part 5 = .ok (.if_icmp .eq 5, 3) := by decide +kernel
theorem dX12_part_8 : decode cX12_part 8 = .ok (.iconst 0, 1) := by decide +kernel
theorem dX12_part_9 : decode cX12_part 9 = .ok (.ireturn, 1) := by decide +kernel
theorem dX12_part_10 : decode cX12_part 10 = .ok (.aload_n 0, 1) := by decide +kernel
theorem dX12_part_11 : decode cX12_part 11 = .ok (.invokevirtual 92, 3) := by decide +kernel
theorem dX12_part_14 : decode cX12_part 14 = .ok (.aload_n 0, 1) := by decide +kernel
theorem dX12_part_15 : decode cX12_part 15 = .ok (.getfield 82, 3) := by decide +kernel
theorem dX12_part_18 : decode cX12_part 18 = .ok (.aload_n 0, 1) := by decide +kernel
theorem dX12_part_19 : decode cX12_part 19 = .ok (.getfield 85, 3) := by decide +kernel
theorem dX12_part_22 : decode cX12_part 22 = .ok (.if_icmp .ge 30, 3) := by decide +kernel
theorem dX12_part_25 : decode cX12_part 25 = .ok (.aload_n 0, 1) := by decide +kernel
theorem dX12_part_26 : decode cX12_part 26 = .ok (.aload_n 0, 1) := by decide +kernel
theorem dX12_part_27 : decode cX12_part 27 = .ok (.getfield 82, 3) := by decide +kernel
theorem dX12_part_30 : decode cX12_part 30 = .ok (.invokevirtual 88, 3) := by decide +kernel
theorem dX12_part_33 : decode cX12_part 33 = .ok (.bipush 48, 2) := by decide +kernel
theorem dX12_part_35 : decode cX12_part 35 = .ok (.bipush 57, 2) := by decide +kernel
theorem dX12_part_37 : decode cX12_part 37 = .ok (.invokestatic 62, 3) := by decide +kernel
theorem dX12_part_40 : decode cX12_part 40 = .ok (.ifCond .eq 12, 3) := by decide +kernel
theorem dX12_part_43 : decode cX12_part 43 = .ok (.aload_n 0, 1) := by decide +kernel
theorem dX12_part_44 : decode cX12_part 44 = .ok (.iconst 0, 1) := by decide +kernel
theorem dX12_part_45 : decode cX12_part 45 = .ok (.sipush 999, 3) := by decide +kernel
theorem dX12_part_48 : decode cX12_part 48 = .ok (.invokevirtual 116, 3) := by decide +kernel
theorem dX12_part_51 : decode cX12_part 51 = .ok (.ireturn, 1) := by decide +kernel
theorem dX12_part_52 : decode cX12_part 52 = .ok (.aload_n 0, 1) := by decide +kernel
theorem dX12_part_53 : decode cX12_part 53 = .ok (.ldc 150, 2) := by decide +kernel
theorem dX12_part_55 : decode cX12_part 55 = .ok (.invokevirtual 112, 3) := by decide +kernel
theorem dX12_part_58 : decode cX12_part 58 = .ok (.ifCond .eq 7, 3) := by decide +kernel
theorem dX12_part_61 : decode cX12_part 61 = .ok (.iconst 0, 1) := by decide +kernel
theorem dX12_part_62 : decode cX12_part 62 = .ok (.goto 83, 3) := by decide +kernel
theorem dX12_part_65 : decode cX12_part 65 = .ok (.aload_n 0, 1) := by decide +kernel
theorem dX12_part_66 : decode cX12_part 66 = .ok (.ldc 127, 2) := by decide +kernel
theorem dX12_part_68 : decode cX12_part 68 = .ok (.invokevirtual 112, 3) := by decide +kernel
theorem dX12_part_71 : decode cX12_part 71 = .ok (.ifCond .eq 7, 3) := by decide +kernel
theorem dX12_part_74 : decode cX12_part 74 = .ok (.iconst 1, 1) := by decide +kernel
theorem dX12_part_75 : decode cX12_part 75 = .ok (.goto 70, 3) := by decide +kernel
theorem dX12_part_78 : decode cX12_part 78 = .ok (.aload_n 0, 1) := by decide +kernel
theorem dX12_part_79 : decode cX12_part 79 = .ok (.ldc 129, 2) := by decide +kernel
theorem dX12_part_81 : decode cX12_part 81 = .ok (.invokevirtual 112, 3) := by decide +kernel
theorem dX12_part_84 : decode cX12_part 84 = .ok (.ifCond .eq 7, 3) := by decide +kernel
theorem dX12_part_87 : decode cX12_part 87 = .ok (.iconst 2, 1) := by decide +kernel
theorem dX12_part_88 : decode cX12_part 88 = .ok (.goto 57, 3) := by decide +kernel
theorem dX12_part_91 : decode cX12_part 91 = .ok (.aload_n 0, 1) := by decide +kernel
theorem dX12_part_92 : decode cX12_part 92 = .ok (.ldc 193, 2) := by decide +kernel
theorem dX12_part_94 : decode cX12_part 94 = .ok (.invokevirtual 112, 3) := by decide +kernel
theorem dX12_part_97 : decode cX12_part 97 = .ok (.ifCond .eq 7, 3) := by decide +kernel
theorem dX12_part_100 : decode cX12_part 100 = .ok (.iconst 3, 1) := by decide +kernel
theorem dX12_part_101 : decode cX12_part 101 = .ok (.goto 44, 3) := by decide +kernel
theorem dX12_part_104 : decode cX12_part 104 = .ok (.aload_n 0, 1) := by decide +kernel
theorem dX12_part_105 : decode cX12_part 105 = .ok (.ldc 195, 2) := by decide +kernel
theorem dX12_part_107 : decode cX12_part 107 = .ok (.invokevirtual 112, 3) := by decide +kernel
theorem dX12_part_110 : decode cX12_part 110 = .ok (.ifCond .eq 7, 3) := by decide +kernel
theorem dX12_part_113 : decode cX12_part 113 = .ok (.iconst 4, 1) := by decide +kernel
theorem dX12_part_114 : decode cX12_part 114 = .ok (.goto 31, 3) := by decide +kernel
theorem dX12_part_117 : decode cX12_part 117 = .ok (.aload_n 0, 1) := by decide +kernel
theorem dX12_part_118 : decode cX12_part 118 = .ok (.ldc 197, 2) := by decide +kernel
theorem dX12_part_120 : decode cX12_part 120 = .ok (.invokevirtual 112, 3) := by decide +kernel
theorem dX12_part_123 : decode cX12_part 123 = .ok (.ifCond .eq 7, 3) := by decide +kernel
theorem dX12_part_126 : decode cX12_part 126 = .ok (.iconst 5, 1) := by decide +kernel
theorem dX12_part_127 : decode cX12_part 127 = .ok (.goto 18, 3) := by decide +kernel
theorem dX12_part_130 : decode cX12_part 130 = .ok (.aload_n 0, 1) := by decide +kernel
theorem dX12_part_131 : decode cX12_part 131 = .ok (.ldc 199, 2) := by decide +kernel
theorem dX12_part_133 : decode cX12_part 133 = .ok (.invokevirtual 112, 3) := by decide +kernel
theorem dX12_part_136 : decode cX12_part 136 = .ok (.ifCond .eq 8, 3) := by decide +kernel
theorem dX12_part_139 : decode cX12_part 139 = .ok (.bipush 6, 2) := by decide +kernel
theorem dX12_part_141 : decode cX12_part 141 = .ok (.goto 4, 3) := by decide +kernel
theorem dX12_part_144 : decode cX12_part 144 = .ok (.iconst (-1), 1) := by decide +kernel
theorem dX12_part_145 : decode cX12_part 145 = .ok (.istore_n 1, 1) := by decide +kernel
theorem dX12_part_146 : decode cX12_part 146 = .ok (.iload_n 1, 1) := by decide +kernel
theorem dX12_part_147 : decode cX12_part 147 = .ok (.iconst (-1), 1) := by decide +kernel
theorem dX12_part_148 : decode cX12_part 148 = .ok (.if_icmp .ne 13, 3) := by decide +kernel
theorem dX12_part_151 : decode cX12_part 151 = .ok (.aload_n 0, 1) := by decide +kernel
theorem dX12_part_152 : decode cX12_part 152 = .ok (.aload_n 0, 1) := by decide +kernel
theorem dX12_part_153 : decode cX12_part 153 = .ok (.getfield 82, 3) := by decide +kernel
theorem dX12_part_156 : decode cX12_part 156 = .ok (.invokevirtual 108, 3) := by decide +kernel
theorem dX12_part_159 : decode cX12_part 159 = .ok (.iconst 0, 1) := by decide +kernel
theorem dX12_part_160 : decode cX12_part 160 = .ok (.ireturn, 1) := by decide +kernel
theorem dX12_part_161 : decode cX12_part 161 = .ok (.aload_n 0, 1) := by decide +kernel
theorem dX12_part_162 : decode cX12_part 162 = .ok (.getfield 29, 3) := by decide +kernel
theorem dX12_part_165 : decode cX12_part 165 = .ok (.iload_n 1, 1) := by decide +kernel
theorem dX12_part_166 : decode cX12_part 166 = .ok (.iaload, 1) := by decide +kernel
theorem dX12_part_167 : decode cX12_part 167 = .ok (.ireturn, 1) := by decide +kernel
set_option maxRecDepth 20000 in
theorem ggX12_sum_X12_part : GoodIn wsX12_sum wsX12_part := goodIn_r _ [7, 1, 2, 8, 9, 10, 11, 12, 6, 13, 14, 15, 16, 17, 18, 19, 20, 21, 22, 23, 24, 25, 26, 27, 28, 29, 30, 31, 32, 33, 34, 35, 36, 37, 38, 39, 40, 41, 42, 43, 44, 45, 46, 47, 48, 49, 50, 51, 52, 53, 54, 55, 56, 57, 58, 59, 60, 61, 62, 63, 64, 65, 66, 67, 68, 69, 70, 71, 72, 73, 74, 75, 76, 77, 78, 79, 80, 81, 82, 83, 84, 85, 86, 87, 88, 93, 94, 95, 96, 97, 98, 99, 100, 101, 102, 103, 104, 105, 106, 107, 108, 109, 110, 111, 112, 113, 114, 115, 116, 117, 118, 119, 120, 121, 122] (by decide +kernel) (by decide +kernel)
set_option maxRecDepth 20000 in
theorem gX12_sum_X12_part : GoodIn wsX12_sum (wsV RX12 201 RX12 yX12_part wsX12_part) := goodIn_app (goodIn_of _ (by decide +kernel)) ggX12_sum_X12_part
set_option maxRecDepth 20000 in
theorem ggX12_sum_X12_isSign : GoodIn wsX12_sum wsX12_isSign := goodIn_r _ [92, 2, 8, 10, 11, 12, 6, 13, 14, 15, 16, 17, 18, 19, 20, 93, 94, 95, 96, 97, 98, 99, 100, 101, 102, 103, 104, 105, 106, 107, 108, 109, 110, 111, 112, 113, 114, 115, 116, 117, 118, 119, 120, 121, 122] (by decide +kernel) (by decide +kernel)
set_option maxRecDepth 20000 in
theorem gX12_sum_X12_isSign : GoodIn wsX12_sum (wsV RX12 173 RX12 yX12_isSign wsX12_isSign) := goodIn_app (goodIn_of _ (by decide +kernel)) ggX12_sum_X12_isSign
theorem dX12_sum_0 : decode cX12_sum 0 = .ok (.aload_n 0, 1) := by decide +kernel
theorem dX12_sum_1 : decode cX12_sum 1 = .ok (.invokevirtual 201, 3) := by decide +kernel
theorem dX12_sum_4 : decode cX12_sum 4 = .ok (.istore_n 1, 1) := by decide +kernel
theorem dX12_sum_5 : decode cX12_sum 5 = .ok (.aload_n 0, 1) := by decide +kernel
theorem dX12_sum_6 : decode cX12_sum 6 = .ok (.getfield 25, 3) := by decide +kernel
theorem dX12_sum_9 : decode cX12_sum 9 = .ok (.iconst (-1), 1) := by decide +kernel
theorem dX12_sum_10 : decode cX12_sum 10 = .ok (.if_icmp .ne 32, 3) := by decide +kernel
theorem dX12_sum_13 : decode cX12_sum 13 = .ok (.aload_n 0, 1) := by decide +kernel
theorem dX12_sum_14 : decode cX12_sum 14 = .ok (.bipush 43, 2) := by decide +kernel
theorem dX12_sum_16 : decode cX12_sum 16 = .ok (.invokevirtual 173, 3) := by decide +kernel
theorem dX12_sum_19 : decode cX12_sum 19 = .ok (.ifCond .eq 23, 3) := by decide +kernel
theorem dX12_sum_22 : decode cX12_sum 22 = .ok (.aload_n 0, 1) := by decide +kernel
theorem dX12_sum_23 : decode cX12_sum 23 = .ok (.dup, 1) := by decide +kernel
theorem dX12_sum_24 : decode cX12_sum 24 = .ok (.getfield 82, 3) := by decide +kernel
theorem dX12_sum_27 : decode cX12_sum 27 = .ok (.iconst 1, 1) := by decide +kernel
theorem dX12_sum_28 : decode cX12_sum 28 = .ok (.iadd, 1) := by decide +kernel
theorem dX12_sum_29 : decode cX12_sum 29 = .ok (.putfield 82, 3) := by decide +kernel
theorem dX12_sum_32 : decode cX12_sum 32 = .ok (.iload_n 1, 1) := by decide +kernel
theorem dX12_sum_33 : decode cX12_sum 33 = .ok (.aload_n 0, 1) := by decide +kernel
theorem dX12_sum_34 : decode cX12_sum 34 = .ok (.invokevirtual 201, 3) := by decide +kernel
theorem dX12_sum_37 : decode cX12_sum 37 = .ok (.iadd, 1) := by decide +kernel
theorem dX12_sum_38 : decode cX12_sum 38 = .ok (.istore_n 1, 1) := by decide +kernel
theorem dX12_sum_39 : decode cX12_sum 39 = .ok (.goto (-34), 3) := by decide +kernel
theorem dX12_sum_42 : decode cX12_sum 42 = .ok (.iload_n 1, 1) := by decide +kernel
theorem dX12_sum_43 : decode cX12_sum 43 = .ok (.ireturn, 1) := by decide +kernel
set_option maxRecDepth 20000 in
theorem ggX12_plain_X12_has : GoodIn wsX12_plain wsX12_has := goodIn_r _ [10, 5, 11, 12, 13, 14, 9, 15, 16, 17, 18, 19, 20, 21, 1, 22, 23, 24, 25, 26, 27, 28, 29, 30, 31, 32, 33, 34, 35, 36, 37, 38, 39, 40, 41, 42, 43, 44, 45, 46, 47, 48, 49, 50, 51, 52, 53, 54, 55, 56, 57, 58, 59, 60, 61, 62, 63, 64, 65, 66, 67, 68, 69, 70, 71, 72, 73, 102, 103, 104, 105, 106, 107, 108, 109, 110, 111, 112, 113, 114, 115, 116, 117, 118, 119, 120, 121, 122, 123, 124, 125, 126, 127, 128, 129, 130, 131] (by decide +kernel) (by decide +kernel)
set_option maxRecDepth 20000 in
theorem gX12_plain_X12_has : GoodIn wsX12_plain (wsV RX12 112 RX12 yX12_has wsX12_has) := goodIn_app (goodIn_of _ (by decide +kernel)) ggX12_plain_X12_has
set_option maxRecDepth 20000 in
theorem ggX12_plain_X12_of : GoodIn wsX12_plain wsX12_of := goodIn_r _ [77, 1, 102, 103, 104, 105, 106, 107, 108, 109, 110, 111, 112, 113, 114, 115, 116, 117, 118, 119, 120, 121, 122, 123, 124, 125, 126, 127, 128, 129, 130, 131] (by decide +kernel) (by decide +kernel)
set_option maxRecDepth 20000 in
theorem gX12_plain_X12_of : GoodIn wsX12_plain (wsV RX12 66 RX12 yX12_of wsX12_of) := goodIn_app (goodIn_of _ (by decide +kernel)) ggX12_plain_X12_of
set_option maxRecDepth 20000 in
theorem ggX12_plain_X12_sum : GoodIn wsX12_plain wsX12_sum := goodIn_r _ [81, 4, 5, 82, 83, 84, 9, 85, 11, 3, 12, 13, 14, 15, 16, 17, 18, 19, 20, 21, 1, 22, 23, 24, 86, 87, 88, 89, 90, 91, 92, 93, 94, 95, 96, 97, 6, 7, 8, 10, 25, 26, 27, 28, 29, 30, 31, 32, 33, 34, 35, 36, 37, 38, 39, 40, 41, 42, 43, 44, 45, 46, 47, 48, 49, 50, 51, 52, 53, 54, 55, 56, 57, 58, 59, 60, 61, 62, 63, 64, 65, 66, 67, 68, 69, 70, 71, 72, 73, 98, 99, 100, 101, 102, 103, 104, 105, 106, 107, 108, 109, 110, 111, 112, 113, 114, 115, 116, 117, 118, 119, 120, 121, 122, 123, 124, 125, 126, 127, 128, 129, 130, 131] (by decide +kernel) (by decide +kernel)
set_option maxRecDepth 20000 in
theorem gX12_plain_X12_sum : GoodIn wsX12_plain (wsV RX12 212 RX12 yX12_sum wsX12_sum) := goodIn_app (goodIn_of _ (by decide +kernel)) ggX12_plain_X12_sum
set_option maxRecDepth 20000 in
theorem ggX12_plain_X12_isSign : GoodIn wsX12_plain wsX12_isSign := goodIn_r _ [101, 5, 11, 12, 13, 14, 9, 15, 16, 17, 18, 19, 20, 21, 1, 102, 103, 104, 105, 106, 107, 108, 109, 110, 111, 112, 113, 114, 115, 116, 117, 118, 119, 120, 121, 122, 123, 124, 125, 126, 127, 128, 129, 130, 131] (by decide +kernel) (by decide +kernel)
set_option maxRecDepth 20000 in
theorem gX12_plain_X12_isSign : GoodIn wsX12_plain (wsV RX12 173 RX12 yX12_isSign wsX12_isSign) := goodIn_app (goodIn_of _ (by decide +kernel)) ggX12_plain_X12_isSign
set_option maxRecDepth 20000 in
theorem ggX12_plain_X12_wrong : GoodIn wsX12_plain wsX12_wrong := goodIn_r _ [97, 4, 102, 103, 104, 105, 106, 107, 108, 109, 110, 111, 112, 113, 114, 115, 116, 117, 118, 119, 120, 121, 122, 123, 124, 125, 126, 127, 128, 129, 130, 131] (by decide +kernel) (by decide +kernel)
set_option maxRecDepth 20000 in
theorem gX12_plain_X12_wrong : GoodIn wsX12_plain (wsV RX12 108 RX12 yX12_wrong wsX12_wrong) := goodIn_app (goodIn_of _ (by decide +kernel)) ggX12_plain_X12_wrong
theorem dX12_plain_0 : decode cX12_plain 0 = .ok (.aload_n 0, 1) := by decide +kernel
theorem dX12_plain_1 : decode cX12_plain 1 = .ok (.ldc 204, 2) := by decide +kernel
theorem dX12_plain_3 : decode cX12_plain 3 = .ok (.invokevirtual 112, 3) := by decide +kernel
theorem dX12_plain_6 : decode cX12_plain 6 = .ok (.ifCond .eq 21, 3) := by decide +kernel
theorem dX12_plain_9 : decode cX12_plain 9 = .ok (.aload_n 0, 1) := by decide +kernel
theorem dX12_plain_10 : decode cX12_plain 10 = .ok (.getfield 7, 3) := by decide +kernel
theorem dX12_plain_13 : decode cX12_plain 13 = .ok (.bipush 6, 2) := by decide +kernel
theorem dX12_plain_15 : decode cX12_plain 15 = .ok (.iaload, 1) := by decide +kernel
theorem dX12_plain_16 : decode cX12_plain 16 = .ok (.iconst 2, 1) := by decide +kernel
theorem dX12_plain_17 : decode cX12_plain 17 = .ok (.irem, 1) := by decide +kernel
theorem dX12_plain_18 : decode cX12_plain 18 = .ok (.ifCond .ne 7, 3) := by decide +kernel
theorem dX12_plain_21 : decode cX12_plain 21 = .ok (.iconst 1, 1) := by decide +kernel
theorem dX12_plain_22 : decode cX12_plain 22 = .ok (.goto 4, 3) := by decide +kernel
theorem dX12_plain_25 : decode cX12_plain 25 = .ok (.iconst 0, 1) := by decide +kernel
theorem dX12_plain_26 : decode cX12_plain 26 = .ok (.ireturn, 1) := by decide +kernel
theorem dX12_plain_27 : decode cX12_plain 27 = .ok (.aload_n 0, 1) := by decide +kernel
theorem dX12_plain_28 : decode cX12_plain 28 = .ok (.ldc 206, 2) := by decide +kernel
theorem dX12_plain_30 : decode cX12_plain 30 = .ok (.invokevirtual 112, 3) := by decide +kernel
theorem dX12_plain_33 : decode cX12_plain 33 = .ok (.ifCond .eq 8, 3) := by decide +kernel
theorem dX12_plain_36 : decode cX12_plain 36 = .ok (.aload_n 0, 1) := by decide +kernel
theorem dX12_plain_37 : decode cX12_plain 37 = .ok (.getfield 208, 3) := by decide +kernel
theorem dX12_plain_40 : decode cX12_plain 40 = .ok (.ireturn, 1) := by decide +kernel
theorem dX12_plain_41 : decode cX12_plain 41 = .ok (.aload_n 0, 1) := by decide +kernel
theorem dX12_plain_42 : decode cX12_plain 42 = .ok (.ldc 131, 2) := by decide +kernel
theorem dX12_plain_44 : decode cX12_plain 44 = .ok (.invokevirtual 112, 3) := by decide +kernel
theorem dX12_plain_47 : decode cX12_plain 47 = .ok (.ifCond .eq 24, 3) := by decide +kernel
theorem dX12_plain_50 : decode cX12_plain 50 = .ok (.aload_n 0, 1) := by decide +kernel
theorem dX12_plain_51 : decode cX12_plain 51 = .ok (.aload_n 0, 1) := by decide +kernel
theorem dX12_plain_52 : decode cX12_plain 52 = .ok (.getfield 29, 3) := by decide +kernel
theorem dX12_plain_55 : decode cX12_plain 55 = .ok (.iconst 0, 1) := by decide +kernel
theorem dX12_plain_56 : decode cX12_plain 56 = .ok (.iaload, 1) := by decide +kernel
theorem dX12_plain_57 : decode cX12_plain 57 = .ok (.bipush 8, 2) := by decide +kernel
theorem dX12_plain_59 : decode cX12_plain 59 = .ok (.invokevirtual 66, 3) := by decide +kernel
theorem dX12_plain_62 : decode cX12_plain 62 = .ok (.ifCond .le 7, 3) := by decide +kernel
theorem dX12_plain_65 : decode cX12_plain 65 = .ok (.iconst 1, 1) := by decide +kernel
theorem dX12_plain_66 : decode cX12_plain 66 = .ok (.goto 4, 3) := by decide +kernel
theorem dX12_plain_69 : decode cX12_plain 69 = .ok (.iconst 0, 1) := by decide +kernel
theorem dX12_plain_70 : decode cX12_plain 70 = .ok (.ireturn, 1) := by decide +kernel
theorem dX12_plain_71 : decode cX12_plain 71 = .ok (.aload_n 0, 1) := by decide +kernel
theorem dX12_plain_72 : decode cX12_plain 72 = .ok (.invokevirtual 212, 3) := by decide +kernel
theorem dX12_plain_75 : decode cX12_plain 75 = .ok (.istore_n 1, 1) := by decide +kernel
theorem dX12_plain_76 : decode cX12_plain 76 = .ok (.aload_n 0, 1) := by decide +kernel
theorem dX12_plain_77 : decode cX12_plain 77 = .ok (.getfield 25, 3) := by decide +kernel
theorem dX12_plain_80 : decode cX12_plain 80 = .ok (.iconst (-1), 1) := by decide +kernel
theorem dX12_plain_81 : decode cX12_plain 81 = .ok (.if_icmp .eq 5, 3) := by decide +kernel
theorem dX12_plain_84 : decode cX12_plain 84 = .ok (.iconst 0, 1) := by decide +kernel
theorem dX12_plain_85 : decode cX12_plain 85 = .ok (.ireturn, 1) := by decide +kernel
theorem dX12_plain_86 : decode cX12_plain 86 = .ok (.aload_n 0, 1) := by decide +kernel
theorem dX12_plain_87 : decode cX12_plain 87 = .ok (.bipush 60, 2) := by decide +kernel
theorem dX12_plain_89 : decode cX12_plain 89 = .ok (.invokevirtual 173, 3) := by decide +kernel
theorem dX12_plain_92 : decode cX12_plain 92 = .ok (.istore_n 2, 1) := by decide +kernel
theorem dX12_plain_93 : decode cX12_plain 93 = .ok (.iload_n 2, 1) := by decide +kernel
theorem dX12_plain_94 : decode cX12_plain 94 = .ok (.ifCond .ne 22, 3) := by decide +kernel
theorem dX12_plain_97 : decode cX12_plain 97 = .ok (.aload_n 0, 1) := by decide +kernel
theorem dX12_plain_98 : decode cX12_plain 98 = .ok (.bipush 62, 2) := by decide +kernel
theorem dX12_plain_100 : decode cX12_plain 100 = .ok (.invokevirtual 173, 3) := by decide +kernel
theorem dX12_plain_103 : decode cX12_plain 103 = .ok (.ifCond .ne 13, 3) := by decide +kernel
theorem dX12_plain_106 : decode cX12_plain 106 = .ok (.aload_n 0, 1) := by decide +kernel
theorem dX12_plain_107 : decode cX12_plain 107 = .ok (.aload_n 0, 1) := by decide +kernel
theorem dX12_plain_108 : decode cX12_plain 108 = .ok (.getfield 82, 3) := by decide +kernel
theorem dX12_plain_111 : decode cX12_plain 111 = .ok (.invokevirtual 108, 3) := by decide +kernel
theorem dX12_plain_114 : decode cX12_plain 114 = .ok (.iconst 0, 1) := by decide +kernel
theorem dX12_plain_115 : decode cX12_plain 115 = .ok (.ireturn, 1) := by decide +kernel
theorem dX12_plain_116 : decode cX12_plain 116 = .ok (.aload_n 0, 1) := by decide +kernel
theorem dX12_plain_117 : decode cX12_plain 117 = .ok (.dup, 1) := by decide +kernel
theorem dX12_plain_118 : decode cX12_plain 118 = .ok (.getfield 82, 3) := by decide +kernel
theorem dX12_plain_121 : decode cX12_plain 121 = .ok (.iconst 1, 1) := by decide +kernel
theorem dX12_plain_122 : decode cX12_plain 122 = .ok (.iadd, 1) := by decide +kernel
theorem dX12_plain_123 : decode cX12_plain 123 = .ok (.putfield 82, 3) := by decide +kernel
theorem dX12_plain_126 : decode cX12_plain 126 = .ok (.aload_n 0, 1) := by decide +kernel
theorem dX12_plain_127 : decode cX12_plain 127 = .ok (.invokevirtual 212, 3) := by decide +kernel
theorem dX12_plain_130 : decode cX12_plain 130 = .ok (.istore_n 3, 1) := by decide +kernel
theorem dX12_plain_131 : decode cX12_plain 131 = .ok (.iload_n 2, 1) := by decide +kernel
theorem dX12_plain_132 : decode cX12_plain 132 = .ok (.ifCond .eq 16, 3) := by decide +kernel
theorem dX12_plain_135 : decode cX12_plain 135 = .ok (.iload_n 1, 1) := by decide +kernel
theorem dX12_plain_136 : decode cX12_plain 136 = .ok (.iload_n 3, 1) := by decide +kernel
theorem dX12_plain_137 : decode cX12_plain 137 = .ok (.if_icmp .ge 7, 3) := by decide +kernel
theorem dX12_plain_140 : decode cX12_plain 140 = .ok (.iconst 1, 1) := by decide +kernel
theorem dX12_plain_141 : decode cX12_plain 141 = .ok (.goto 17, 3) := by decide +kernel
theorem dX12_plain_144 : decode cX12_plain 144 = .ok (.iconst 0, 1) := by decide +kernel
theorem dX12_plain_145 : decode cX12_plain 145 = .ok (.goto 13, 3) := by decide +kernel
theorem dX12_plain_148 : decode cX12_plain 148 = .ok (.iload_n 1, 1) := by decide +kernel
theorem dX12_plain_149 : decode cX12_plain 149 = .ok (.iload_n 3, 1) := by decide +kernel
theorem dX12_plain_150 : decode cX12_plain 150 = .ok (.if_icmp .le 7, 3) := by decide +kernel
theorem dX12_plain_153 : decode cX12_plain 153 = .ok (.iconst 1, 1) := by decide +kernel
theorem dX12_plain_154 : decode cX12_plain 154 = .ok (.goto 4, 3) := by decide +kernel
theorem dX12_plain_157 : decode cX12_plain 157 = .ok (.iconst 0, 1) := by decide +kernel
theorem dX12_plain_158 : decode cX12_plain 158 = .ok (.ireturn, 1) := by decide +kernel
set_option maxRecDepth 20000 in
theorem ggX12_atom_X12_here : GoodIn wsX12_atom wsX12_here := goodIn_r _ [8, 3, 9, 10, 11, 7, 12, 13, 14, 15, 16, 17, 18, 19, 20, 118, 119, 120, 121, 122, 123, 124, 125, 126, 127, 128, 129, 130, 131, 132, 133, 134, 135, 136, 137, 138, 139, 140, 141, 142, 143, 144, 145, 146, 147] (by decide +kernel) (by decide +kernel)
set_option maxRecDepth 20000 in
theorem gX12_atom_X12_here : GoodIn wsX12_atom (wsV RX12 105 RX12 yX12_here wsX12_here) := goodIn_app (goodIn_of _ (by decide +kernel)) ggX12_atom_X12_here
set_option maxRecDepth 20000 in
theorem ggX12_atom_X12_has : GoodIn wsX12_atom wsX12_has := goodIn_r _ [24, 3, 13, 9, 10, 11, 7, 12, 14, 15, 16, 17, 18, 19, 20, 25, 26, 27, 28, 29, 30, 31, 32, 33, 34, 35, 36, 37, 38, 39, 40, 41, 42, 43, 44, 45, 46, 47, 48, 49, 50, 51, 52, 53, 54, 55, 56, 57, 58, 59, 60, 61, 62, 63, 64, 65, 66, 67, 68, 69, 70, 71, 72, 73, 74, 75, 76, 118, 119, 120, 121, 122, 123, 124, 125, 126, 127, 128, 129, 130, 131, 132, 133, 134, 135, 136, 137, 138, 139, 140, 141, 142, 143, 144, 145, 146, 147] (by decide +kernel) (by decide +kernel)
set_option maxRecDepth 20000 in
theorem gX12_atom_X12_has : GoodIn wsX12_atom (wsV RX12 112 RX12 yX12_has wsX12_has) := goodIn_app (goodIn_of _ (by decide +kernel)) ggX12_atom_X12_has
set_option maxRecDepth 20000 in
theorem ggX12_atom_X12_isSign : GoodIn wsX12_atom wsX12_isSign := goodIn_r _ [80, 3, 13, 9, 10, 11, 7, 12, 14, 15, 16, 17, 18, 19, 20, 118, 119, 120, 121, 122, 123, 124, 125, 126, 127, 128, 129, 130, 131, 132, 133, 134, 135, 136, 137, 138, 139, 140, 141, 142, 143, 144, 145, 146, 147] (by decide +kernel) (by decide +kernel)
set_option maxRecDepth 20000 in
theorem gX12_atom_X12_isSign : GoodIn wsX12_atom (wsV RX12 173 RX12 yX12_isSign wsX12_isSign) := goodIn_app (goodIn_of _ (by decide +kernel)) ggX12_atom_X12_isSign
set_option maxRecDepth 20000 in
theorem ggX12_atom_X12_plain : GoodIn wsX12_atom wsX12_plain := goodIn_r _ [84, 20, 85, 86, 1, 3, 21, 22, 23, 7, 24, 13, 9, 10, 11, 12, 14, 15, 16, 17, 18, 19, 25, 26, 27, 28, 29, 30, 31, 32, 33, 34, 35, 36, 37, 38, 39, 40, 41, 42, 43, 44, 45, 46, 47, 48, 49, 50, 51, 52, 53, 54, 55, 56, 57, 58, 59, 60, 61, 62, 63, 64, 65, 66, 67, 68, 69, 70, 71, 72, 73, 74, 75, 76, 87, 88, 89, 90, 91, 92, 93, 94, 95, 96, 97, 98, 99, 100, 101, 102, 4, 5, 6, 8, 103, 104, 105, 106, 77, 78, 79, 80, 118, 119, 120, 121, 122, 123, 124, 125, 126, 127, 128, 129, 130, 131, 132, 133, 134, 135, 136, 137, 138, 139, 140, 141, 142, 143, 144, 145, 146, 147] (by decide +kernel) (by decide +kernel)
set_option maxRecDepth 20000 in
theorem gX12_atom_X12_plain : GoodIn wsX12_atom (wsV RX12 217 RX12 yX12_plain wsX12_plain) := goodIn_app (goodIn_of _ (by decide +kernel)) ggX12_atom_X12_plain
set_option maxRecDepth 20000 in
theorem ggX12_atom_X12_wrong : GoodIn wsX12_atom wsX12_wrong := goodIn_r _ [106, 1, 118, 119, 120, 121, 122, 123, 124, 125, 126, 127, 128, 129, 130, 131, 132, 133, 134, 135, 136, 137, 138, 139, 140, 141, 142, 143, 144, 145, 146, 147] (by decide +kernel) (by decide +kernel)
set_option maxRecDepth 20000 in
theorem gX12_atom_X12_wrong : GoodIn wsX12_atom (wsV RX12 108 RX12 yX12_wrong wsX12_wrong) := goodIn_app (goodIn_of _ (by decide +kernel)) ggX12_atom_X12_wrong
set_option maxRecDepth 20000 in
theorem ggX12_atom_X12_atom : GoodIn wsX12_atom wsX12_atom := goodIn_r _ [0, 1, 2, 3, 4, 5, 6, 7, 8, 9, 10, 11, 12, 13, 14, 15, 16, 17, 18, 19, 20, 21, 22, 23, 24, 25, 26, 27, 28, 29, 30, 31, 32, 33, 34, 35, 36, 37, 38, 39, 40, 41, 42, 43, 44, 45, 46, 47, 48, 49, 50, 51, 52, 53, 54, 55, 56, 57, 58, 59, 60, 61, 62, 63, 64, 65, 66, 67, 68, 69, 70, 71, 72, 73, 74, 75, 76, 77, 78, 79, 80, 81, 82, 83, 84, 85, 86, 87, 88, 89, 90, 91, 92, 93, 94, 95, 96, 97, 98, 99, 100, 101, 102, 103, 104, 105, 106, 107, 108, 109, 110, 111, 112, 113, 114, 115, 116, 117, 118, 119, 120, 121, 122, 123, 124, 125, 126, 127, 128, 129, 130, 131, 132, 133, 134, 135, 136, 137, 138, 139, 140, 141, 142, 143, 144, 145, 146, 147] (by decide +kernel) (by decide +kernel)
set_option maxRecDepth 20000 in
theorem gX12_atom_X12_atom : GoodIn wsX12_atom (wsV RX12 221 RX12 yX12_atom wsX12_atom) := goodIn_app (goodIn_of _ (by decide +kernel)) ggX12_atom_X12_atom
set_option maxRecDepth 20000 in
theorem ggX12_atom_X12_some : GoodIn wsX12_atom wsX12_some := goodIn_r _ [114, 1, 115, 116, 117, 7, 21, 22, 23, 24, 3, 13, 9, 10, 11, 12, 14, 15, 16, 17, 18, 19, 20, 25, 26, 27, 28, 29, 30, 31, 32, 33, 34, 35, 36, 37, 38, 39, 40, 41, 42, 43, 44, 45, 46, 47, 48, 49, 50, 51, 52, 53, 54, 55, 56, 57, 58, 59, 60, 61, 62, 63, 64, 65, 66, 67, 68, 69, 70, 71, 72, 73, 74, 75, 76, 0, 2, 4, 5, 6, 8, 77, 78, 79, 80, 81, 82, 83, 84, 85, 86, 87, 88, 89, 90, 91, 92, 93, 94, 95, 96, 97, 98, 99, 100, 101, 102, 103, 104, 105, 106, 107, 108, 109, 110, 111, 112, 113, 118, 119, 120, 121, 122, 123, 124, 125, 126, 127, 128, 129, 130, 131, 132, 133, 134, 135, 136, 137, 138, 139, 140, 141, 142, 143, 144, 145, 146, 147] (by decide +kernel) (by decide +kernel)
set_option maxRecDepth 20000 in
theorem gX12_atom_X12_some : GoodIn wsX12_atom (wsV RX12 224 RX12 yX12_some wsX12_some) := goodIn_app (goodIn_of _ (by decide +kernel)) ggX12_atom_X12_some
theorem dX12_atom_0 : decode cX12_atom 0 = .ok (.aload_n 0, 1) := by decide +kernel
theorem dX12_atom_1 : decode cX12_atom 1 = .ok (.getfield 25, 3) := by decide +kernel
theorem dX12_atom_4 : decode cX12_atom 4 = .ok (.iconst (-1), 1) := by decide +kernel
theorem dX12_atom_5 : decode cX12_atom 5 = .ok (.if_icmp .eq 5, 3) := by decide +kernel
theorem dX12_atom_8 : decode cX12_atom 8 = .ok (.iconst 0, 1) := by decide +kernel
theorem dX12_atom_9 : decode cX12_atom 9 = .ok (.ireturn, 1) := by decide +kernel
theorem dX12_atom_10 : decode cX12_atom 10 = .ok (.aload_n 0, 1) := by decide +kernel
theorem dX12_atom_11 : decode cX12_atom 11 = .ok (.invokevirtual 105, 3) := by decide +kernel
theorem dX12_atom_14 : decode cX12_atom 14 = .ok (.istore_n 1, 1) := by decide +kernel
theorem dX12_atom_15 : decode cX12_atom 15 = .ok (.aload_n 0, 1) := by decide +kernel
theorem dX12_atom_16 : decode cX12_atom 16 = .ok (.ldc 215, 2) := by decide +kernel
theorem dX12_atom_18 : decode cX12_atom 18 = .ok (.invokevirtual 112, 3) := by decide +kernel
theorem dX12_atom_21 : decode cX12_atom 21 = .ok (.istore_n 2, 1) := by decide +kernel
theorem dX12_atom_22 : decode cX12_atom 22 = .ok (.iload_n 2, 1) := by decide +kernel
theorem dX12_atom_23 : decode cX12_atom 23 = .ok (.ifCond .ne 17, 3) := by decide +kernel
theorem dX12_atom_26 : decode cX12_atom 26 = .ok (.aload_n 0, 1) := by decide +kernel
theorem dX12_atom_27 : decode cX12_atom 27 = .ok (.bipush 40, 2) := by decide +kernel
theorem dX12_atom_29 : decode cX12_atom 29 = .ok (.invokevirtual 173, 3) := by decide +kernel
theorem dX12_atom_32 : decode cX12_atom 32 = .ok (.ifCond .ne 8, 3) := by decide +kernel
theorem dX12_atom_35 : decode cX12_atom 35 = .ok (.aload_n 0, 1) := by decide +kernel
theorem dX12_atom_36 : decode cX12_atom 36 = .ok (.invokevirtual 217, 3) := by decide +kernel
theorem dX12_atom_39 : decode cX12_atom 39 = .ok (.ireturn, 1) := by decide +kernel
theorem dX12_atom_40 : decode cX12_atom 40 = .ok (.aload_n 0, 1) := by decide +kernel
theorem dX12_atom_41 : decode cX12_atom 41 = .ok (.getfield 164, 3) := by decide +kernel
theorem dX12_atom_44 : decode cX12_atom 44 = .ok (.bipush 6, 2) := by decide +kernel
theorem dX12_atom_46 : decode cX12_atom 46 = .ok (.if_icmp .ne 10, 3) := by decide +kernel
theorem dX12_atom_49 : decode cX12_atom 49 = .ok (.aload_n 0, 1) := by decide +kernel
theorem dX12_atom_50 : decode cX12_atom 50 = .ok (.iload_n 1, 1) := by decide +kernel
theorem dX12_atom_51 : decode cX12_atom 51 = .ok (.invokevirtual 108, 3) := by decide +kernel
theorem dX12_atom_54 : decode cX12_atom 54 = .ok (.iconst 0, 1) := by decide +kernel
theorem dX12_atom_55 : decode cX12_atom 55 = .ok (.ireturn, 1) := by decide +kernel
theorem dX12_atom_56 : decode cX12_atom 56 = .ok (.aload_n 0, 1) := by decide +kernel
theorem dX12_atom_57 : decode cX12_atom 57 = .ok (.dup, 1) := by decide +kernel
theorem dX12_atom_58 : decode cX12_atom 58 = .ok (.getfield 164, 3) := by decide +kernel
theorem dX12_atom_61 : decode cX12_atom 61 = .ok (.iconst 1, 1) := by decide +kernel
theorem dX12_atom_62 : decode cX12_atom 62 = .ok (.iadd, 1) := by decide +kernel
theorem dX12_atom_63 : decode cX12_atom 63 = .ok (.putfield 164, 3) := by decide +kernel
theorem dX12_atom_66 : decode cX12_atom 66 = .ok (.iconst 0, 1) := by decide +kernel
theorem dX12_atom_67 : decode cX12_atom 67 = .ok (.istore_n 3, 1) := by decide +kernel
theorem dX12_atom_68 : decode cX12_atom 68 = .ok (.iload_n 2, 1) := by decide +kernel
theorem dX12_atom_69 : decode cX12_atom 69 = .ok (.ifCond .eq 19, 3) := by decide +kernel
theorem dX12_atom_72 : decode cX12_atom 72 = .ok (.aload_n 0, 1) := by decide +kernel
theorem dX12_atom_73 : decode cX12_atom 73 = .ok (.invokevirtual 221, 3) := by decide +kernel
theorem dX12_atom_76 : decode cX12_atom 76 = .ok (.ifCond .ne 7, 3) := by decide +kernel
theorem dX12_atom_79 : decode cX12_atom 79 = .ok (.iconst 1, 1) := by decide +kernel
theorem dX12_atom_80 : decode cX12_atom 80 = .ok (.goto 4, 3) := by decide +kernel
theorem dX12_atom_83 : decode cX12_atom 83 = .ok (.iconst 0, 1) := by decide +kernel
theorem dX12_atom_84 : decode cX12_atom 84 = .ok (.istore_n 3, 1) := by decide +kernel
theorem dX12_atom_85 : decode cX12_atom 85 = .ok (.goto 53, 3) := by decide +kernel
theorem dX12_atom_88 : decode cX12_atom 88 = .ok (.aload_n 0, 1) := by decide +kernel
theorem dX12_atom_89 : decode cX12_atom 89 = .ok (.dup, 1) := by decide +kernel
theorem dX12_atom_90 : decode cX12_atom 90 = .ok (.getfield 82, 3) := by decide +kernel
theorem dX12_atom_93 : decode cX12_atom 93 = .ok (.iconst 1, 1) := by decide +kernel
theorem dX12_atom_94 : decode cX12_atom 94 = .ok (.iadd, 1) := by decide +kernel
theorem dX12_atom_95 : decode cX12_atom 95 = .ok (.putfield 82, 3) := by decide +kernel
theorem dX12_atom_98 : decode cX12_atom 98 = .ok (.aload_n 0, 1) := by decide +kernel
theorem dX12_atom_99 : decode cX12_atom 99 = .ok (.invokevirtual 224, 3) := by decide +kernel
theorem dX12_atom_102 : decode cX12_atom 102 = .ok (.istore_n 3, 1) := by decide +kernel
theorem dX12_atom_103 : decode cX12_atom 103 = .ok (.aload_n 0, 1) := by decide +kernel
theorem dX12_atom_104 : decode cX12_atom 104 = .ok (.getfield 25, 3) := by decide +kernel
theorem dX12_atom_107 : decode cX12_atom 107 = .ok (.iconst (-1), 1) := by decide +kernel
theorem dX12_atom_108 : decode cX12_atom 108 = .ok (.if_icmp .ne 20, 3) := by decide +kernel
theorem dX12_atom_111 : decode cX12_atom 111 = .ok (.aload_n 0, 1) := by decide +kernel
theorem dX12_atom_112 : decode cX12_atom 112 = .ok (.bipush 41, 2) := by decide +kernel
theorem dX12_atom_114 : decode cX12_atom 114 = .ok (.invokevirtual 173, 3) := by decide +kernel
theorem dX12_atom_117 : decode cX12_atom 117 = .ok (.ifCond .ne 11, 3) := by decide +kernel
theorem dX12_atom_120 : decode cX12_atom 120 = .ok (.aload_n 0, 1) := by decide +kernel
theorem dX12_atom_121 : decode cX12_atom 121 = .ok (.aload_n 0, 1) := by decide +kernel
theorem dX12_atom_122 : decode cX12_atom 122 = .ok (.getfield 82, 3) := by decide +kernel
theorem dX12_atom_125 : decode cX12_atom 125 = .ok (.invokevirtual 108, 3) := by decide +kernel
theorem dX12_atom_128 : decode cX12_atom 128 = .ok (.aload_n 0, 1) := by decide +kernel
theorem dX12_atom_129 : decode cX12_atom 129 = .ok (.dup, 1) := by decide +kernel
theorem dX12_atom_130 : decode cX12_atom 130 = .ok (.getfield 82, 3) := by decide +kernel
theorem dX12_atom_133 : decode cX12_atom 133 = .ok (.iconst 1, 1) := by decide +kernel
theorem dX12_atom_134 : decode cX12_atom 134 = .ok (.iadd, 1) := by decide +kernel
theorem dX12_atom_135 : decode cX12_atom 135 = .ok (.putfield 82, 3) := by decide +kernel
theorem dX12_atom_138 : decode cX12_atom 138 = .ok (.aload_n 0, 1) := by decide +kernel
theorem dX12_atom_139 : decode cX12_atom 139 = .ok (.dup, 1) := by decide +kernel
theorem dX12_atom_140 : decode cX12_atom 140 = .ok (.getfield 164, 3) := by decide +kernel
theorem dX12_atom_143 : decode cX12_atom 143 = .ok (.iconst 1, 1) := by decide +kernel
theorem dX12_atom_144 : decode cX12_atom 144 = .ok (.isub, 1) := by decide +kernel
theorem dX12_atom_145 : decode cX12_atom 145 = .ok (.putfield 164, 3) := by decide +kernel
theorem dX12_atom_148 : decode cX12_atom 148 = .ok (.iload_n 3, 1) := by decide +kernel
theorem dX12_atom_149 : decode cX12_atom 149 = .ok (.ireturn, 1) := by decide +kernel
set_option maxRecDepth 20000 in
theorem ggX12_every_X12_atom : GoodIn wsX12_every wsX12_atom := goodIn_r _ [75, 1, 76, 10, 77, 78, 79, 5, 80, 12, 13, 14, 15, 11, 16, 17, 18, 19, 20, 21, 22, 6, 7, 8, 9, 23, 24, 25, 26, 27, 28, 29, 30, 31, 32, 33, 34, 35, 36, 37, 38, 39, 40, 41, 42, 43, 44, 45, 46, 47, 48, 49, 50, 51, 52, 53, 54, 55, 56, 57, 58, 59, 60, 61, 62, 63, 64, 65, 66, 67, 68, 69, 70, 71, 72, 73, 74, 81, 82, 83, 84, 85, 86, 87, 88, 89, 90, 91, 92, 93, 94, 95, 96, 97, 98, 99, 100, 101, 102, 103, 104, 105, 106, 107, 108, 109, 110, 2, 3, 4, 111, 112, 113, 0, 114, 115, 116, 117, 118, 119, 120, 121, 122, 123, 124, 125, 126, 127, 128, 129, 130, 131, 132, 133, 134, 135, 136, 137, 138, 139, 140, 141, 142, 143, 144, 145, 146, 147] (by decide +kernel) (by decide +kernel)
set_option maxRecDepth 20000 in
theorem gX12_every_X12_atom : GoodIn wsX12_every (wsV RX12 221 RX12 yX12_atom wsX12_atom) := goodIn_app (goodIn_of _ (by decide +kernel)) ggX12_every_X12_atom
set_option maxRecDepth 20000 in
theorem ggX12_every_X12_has : GoodIn wsX12_every wsX12_has := goodIn_r _ [9, 10, 11, 12, 13, 14, 5, 15, 16, 17, 18, 19, 20, 21, 22, 23, 24, 25, 26, 27, 28, 29, 30, 31, 32, 33, 34, 35, 36, 37, 38, 39, 40, 41, 42, 43, 44, 45, 46, 47, 48, 49, 50, 51, 52, 53, 54, 55, 56, 57, 58, 59, 60, 61, 62, 63, 64, 65, 66, 67, 68, 69, 70, 71, 72, 73, 74, 118, 119, 120, 121, 122, 123, 124, 125, 126, 127, 128, 129, 130, 131, 132, 133, 134, 135, 136, 137, 138, 139, 140, 141, 142, 143, 144, 145, 146, 147] (by decide +kernel) (by decide +kernel)
set_option maxRecDepth 20000 in
theorem gX12_every_X12_has : GoodIn wsX12_every (wsV RX12 112 RX12 yX12_has wsX12_has) := goodIn_app (goodIn_of _ (by decide +kernel)) ggX12_every_X12_has
theorem dX12_every_0 : decode cX12_every 0 = .ok (.aload_n 0, 1) := by decide +kernel
theorem dX12_every_1 : decode cX12_every 1 = .ok (.invokevirtual 221, 3) := by decide +kernel
theorem dX12_every_4 : decode cX12_every 4 = .ok (.istore_n 1, 1) := by decide +kernel
theorem dX12_every_5 : decode cX12_every 5 = .ok (.aload_n 0, 1) := by decide +kernel
theorem dX12_every_6 : decode cX12_every 6 = .ok (.getfield 25, 3) := by decide +kernel
theorem dX12_every_9 : decode cX12_every 9 = .ok (.iconst (-1), 1) := by decide +kernel
theorem dX12_every_10 : decode cX12_every 10 = .ok (.if_icmp .ne 34, 3) := by decide +kernel
theorem dX12_every_13 : decode cX12_every 13 = .ok (.aload_n 0, 1) := by decide +kernel
theorem dX12_every_14 : decode cX12_every 14 = .ok (.ldc 227, 2) := by decide +kernel
theorem dX12_every_16 : decode cX12_every 16 = .ok (.invokevirtual 112, 3) := by decide +kernel
theorem dX12_every_19 : decode cX12_every 19 = .ok (.ifCond .eq 25, 3) := by decide +kernel
theorem dX12_every_22 : decode cX12_every 22 = .ok (.aload_n 0, 1) := by decide +kernel
theorem dX12_every_23 : decode cX12_every 23 = .ok (.invokevirtual 221, 3) := by decide +kernel
theorem dX12_every_26 : decode cX12_every 26 = .ok (.istore_n 2, 1) := by decide +kernel
theorem dX12_every_27 : decode cX12_every 27 = .ok (.iload_n 1, 1) := by decide +kernel
theorem dX12_every_28 : decode cX12_every 28 = .ok (.ifCond .eq 11, 3) := by decide +kernel
theorem dX12_every_31 : decode cX12_every 31 = .ok (.iload_n 2, 1) := by decide +kernel
theorem dX12_every_32 : decode cX12_every 32 = .ok (.ifCond .eq 7, 3) := by decide +kernel
theorem dX12_every_35 : decode cX12_every 35 = .ok (.iconst 1, 1) := by decide +kernel
theorem dX12_every_36 : decode cX12_every 36 = .ok (.goto 4, 3) := by decide +kernel
theorem dX12_every_39 : decode cX12_every 39 = .ok (.iconst 0, 1) := by decide +kernel
theorem dX12_every_40 : decode cX12_every 40 = .ok (.istore_n 1, 1) := by decide +kernel
theorem dX12_every_41 : decode cX12_every 41 = .ok (.goto (-36), 3) := by decide +kernel
theorem dX12_every_44 : decode cX12_every 44 = .ok (.iload_n 1, 1) := by decide +kernel
theorem dX12_every_45 : decode cX12_every 45 = .ok (.ireturn, 1) := by decide +kernel
set_option maxRecDepth 20000 in
theorem ggX12_some_X12_every : GoodIn wsX12_some wsX12_every := goodIn_r _ [117, 1, 111, 112, 113, 5, 6, 7, 8, 9, 10, 11, 12, 13, 14, 15, 16, 17, 18, 19, 20, 21, 22, 23, 24, 25, 26, 27, 28, 29, 30, 31, 32, 33, 34, 35, 36, 37, 38, 39, 40, 41, 42, 43, 44, 45, 46, 47, 48, 49, 50, 51, 52, 53, 54, 55, 56, 57, 58, 59, 60, 61, 62, 63, 64, 65, 66, 67, 68, 69, 70, 71, 72, 73, 74, 75, 76, 77, 78, 79, 80, 81, 82, 83, 84, 85, 86, 87, 88, 89, 90, 91, 92, 93, 94, 95, 96, 97, 98, 99, 100, 101, 102, 103, 104, 105, 106, 107, 108, 109, 110, 114, 115, 116, 0, 2, 3, 4, 118, 119, 120, 121, 122, 123, 124, 125, 126, 127, 128, 129, 130, 131, 132, 133, 134, 135, 136, 137, 138, 139, 140, 141, 142, 143, 144, 145, 146, 147] (by decide +kernel) (by decide +kernel)
set_option maxRecDepth 20000 in
theorem gX12_some_X12_every : GoodIn wsX12_some (wsV RX12 229 RX12 yX12_every wsX12_every) := goodIn_app (goodIn_of _ (by decide +kernel)) ggX12_some_X12_every
set_option maxRecDepth 20000 in
theorem ggX12_some_X12_has : GoodIn wsX12_some wsX12_has := goodIn_r _ [9, 10, 11, 12, 13, 14, 5, 15, 16, 17, 18, 19, 20, 21, 22, 23, 24, 25, 26, 27, 28, 29, 30, 31, 32, 33, 34, 35, 36, 37, 38, 39, 40, 41, 42, 43, 44, 45, 46, 47, 48, 49, 50, 51, 52, 53, 54, 55, 56, 57, 58, 59, 60, 61, 62, 63, 64, 65, 66, 67, 68, 69, 70, 71, 72, 73, 74, 118, 119, 120, 121, 122, 123, 124, 125, 126, 127, 128, 129, 130, 131, 132, 133, 134, 135, 136, 137, 138, 139, 140, 141, 142, 143, 144, 145, 146, 147] (by decide +kernel) (by decide +kernel)
set_option maxRecDepth 20000 in
theorem gX12_some_X12_has : GoodIn wsX12_some (wsV RX12 112 RX12 yX12_has wsX12_has) := goodIn_app (goodIn_of _ (by decide +kernel)) ggX12_some_X12_has
theorem dX12_some_0 : decode cX12_some 0 = .ok (.aload_n 0, 1) := by decide +kernel
theorem dX12_some_1 : decode cX12_some 1 = .ok (.invokevirtual 229, 3) := by decide +kernel
theorem dX12_some_4 : decode cX12_some 4 = .ok (.istore_n 1, 1) := by decide +kernel
theorem dX12_some_5 : decode cX12_some 5 = .ok (.aload_n 0, 1) := by decide +kernel
theorem dX12_some_6 : decode cX12_some 6 = .ok (.getfield 25, 3) := by decide +kernel
theorem dX12_some_9 : decode cX12_some 9 = .ok (.iconst (-1), 1) := by decide +kernel
theorem dX12_some_10 : decode cX12_some 10 = .ok (.if_icmp .ne 34, 3) := by decide +kernel
theorem dX12_some_13 : decode cX12_some 13 = .ok (.aload_n 0, 1) := by decide +kernel
theorem dX12_some_14 : decode cX12_some 14 = .ok (.ldc 232, 2) := by decide +kernel
theorem dX12_some_16 : decode cX12_some 16 = .ok (.invokevirtual 112, 3) := by decide +kernel
theorem dX12_some_19 : decode cX12_some 19 = .ok (.ifCond .eq 25, 3) := by decide +kernel
theorem dX12_some_22 : decode cX12_some 22 = .ok (.aload_n 0, 1) := by decide +kernel
theorem dX12_some_23 : decode cX12_some 23 = .ok (.invokevirtual 229, 3) := by decide +kernel
theorem dX12_some_26 : decode cX12_some 26 = .ok (.istore_n 2, 1) := by decide +kernel
theorem dX12_some_27 : decode cX12_some 27 = .ok (.iload_n 1, 1) := by decide +kernel
theorem dX12_some_28 : decode cX12_some 28 = .ok (.ifCond .ne 7, 3) := by decide +kernel
theorem dX12_some_31 : decode cX12_some 31 = .ok (.iload_n 2, 1) := by decide +kernel
theorem dX12_some_32 : decode cX12_some 32 = .ok (.ifCond .eq 7, 3) := by decide +kernel
theorem dX12_some_35 : decode cX12_some 35 = .ok (.iconst 1, 1) := by decide +kernel
theorem dX12_some_36 : decode cX12_some 36 = .ok (.goto 4, 3) := by decide +kernel
theorem dX12_some_39 : decode cX12_some 39 = .ok (.iconst 0, 1) := by decide +kernel
theorem dX12_some_40 : decode cX12_some 40 = .ok (.istore_n 1, 1) := by decide +kernel
theorem dX12_some_41 : decode cX12_some 41 = .ok (.goto (-36), 3) := by decide +kernel
theorem dX12_some_44 : decode cX12_some 44 = .ok (.iload_n 1, 1) := by decide +kernel
theorem dX12_some_45 : decode cX12_some 45 = .ok (.ireturn, 1) := by decide +kernel
set_option maxRecDepth 20000 in
theorem ggX12_lawLine_X12_has : GoodIn wsX12_lawLine wsX12_has := goodIn_r _ [10, 1, 11, 12, 13, 14, 9, 15, 16, 17, 18, 19, 20, 21, 22, 23, 24, 25, 26, 27, 28, 29, 30, 31, 32, 33, 34, 35, 36, 37, 38, 39, 40, 41, 42, 43, 44, 45, 46, 47, 48, 49, 50, 51, 52, 53, 54, 55, 56, 57, 58, 59, 60, 61, 62, 63, 64, 65, 66, 67, 68, 69, 70, 71, 72, 73, 74, 122, 123, 124, 125, 126, 127, 128, 129, 130, 131, 132, 133, 134, 135, 136, 137, 138, 139, 140, 141, 142, 143, 144, 145, 146, 147, 148, 149, 150, 151] (by decide +kernel) (by decide +kernel)
set_option maxRecDepth 20000 in
theorem gX12_lawLine_X12_has : GoodIn wsX12_lawLine (wsV RX12 112 RX12 yX12_has wsX12_has) := goodIn_app (goodIn_of _ (by decide +kernel)) ggX12_lawLine_X12_has
set_option maxRecDepth 20000 in
theorem ggX12_lawLine_X12_wrong : GoodIn wsX12_lawLine wsX12_wrong := goodIn_r _ [78, 2, 122, 123, 124, 125, 126, 127, 128, 129, 130, 131, 132, 133, 134, 135, 136, 137, 138, 139, 140, 141, 142, 143, 144, 145, 146, 147, 148, 149, 150, 151] (by decide +kernel) (by decide +kernel)
set_option maxRecDepth 20000 in
theorem gX12_lawLine_X12_wrong : GoodIn wsX12_lawLine (wsV RX12 108 RX12 yX12_wrong wsX12_wrong) := goodIn_app (goodIn_of _ (by decide +kernel)) ggX12_lawLine_X12_wrong
set_option maxRecDepth 20000 in
theorem ggX12_lawLine_X12_figures : GoodIn wsX12_lawLine wsX12_figures := goodIn_r _ [82, 2, 1, 11, 83, 84, 85, 9, 86, 12, 13, 14, 15, 16, 17, 18, 19, 20, 21, 22, 23, 24, 25, 75, 76, 77, 78, 122, 123, 124, 125, 126, 127, 128, 129, 130, 131, 132, 133, 134, 135, 136, 137, 138, 139, 140, 141, 142, 143, 144, 145, 146, 147, 148, 149, 150, 151] (by decide +kernel) (by decide +kernel)
set_option maxRecDepth 20000 in
theorem gX12_lawLine_X12_figures : GoodIn wsX12_lawLine (wsV RX12 116 RX12 yX12_figures wsX12_figures) := goodIn_app (goodIn_of _ (by decide +kernel)) ggX12_lawLine_X12_figures
set_option maxRecDepth 20000 in
theorem ggX12_lawLine_X12_some : GoodIn wsX12_lawLine wsX12_some := goodIn_r _ [90, 2, 91, 92, 93, 9, 6, 7, 8, 10, 1, 11, 12, 13, 14, 15, 16, 17, 18, 19, 20, 21, 22, 23, 24, 25, 26, 27, 28, 29, 30, 31, 32, 33, 34, 35, 36, 37, 38, 39, 40, 41, 42, 43, 44, 45, 46, 47, 48, 49, 50, 51, 52, 53, 54, 55, 56, 57, 58, 59, 60, 61, 62, 63, 64, 65, 66, 67, 68, 69, 70, 71, 72, 73, 74, 94, 95, 83, 84, 85, 86, 96, 97, 98, 99, 100, 101, 102, 103, 104, 105, 106, 107, 108, 109, 110, 111, 112, 113, 114, 115, 116, 117, 79, 80, 81, 82, 75, 76, 77, 78, 118, 119, 120, 87, 88, 89, 121, 122, 123, 124, 125, 126, 127, 128, 129, 130, 131, 132, 133, 134, 135, 136, 137, 138, 139, 140, 141, 142, 143, 144, 145, 146, 147, 148, 149, 150, 151] (by decide +kernel) (by decide +kernel)
set_option maxRecDepth 20000 in
theorem gX12_lawLine_X12_some : GoodIn wsX12_lawLine (wsV RX12 224 RX12 yX12_some wsX12_some) := goodIn_app (goodIn_of _ (by decide +kernel)) ggX12_lawLine_X12_some
theorem dX12_lawLine_0 : decode cX12_lawLine 0 = .ok (.aload_n 0, 1) := by decide +kernel
theorem dX12_lawLine_1 : decode cX12_lawLine 1 = .ok (.ldc 133, 2) := by decide +kernel
theorem dX12_lawLine_3 : decode cX12_lawLine 3 = .ok (.invokevirtual 112, 3) := by decide +kernel
theorem dX12_lawLine_6 : decode cX12_lawLine 6 = .ok (.ifCond .eq 7, 3) := by decide +kernel
theorem dX12_lawLine_9 : decode cX12_lawLine 9 = .ok (.iconst 0, 1) := by decide +kernel
theorem dX12_lawLine_10 : decode cX12_lawLine 10 = .ok (.goto 30, 3) := by decide +kernel
theorem dX12_lawLine_13 : decode cX12_lawLine 13 = .ok (.aload_n 0, 1) := by decide +kernel
theorem dX12_lawLine_14 : decode cX12_lawLine 14 = .ok (.ldc 234, 2) := by decide +kernel
theorem dX12_lawLine_16 : decode cX12_lawLine 16 = .ok (.invokevirtual 112, 3) := by decide +kernel
theorem dX12_lawLine_19 : decode cX12_lawLine 19 = .ok (.ifCond .eq 7, 3) := by decide +kernel
theorem dX12_lawLine_22 : decode cX12_lawLine 22 = .ok (.iconst 1, 1) := by decide +kernel
theorem dX12_lawLine_23 : decode cX12_lawLine 23 = .ok (.goto 17, 3) := by decide +kernel
theorem dX12_lawLine_26 : decode cX12_lawLine 26 = .ok (.aload_n 0, 1) := by decide +kernel
theorem dX12_lawLine_27 : decode cX12_lawLine 27 = .ok (.ldc 236, 2) := by decide +kernel
theorem dX12_lawLine_29 : decode cX12_lawLine 29 = .ok (.invokevirtual 112, 3) := by decide +kernel
theorem dX12_lawLine_32 : decode cX12_lawLine 32 = .ok (.ifCond .eq 7, 3) := by decide +kernel
theorem dX12_lawLine_35 : decode cX12_lawLine 35 = .ok (.iconst 2, 1) := by decide +kernel
theorem dX12_lawLine_36 : decode cX12_lawLine 36 = .ok (.goto 4, 3) := by decide +kernel
theorem dX12_lawLine_39 : decode cX12_lawLine 39 = .ok (.iconst (-1), 1) := by decide +kernel
theorem dX12_lawLine_40 : decode cX12_lawLine 40 = .ok (.istore_n 1, 1) := by decide +kernel
theorem dX12_lawLine_41 : decode cX12_lawLine 41 = .ok (.iload_n 1, 1) := by decide +kernel
theorem dX12_lawLine_42 : decode cX12_lawLine 42 = .ok (.iconst (-1), 1) := by decide +kernel
theorem dX12_lawLine_43 : decode cX12_lawLine 43 = .ok (.if_icmp .ne 12, 3) := by decide +kernel
theorem dX12_lawLine_46 : decode cX12_lawLine 46 = .ok (.aload_n 0, 1) := by decide +kernel
theorem dX12_lawLine_47 : decode cX12_lawLine 47 = .ok (.aload_n 0, 1) := by decide +kernel
theorem dX12_lawLine_48 : decode cX12_lawLine 48 = .ok (.getfield 82, 3) := by decide +kernel
theorem dX12_lawLine_51 : decode cX12_lawLine 51 = .ok (.invokevirtual 108, 3) := by decide +kernel
theorem dX12_lawLine_54 : decode cX12_lawLine 54 = .ok (.return_, 1) := by decide +kernel
theorem dX12_lawLine_55 : decode cX12_lawLine 55 = .ok (.aload_n 0, 1) := by decide +kernel
theorem dX12_lawLine_56 : decode cX12_lawLine 56 = .ok (.iconst 0, 1) := by decide +kernel
theorem dX12_lawLine_57 : decode cX12_lawLine 57 = .ok (.bipush 99, 2) := by decide +kernel
theorem dX12_lawLine_59 : decode cX12_lawLine 59 = .ok (.invokevirtual 116, 3) := by decide +kernel
theorem dX12_lawLine_62 : decode cX12_lawLine 62 = .ok (.istore_n 2, 1) := by decide +kernel
theorem dX12_lawLine_63 : decode cX12_lawLine 63 = .ok (.aload_n 0, 1) := by decide +kernel
theorem dX12_lawLine_64 : decode cX12_lawLine 64 = .ok (.getfield 25, 3) := by decide +kernel
theorem dX12_lawLine_67 : decode cX12_lawLine 67 = .ok (.iconst (-1), 1) := by decide +kernel
theorem dX12_lawLine_68 : decode cX12_lawLine 68 = .ok (.if_icmp .eq 4, 3) := by decide +kernel
theorem dX12_lawLine_71 : decode cX12_lawLine 71 = .ok (.return_, 1) := by decide +kernel
theorem dX12_lawLine_72 : decode cX12_lawLine 72 = .ok (.aload_n 0, 1) := by decide +kernel
theorem dX12_lawLine_73 : decode cX12_lawLine 73 = .ok (.ldc 238, 2) := by decide +kernel
theorem dX12_lawLine_75 : decode cX12_lawLine 75 = .ok (.invokevirtual 112, 3) := by decide +kernel
theorem dX12_lawLine_78 : decode cX12_lawLine 78 = .ok (.ifCond .eq 10, 3) := by decide +kernel
theorem dX12_lawLine_81 : decode cX12_lawLine 81 = .ok (.aload_n 0, 1) := by decide +kernel
theorem dX12_lawLine_82 : decode cX12_lawLine 82 = .ok (.invokevirtual 224, 3) := by decide +kernel
theorem dX12_lawLine_85 : decode cX12_lawLine 85 = .ok (.ifCond .eq 7, 3) := by decide +kernel
theorem dX12_lawLine_88 : decode cX12_lawLine 88 = .ok (.iconst 1, 1) := by decide +kernel
theorem dX12_lawLine_89 : decode cX12_lawLine 89 = .ok (.goto 4, 3) := by decide +kernel
theorem dX12_lawLine_92 : decode cX12_lawLine 92 = .ok (.iconst 0, 1) := by decide +kernel
theorem dX12_lawLine_93 : decode cX12_lawLine 93 = .ok (.istore_n 3, 1) := by decide +kernel
theorem dX12_lawLine_94 : decode cX12_lawLine 94 = .ok (.aload_n 0, 1) := by decide +kernel
theorem dX12_lawLine_95 : decode cX12_lawLine 95 = .ok (.getfield 25, 3) := by decide +kernel
theorem dX12_lawLine_98 : decode cX12_lawLine 98 = .ok (.iconst (-1), 1) := by decide +kernel
theorem dX12_lawLine_99 : decode cX12_lawLine 99 = .ok (.if_icmp .ne 7, 3) := by decide +kernel
theorem dX12_lawLine_102 : decode cX12_lawLine 102 = .ok (.iload_n 3, 1) := by decide +kernel
theorem dX12_lawLine_103 : decode cX12_lawLine 103 = .ok (.ifCond .ne 4, 3) := by decide +kernel
theorem dX12_lawLine_106 : decode cX12_lawLine 106 = .ok (.return_, 1) := by decide +kernel
theorem dX12_lawLine_107 : decode cX12_lawLine 107 = .ok (.aload_n 0, 1) := by decide +kernel
theorem dX12_lawLine_108 : decode cX12_lawLine 108 = .ok (.dup, 1) := by decide +kernel
theorem dX12_lawLine_109 : decode cX12_lawLine 109 = .ok (.getfield 240, 3) := by decide +kernel
theorem dX12_lawLine_112 : decode cX12_lawLine 112 = .ok (.iload_n 1, 1) := by decide +kernel
theorem dX12_lawLine_113 : decode cX12_lawLine 113 = .ok (.ifCond .ne 7, 3) := by decide +kernel
theorem dX12_lawLine_116 : decode cX12_lawLine 116 = .ok (.iload_n 2, 1) := by decide +kernel
theorem dX12_lawLine_117 : decode cX12_lawLine 117 = .ok (.goto 4, 3) := by decide +kernel
theorem dX12_lawLine_120 : decode cX12_lawLine 120 = .ok (.iconst 0, 1) := by decide +kernel
theorem dX12_lawLine_121 : decode cX12_lawLine 121 = .ok (.iadd, 1) := by decide +kernel
theorem dX12_lawLine_122 : decode cX12_lawLine 122 = .ok (.putfield 240, 3) := by decide +kernel
theorem dX12_lawLine_125 : decode cX12_lawLine 125 = .ok (.aload_n 0, 1) := by decide +kernel
theorem dX12_lawLine_126 : decode cX12_lawLine 126 = .ok (.dup, 1) := by decide +kernel
theorem dX12_lawLine_127 : decode cX12_lawLine 127 = .ok (.getfield 242, 3) := by decide +kernel
theorem dX12_lawLine_130 : decode cX12_lawLine 130 = .ok (.iload_n 1, 1) := by decide +kernel
theorem dX12_lawLine_131 : decode cX12_lawLine 131 = .ok (.iconst 1, 1) := by decide +kernel
theorem dX12_lawLine_132 : decode cX12_lawLine 132 = .ok (.if_icmp .ne 7, 3) := by decide +kernel
theorem dX12_lawLine_135 : decode cX12_lawLine 135 = .ok (.iload_n 2, 1) := by decide +kernel
theorem dX12_lawLine_136 : decode cX12_lawLine 136 = .ok (.goto 4, 3) := by decide +kernel
theorem dX12_lawLine_139 : decode cX12_lawLine 139 = .ok (.iconst 0, 1) := by decide +kernel
theorem dX12_lawLine_140 : decode cX12_lawLine 140 = .ok (.iadd, 1) := by decide +kernel
theorem dX12_lawLine_141 : decode cX12_lawLine 141 = .ok (.putfield 242, 3) := by decide +kernel
theorem dX12_lawLine_144 : decode cX12_lawLine 144 = .ok (.aload_n 0, 1) := by decide +kernel
theorem dX12_lawLine_145 : decode cX12_lawLine 145 = .ok (.dup, 1) := by decide +kernel
theorem dX12_lawLine_146 : decode cX12_lawLine 146 = .ok (.getfield 245, 3) := by decide +kernel
theorem dX12_lawLine_149 : decode cX12_lawLine 149 = .ok (.iload_n 1, 1) := by decide +kernel
theorem dX12_lawLine_150 : decode cX12_lawLine 150 = .ok (.iconst 2, 1) := by decide +kernel
theorem dX12_lawLine_151 : decode cX12_lawLine 151 = .ok (.if_icmp .ne 7, 3) := by decide +kernel
theorem dX12_lawLine_154 : decode cX12_lawLine 154 = .ok (.iload_n 2, 1) := by decide +kernel
theorem dX12_lawLine_155 : decode cX12_lawLine 155 = .ok (.goto 4, 3) := by decide +kernel
theorem dX12_lawLine_158 : decode cX12_lawLine 158 = .ok (.iconst 0, 1) := by decide +kernel
theorem dX12_lawLine_159 : decode cX12_lawLine 159 = .ok (.iadd, 1) := by decide +kernel
theorem dX12_lawLine_160 : decode cX12_lawLine 160 = .ok (.putfield 245, 3) := by decide +kernel
theorem dX12_lawLine_163 : decode cX12_lawLine 163 = .ok (.return_, 1) := by decide +kernel
set_option maxRecDepth 20000 in
theorem ggX12_law_X12_begins : GoodIn wsX12_law wsX12_begins := goodIn_r _ [11, 1, 12, 13, 4, 14, 15, 161, 162, 163, 164, 165, 166, 167, 168, 169, 170, 171, 172, 173, 174, 175, 176, 177, 178, 179, 180, 181, 182, 183, 184, 185, 186, 187, 188, 189, 190] (by decide +kernel) (by decide +kernel)
set_option maxRecDepth 20000 in
theorem gX12_law_X12_begins : GoodIn wsX12_law (wsV RX12 180 RX12 yX12_begins wsX12_begins) := goodIn_app (goodIn_of _ (by decide +kernel)) ggX12_law_X12_begins
set_option maxRecDepth 20000 in
theorem ggX12_law_X12_reads : GoodIn wsX12_law wsX12_reads := goodIn_r _ [19, 14, 4, 1, 20, 21, 22, 10, 23, 24, 25, 26, 27, 12, 5, 3, 28, 29, 30, 31, 32, 33, 34, 35, 36, 37, 38, 39, 40, 41, 42, 43, 44, 45, 46, 47, 48, 49, 50, 51, 52, 53, 54, 55, 56, 57, 58, 59, 60, 61, 62, 63, 64, 65, 66, 67, 68, 69, 70, 71, 72, 73, 74, 75, 76, 77, 78, 79, 80, 81, 82, 83, 84, 85, 86, 87, 88, 89, 90, 91, 92, 93, 94, 95, 96, 97, 98, 99, 100, 101, 102, 103, 104, 105, 106, 107, 108, 109, 110, 15, 111, 112, 113, 114, 115, 116, 117, 118, 119, 120, 121, 122, 123, 124, 125, 126, 127, 128, 129, 130, 131, 132, 133, 134, 135, 136, 137, 138, 139, 140, 141, 142, 143, 144, 145, 146, 147, 148, 149, 150, 151, 152, 153, 154, 155, 156, 157, 158, 159, 160, 161, 162, 163, 164, 165, 166, 167, 168, 169, 170, 171, 172, 173, 174, 175, 176, 177, 178, 179, 180, 181, 182, 183, 184, 185, 186, 187, 188, 189, 190] (by decide +kernel) (by decide +kernel)
set_option maxRecDepth 20000 in
theorem gX12_law_X12_reads : GoodIn wsX12_law (wsV RX12 183 RX12 yX12_reads wsX12_reads) := goodIn_app (goodIn_of _ (by decide +kernel)) ggX12_law_X12_reads
theorem dX12_law_0 : decode cX12_law 0 = .ok (.aload_n 0, 1) := by decide +kernel
theorem dX12_law_1 : decode cX12_law 1 = .ok (.invokevirtual 180, 3) := by decide +kernel
theorem dX12_law_4 : decode cX12_law 4 = .ok (.aload_n 0, 1) := by decide +kernel
theorem dX12_law_5 : decode cX12_law 5 = .ok (.iconst 1, 1) := by decide +kernel
theorem dX12_law_6 : decode cX12_law 6 = .ok (.invokevirtual 183, 3) := by decide +kernel
theorem dX12_law_9 : decode cX12_law 9 = .ok (.istore_n 1, 1) := by decide +kernel
theorem dX12_law_10 : decode cX12_law 10 = .ok (.aload_n 0, 1) := by decide +kernel
theorem dX12_law_11 : decode cX12_law 11 = .ok (.aload_n 0, 1) := by decide +kernel
theorem dX12_law_12 : decode cX12_law 12 = .ok (.getfield 25, 3) := by decide +kernel
theorem dX12_law_15 : decode cX12_law 15 = .ok (.iconst (-1), 1) := by decide +kernel
theorem dX12_law_16 : decode cX12_law 16 = .ok (.if_icmp .eq 7, 3) := by decide +kernel
theorem dX12_law_19 : decode cX12_law 19 = .ok (.iconst 1, 1) := by decide +kernel
theorem dX12_law_20 : decode cX12_law 20 = .ok (.goto 4, 3) := by decide +kernel
theorem dX12_law_23 : decode cX12_law 23 = .ok (.iconst 0, 1) := by decide +kernel
