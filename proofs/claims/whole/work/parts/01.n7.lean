theorem dX12_shift_6 : decode cX12_shift 6 = .ok (.aload_n 0, 1) := by decide +kernel
theorem dX12_shift_7 : decode cX12_shift 7 = .ok (.getfield 59, 3) := by decide +kernel
theorem dX12_shift_10 : decode cX12_shift 10 = .ok (.ifCond .le 7, 3) := by decide +kernel
theorem dX12_shift_13 : decode cX12_shift 13 = .ok (.iconst 0, 1) := by decide +kernel
theorem dX12_shift_14 : decode cX12_shift 14 = .ok (.goto 9, 3) := by decide +kernel
theorem dX12_shift_17 : decode cX12_shift 17 = .ok (.aload_n 0, 1) := by decide +kernel
theorem dX12_shift_18 : decode cX12_shift 18 = .ok (.iload_n 1, 1) := by decide +kernel
theorem dX12_shift_19 : decode cX12_shift 19 = .ok (.iload_n 2, 1) := by decide +kernel
theorem dX12_shift_20 : decode cX12_shift 20 = .ok (.invokevirtual 265, 3) := by decide +kernel
theorem dX12_shift_23 : decode cX12_shift 23 = .ok (.ireturn, 1) := by decide +kernel
set_option maxRecDepth 20000 in
theorem ggX12_hears_X12_areTwo : GoodIn wsX12_hears wsX12_areTwo := goodIn_r _ [6, 1, 7, 8, 9, 5, 10, 11, 12, 13, 14, 196, 197, 198, 199, 200, 201, 202, 203, 204, 205, 206, 207, 208, 209, 210, 211, 212, 213, 214, 215, 216, 217, 218, 219, 220, 221, 222, 223, 224, 225] (by decide +kernel) (by decide +kernel)
set_option maxRecDepth 20000 in
theorem gX12_hears_X12_areTwo : GoodIn wsX12_hears (wsV RX12 359 RX12 yX12_areTwo wsX12_areTwo) := goodIn_app (goodIn_of _ (by decide +kernel)) ggX12_hears_X12_areTwo
set_option maxRecDepth 20000 in
theorem ggX12_hears_X12_isHeard : GoodIn wsX12_hears wsX12_isHeard := goodIn_r _ [18, 11, 19, 20, 21, 5, 22, 23, 24, 25, 26, 27, 28, 29, 30, 31, 32, 33, 34, 35, 36, 37, 38, 39, 40, 41, 42, 43, 44, 45, 46, 47, 48, 49, 50, 51, 52, 53, 54, 55, 56, 57, 58, 59, 60, 61, 62, 63, 64, 65, 66, 67, 68, 69, 70, 71, 72, 73, 74, 75, 76, 77, 78, 79, 80, 81, 82, 83, 12, 13, 14, 84, 85, 86, 87, 88, 89, 90, 91, 92, 93, 94, 95, 96, 97, 98, 99, 100, 101, 102, 103, 104, 105, 106, 107, 108, 109, 110, 111, 112, 113, 114, 115, 116, 117, 118, 119, 120, 121, 122, 123, 124, 125, 126, 127, 128, 129, 130, 131, 132, 133, 134, 135, 136, 137, 138, 139, 140, 141, 142, 143, 144, 145, 146, 147, 148, 149, 150, 151, 152, 153, 154, 155, 156, 157, 158, 159, 160, 161, 162, 163, 164, 165, 166, 167, 168, 169, 170, 171, 172, 173, 174, 175, 176, 177, 178, 179, 180, 181, 182, 183, 184, 185, 186, 187, 188, 189, 190, 191, 192, 193, 194, 195, 196, 197, 198, 199, 200, 201, 202, 203, 204, 205, 206, 207, 208, 209, 210, 211, 212, 213, 214, 215, 216, 217, 218, 219, 220, 221, 222, 223, 224, 225] (by decide +kernel) (by decide +kernel)
set_option maxRecDepth 20000 in
theorem gX12_hears_X12_isHeard : GoodIn wsX12_hears (wsV RX12 341 RX12 yX12_isHeard wsX12_isHeard) := goodIn_app (goodIn_of _ (by decide +kernel)) ggX12_hears_X12_isHeard
theorem dX12_hears_0 : decode cX12_hears 0 = .ok (.aload_n 0, 1) := by decide +kernel
theorem dX12_hears_1 : decode cX12_hears 1 = .ok (.iload_n 1, 1) := by decide +kernel
theorem dX12_hears_2 : decode cX12_hears 2 = .ok (.iload_n 2, 1) := by decide +kernel
theorem dX12_hears_3 : decode cX12_hears 3 = .ok (.invokevirtual 359, 3) := by decide +kernel
theorem dX12_hears_6 : decode cX12_hears 6 = .ok (.aload_n 0, 1) := by decide +kernel
theorem dX12_hears_7 : decode cX12_hears 7 = .ok (.getfield 59, 3) := by decide +kernel
theorem dX12_hears_10 : decode cX12_hears 10 = .ok (.ifCond .ne 16, 3) := by decide +kernel
theorem dX12_hears_13 : decode cX12_hears 13 = .ok (.aload_n 0, 1) := by decide +kernel
theorem dX12_hears_14 : decode cX12_hears 14 = .ok (.iload_n 1, 1) := by decide +kernel
theorem dX12_hears_15 : decode cX12_hears 15 = .ok (.iload_n 2, 1) := by decide +kernel
theorem dX12_hears_16 : decode cX12_hears 16 = .ok (.invokevirtual 341, 3) := by decide +kernel
theorem dX12_hears_19 : decode cX12_hears 19 = .ok (.ifCond .eq 7, 3) := by decide +kernel
theorem dX12_hears_22 : decode cX12_hears 22 = .ok (.iconst 1, 1) := by decide +kernel
theorem dX12_hears_23 : decode cX12_hears 23 = .ok (.goto 4, 3) := by decide +kernel
theorem dX12_hears_26 : decode cX12_hears 26 = .ok (.iconst 0, 1) := by decide +kernel
theorem dX12_hears_27 : decode cX12_hears 27 = .ok (.ireturn, 1) := by decide +kernel
theorem dX12_remembers_0 : decode cX12_remembers 0 = .ok (.aload_n 0, 1) := by decide +kernel
theorem dX12_remembers_1 : decode cX12_remembers 1 = .ok (.getfield 190, 3) := by decide +kernel
theorem dX12_remembers_4 : decode cX12_remembers 4 = .ok (.bipush 12, 2) := by decide +kernel
theorem dX12_remembers_6 : decode cX12_remembers 6 = .ok (.if_icmp .ne 44, 3) := by decide +kernel
theorem dX12_remembers_9 : decode cX12_remembers 9 = .ok (.iconst 0, 1) := by decide +kernel
theorem dX12_remembers_10 : decode cX12_remembers 10 = .ok (.istore_n 1, 1) := by decide +kernel
theorem dX12_remembers_11 : decode cX12_remembers 11 = .ok (.iload_n 1, 1) := by decide +kernel
theorem dX12_remembers_12 : decode cX12_remembers 12 = .ok (.sipush 3707, 3) := by decide +kernel
theorem dX12_remembers_15 : decode cX12_remembers 15 = .ok (.if_icmp .ge 25, 3) := by decide +kernel
theorem dX12_remembers_18 : decode cX12_remembers 18 = .ok (.aload_n 0, 1) := by decide +kernel
theorem dX12_remembers_19 : decode cX12_remembers 19 = .ok (.getfield 19, 3) := by decide +kernel
theorem dX12_remembers_22 : decode cX12_remembers 22 = .ok (.iload_n 1, 1) := by decide +kernel
theorem dX12_remembers_23 : decode cX12_remembers 23 = .ok (.aload_n 0, 1) := by decide +kernel
theorem dX12_remembers_24 : decode cX12_remembers 24 = .ok (.getfield 19, 3) := by decide +kernel
theorem dX12_remembers_27 : decode cX12_remembers 27 = .ok (.iload_n 1, 1) := by decide +kernel
theorem dX12_remembers_28 : decode cX12_remembers 28 = .ok (.sipush 337, 3) := by decide +kernel
theorem dX12_remembers_31 : decode cX12_remembers 31 = .ok (.iadd, 1) := by decide +kernel
theorem dX12_remembers_32 : decode cX12_remembers 32 = .ok (.iaload, 1) := by decide +kernel
theorem dX12_remembers_33 : decode cX12_remembers 33 = .ok (.iastore, 1) := by decide +kernel
theorem dX12_remembers_34 : decode cX12_remembers 34 = .ok (.iinc 1 1, 3) := by decide +kernel
theorem dX12_remembers_37 : decode cX12_remembers 37 = .ok (.goto (-26), 3) := by decide +kernel
theorem dX12_remembers_40 : decode cX12_remembers 40 = .ok (.aload_n 0, 1) := by decide +kernel
theorem dX12_remembers_41 : decode cX12_remembers 41 = .ok (.dup, 1) := by decide +kernel
theorem dX12_remembers_42 : decode cX12_remembers 42 = .ok (.getfield 190, 3) := by decide +kernel
theorem dX12_remembers_45 : decode cX12_remembers 45 = .ok (.iconst 1, 1) := by decide +kernel
theorem dX12_remembers_46 : decode cX12_remembers 46 = .ok (.isub, 1) := by decide +kernel
theorem dX12_remembers_47 : decode cX12_remembers 47 = .ok (.putfield 190, 3) := by decide +kernel
theorem dX12_remembers_50 : decode cX12_remembers 50 = .ok (.iconst 0, 1) := by decide +kernel
theorem dX12_remembers_51 : decode cX12_remembers 51 = .ok (.istore_n 1, 1) := by decide +kernel
theorem dX12_remembers_52 : decode cX12_remembers 52 = .ok (.iload_n 1, 1) := by decide +kernel
theorem dX12_remembers_53 : decode cX12_remembers 53 = .ok (.sipush 337, 3) := by decide +kernel
theorem dX12_remembers_56 : decode cX12_remembers 56 = .ok (.if_icmp .ge 30, 3) := by decide +kernel
theorem dX12_remembers_59 : decode cX12_remembers 59 = .ok (.aload_n 0, 1) := by decide +kernel
theorem dX12_remembers_60 : decode cX12_remembers 60 = .ok (.getfield 19, 3) := by decide +kernel
theorem dX12_remembers_63 : decode cX12_remembers 63 = .ok (.sipush 337, 3) := by decide +kernel
theorem dX12_remembers_66 : decode cX12_remembers 66 = .ok (.aload_n 0, 1) := by decide +kernel
theorem dX12_remembers_67 : decode cX12_remembers 67 = .ok (.getfield 190, 3) := by decide +kernel
theorem dX12_remembers_70 : decode cX12_remembers 70 = .ok (.imul, 1) := by decide +kernel
theorem dX12_remembers_71 : decode cX12_remembers 71 = .ok (.iload_n 1, 1) := by decide +kernel
theorem dX12_remembers_72 : decode cX12_remembers 72 = .ok (.iadd, 1) := by decide +kernel
theorem dX12_remembers_73 : decode cX12_remembers 73 = .ok (.aload_n 0, 1) := by decide +kernel
theorem dX12_remembers_74 : decode cX12_remembers 74 = .ok (.getfield 7, 3) := by decide +kernel
theorem dX12_remembers_77 : decode cX12_remembers 77 = .ok (.iload_n 1, 1) := by decide +kernel
theorem dX12_remembers_78 : decode cX12_remembers 78 = .ok (.iaload, 1) := by decide +kernel
theorem dX12_remembers_79 : decode cX12_remembers 79 = .ok (.iastore, 1) := by decide +kernel
theorem dX12_remembers_80 : decode cX12_remembers 80 = .ok (.iinc 1 1, 3) := by decide +kernel
theorem dX12_remembers_83 : decode cX12_remembers 83 = .ok (.goto (-31), 3) := by decide +kernel
theorem dX12_remembers_86 : decode cX12_remembers 86 = .ok (.aload_n 0, 1) := by decide +kernel
theorem dX12_remembers_87 : decode cX12_remembers 87 = .ok (.dup, 1) := by decide +kernel
theorem dX12_remembers_88 : decode cX12_remembers 88 = .ok (.getfield 190, 3) := by decide +kernel
theorem dX12_remembers_91 : decode cX12_remembers 91 = .ok (.iconst 1, 1) := by decide +kernel
theorem dX12_remembers_92 : decode cX12_remembers 92 = .ok (.iadd, 1) := by decide +kernel
theorem dX12_remembers_93 : decode cX12_remembers 93 = .ok (.putfield 190, 3) := by decide +kernel
theorem dX12_remembers_96 : decode cX12_remembers 96 = .ok (.return_, 1) := by decide +kernel
set_option maxRecDepth 20000 in
theorem ggX12_sets_X12_remembers : GoodIn wsX12_sets wsX12_remembers := goodIn_r _ [6, 7, 8, 1, 9, 10, 11, 12, 13, 14, 15, 16, 17, 18, 19, 20, 21, 22, 23, 24, 25, 26, 27, 28, 29, 30, 31, 32, 33, 34, 35, 36, 37, 38] (by decide +kernel) (by decide +kernel)
set_option maxRecDepth 20000 in
theorem gX12_sets_X12_remembers : GoodIn wsX12_sets (wsV RX12 362 RX12 yX12_remembers wsX12_remembers) := goodIn_app (goodIn_of _ (by decide +kernel)) ggX12_sets_X12_remembers
theorem dX12_sets_0 : decode cX12_sets 0 = .ok (.aload_n 0, 1) := by decide +kernel
theorem dX12_sets_1 : decode cX12_sets 1 = .ok (.invokevirtual 362, 3) := by decide +kernel
theorem dX12_sets_4 : decode cX12_sets 4 = .ok (.aload_n 0, 1) := by decide +kernel
theorem dX12_sets_5 : decode cX12_sets 5 = .ok (.getfield 7, 3) := by decide +kernel
theorem dX12_sets_8 : decode cX12_sets 8 = .ok (.iload_n 1, 1) := by decide +kernel
theorem dX12_sets_9 : decode cX12_sets 9 = .ok (.iaload, 1) := by decide +kernel
theorem dX12_sets_10 : decode cX12_sets 10 = .ok (.istore_n 3, 1) := by decide +kernel
theorem dX12_sets_11 : decode cX12_sets 11 = .ok (.aload_n 0, 1) := by decide +kernel
theorem dX12_sets_12 : decode cX12_sets 12 = .ok (.getfield 7, 3) := by decide +kernel
theorem dX12_sets_15 : decode cX12_sets 15 = .ok (.iload_n 1, 1) := by decide +kernel
theorem dX12_sets_16 : decode cX12_sets 16 = .ok (.iload_n 2, 1) := by decide +kernel
theorem dX12_sets_17 : decode cX12_sets 17 = .ok (.iastore, 1) := by decide +kernel
theorem dX12_sets_18 : decode cX12_sets 18 = .ok (.iload_n 3, 1) := by decide +kernel
theorem dX12_sets_19 : decode cX12_sets 19 = .ok (.ireturn, 1) := by decide +kernel
set_option maxRecDepth 20000 in
theorem ggX12_rounds_X12_isIn : GoodIn wsX12_rounds wsX12_isIn := goodIn_r _ [5] (by decide +kernel) (by decide +kernel)
set_option maxRecDepth 20000 in
theorem gX12_rounds_X12_isIn : GoodIn wsX12_rounds (va_wsS RX12 62 yX12_isIn wsX12_isIn) := goodIn_app (goodIn_of _ (by decide +kernel)) ggX12_rounds_X12_isIn
set_option maxRecDepth 20000 in
theorem ggX12_rounds_X12_remembers : GoodIn wsX12_rounds wsX12_remembers := goodIn_r _ [9, 10, 11, 12, 284, 285, 286, 287, 288, 289, 290, 291, 292, 293, 294, 295, 296, 297, 298, 299, 300, 301, 302, 303, 304, 305, 306, 307, 308, 309, 310, 311, 312, 313] (by decide +kernel) (by decide +kernel)
set_option maxRecDepth 20000 in
theorem gX12_rounds_X12_remembers : GoodIn wsX12_rounds (wsV RX12 362 RX12 yX12_remembers wsX12_remembers) := goodIn_app (goodIn_of _ (by decide +kernel)) ggX12_rounds_X12_remembers
set_option maxRecDepth 20000 in
theorem ggX12_rounds_X12_goes : GoodIn wsX12_rounds wsX12_goes := goodIn_r _ [16, 17, 18, 19, 20, 4, 21, 12, 22, 23, 24, 25, 26, 27, 28, 29, 30, 31, 32, 33, 34, 35, 36, 37, 38, 39, 40, 41, 42, 43, 44, 45, 46, 47, 48, 49, 50, 51, 52, 53, 54, 55, 56, 57, 58, 59, 60, 61, 62, 63, 64, 65, 66, 67, 68, 69, 70, 71, 72, 73, 74, 75, 76, 77, 78, 79, 80, 81, 82, 83, 84, 85, 86, 87, 88, 89, 90, 91, 92, 93, 94, 95, 96, 97, 98, 2, 3, 5, 99, 100, 101, 102, 103, 104, 105, 106, 107, 108, 109, 110, 111, 112, 113, 114, 115, 116, 117, 118, 119, 120, 121, 122, 123, 124, 125, 126, 127, 128, 129, 130, 131, 132, 133, 134, 135, 136, 137, 138, 139, 140, 141, 142, 143, 144, 145, 146, 147, 148, 149, 150, 151, 152, 153, 154, 155, 156, 157, 158, 159, 160, 161, 162, 163, 164, 165, 166, 167, 168, 169, 170, 171, 172, 173, 174, 175, 176, 177, 178, 179, 180, 181, 182, 183, 184, 185, 186, 187, 188, 189, 190, 191, 192, 193, 194, 195, 196, 197, 198, 199, 200, 201, 202, 203, 204, 205, 206, 207, 208, 209, 210, 211, 212, 213, 214, 215, 216, 217, 218, 219, 220, 221, 222, 223, 224, 225, 226, 227, 228, 229, 230, 231, 232, 233, 234, 235, 236, 237, 238, 239, 240, 241, 242, 243, 244, 245, 246, 247, 248, 249, 250, 251, 252, 253, 254, 255, 256, 257, 258, 259, 260, 261, 262, 263, 264, 265, 266, 267, 268, 269, 270, 271, 272, 273, 274, 275, 276, 277, 278, 279, 280, 281, 282, 283, 284, 285, 286, 287, 288, 289, 290, 291, 292, 293, 294, 295, 296, 297, 298, 299, 300, 301, 302, 303, 304, 305, 306, 307, 308, 309, 310, 311, 312, 313] (by decide +kernel) (by decide +kernel)
set_option maxRecDepth 20000 in
theorem gX12_rounds_X12_goes : GoodIn wsX12_rounds (wsV RX12 365 RX12 yX12_goes wsX12_goes) := goodIn_app (goodIn_of _ (by decide +kernel)) ggX12_rounds_X12_goes
theorem dX12_rounds_0 : decode cX12_rounds 0 = .ok (.aload_n 0, 1) := by decide +kernel
theorem dX12_rounds_1 : decode cX12_rounds 1 = .ok (.iload_n 1, 1) := by decide +kernel
theorem dX12_rounds_2 : decode cX12_rounds 2 = .ok (.iconst 1, 1) := by decide +kernel
theorem dX12_rounds_3 : decode cX12_rounds 3 = .ok (.bipush 60, 2) := by decide +kernel
theorem dX12_rounds_5 : decode cX12_rounds 5 = .ok (.invokestatic 62, 3) := by decide +kernel
theorem dX12_rounds_8 : decode cX12_rounds 8 = .ok (.ifCond .ne 7, 3) := by decide +kernel
theorem dX12_rounds_11 : decode cX12_rounds 11 = .ok (.iconst 1, 1) := by decide +kernel
theorem dX12_rounds_12 : decode cX12_rounds 12 = .ok (.goto 4, 3) := by decide +kernel
theorem dX12_rounds_15 : decode cX12_rounds 15 = .ok (.iconst 0, 1) := by decide +kernel
theorem dX12_rounds_16 : decode cX12_rounds 16 = .ok (.putfield 59, 3) := by decide +kernel
theorem dX12_rounds_19 : decode cX12_rounds 19 = .ok (.aload_n 0, 1) := by decide +kernel
theorem dX12_rounds_20 : decode cX12_rounds 20 = .ok (.getfield 59, 3) := by decide +kernel
theorem dX12_rounds_23 : decode cX12_rounds 23 = .ok (.ifCond .le 5, 3) := by decide +kernel
theorem dX12_rounds_26 : decode cX12_rounds 26 = .ok (.iconst 0, 1) := by decide +kernel
theorem dX12_rounds_27 : decode cX12_rounds 27 = .ok (.ireturn, 1) := by decide +kernel
theorem dX12_rounds_28 : decode cX12_rounds 28 = .ok (.aload_n 0, 1) := by decide +kernel
theorem dX12_rounds_29 : decode cX12_rounds 29 = .ok (.invokevirtual 362, 3) := by decide +kernel
theorem dX12_rounds_32 : decode cX12_rounds 32 = .ok (.aload_n 0, 1) := by decide +kernel
theorem dX12_rounds_33 : decode cX12_rounds 33 = .ok (.iload_n 1, 1) := by decide +kernel
theorem dX12_rounds_34 : decode cX12_rounds 34 = .ok (.iconst 1, 1) := by decide +kernel
theorem dX12_rounds_35 : decode cX12_rounds 35 = .ok (.invokevirtual 365, 3) := by decide +kernel
theorem dX12_rounds_38 : decode cX12_rounds 38 = .ok (.ireturn, 1) := by decide +kernel
set_option maxRecDepth 20000 in
theorem ggX12_add_X12_isIn : GoodIn wsX12_add wsX12_isIn := goodIn_r _ [6] (by decide +kernel) (by decide +kernel)
set_option maxRecDepth 20000 in
theorem gX12_add_X12_isIn : GoodIn wsX12_add (va_wsS RX12 62 yX12_isIn wsX12_isIn) := goodIn_app (goodIn_of _ (by decide +kernel)) ggX12_add_X12_isIn
set_option maxRecDepth 20000 in
theorem ggX12_add_X12_remembers : GoodIn wsX12_add wsX12_remembers := goodIn_r _ [10, 11, 12, 1, 21, 22, 23, 24, 25, 26, 27, 28, 29, 30, 31, 32, 33, 34, 35, 36, 37, 38, 39, 40, 41, 42, 43, 44, 45, 46, 47, 48, 49, 50] (by decide +kernel) (by decide +kernel)
set_option maxRecDepth 20000 in
theorem gX12_add_X12_remembers : GoodIn wsX12_add (wsV RX12 362 RX12 yX12_remembers wsX12_remembers) := goodIn_app (goodIn_of _ (by decide +kernel)) ggX12_add_X12_remembers
set_option maxRecDepth 20000 in
theorem ggX12_add_X12_joins : GoodIn wsX12_add wsX12_joins := goodIn_r _ [16, 1, 17, 18, 19, 5, 20, 21, 22, 23, 24, 25, 26, 27, 28, 29, 30, 31, 32, 33, 34, 35, 36, 37, 38, 39, 40, 41, 42, 43, 44, 45, 46, 47, 48, 49, 50] (by decide +kernel) (by decide +kernel)
set_option maxRecDepth 20000 in
theorem gX12_add_X12_joins : GoodIn wsX12_add (wsV RX12 143 RX12 yX12_joins wsX12_joins) := goodIn_app (goodIn_of _ (by decide +kernel)) ggX12_add_X12_joins
theorem dX12_add_0 : decode cX12_add 0 = .ok (.aload_n 0, 1) := by decide +kernel
theorem dX12_add_1 : decode cX12_add 1 = .ok (.iload_n 1, 1) := by decide +kernel
theorem dX12_add_2 : decode cX12_add 2 = .ok (.bipush (-9), 2) := by decide +kernel
theorem dX12_add_4 : decode cX12_add 4 = .ok (.bipush 9, 2) := by decide +kernel
theorem dX12_add_6 : decode cX12_add 6 = .ok (.invokestatic 62, 3) := by decide +kernel
theorem dX12_add_9 : decode cX12_add 9 = .ok (.ifCond .ne 7, 3) := by decide +kernel
theorem dX12_add_12 : decode cX12_add 12 = .ok (.iconst 1, 1) := by decide +kernel
theorem dX12_add_13 : decode cX12_add 13 = .ok (.goto 19, 3) := by decide +kernel
theorem dX12_add_16 : decode cX12_add 16 = .ok (.aload_n 0, 1) := by decide +kernel
theorem dX12_add_17 : decode cX12_add 17 = .ok (.getfield 7, 3) := by decide +kernel
theorem dX12_add_20 : decode cX12_add 20 = .ok (.iconst 3, 1) := by decide +kernel
theorem dX12_add_21 : decode cX12_add 21 = .ok (.iaload, 1) := by decide +kernel
theorem dX12_add_22 : decode cX12_add 22 = .ok (.bipush 8, 2) := by decide +kernel
theorem dX12_add_24 : decode cX12_add 24 = .ok (.if_icmp .ne 7, 3) := by decide +kernel
theorem dX12_add_27 : decode cX12_add 27 = .ok (.iconst 2, 1) := by decide +kernel
theorem dX12_add_28 : decode cX12_add 28 = .ok (.goto 4, 3) := by decide +kernel
theorem dX12_add_31 : decode cX12_add 31 = .ok (.iconst 0, 1) := by decide +kernel
theorem dX12_add_32 : decode cX12_add 32 = .ok (.putfield 59, 3) := by decide +kernel
theorem dX12_add_35 : decode cX12_add 35 = .ok (.aload_n 0, 1) := by decide +kernel
theorem dX12_add_36 : decode cX12_add 36 = .ok (.getfield 59, 3) := by decide +kernel
theorem dX12_add_39 : decode cX12_add 39 = .ok (.ifCond .le 5, 3) := by decide +kernel
theorem dX12_add_42 : decode cX12_add 42 = .ok (.iconst 0, 1) := by decide +kernel
theorem dX12_add_43 : decode cX12_add 43 = .ok (.ireturn, 1) := by decide +kernel
theorem dX12_add_44 : decode cX12_add 44 = .ok (.aload_n 0, 1) := by decide +kernel
theorem dX12_add_45 : decode cX12_add 45 = .ok (.invokevirtual 362, 3) := by decide +kernel
theorem dX12_add_48 : decode cX12_add 48 = .ok (.aload_n 0, 1) := by decide +kernel
theorem dX12_add_49 : decode cX12_add 49 = .ok (.iload_n 1, 1) := by decide +kernel
theorem dX12_add_50 : decode cX12_add 50 = .ok (.invokevirtual 143, 3) := by decide +kernel
theorem dX12_add_53 : decode cX12_add 53 = .ok (.aload_n 0, 1) := by decide +kernel
theorem dX12_add_54 : decode cX12_add 54 = .ok (.getfield 7, 3) := by decide +kernel
theorem dX12_add_57 : decode cX12_add 57 = .ok (.iconst 3, 1) := by decide +kernel
theorem dX12_add_58 : decode cX12_add 58 = .ok (.iaload, 1) := by decide +kernel
theorem dX12_add_59 : decode cX12_add 59 = .ok (.iconst 1, 1) := by decide +kernel
theorem dX12_add_60 : decode cX12_add 60 = .ok (.isub, 1) := by decide +kernel
theorem dX12_add_61 : decode cX12_add 61 = .ok (.ireturn, 1) := by decide +kernel
set_option maxRecDepth 20000 in
theorem ggX12_power_X12_isNode : GoodIn wsX12_power wsX12_isNode := goodIn_r _ [7, 8, 9, 10, 6, 11, 182, 183, 184, 185, 186, 187, 188, 189, 190, 191, 192, 193, 194, 195, 196, 197, 198, 199, 200, 201, 202, 203, 204, 205, 206, 207, 208, 209, 210, 211] (by decide +kernel) (by decide +kernel)
set_option maxRecDepth 20000 in
theorem gX12_power_X12_isNode : GoodIn wsX12_power (wsV RX12 347 RX12 yX12_isNode wsX12_isNode) := goodIn_app (goodIn_of _ (by decide +kernel)) ggX12_power_X12_isNode
set_option maxRecDepth 20000 in
theorem ggX12_power_X12_of : GoodIn wsX12_power wsX12_of := goodIn_r _ [15, 8, 182, 183, 184, 185, 186, 187, 188, 189, 190, 191, 192, 193, 194, 195, 196, 197, 198, 199, 200, 201, 202, 203, 204, 205, 206, 207, 208, 209, 210, 211] (by decide +kernel) (by decide +kernel)
set_option maxRecDepth 20000 in
theorem gX12_power_X12_of : GoodIn wsX12_power (wsV RX12 66 RX12 yX12_of wsX12_of) := goodIn_app (goodIn_of _ (by decide +kernel)) ggX12_power_X12_of
set_option maxRecDepth 20000 in
theorem ggX12_power_X12_remembers : GoodIn wsX12_power wsX12_remembers := goodIn_r _ [19, 20, 21, 8, 182, 183, 184, 185, 186, 187, 188, 189, 190, 191, 192, 193, 194, 195, 196, 197, 198, 199, 200, 201, 202, 203, 204, 205, 206, 207, 208, 209, 210, 211] (by decide +kernel) (by decide +kernel)
set_option maxRecDepth 20000 in
theorem gX12_power_X12_remembers : GoodIn wsX12_power (wsV RX12 362 RX12 yX12_remembers wsX12_remembers) := goodIn_app (goodIn_of _ (by decide +kernel)) ggX12_power_X12_remembers
set_option maxRecDepth 20000 in
theorem ggX12_power_X12_asks : GoodIn wsX12_power wsX12_asks := goodIn_r _ [25, 26, 27, 2, 28, 29, 30, 31, 8, 32, 33, 34, 12, 13, 14, 6, 15, 35, 36, 37, 38, 39, 40, 41, 42, 43, 44, 45, 46, 47, 48, 49, 50, 51, 52, 53, 54, 55, 56, 57, 58, 59, 60, 61, 62, 63, 64, 65, 66, 67, 68, 69, 9, 10, 11, 70, 71, 72, 73, 74, 75, 76, 77, 78, 79, 80, 81, 82, 83, 84, 85, 86, 87, 88, 89, 90, 91, 92, 93, 94, 95, 96, 97, 98, 99, 100, 101, 102, 103, 104, 105, 106, 107, 108, 109, 110, 111, 112, 113, 114, 115, 116, 117, 118, 119, 120, 121, 122, 123, 124, 125, 126, 127, 128, 129, 130, 131, 132, 133, 134, 135, 136, 137, 138, 139, 140, 141, 142, 143, 144, 145, 146, 147, 148, 149, 150, 151, 152, 153, 154, 155, 156, 157, 158, 159, 160, 161, 162, 163, 164, 165, 166, 167, 168, 169, 170, 171, 172, 173, 174, 175, 176, 177, 178, 179, 180, 181, 182, 183, 184, 185, 186, 187, 188, 189, 190, 191, 192, 193, 194, 195, 196, 197, 198, 199, 200, 201, 202, 203, 204, 205, 206, 207, 208, 209, 210, 211] (by decide +kernel) (by decide +kernel)
set_option maxRecDepth 20000 in
theorem gX12_power_X12_asks : GoodIn wsX12_power (wsV RX12 253 RX12 yX12_asks wsX12_asks) := goodIn_app (goodIn_of _ (by decide +kernel)) ggX12_power_X12_asks
set_option maxRecDepth 20000 in
theorem ggX12_power_X12_lays : GoodIn wsX12_power wsX12_lays := goodIn_r _ [174, 8, 182, 183, 184, 185, 186, 187, 188, 189, 190, 191, 192, 193, 194, 195, 196, 197, 198, 199, 200, 201, 202, 203, 204, 205, 206, 207, 208, 209, 210, 211] (by decide +kernel) (by decide +kernel)
set_option maxRecDepth 20000 in
theorem gX12_power_X12_lays : GoodIn wsX12_power (wsV RX12 146 RX12 yX12_lays wsX12_lays) := goodIn_app (goodIn_of _ (by decide +kernel)) ggX12_power_X12_lays
set_option maxRecDepth 20000 in
theorem ggX12_power_X12_lesser : GoodIn wsX12_power wsX12_lesser := goodIn_r _ [181] (by decide +kernel) (by decide +kernel)
set_option maxRecDepth 20000 in
theorem gX12_power_X12_lesser : GoodIn wsX12_power (va_wsS RX12 70 yX12_lesser wsX12_lesser) := goodIn_app (goodIn_of _ (by decide +kernel)) ggX12_power_X12_lesser
theorem dX12_power_0 : decode cX12_power 0 = .ok (.aload_n 0, 1) := by decide +kernel
theorem dX12_power_1 : decode cX12_power 1 = .ok (.aload_n 0, 1) := by decide +kernel
theorem dX12_power_2 : decode cX12_power 2 = .ok (.iload_n 1, 1) := by decide +kernel
theorem dX12_power_3 : decode cX12_power 3 = .ok (.invokevirtual 347, 3) := by decide +kernel
theorem dX12_power_6 : decode cX12_power 6 = .ok (.ifCond .ne 7, 3) := by decide +kernel
theorem dX12_power_9 : decode cX12_power 9 = .ok (.iconst 1, 1) := by decide +kernel
theorem dX12_power_10 : decode cX12_power 10 = .ok (.goto 4, 3) := by decide +kernel
theorem dX12_power_13 : decode cX12_power 13 = .ok (.iconst 0, 1) := by decide +kernel
theorem dX12_power_14 : decode cX12_power 14 = .ok (.putfield 59, 3) := by decide +kernel
theorem dX12_power_17 : decode cX12_power 17 = .ok (.aload_n 0, 1) := by decide +kernel
theorem dX12_power_18 : decode cX12_power 18 = .ok (.getfield 59, 3) := by decide +kernel
theorem dX12_power_21 : decode cX12_power 21 = .ok (.ifCond .le 5, 3) := by decide +kernel
theorem dX12_power_24 : decode cX12_power 24 = .ok (.iconst 0, 1) := by decide +kernel
theorem dX12_power_25 : decode cX12_power 25 = .ok (.ireturn, 1) := by decide +kernel
theorem dX12_power_26 : decode cX12_power 26 = .ok (.aload_n 0, 1) := by decide +kernel
theorem dX12_power_27 : decode cX12_power 27 = .ok (.iload_n 1, 1) := by decide +kernel
theorem dX12_power_28 : decode cX12_power 28 = .ok (.iconst 3, 1) := by decide +kernel
theorem dX12_power_29 : decode cX12_power 29 = .ok (.invokevirtual 66, 3) := by decide +kernel
theorem dX12_power_32 : decode cX12_power 32 = .ok (.istore_n 3, 1) := by decide +kernel
theorem dX12_power_33 : decode cX12_power 33 = .ok (.aload_n 0, 1) := by decide +kernel
theorem dX12_power_34 : decode cX12_power 34 = .ok (.iload_n 2, 1) := by decide +kernel
theorem dX12_power_35 : decode cX12_power 35 = .ok (.ifCond .eq 13, 3) := by decide +kernel
theorem dX12_power_38 : decode cX12_power 38 = .ok (.iload_n 3, 1) := by decide +kernel
theorem dX12_power_39 : decode cX12_power 39 = .ok (.iconst 1, 1) := by decide +kernel
theorem dX12_power_40 : decode cX12_power 40 = .ok (.if_icmp .eq 16, 3) := by decide +kernel
theorem dX12_power_43 : decode cX12_power 43 = .ok (.iload_n 3, 1) := by decide +kernel
theorem dX12_power_44 : decode cX12_power 44 = .ok (.iconst 2, 1) := by decide +kernel
theorem dX12_power_45 : decode cX12_power 45 = .ok (.if_icmp .eq 11, 3) := by decide +kernel
theorem dX12_power_48 : decode cX12_power 48 = .ok (.iload_n 2, 1) := by decide +kernel
theorem dX12_power_49 : decode cX12_power 49 = .ok (.ifCond .ne 11, 3) := by decide +kernel
theorem dX12_power_52 : decode cX12_power 52 = .ok (.iload_n 3, 1) := by decide +kernel
theorem dX12_power_53 : decode cX12_power 53 = .ok (.ifCond .ne 7, 3) := by decide +kernel
theorem dX12_power_56 : decode cX12_power 56 = .ok (.iconst 2, 1) := by decide +kernel
theorem dX12_power_57 : decode cX12_power 57 = .ok (.goto 4, 3) := by decide +kernel
theorem dX12_power_60 : decode cX12_power 60 = .ok (.iconst 0, 1) := by decide +kernel
theorem dX12_power_61 : decode cX12_power 61 = .ok (.putfield 59, 3) := by decide +kernel
theorem dX12_power_64 : decode cX12_power 64 = .ok (.aload_n 0, 1) := by decide +kernel
theorem dX12_power_65 : decode cX12_power 65 = .ok (.getfield 59, 3) := by decide +kernel
theorem dX12_power_68 : decode cX12_power 68 = .ok (.ifCond .le 5, 3) := by decide +kernel
theorem dX12_power_71 : decode cX12_power 71 = .ok (.iconst 0, 1) := by decide +kernel
theorem dX12_power_72 : decode cX12_power 72 = .ok (.ireturn, 1) := by decide +kernel
theorem dX12_power_73 : decode cX12_power 73 = .ok (.aload_n 0, 1) := by decide +kernel
theorem dX12_power_74 : decode cX12_power 74 = .ok (.invokevirtual 362, 3) := by decide +kernel
theorem dX12_power_77 : decode cX12_power 77 = .ok (.aload_n 0, 1) := by decide +kernel
theorem dX12_power_78 : decode cX12_power 78 = .ok (.iload_n 1, 1) := by decide +kernel
theorem dX12_power_79 : decode cX12_power 79 = .ok (.invokevirtual 253, 3) := by decide +kernel
theorem dX12_power_82 : decode cX12_power 82 = .ok (.aload_n 0, 1) := by decide +kernel
theorem dX12_power_83 : decode cX12_power 83 = .ok (.iload_n 1, 1) := by decide +kernel
theorem dX12_power_84 : decode cX12_power 84 = .ok (.iconst 5, 1) := by decide +kernel
theorem dX12_power_85 : decode cX12_power 85 = .ok (.iconst 0, 1) := by decide +kernel
theorem dX12_power_86 : decode cX12_power 86 = .ok (.invokevirtual 146, 3) := by decide +kernel
theorem dX12_power_89 : decode cX12_power 89 = .ok (.aload_n 0, 1) := by decide +kernel
theorem dX12_power_90 : decode cX12_power 90 = .ok (.iload_n 1, 1) := by decide +kernel
theorem dX12_power_91 : decode cX12_power 91 = .ok (.iconst 3, 1) := by decide +kernel
theorem dX12_power_92 : decode cX12_power 92 = .ok (.iload_n 2, 1) := by decide +kernel
theorem dX12_power_93 : decode cX12_power 93 = .ok (.ifCond .eq 7, 3) := by decide +kernel
theorem dX12_power_96 : decode cX12_power 96 = .ok (.iconst 1, 1) := by decide +kernel
theorem dX12_power_97 : decode cX12_power 97 = .ok (.goto 4, 3) := by decide +kernel
theorem dX12_power_100 : decode cX12_power 100 = .ok (.iconst 0, 1) := by decide +kernel
theorem dX12_power_101 : decode cX12_power 101 = .ok (.invokevirtual 146, 3) := by decide +kernel
theorem dX12_power_104 : decode cX12_power 104 = .ok (.iload_n 2, 1) := by decide +kernel
theorem dX12_power_105 : decode cX12_power 105 = .ok (.ifCond .ne 5, 3) := by decide +kernel
theorem dX12_power_108 : decode cX12_power 108 = .ok (.iload_n 3, 1) := by decide +kernel
theorem dX12_power_109 : decode cX12_power 109 = .ok (.ireturn, 1) := by decide +kernel
theorem dX12_power_110 : decode cX12_power 110 = .ok (.aload_n 0, 1) := by decide +kernel
theorem dX12_power_111 : decode cX12_power 111 = .ok (.iload_n 1, 1) := by decide +kernel
theorem dX12_power_112 : decode cX12_power 112 = .ok (.iconst 4, 1) := by decide +kernel
theorem dX12_power_113 : decode cX12_power 113 = .ok (.bipush 99, 2) := by decide +kernel
theorem dX12_power_115 : decode cX12_power 115 = .ok (.iconst 2, 1) := by decide +kernel
theorem dX12_power_116 : decode cX12_power 116 = .ok (.iload_n 1, 1) := by decide +kernel
theorem dX12_power_117 : decode cX12_power 117 = .ok (.iadd, 1) := by decide +kernel
theorem dX12_power_118 : decode cX12_power 118 = .ok (.aload_n 0, 1) := by decide +kernel
theorem dX12_power_119 : decode cX12_power 119 = .ok (.getfield 245, 3) := by decide +kernel
theorem dX12_power_122 : decode cX12_power 122 = .ok (.iadd, 1) := by decide +kernel
theorem dX12_power_123 : decode cX12_power 123 = .ok (.invokestatic 70, 3) := by decide +kernel
theorem dX12_power_126 : decode cX12_power 126 = .ok (.invokevirtual 146, 3) := by decide +kernel
theorem dX12_power_129 : decode cX12_power 129 = .ok (.aload_n 0, 1) := by decide +kernel
theorem dX12_power_130 : decode cX12_power 130 = .ok (.iload_n 1, 1) := by decide +kernel
theorem dX12_power_131 : decode cX12_power 131 = .ok (.bipush 6, 2) := by decide +kernel
theorem dX12_power_133 : decode cX12_power 133 = .ok (.iconst 0, 1) := by decide +kernel
theorem dX12_power_134 : decode cX12_power 134 = .ok (.invokevirtual 146, 3) := by decide +kernel
theorem dX12_power_137 : decode cX12_power 137 = .ok (.aload_n 0, 1) := by decide +kernel
theorem dX12_power_138 : decode cX12_power 138 = .ok (.iload_n 1, 1) := by decide +kernel
theorem dX12_power_139 : decode cX12_power 139 = .ok (.bipush 7, 2) := by decide +kernel
theorem dX12_power_141 : decode cX12_power 141 = .ok (.iconst 0, 1) := by decide +kernel
theorem dX12_power_142 : decode cX12_power 142 = .ok (.invokevirtual 146, 3) := by decide +kernel
theorem dX12_power_145 : decode cX12_power 145 = .ok (.iload_n 3, 1) := by decide +kernel
theorem dX12_power_146 : decode cX12_power 146 = .ok (.ireturn, 1) := by decide +kernel
set_option maxRecDepth 20000 in
theorem ggX12_spoil_X12_isNode : GoodIn wsX12_spoil wsX12_isNode := goodIn_r _ [6, 7, 8, 9, 5, 10, 25, 26, 27, 28, 29, 30, 31, 32, 33, 34, 35, 36, 37, 38, 39, 40, 41, 42, 43, 44, 45, 46, 47, 48, 49, 50, 51, 52, 53, 54] (by decide +kernel) (by decide +kernel)
set_option maxRecDepth 20000 in
theorem gX12_spoil_X12_isNode : GoodIn wsX12_spoil (wsV RX12 347 RX12 yX12_isNode wsX12_isNode) := goodIn_app (goodIn_of _ (by decide +kernel)) ggX12_spoil_X12_isNode
set_option maxRecDepth 20000 in
theorem ggX12_spoil_X12_isIn : GoodIn wsX12_spoil wsX12_isIn := goodIn_r _ [10] (by decide +kernel) (by decide +kernel)
set_option maxRecDepth 20000 in
theorem gX12_spoil_X12_isIn : GoodIn wsX12_spoil (va_wsS RX12 62 yX12_isIn wsX12_isIn) := goodIn_app (goodIn_of _ (by decide +kernel)) ggX12_spoil_X12_isIn
set_option maxRecDepth 20000 in
theorem ggX12_spoil_X12_sets : GoodIn wsX12_spoil wsX12_sets := goodIn_r _ [14, 7, 15, 16, 17, 5, 18, 19, 20, 25, 26, 27, 28, 29, 30, 31, 32, 33, 34, 35, 36, 37, 38, 39, 40, 41, 42, 43, 44, 45, 46, 47, 48, 49, 50, 51, 52, 53, 54] (by decide +kernel) (by decide +kernel)
set_option maxRecDepth 20000 in
theorem gX12_spoil_X12_sets : GoodIn wsX12_spoil (wsV RX12 368 RX12 yX12_sets wsX12_sets) := goodIn_app (goodIn_of _ (by decide +kernel)) ggX12_spoil_X12_sets
set_option maxRecDepth 20000 in
theorem ggX12_spoil_X12_lays : GoodIn wsX12_spoil wsX12_lays := goodIn_r _ [24, 7, 25, 26, 27, 28, 29, 30, 31, 32, 33, 34, 35, 36, 37, 38, 39, 40, 41, 42, 43, 44, 45, 46, 47, 48, 49, 50, 51, 52, 53, 54] (by decide +kernel) (by decide +kernel)
set_option maxRecDepth 20000 in
theorem gX12_spoil_X12_lays : GoodIn wsX12_spoil (wsV RX12 146 RX12 yX12_lays wsX12_lays) := goodIn_app (goodIn_of _ (by decide +kernel)) ggX12_spoil_X12_lays
theorem dX12_spoil_0 : decode cX12_spoil 0 = .ok (.aload_n 0, 1) := by decide +kernel
theorem dX12_spoil_1 : decode cX12_spoil 1 = .ok (.aload_n 0, 1) := by decide +kernel
theorem dX12_spoil_2 : decode cX12_spoil 2 = .ok (.iload_n 1, 1) := by decide +kernel
theorem dX12_spoil_3 : decode cX12_spoil 3 = .ok (.invokevirtual 347, 3) := by decide +kernel
theorem dX12_spoil_6 : decode cX12_spoil 6 = .ok (.ifCond .ne 7, 3) := by decide +kernel
theorem dX12_spoil_9 : decode cX12_spoil 9 = .ok (.iconst 1, 1) := by decide +kernel
theorem dX12_spoil_10 : decode cX12_spoil 10 = .ok (.goto 37, 3) := by decide +kernel
theorem dX12_spoil_13 : decode cX12_spoil 13 = .ok (.iload_n 2, 1) := by decide +kernel
theorem dX12_spoil_14 : decode cX12_spoil 14 = .ok (.iconst 0, 1) := by decide +kernel
theorem dX12_spoil_15 : decode cX12_spoil 15 = .ok (.iconst 3, 1) := by decide +kernel
theorem dX12_spoil_16 : decode cX12_spoil 16 = .ok (.invokestatic 62, 3) := by decide +kernel
theorem dX12_spoil_19 : decode cX12_spoil 19 = .ok (.ifCond .eq 23, 3) := by decide +kernel
theorem dX12_spoil_22 : decode cX12_spoil 22 = .ok (.iload_n 2, 1) := by decide +kernel
theorem dX12_spoil_23 : decode cX12_spoil 23 = .ok (.iconst 1, 1) := by decide +kernel
theorem dX12_spoil_24 : decode cX12_spoil 24 = .ok (.if_icmp .eq 8, 3) := by decide +kernel
theorem dX12_spoil_27 : decode cX12_spoil 27 = .ok (.iload_n 2, 1) := by decide +kernel
theorem dX12_spoil_28 : decode cX12_spoil 28 = .ok (.iconst 3, 1) := by decide +kernel
theorem dX12_spoil_29 : decode cX12_spoil 29 = .ok (.if_icmp .ne 17, 3) := by decide +kernel
theorem dX12_spoil_32 : decode cX12_spoil 32 = .ok (.iload_n 3, 1) := by decide +kernel
theorem dX12_spoil_33 : decode cX12_spoil 33 = .ok (.iconst 0, 1) := by decide +kernel
theorem dX12_spoil_34 : decode cX12_spoil 34 = .ok (.bipush 99, 2) := by decide +kernel
theorem dX12_spoil_36 : decode cX12_spoil 36 = .ok (.invokestatic 62, 3) := by decide +kernel
theorem dX12_spoil_39 : decode cX12_spoil 39 = .ok (.ifCond .ne 7, 3) := by decide +kernel
theorem dX12_spoil_42 : decode cX12_spoil 42 = .ok (.iconst 2, 1) := by decide +kernel
theorem dX12_spoil_43 : decode cX12_spoil 43 = .ok (.goto 4, 3) := by decide +kernel
theorem dX12_spoil_46 : decode cX12_spoil 46 = .ok (.iconst 0, 1) := by decide +kernel
theorem dX12_spoil_47 : decode cX12_spoil 47 = .ok (.putfield 59, 3) := by decide +kernel
theorem dX12_spoil_50 : decode cX12_spoil 50 = .ok (.aload_n 0, 1) := by decide +kernel
theorem dX12_spoil_51 : decode cX12_spoil 51 = .ok (.getfield 59, 3) := by decide +kernel
theorem dX12_spoil_54 : decode cX12_spoil 54 = .ok (.ifCond .le 5, 3) := by decide +kernel
theorem dX12_spoil_57 : decode cX12_spoil 57 = .ok (.iconst 0, 1) := by decide +kernel
theorem dX12_spoil_58 : decode cX12_spoil 58 = .ok (.ireturn, 1) := by decide +kernel
theorem dX12_spoil_59 : decode cX12_spoil 59 = .ok (.aload_n 0, 1) := by decide +kernel
theorem dX12_spoil_60 : decode cX12_spoil 60 = .ok (.bipush 9, 2) := by decide +kernel
theorem dX12_spoil_62 : decode cX12_spoil 62 = .ok (.bipush 11, 2) := by decide +kernel
theorem dX12_spoil_64 : decode cX12_spoil 64 = .ok (.iload_n 1, 1) := by decide +kernel
theorem dX12_spoil_65 : decode cX12_spoil 65 = .ok (.imul, 1) := by decide +kernel
theorem dX12_spoil_66 : decode cX12_spoil 66 = .ok (.iadd, 1) := by decide +kernel
theorem dX12_spoil_67 : decode cX12_spoil 67 = .ok (.bipush 9, 2) := by decide +kernel
theorem dX12_spoil_69 : decode cX12_spoil 69 = .ok (.iadd, 1) := by decide +kernel
theorem dX12_spoil_70 : decode cX12_spoil 70 = .ok (.iload_n 2, 1) := by decide +kernel
theorem dX12_spoil_71 : decode cX12_spoil 71 = .ok (.invokevirtual 368, 3) := by decide +kernel
theorem dX12_spoil_74 : decode cX12_spoil 74 = .ok (.istore 4, 2) := by decide +kernel
theorem dX12_spoil_76 : decode cX12_spoil 76 = .ok (.aload_n 0, 1) := by decide +kernel
theorem dX12_spoil_77 : decode cX12_spoil 77 = .ok (.iload_n 1, 1) := by decide +kernel
theorem dX12_spoil_78 : decode cX12_spoil 78 = .ok (.bipush 10, 2) := by decide +kernel
theorem dX12_spoil_80 : decode cX12_spoil 80 = .ok (.iload_n 2, 1) := by decide +kernel
theorem dX12_spoil_81 : decode cX12_spoil 81 = .ok (.iconst 1, 1) := by decide +kernel
theorem dX12_spoil_82 : decode cX12_spoil 82 = .ok (.if_icmp .eq 8, 3) := by decide +kernel
theorem dX12_spoil_85 : decode cX12_spoil 85 = .ok (.iload_n 2, 1) := by decide +kernel
theorem dX12_spoil_86 : decode cX12_spoil 86 = .ok (.iconst 3, 1) := by decide +kernel
theorem dX12_spoil_87 : decode cX12_spoil 87 = .ok (.if_icmp .ne 7, 3) := by decide +kernel
theorem dX12_spoil_90 : decode cX12_spoil 90 = .ok (.iload_n 3, 1) := by decide +kernel
theorem dX12_spoil_91 : decode cX12_spoil 91 = .ok (.goto 4, 3) := by decide +kernel
theorem dX12_spoil_94 : decode cX12_spoil 94 = .ok (.iconst 0, 1) := by decide +kernel
theorem dX12_spoil_95 : decode cX12_spoil 95 = .ok (.invokevirtual 146, 3) := by decide +kernel
theorem dX12_spoil_98 : decode cX12_spoil 98 = .ok (.iload 4, 2) := by decide +kernel
theorem dX12_spoil_100 : decode cX12_spoil 100 = .ok (.ireturn, 1) := by decide +kernel
set_option maxRecDepth 20000 in
theorem ggX12_set_X12_isNode : GoodIn wsX12_set wsX12_isNode := goodIn_r _ [6, 7, 8, 9, 5, 10, 21, 22, 23, 24, 25, 26, 27, 28, 29, 30, 31, 32, 33, 34, 35, 36, 37, 38, 39, 40, 41, 42, 43, 44, 45, 46, 47, 48, 49, 50] (by decide +kernel) (by decide +kernel)
set_option maxRecDepth 20000 in
theorem gX12_set_X12_isNode : GoodIn wsX12_set (wsV RX12 347 RX12 yX12_isNode wsX12_isNode) := goodIn_app (goodIn_of _ (by decide +kernel)) ggX12_set_X12_isNode
set_option maxRecDepth 20000 in
theorem ggX12_set_X12_isIn : GoodIn wsX12_set wsX12_isIn := goodIn_r _ [10] (by decide +kernel) (by decide +kernel)
set_option maxRecDepth 20000 in
theorem gX12_set_X12_isIn : GoodIn wsX12_set (va_wsS RX12 62 yX12_isIn wsX12_isIn) := goodIn_app (goodIn_of _ (by decide +kernel)) ggX12_set_X12_isIn
set_option maxRecDepth 20000 in
theorem ggX12_set_X12_sets : GoodIn wsX12_set wsX12_sets := goodIn_r _ [14, 7, 15, 16, 17, 5, 18, 19, 20, 21, 22, 23, 24, 25, 26, 27, 28, 29, 30, 31, 32, 33, 34, 35, 36, 37, 38, 39, 40, 41, 42, 43, 44, 45, 46, 47, 48, 49, 50] (by decide +kernel) (by decide +kernel)
set_option maxRecDepth 20000 in
theorem gX12_set_X12_sets : GoodIn wsX12_set (wsV RX12 368 RX12 yX12_sets wsX12_sets) := goodIn_app (goodIn_of _ (by decide +kernel)) ggX12_set_X12_sets
theorem dX12_set_0 : decode cX12_set 0 = .ok (.aload_n 0, 1) := by decide +kernel
theorem dX12_set_1 : decode cX12_set 1 = .ok (.aload_n 0, 1) := by decide +kernel
theorem dX12_set_2 : decode cX12_set 2 = .ok (.iload_n 1, 1) := by decide +kernel
theorem dX12_set_3 : decode cX12_set 3 = .ok (.invokevirtual 347, 3) := by decide +kernel
theorem dX12_set_6 : decode cX12_set 6 = .ok (.ifCond .ne 7, 3) := by decide +kernel
theorem dX12_set_9 : decode cX12_set 9 = .ok (.iconst 1, 1) := by decide +kernel
theorem dX12_set_10 : decode cX12_set 10 = .ok (.goto 21, 3) := by decide +kernel
theorem dX12_set_13 : decode cX12_set 13 = .ok (.iload_n 2, 1) := by decide +kernel
theorem dX12_set_14 : decode cX12_set 14 = .ok (.sipush (-999), 3) := by decide +kernel
theorem dX12_set_17 : decode cX12_set 17 = .ok (.sipush 999, 3) := by decide +kernel
theorem dX12_set_20 : decode cX12_set 20 = .ok (.invokestatic 62, 3) := by decide +kernel
theorem dX12_set_23 : decode cX12_set 23 = .ok (.ifCond .ne 7, 3) := by decide +kernel
theorem dX12_set_26 : decode cX12_set 26 = .ok (.iconst 2, 1) := by decide +kernel
theorem dX12_set_27 : decode cX12_set 27 = .ok (.goto 4, 3) := by decide +kernel
theorem dX12_set_30 : decode cX12_set 30 = .ok (.iconst 0, 1) := by decide +kernel
theorem dX12_set_31 : decode cX12_set 31 = .ok (.putfield 59, 3) := by decide +kernel
theorem dX12_set_34 : decode cX12_set 34 = .ok (.aload_n 0, 1) := by decide +kernel
theorem dX12_set_35 : decode cX12_set 35 = .ok (.getfield 59, 3) := by decide +kernel
theorem dX12_set_38 : decode cX12_set 38 = .ok (.ifCond .le 7, 3) := by decide +kernel
theorem dX12_set_41 : decode cX12_set 41 = .ok (.iconst 0, 1) := by decide +kernel
theorem dX12_set_42 : decode cX12_set 42 = .ok (.goto 17, 3) := by decide +kernel
theorem dX12_set_45 : decode cX12_set 45 = .ok (.aload_n 0, 1) := by decide +kernel
theorem dX12_set_46 : decode cX12_set 46 = .ok (.bipush 9, 2) := by decide +kernel
theorem dX12_set_48 : decode cX12_set 48 = .ok (.bipush 11, 2) := by decide +kernel
theorem dX12_set_50 : decode cX12_set 50 = .ok (.iload_n 1, 1) := by decide +kernel
theorem dX12_set_51 : decode cX12_set 51 = .ok (.imul, 1) := by decide +kernel
theorem dX12_set_52 : decode cX12_set 52 = .ok (.iadd, 1) := by decide +kernel
theorem dX12_set_53 : decode cX12_set 53 = .ok (.iconst 0, 1) := by decide +kernel
theorem dX12_set_54 : decode cX12_set 54 = .ok (.iadd, 1) := by decide +kernel
theorem dX12_set_55 : decode cX12_set 55 = .ok (.iload_n 2, 1) := by decide +kernel
theorem dX12_set_56 : decode cX12_set 56 = .ok (.invokevirtual 368, 3) := by decide +kernel
theorem dX12_set_59 : decode cX12_set 59 = .ok (.ireturn, 1) := by decide +kernel
set_option maxRecDepth 20000 in
theorem ggX12_tune_X12_isIn : GoodIn wsX12_tune wsX12_isIn := goodIn_r _ [5] (by decide +kernel) (by decide +kernel)
set_option maxRecDepth 20000 in
theorem gX12_tune_X12_isIn : GoodIn wsX12_tune (va_wsS RX12 62 yX12_isIn wsX12_isIn) := goodIn_app (goodIn_of _ (by decide +kernel)) ggX12_tune_X12_isIn
set_option maxRecDepth 20000 in
theorem ggX12_tune_X12_sets : GoodIn wsX12_tune wsX12_sets := goodIn_r _ [9, 10, 11, 12, 13, 4, 14, 15, 16, 17, 18, 19, 20, 21, 22, 23, 24, 25, 26, 27, 28, 29, 30, 31, 32, 33, 34, 35, 36, 37, 38, 39, 40, 41, 42, 43, 44, 45, 46] (by decide +kernel) (by decide +kernel)
set_option maxRecDepth 20000 in
theorem gX12_tune_X12_sets : GoodIn wsX12_tune (wsV RX12 368 RX12 yX12_sets wsX12_sets) := goodIn_app (goodIn_of _ (by decide +kernel)) ggX12_tune_X12_sets
theorem dX12_tune_0 : decode cX12_tune 0 = .ok (.aload_n 0, 1) := by decide +kernel
theorem dX12_tune_1 : decode cX12_tune 1 = .ok (.iload_n 2, 1) := by decide +kernel
theorem dX12_tune_2 : decode cX12_tune 2 = .ok (.iconst 1, 1) := by decide +kernel
theorem dX12_tune_3 : decode cX12_tune 3 = .ok (.sipush 999, 3) := by decide +kernel
theorem dX12_tune_6 : decode cX12_tune 6 = .ok (.invokestatic 62, 3) := by decide +kernel
theorem dX12_tune_9 : decode cX12_tune 9 = .ok (.ifCond .ne 7, 3) := by decide +kernel
theorem dX12_tune_12 : decode cX12_tune 12 = .ok (.iconst 1, 1) := by decide +kernel
theorem dX12_tune_13 : decode cX12_tune 13 = .ok (.goto 4, 3) := by decide +kernel
theorem dX12_tune_16 : decode cX12_tune 16 = .ok (.iconst 0, 1) := by decide +kernel
theorem dX12_tune_17 : decode cX12_tune 17 = .ok (.putfield 59, 3) := by decide +kernel
theorem dX12_tune_20 : decode cX12_tune 20 = .ok (.aload_n 0, 1) := by decide +kernel
theorem dX12_tune_21 : decode cX12_tune 21 = .ok (.getfield 59, 3) := by decide +kernel
theorem dX12_tune_24 : decode cX12_tune 24 = .ok (.ifCond .le 7, 3) := by decide +kernel
theorem dX12_tune_27 : decode cX12_tune 27 = .ok (.iconst 0, 1) := by decide +kernel
theorem dX12_tune_28 : decode cX12_tune 28 = .ok (.goto 17, 3) := by decide +kernel
theorem dX12_tune_31 : decode cX12_tune 31 = .ok (.aload_n 0, 1) := by decide +kernel
theorem dX12_tune_32 : decode cX12_tune 32 = .ok (.iload_n 1, 1) := by decide +kernel
theorem dX12_tune_33 : decode cX12_tune 33 = .ok (.ifCond .eq 7, 3) := by decide +kernel
theorem dX12_tune_36 : decode cX12_tune 36 = .ok (.iconst 5, 1) := by decide +kernel
theorem dX12_tune_37 : decode cX12_tune 37 = .ok (.goto 4, 3) := by decide +kernel
theorem dX12_tune_40 : decode cX12_tune 40 = .ok (.iconst 4, 1) := by decide +kernel
theorem dX12_tune_41 : decode cX12_tune 41 = .ok (.iload_n 2, 1) := by decide +kernel
theorem dX12_tune_42 : decode cX12_tune 42 = .ok (.invokevirtual 368, 3) := by decide +kernel
theorem dX12_tune_45 : decode cX12_tune 45 = .ok (.ireturn, 1) := by decide +kernel
set_option maxRecDepth 20000 in
theorem ggX12_mid_X12_middle : GoodIn wsX12_mid wsX12_middle := goodIn_r _ [9, 3, 10, 11, 12, 13, 14, 15, 16, 17, 18, 19, 20, 21, 22, 23, 24, 25, 26, 27, 28, 29, 30, 31, 32, 33, 34, 35, 36, 37, 38, 39] (by decide +kernel) (by decide +kernel)
set_option maxRecDepth 20000 in
theorem gX12_mid_X12_middle : GoodIn wsX12_mid (wsV RX12 278 RX12 yX12_middle wsX12_middle) := goodIn_app (goodIn_of _ (by decide +kernel)) ggX12_mid_X12_middle
theorem dX12_mid_0 : decode cX12_mid 0 = .ok (.aload_n 0, 1) := by decide +kernel
theorem dX12_mid_1 : decode cX12_mid 1 = .ok (.getfield 76, 3) := by decide +kernel
theorem dX12_mid_4 : decode cX12_mid 4 = .ok (.istore_n 1, 1) := by decide +kernel
theorem dX12_mid_5 : decode cX12_mid 5 = .ok (.aload_n 0, 1) := by decide +kernel
theorem dX12_mid_6 : decode cX12_mid 6 = .ok (.iconst 0, 1) := by decide +kernel
theorem dX12_mid_7 : decode cX12_mid 7 = .ok (.putfield 76, 3) := by decide +kernel
theorem dX12_mid_10 : decode cX12_mid 10 = .ok (.aload_n 0, 1) := by decide +kernel
theorem dX12_mid_11 : decode cX12_mid 11 = .ok (.iload_n 1, 1) := by decide +kernel
theorem dX12_mid_12 : decode cX12_mid 12 = .ok (.bipush 20, 2) := by decide +kernel
theorem dX12_mid_14 : decode cX12_mid 14 = .ok (.if_icmp .le 7, 3) := by decide +kernel
theorem dX12_mid_17 : decode cX12_mid 17 = .ok (.iconst 1, 1) := by decide +kernel
theorem dX12_mid_18 : decode cX12_mid 18 = .ok (.goto 4, 3) := by decide +kernel
theorem dX12_mid_21 : decode cX12_mid 21 = .ok (.iconst 0, 1) := by decide +kernel
theorem dX12_mid_22 : decode cX12_mid 22 = .ok (.putfield 59, 3) := by decide +kernel
theorem dX12_mid_25 : decode cX12_mid 25 = .ok (.aload_n 0, 1) := by decide +kernel
theorem dX12_mid_26 : decode cX12_mid 26 = .ok (.getfield 59, 3) := by decide +kernel
theorem dX12_mid_29 : decode cX12_mid 29 = .ok (.ifCond .le 5, 3) := by decide +kernel
theorem dX12_mid_32 : decode cX12_mid 32 = .ok (.iconst 0, 1) := by decide +kernel
theorem dX12_mid_33 : decode cX12_mid 33 = .ok (.ireturn, 1) := by decide +kernel
theorem dX12_mid_34 : decode cX12_mid 34 = .ok (.iconst 0, 1) := by decide +kernel
theorem dX12_mid_35 : decode cX12_mid 35 = .ok (.istore_n 2, 1) := by decide +kernel
theorem dX12_mid_36 : decode cX12_mid 36 = .ok (.iload_n 2, 1) := by decide +kernel
theorem dX12_mid_37 : decode cX12_mid 37 = .ok (.iload_n 1, 1) := by decide +kernel
theorem dX12_mid_38 : decode cX12_mid 38 = .ok (.if_icmp .ge 25, 3) := by decide +kernel
theorem dX12_mid_41 : decode cX12_mid 41 = .ok (.aload_n 0, 1) := by decide +kernel
theorem dX12_mid_42 : decode cX12_mid 42 = .ok (.getfield 41, 3) := by decide +kernel
theorem dX12_mid_45 : decode cX12_mid 45 = .ok (.iload_n 2, 1) := by decide +kernel
theorem dX12_mid_46 : decode cX12_mid 46 = .ok (.aload_n 0, 1) := by decide +kernel
theorem dX12_mid_47 : decode cX12_mid 47 = .ok (.getfield 22, 3) := by decide +kernel
theorem dX12_mid_50 : decode cX12_mid 50 = .ok (.iload_n 2, 1) := by decide +kernel
theorem dX12_mid_51 : decode cX12_mid 51 = .ok (.iaload, 1) := by decide +kernel
theorem dX12_mid_52 : decode cX12_mid 52 = .ok (.sipush 128, 3) := by decide +kernel
theorem dX12_mid_55 : decode cX12_mid 55 = .ok (.isub, 1) := by decide +kernel
theorem dX12_mid_56 : decode cX12_mid 56 = .ok (.iastore, 1) := by decide +kernel
theorem dX12_mid_57 : decode cX12_mid 57 = .ok (.iinc 2 1, 3) := by decide +kernel
theorem dX12_mid_60 : decode cX12_mid 60 = .ok (.goto (-24), 3) := by decide +kernel
theorem dX12_mid_63 : decode cX12_mid 63 = .ok (.aload_n 0, 1) := by decide +kernel
theorem dX12_mid_64 : decode cX12_mid 64 = .ok (.iload_n 1, 1) := by decide +kernel
theorem dX12_mid_65 : decode cX12_mid 65 = .ok (.invokevirtual 278, 3) := by decide +kernel
theorem dX12_mid_68 : decode cX12_mid 68 = .ok (.ireturn, 1) := by decide +kernel
set_option maxRecDepth 20000 in
theorem ggX12_spread_X12_spreadNow : GoodIn wsX12_spread wsX12_spreadNow := goodIn_r _ [6, 7, 8, 9, 10, 11, 12, 5, 13, 14, 15, 16, 17, 18, 19, 20, 21, 22, 23, 24, 25, 26, 27, 28, 29, 30, 31, 32, 33, 34, 35, 36, 37, 38, 39, 40, 41, 42, 43, 44, 45, 46, 47, 48, 49, 50, 51, 52, 53, 54, 55, 56, 57, 58, 59, 60] (by decide +kernel) (by decide +kernel)
set_option maxRecDepth 20000 in
theorem gX12_spread_X12_spreadNow : GoodIn wsX12_spread (wsV RX12 371 RX12 yX12_spreadNow wsX12_spreadNow) := goodIn_app (goodIn_of _ (by decide +kernel)) ggX12_spread_X12_spreadNow
theorem dX12_spread_0 : decode cX12_spread 0 = .ok (.aload_n 0, 1) := by decide +kernel
theorem dX12_spread_1 : decode cX12_spread 1 = .ok (.iconst 0, 1) := by decide +kernel
theorem dX12_spread_2 : decode cX12_spread 2 = .ok (.putfield 59, 3) := by decide +kernel
theorem dX12_spread_5 : decode cX12_spread 5 = .ok (.aload_n 0, 1) := by decide +kernel
theorem dX12_spread_6 : decode cX12_spread 6 = .ok (.invokevirtual 371, 3) := by decide +kernel
theorem dX12_spread_9 : decode cX12_spread 9 = .ok (.ireturn, 1) := by decide +kernel
set_option maxRecDepth 20000 in
theorem ggX12_agreed_X12_isActive : GoodIn wsX12_agreed wsX12_isActive := goodIn_r _ [7, 8, 9, 10, 6, 11, 2, 12, 13, 14, 15, 16, 17, 18, 19, 20, 21, 22, 23, 24, 25, 26, 27, 28, 29, 30, 31, 32, 33, 34, 35, 36, 37, 38, 39, 40, 41] (by decide +kernel) (by decide +kernel)
set_option maxRecDepth 20000 in
theorem gX12_agreed_X12_isActive : GoodIn wsX12_agreed (wsV RX12 262 RX12 yX12_isActive wsX12_isActive) := goodIn_app (goodIn_of _ (by decide +kernel)) ggX12_agreed_X12_isActive
set_option maxRecDepth 20000 in
theorem ggX12_agreed_X12_of : GoodIn wsX12_agreed wsX12_of := goodIn_r _ [11, 2, 12, 13, 14, 15, 16, 17, 18, 19, 20, 21, 22, 23, 24, 25, 26, 27, 28, 29, 30, 31, 32, 33, 34, 35, 36, 37, 38, 39, 40, 41] (by decide +kernel) (by decide +kernel)
set_option maxRecDepth 20000 in
theorem gX12_agreed_X12_of : GoodIn wsX12_agreed (wsV RX12 66 RX12 yX12_of wsX12_of) := goodIn_app (goodIn_of _ (by decide +kernel)) ggX12_agreed_X12_of
theorem dX12_agreed_0 : decode cX12_agreed 0 = .ok (.aload_n 0, 1) := by decide +kernel
theorem dX12_agreed_1 : decode cX12_agreed 1 = .ok (.iconst 0, 1) := by decide +kernel
theorem dX12_agreed_2 : decode cX12_agreed 2 = .ok (.putfield 59, 3) := by decide +kernel
theorem dX12_agreed_5 : decode cX12_agreed 5 = .ok (.iconst 1, 1) := by decide +kernel
theorem dX12_agreed_6 : decode cX12_agreed 6 = .ok (.istore_n 1, 1) := by decide +kernel
theorem dX12_agreed_7 : decode cX12_agreed 7 = .ok (.iconst 0, 1) := by decide +kernel
theorem dX12_agreed_8 : decode cX12_agreed 8 = .ok (.istore_n 2, 1) := by decide +kernel
theorem dX12_agreed_9 : decode cX12_agreed 9 = .ok (.iload_n 2, 1) := by decide +kernel
theorem dX12_agreed_10 : decode cX12_agreed 10 = .ok (.aload_n 0, 1) := by decide +kernel
theorem dX12_agreed_11 : decode cX12_agreed 11 = .ok (.getfield 7, 3) := by decide +kernel
theorem dX12_agreed_14 : decode cX12_agreed 14 = .ok (.iconst 3, 1) := by decide +kernel
theorem dX12_agreed_15 : decode cX12_agreed 15 = .ok (.iaload, 1) := by decide +kernel
theorem dX12_agreed_16 : decode cX12_agreed 16 = .ok (.if_icmp .ge 63, 3) := by decide +kernel
theorem dX12_agreed_19 : decode cX12_agreed 19 = .ok (.iconst 0, 1) := by decide +kernel
theorem dX12_agreed_20 : decode cX12_agreed 20 = .ok (.istore_n 3, 1) := by decide +kernel
theorem dX12_agreed_21 : decode cX12_agreed 21 = .ok (.iload_n 3, 1) := by decide +kernel
theorem dX12_agreed_22 : decode cX12_agreed 22 = .ok (.iload_n 2, 1) := by decide +kernel
theorem dX12_agreed_23 : decode cX12_agreed 23 = .ok (.if_icmp .ge 50, 3) := by decide +kernel
theorem dX12_agreed_26 : decode cX12_agreed 26 = .ok (.iload_n 1, 1) := by decide +kernel
theorem dX12_agreed_27 : decode cX12_agreed 27 = .ok (.ifCond .eq 38, 3) := by decide +kernel
theorem dX12_agreed_30 : decode cX12_agreed 30 = .ok (.aload_n 0, 1) := by decide +kernel
theorem dX12_agreed_31 : decode cX12_agreed 31 = .ok (.iload_n 2, 1) := by decide +kernel
theorem dX12_agreed_32 : decode cX12_agreed 32 = .ok (.invokevirtual 262, 3) := by decide +kernel
theorem dX12_agreed_35 : decode cX12_agreed 35 = .ok (.ifCond .eq 26, 3) := by decide +kernel
theorem dX12_agreed_38 : decode cX12_agreed 38 = .ok (.aload_n 0, 1) := by decide +kernel
theorem dX12_agreed_39 : decode cX12_agreed 39 = .ok (.iload_n 3, 1) := by decide +kernel
theorem dX12_agreed_40 : decode cX12_agreed 40 = .ok (.invokevirtual 262, 3) := by decide +kernel
theorem dX12_agreed_43 : decode cX12_agreed 43 = .ok (.ifCond .eq 18, 3) := by decide +kernel
theorem dX12_agreed_46 : decode cX12_agreed 46 = .ok (.aload_n 0, 1) := by decide +kernel
theorem dX12_agreed_47 : decode cX12_agreed 47 = .ok (.iload_n 2, 1) := by decide +kernel
theorem dX12_agreed_48 : decode cX12_agreed 48 = .ok (.iconst 5, 1) := by decide +kernel
theorem dX12_agreed_49 : decode cX12_agreed 49 = .ok (.invokevirtual 66, 3) := by decide +kernel
theorem dX12_agreed_52 : decode cX12_agreed 52 = .ok (.aload_n 0, 1) := by decide +kernel
theorem dX12_agreed_53 : decode cX12_agreed 53 = .ok (.iload_n 3, 1) := by decide +kernel
theorem dX12_agreed_54 : decode cX12_agreed 54 = .ok (.iconst 5, 1) := by decide +kernel
theorem dX12_agreed_55 : decode cX12_agreed 55 = .ok (.invokevirtual 66, 3) := by decide +kernel
theorem dX12_agreed_58 : decode cX12_agreed 58 = .ok (.if_icmp .ne 7, 3) := by decide +kernel
theorem dX12_agreed_61 : decode cX12_agreed 61 = .ok (.iconst 1, 1) := by decide +kernel
theorem dX12_agreed_62 : decode cX12_agreed 62 = .ok (.goto 4, 3) := by decide +kernel
theorem dX12_agreed_65 : decode cX12_agreed 65 = .ok (.iconst 0, 1) := by decide +kernel
theorem dX12_agreed_66 : decode cX12_agreed 66 = .ok (.istore_n 1, 1) := by decide +kernel
theorem dX12_agreed_67 : decode cX12_agreed 67 = .ok (.iinc 3 1, 3) := by decide +kernel
theorem dX12_agreed_70 : decode cX12_agreed 70 = .ok (.goto (-49), 3) := by decide +kernel
theorem dX12_agreed_73 : decode cX12_agreed 73 = .ok (.iinc 2 1, 3) := by decide +kernel
theorem dX12_agreed_76 : decode cX12_agreed 76 = .ok (.goto (-67), 3) := by decide +kernel
theorem dX12_agreed_79 : decode cX12_agreed 79 = .ok (.iload_n 1, 1) := by decide +kernel
theorem dX12_agreed_80 : decode cX12_agreed 80 = .ok (.ireturn, 1) := by decide +kernel
set_option maxRecDepth 20000 in
theorem ggX12_cliques_X12_inState : GoodIn wsX12_cliques wsX12_inState := goodIn_r _ [7, 2, 8, 9, 10, 6, 11, 203, 204, 205, 206, 207, 208, 209, 210, 211, 212, 213, 214, 215, 216, 217, 218, 219, 220, 221, 222, 223, 224, 225, 226, 227, 228, 229, 230, 231, 232] (by decide +kernel) (by decide +kernel)
set_option maxRecDepth 20000 in
theorem gX12_cliques_X12_inState : GoodIn wsX12_cliques (wsV RX12 250 RX12 yX12_inState wsX12_inState) := goodIn_app (goodIn_of _ (by decide +kernel)) ggX12_cliques_X12_inState
set_option maxRecDepth 20000 in
theorem ggX12_cliques_X12_isOf : GoodIn wsX12_cliques wsX12_isOf := goodIn_r _ [14] (by decide +kernel) (by decide +kernel)
set_option maxRecDepth 20000 in
theorem gX12_cliques_X12_isOf : GoodIn wsX12_cliques (va_wsS RX12 274 yX12_isOf wsX12_isOf) := goodIn_app (goodIn_of _ (by decide +kernel)) ggX12_cliques_X12_isOf
set_option maxRecDepth 20000 in
theorem ggX12_cliques_X12_cliqueOf : GoodIn wsX12_cliques wsX12_cliqueOf := goodIn_r _ [18, 2, 19, 20, 21, 6, 22, 8, 9, 10, 11, 12, 13, 14, 23, 24, 25, 26, 27, 28, 29, 30, 31, 32, 33, 34, 35, 36, 37, 38, 39, 40, 41, 42, 43, 44, 45, 46, 47, 48, 49, 50, 51, 52, 53, 54, 55, 56, 57, 58, 59, 60, 61, 62, 3, 4, 5, 7, 63, 64, 65, 66, 67, 68, 69, 70, 71, 72, 73, 74, 75, 76, 77, 78, 79, 80, 81, 82, 83, 84, 85, 86, 87, 88, 89, 90, 91, 92, 93, 94, 95, 96, 97, 98, 99, 100, 101, 102, 103, 104, 105, 106, 107, 108, 109, 110, 111, 112, 113, 114, 115, 116, 117, 118, 119, 120, 121, 122, 123, 124, 125, 126, 127, 128, 129, 130, 131, 132, 133, 134, 135, 136, 137, 138, 139, 140, 141, 142, 143, 144, 145, 146, 147, 148, 149, 150, 151, 152, 153, 154, 155, 156, 157, 158, 159, 160, 161, 162, 163, 164, 165, 166, 167, 168, 169, 170, 171, 172, 173, 174, 175, 176, 177, 178, 179, 180, 181, 182, 183, 184, 185, 186, 187, 188, 189, 190, 191, 192, 193, 194, 195, 196, 197, 198, 199, 200, 201, 202, 203, 204, 205, 206, 207, 208, 209, 210, 211, 212, 213, 214, 215, 216, 217, 218, 219, 220, 221, 222, 223, 224, 225, 226, 227, 228, 229, 230, 231, 232] (by decide +kernel) (by decide +kernel)
set_option maxRecDepth 20000 in
theorem gX12_cliques_X12_cliqueOf : GoodIn wsX12_cliques (wsV RX12 350 RX12 yX12_cliqueOf wsX12_cliqueOf) := goodIn_app (goodIn_of _ (by decide +kernel)) ggX12_cliques_X12_cliqueOf
theorem dX12_cliques_0 : decode cX12_cliques 0 = .ok (.aload_n 0, 1) := by decide +kernel
theorem dX12_cliques_1 : decode cX12_cliques 1 = .ok (.iconst 0, 1) := by decide +kernel
theorem dX12_cliques_2 : decode cX12_cliques 2 = .ok (.putfield 59, 3) := by decide +kernel
theorem dX12_cliques_5 : decode cX12_cliques 5 = .ok (.aload_n 0, 1) := by decide +kernel
theorem dX12_cliques_6 : decode cX12_cliques 6 = .ok (.iconst 2, 1) := by decide +kernel
theorem dX12_cliques_7 : decode cX12_cliques 7 = .ok (.invokevirtual 250, 3) := by decide +kernel
theorem dX12_cliques_10 : decode cX12_cliques 10 = .ok (.istore_n 1, 1) := by decide +kernel
theorem dX12_cliques_11 : decode cX12_cliques 11 = .ok (.iconst 0, 1) := by decide +kernel
theorem dX12_cliques_12 : decode cX12_cliques 12 = .ok (.istore_n 2, 1) := by decide +kernel
theorem dX12_cliques_13 : decode cX12_cliques 13 = .ok (.iconst 0, 1) := by decide +kernel
theorem dX12_cliques_14 : decode cX12_cliques 14 = .ok (.istore_n 3, 1) := by decide +kernel
theorem dX12_cliques_15 : decode cX12_cliques 15 = .ok (.iload_n 3, 1) := by decide +kernel
theorem dX12_cliques_16 : decode cX12_cliques 16 = .ok (.aload_n 0, 1) := by decide +kernel
theorem dX12_cliques_17 : decode cX12_cliques 17 = .ok (.getfield 7, 3) := by decide +kernel
theorem dX12_cliques_20 : decode cX12_cliques 20 = .ok (.iconst 3, 1) := by decide +kernel
theorem dX12_cliques_21 : decode cX12_cliques 21 = .ok (.iaload, 1) := by decide +kernel
theorem dX12_cliques_22 : decode cX12_cliques 22 = .ok (.if_icmp .ge 33, 3) := by decide +kernel
theorem dX12_cliques_25 : decode cX12_cliques 25 = .ok (.iload_n 1, 1) := by decide +kernel
theorem dX12_cliques_26 : decode cX12_cliques 26 = .ok (.iload_n 3, 1) := by decide +kernel
theorem dX12_cliques_27 : decode cX12_cliques 27 = .ok (.invokestatic 274, 3) := by decide +kernel
theorem dX12_cliques_30 : decode cX12_cliques 30 = .ok (.ifCond .ne 6, 3) := by decide +kernel
theorem dX12_cliques_33 : decode cX12_cliques 33 = .ok (.goto 16, 3) := by decide +kernel
theorem dX12_cliques_36 : decode cX12_cliques 36 = .ok (.iload_n 1, 1) := by decide +kernel
theorem dX12_cliques_37 : decode cX12_cliques 37 = .ok (.aload_n 0, 1) := by decide +kernel
theorem dX12_cliques_38 : decode cX12_cliques 38 = .ok (.iload_n 3, 1) := by decide +kernel
theorem dX12_cliques_39 : decode cX12_cliques 39 = .ok (.invokevirtual 350, 3) := by decide +kernel
theorem dX12_cliques_42 : decode cX12_cliques 42 = .ok (.iconst (-1), 1) := by decide +kernel
theorem dX12_cliques_43 : decode cX12_cliques 43 = .ok (.ixor, 1) := by decide +kernel
theorem dX12_cliques_44 : decode cX12_cliques 44 = .ok (.iand, 1) := by decide +kernel
theorem dX12_cliques_45 : decode cX12_cliques 45 = .ok (.istore_n 1, 1) := by decide +kernel
theorem dX12_cliques_46 : decode cX12_cliques 46 = .ok (.iinc 2 1, 3) := by decide +kernel
theorem dX12_cliques_49 : decode cX12_cliques 49 = .ok (.iinc 3 1, 3) := by decide +kernel
theorem dX12_cliques_52 : decode cX12_cliques 52 = .ok (.goto (-37), 3) := by decide +kernel
theorem dX12_cliques_55 : decode cX12_cliques 55 = .ok (.iload_n 2, 1) := by decide +kernel
theorem dX12_cliques_56 : decode cX12_cliques 56 = .ok (.ireturn, 1) := by decide +kernel
set_option maxRecDepth 20000 in
theorem ggX12_settles_X12_isIn : GoodIn wsX12_settles wsX12_isIn := goodIn_r _ [5] (by decide +kernel) (by decide +kernel)
set_option maxRecDepth 20000 in
theorem gX12_settles_X12_isIn : GoodIn wsX12_settles (va_wsS RX12 62 yX12_isIn wsX12_isIn) := goodIn_app (goodIn_of _ (by decide +kernel)) ggX12_settles_X12_isIn
set_option maxRecDepth 20000 in
theorem ggX12_settles_X12_putsAside : GoodIn wsX12_settles wsX12_putsAside := goodIn_r _ [9, 10, 11, 289, 290, 291, 292, 293, 294, 295, 296, 297, 298, 299, 300, 301, 302, 303, 304, 305, 306, 307, 308, 309, 310, 311, 312, 313, 314, 315, 316, 317, 318] (by decide +kernel) (by decide +kernel)
set_option maxRecDepth 20000 in
theorem gX12_settles_X12_putsAside : GoodIn wsX12_settles (wsV RX12 177 RX12 yX12_putsAside wsX12_putsAside) := goodIn_app (goodIn_of _ (by decide +kernel)) ggX12_settles_X12_putsAside
set_option maxRecDepth 20000 in
theorem ggX12_settles_X12_inState : GoodIn wsX12_settles wsX12_inState := goodIn_r _ [15, 11, 16, 17, 18, 4, 19, 289, 290, 291, 292, 293, 294, 295, 296, 297, 298, 299, 300, 301, 302, 303, 304, 305, 306, 307, 308, 309, 310, 311, 312, 313, 314, 315, 316, 317, 318] (by decide +kernel) (by decide +kernel)
set_option maxRecDepth 20000 in
theorem gX12_settles_X12_inState : GoodIn wsX12_settles (wsV RX12 250 RX12 yX12_inState wsX12_inState) := goodIn_app (goodIn_of _ (by decide +kernel)) ggX12_settles_X12_inState
set_option maxRecDepth 20000 in
theorem ggX12_settles_X12_bits : GoodIn wsX12_settles wsX12_bits := goodIn_r _ [22] (by decide +kernel) (by decide +kernel)
set_option maxRecDepth 20000 in
theorem gX12_settles_X12_bits : GoodIn wsX12_settles (va_wsS RX12 247 yX12_bits wsX12_bits) := goodIn_app (goodIn_of _ (by decide +kernel)) ggX12_settles_X12_bits
set_option maxRecDepth 20000 in
theorem ggX12_settles_X12_spreadNow : GoodIn wsX12_settles wsX12_spreadNow := goodIn_r _ [26, 27, 28, 11, 29, 30, 31, 4, 32, 16, 17, 18, 19, 33, 34, 35, 36, 37, 38, 12, 13, 14, 15, 20, 21, 22, 289, 290, 291, 292, 293, 294, 295, 296, 297, 298, 299, 300, 301, 302, 303, 304, 305, 306, 307, 308, 309, 310, 311, 312, 313, 314, 315, 316, 317, 318] (by decide +kernel) (by decide +kernel)
set_option maxRecDepth 20000 in
theorem gX12_settles_X12_spreadNow : GoodIn wsX12_settles (wsV RX12 371 RX12 yX12_spreadNow wsX12_spreadNow) := goodIn_app (goodIn_of _ (by decide +kernel)) ggX12_settles_X12_spreadNow
set_option maxRecDepth 20000 in
theorem ggX12_settles_X12_passes : GoodIn wsX12_settles wsX12_passes := goodIn_r _ [42, 11, 12, 13, 14, 4, 15, 16, 17, 18, 19, 43, 44, 45, 46, 47, 48, 49, 50, 51, 52, 53, 54, 55, 29, 30, 31, 32, 56, 57, 58, 59, 60, 61, 62, 63, 64, 65, 66, 67, 68, 69, 70, 71, 72, 73, 74, 75, 76, 36, 37, 38, 20, 21, 22, 77, 78, 79, 80, 81, 82, 83, 84, 85, 86, 87, 88, 89, 90, 91, 92, 93, 94, 95, 96, 97, 98, 99, 100, 101, 2, 3, 5, 102, 103, 104, 105, 106, 107, 108, 109, 110, 111, 112, 113, 114, 115, 116, 117, 118, 119, 120, 121, 122, 123, 124, 125, 126, 127, 128, 129, 130, 131, 132, 133, 134, 135, 136, 137, 138, 139, 140, 141, 142, 143, 144, 145, 146, 147, 148, 149, 150, 151, 152, 153, 154, 155, 156, 157, 158, 159, 160, 161, 162, 163, 164, 165, 166, 167, 168, 169, 170, 171, 172, 173, 174, 175, 176, 177, 178, 179, 180, 181, 182, 183, 184, 185, 186, 187, 188, 189, 190, 191, 192, 193, 194, 195, 196, 197, 198, 199, 200, 201, 202, 203, 204, 205, 206, 207, 208, 209, 210, 33, 34, 35, 211, 212, 213, 214, 215, 216, 217, 218, 219, 220, 221, 222, 223, 224, 225, 226, 227, 228, 229, 230, 231, 232, 233, 234, 235, 236, 237, 238, 239, 240, 241, 242, 243, 244, 245, 246, 247, 248, 249, 250, 251, 252, 253, 254, 255, 256, 257, 258, 259, 260, 261, 262, 263, 264, 265, 266, 267, 268, 269, 270, 271, 272, 273, 274, 275, 276, 277, 278, 279, 280, 281, 282, 283, 284, 289, 290, 291, 292, 293, 294, 295, 296, 297, 298, 299, 300, 301, 302, 303, 304, 305, 306, 307, 308, 309, 310, 311, 312, 313, 314, 315, 316, 317, 318] (by decide +kernel) (by decide +kernel)
set_option maxRecDepth 20000 in
theorem gX12_settles_X12_passes : GoodIn wsX12_settles (wsV RX12 335 RX12 yX12_passes wsX12_passes) := goodIn_app (goodIn_of _ (by decide +kernel)) ggX12_settles_X12_passes
set_option maxRecDepth 20000 in
theorem ggX12_settles_X12_comesBack : GoodIn wsX12_settles wsX12_comesBack := goodIn_r _ [288, 11, 10, 289, 290, 291, 292, 293, 294, 295, 296, 297, 298, 299, 300, 301, 302, 303, 304, 305, 306, 307, 308, 309, 310, 311, 312, 313, 314, 315, 316, 317, 318] (by decide +kernel) (by decide +kernel)
set_option maxRecDepth 20000 in
theorem gX12_settles_X12_comesBack : GoodIn wsX12_settles (wsV RX12 187 RX12 yX12_comesBack wsX12_comesBack) := goodIn_app (goodIn_of _ (by decide +kernel)) ggX12_settles_X12_comesBack
theorem dX12_settles_0 : decode cX12_settles 0 = .ok (.aload_n 0, 1) := by decide +kernel
theorem dX12_settles_1 : decode cX12_settles 1 = .ok (.iload_n 1, 1) := by decide +kernel
theorem dX12_settles_2 : decode cX12_settles 2 = .ok (.iconst 0, 1) := by decide +kernel
theorem dX12_settles_3 : decode cX12_settles 3 = .ok (.sipush 999, 3) := by decide +kernel
theorem dX12_settles_6 : decode cX12_settles 6 = .ok (.invokestatic 62, 3) := by decide +kernel
theorem dX12_settles_9 : decode cX12_settles 9 = .ok (.ifCond .ne 7, 3) := by decide +kernel
theorem dX12_settles_12 : decode cX12_settles 12 = .ok (.iconst 1, 1) := by decide +kernel
theorem dX12_settles_13 : decode cX12_settles 13 = .ok (.goto 4, 3) := by decide +kernel
theorem dX12_settles_16 : decode cX12_settles 16 = .ok (.iconst 0, 1) := by decide +kernel
theorem dX12_settles_17 : decode cX12_settles 17 = .ok (.putfield 59, 3) := by decide +kernel
theorem dX12_settles_20 : decode cX12_settles 20 = .ok (.aload_n 0, 1) := by decide +kernel
theorem dX12_settles_21 : decode cX12_settles 21 = .ok (.getfield 59, 3) := by decide +kernel
theorem dX12_settles_24 : decode cX12_settles 24 = .ok (.ifCond .le 5, 3) := by decide +kernel
theorem dX12_settles_27 : decode cX12_settles 27 = .ok (.iconst 0, 1) := by decide +kernel
theorem dX12_settles_28 : decode cX12_settles 28 = .ok (.ireturn, 1) := by decide +kernel
theorem dX12_settles_29 : decode cX12_settles 29 = .ok (.aload_n 0, 1) := by decide +kernel
theorem dX12_settles_30 : decode cX12_settles 30 = .ok (.invokevirtual 177, 3) := by decide +kernel
theorem dX12_settles_33 : decode cX12_settles 33 = .ok (.iconst (-1), 1) := by decide +kernel
theorem dX12_settles_34 : decode cX12_settles 34 = .ok (.istore_n 2, 1) := by decide +kernel
theorem dX12_settles_35 : decode cX12_settles 35 = .ok (.iconst 0, 1) := by decide +kernel
theorem dX12_settles_36 : decode cX12_settles 36 = .ok (.istore_n 3, 1) := by decide +kernel
theorem dX12_settles_37 : decode cX12_settles 37 = .ok (.iload_n 3, 1) := by decide +kernel
theorem dX12_settles_38 : decode cX12_settles 38 = .ok (.bipush 60, 2) := by decide +kernel
theorem dX12_settles_40 : decode cX12_settles 40 = .ok (.if_icmp .gt 41, 3) := by decide +kernel
theorem dX12_settles_43 : decode cX12_settles 43 = .ok (.iload_n 2, 1) := by decide +kernel
theorem dX12_settles_44 : decode cX12_settles 44 = .ok (.iconst (-1), 1) := by decide +kernel
theorem dX12_settles_45 : decode cX12_settles 45 = .ok (.if_icmp .ne 36, 3) := by decide +kernel
theorem dX12_settles_48 : decode cX12_settles 48 = .ok (.aload_n 0, 1) := by decide +kernel
theorem dX12_settles_49 : decode cX12_settles 49 = .ok (.iconst 2, 1) := by decide +kernel
theorem dX12_settles_50 : decode cX12_settles 50 = .ok (.invokevirtual 250, 3) := by decide +kernel
theorem dX12_settles_53 : decode cX12_settles 53 = .ok (.invokestatic 247, 3) := by decide +kernel
theorem dX12_settles_56 : decode cX12_settles 56 = .ok (.iconst 1, 1) := by decide +kernel
theorem dX12_settles_57 : decode cX12_settles 57 = .ok (.if_icmp .le 13, 3) := by decide +kernel
theorem dX12_settles_60 : decode cX12_settles 60 = .ok (.aload_n 0, 1) := by decide +kernel
theorem dX12_settles_61 : decode cX12_settles 61 = .ok (.invokevirtual 371, 3) := by decide +kernel
theorem dX12_settles_64 : decode cX12_settles 64 = .ok (.iload_n 1, 1) := by decide +kernel
theorem dX12_settles_65 : decode cX12_settles 65 = .ok (.if_icmp .gt 5, 3) := by decide +kernel
theorem dX12_settles_68 : decode cX12_settles 68 = .ok (.iload_n 3, 1) := by decide +kernel
theorem dX12_settles_69 : decode cX12_settles 69 = .ok (.istore_n 2, 1) := by decide +kernel
theorem dX12_settles_70 : decode cX12_settles 70 = .ok (.aload_n 0, 1) := by decide +kernel
theorem dX12_settles_71 : decode cX12_settles 71 = .ok (.iconst 0, 1) := by decide +kernel
theorem dX12_settles_72 : decode cX12_settles 72 = .ok (.invokevirtual 335, 3) := by decide +kernel
theorem dX12_settles_75 : decode cX12_settles 75 = .ok (.iinc 3 1, 3) := by decide +kernel
theorem dX12_settles_78 : decode cX12_settles 78 = .ok (.goto (-41), 3) := by decide +kernel
theorem dX12_settles_81 : decode cX12_settles 81 = .ok (.aload_n 0, 1) := by decide +kernel
theorem dX12_settles_82 : decode cX12_settles 82 = .ok (.invokevirtual 187, 3) := by decide +kernel
theorem dX12_settles_85 : decode cX12_settles 85 = .ok (.iload_n 2, 1) := by decide +kernel
theorem dX12_settles_86 : decode cX12_settles 86 = .ok (.ireturn, 1) := by decide +kernel
set_option maxRecDepth 20000 in
theorem ggX12_widest_X12_isIn : GoodIn wsX12_widest wsX12_isIn := goodIn_r _ [5] (by decide +kernel) (by decide +kernel)
set_option maxRecDepth 20000 in
theorem gX12_widest_X12_isIn : GoodIn wsX12_widest (va_wsS RX12 62 yX12_isIn wsX12_isIn) := goodIn_app (goodIn_of _ (by decide +kernel)) ggX12_widest_X12_isIn
set_option maxRecDepth 20000 in
theorem ggX12_widest_X12_putsAside : GoodIn wsX12_widest wsX12_putsAside := goodIn_r _ [9, 10, 11, 289, 290, 291, 292, 293, 294, 295, 296, 297, 298, 299, 300, 301, 302, 303, 304, 305, 306, 307, 308, 309, 310, 311, 312, 313, 314, 315, 316, 317, 318] (by decide +kernel) (by decide +kernel)
set_option maxRecDepth 20000 in
theorem gX12_widest_X12_putsAside : GoodIn wsX12_widest (wsV RX12 177 RX12 yX12_putsAside wsX12_putsAside) := goodIn_app (goodIn_of _ (by decide +kernel)) ggX12_widest_X12_putsAside
set_option maxRecDepth 20000 in
theorem ggX12_widest_X12_spreadNow : GoodIn wsX12_widest wsX12_spreadNow := goodIn_r _ [15, 16, 17, 11, 18, 19, 20, 4, 21, 22, 23, 24, 25, 26, 27, 28, 29, 30, 31, 32, 33, 34, 35, 36, 37, 38, 289, 290, 291, 292, 293, 294, 295, 296, 297, 298, 299, 300, 301, 302, 303, 304, 305, 306, 307, 308, 309, 310, 311, 312, 313, 314, 315, 316, 317, 318] (by decide +kernel) (by decide +kernel)
set_option maxRecDepth 20000 in
theorem gX12_widest_X12_spreadNow : GoodIn wsX12_widest (wsV RX12 371 RX12 yX12_spreadNow wsX12_spreadNow) := goodIn_app (goodIn_of _ (by decide +kernel)) ggX12_widest_X12_spreadNow
set_option maxRecDepth 20000 in
theorem ggX12_widest_X12_passes : GoodIn wsX12_widest wsX12_passes := goodIn_r _ [42, 11, 32, 33, 34, 4, 35, 22, 23, 24, 25, 43, 44, 45, 46, 47, 48, 49, 50, 51, 52, 53, 54, 55, 18, 19, 20, 21, 56, 57, 58, 59, 60, 61, 62, 63, 64, 65, 66, 67, 68, 69, 70, 71, 72, 73, 74, 75, 76, 29, 30, 31, 36, 37, 38, 77, 78, 79, 80, 81, 82, 83, 84, 85, 86, 87, 88, 89, 90, 91, 92, 93, 94, 95, 96, 97, 98, 99, 100, 101, 2, 3, 5, 102, 103, 104, 105, 106, 107, 108, 109, 110, 111, 112, 113, 114, 115, 116, 117, 118, 119, 120, 121, 122, 123, 124, 125, 126, 127, 128, 129, 130, 131, 132, 133, 134, 135, 136, 137, 138, 139, 140, 141, 142, 143, 144, 145, 146, 147, 148, 149, 150, 151, 152, 153, 154, 155, 156, 157, 158, 159, 160, 161, 162, 163, 164, 165, 166, 167, 168, 169, 170, 171, 172, 173, 174, 175, 176, 177, 178, 179, 180, 181, 182, 183, 184, 185, 186, 187, 188, 189, 190, 191, 192, 193, 194, 195, 196, 197, 198, 199, 200, 201, 202, 203, 204, 205, 206, 207, 208, 209, 210, 26, 27, 28, 211, 212, 213, 214, 215, 216, 217, 218, 219, 220, 221, 222, 223, 224, 225, 226, 227, 228, 229, 230, 231, 232, 233, 234, 235, 236, 237, 238, 239, 240, 241, 242, 243, 244, 245, 246, 247, 248, 249, 250, 251, 252, 253, 254, 255, 256, 257, 258, 259, 260, 261, 262, 263, 264, 265, 266, 267, 268, 269, 270, 271, 272, 273, 274, 275, 276, 277, 278, 279, 280, 281, 282, 283, 284, 289, 290, 291, 292, 293, 294, 295, 296, 297, 298, 299, 300, 301, 302, 303, 304, 305, 306, 307, 308, 309, 310, 311, 312, 313, 314, 315, 316, 317, 318] (by decide +kernel) (by decide +kernel)
set_option maxRecDepth 20000 in
theorem gX12_widest_X12_passes : GoodIn wsX12_widest (wsV RX12 335 RX12 yX12_passes wsX12_passes) := goodIn_app (goodIn_of _ (by decide +kernel)) ggX12_widest_X12_passes
set_option maxRecDepth 20000 in
theorem ggX12_widest_X12_greater : GoodIn wsX12_widest wsX12_greater := goodIn_r _ [31] (by decide +kernel) (by decide +kernel)
set_option maxRecDepth 20000 in
theorem gX12_widest_X12_greater : GoodIn wsX12_widest (va_wsS RX12 73 yX12_greater wsX12_greater) := goodIn_app (goodIn_of _ (by decide +kernel)) ggX12_widest_X12_greater
set_option maxRecDepth 20000 in
theorem ggX12_widest_X12_comesBack : GoodIn wsX12_widest wsX12_comesBack := goodIn_r _ [288, 11, 10, 289, 290, 291, 292, 293, 294, 295, 296, 297, 298, 299, 300, 301, 302, 303, 304, 305, 306, 307, 308, 309, 310, 311, 312, 313, 314, 315, 316, 317, 318] (by decide +kernel) (by decide +kernel)
set_option maxRecDepth 20000 in
theorem gX12_widest_X12_comesBack : GoodIn wsX12_widest (wsV RX12 187 RX12 yX12_comesBack wsX12_comesBack) := goodIn_app (goodIn_of _ (by decide +kernel)) ggX12_widest_X12_comesBack
theorem dX12_widest_0 : decode cX12_widest 0 = .ok (.aload_n 0, 1) := by decide +kernel
theorem dX12_widest_1 : decode cX12_widest 1 = .ok (.iload_n 1, 1) := by decide +kernel
theorem dX12_widest_2 : decode cX12_widest 2 = .ok (.iconst 0, 1) := by decide +kernel
theorem dX12_widest_3 : decode cX12_widest 3 = .ok (.bipush 60, 2) := by decide +kernel
theorem dX12_widest_5 : decode cX12_widest 5 = .ok (.invokestatic 62, 3) := by decide +kernel
theorem dX12_widest_8 : decode cX12_widest 8 = .ok (.ifCond .ne 7, 3) := by decide +kernel
theorem dX12_widest_11 : decode cX12_widest 11 = .ok (.iconst 1, 1) := by decide +kernel
theorem dX12_widest_12 : decode cX12_widest 12 = .ok (.goto 4, 3) := by decide +kernel
theorem dX12_widest_15 : decode cX12_widest 15 = .ok (.iconst 0, 1) := by decide +kernel
theorem dX12_widest_16 : decode cX12_widest 16 = .ok (.putfield 59, 3) := by decide +kernel
theorem dX12_widest_19 : decode cX12_widest 19 = .ok (.aload_n 0, 1) := by decide +kernel
theorem dX12_widest_20 : decode cX12_widest 20 = .ok (.getfield 59, 3) := by decide +kernel
theorem dX12_widest_23 : decode cX12_widest 23 = .ok (.ifCond .le 5, 3) := by decide +kernel
theorem dX12_widest_26 : decode cX12_widest 26 = .ok (.iconst 0, 1) := by decide +kernel
theorem dX12_widest_27 : decode cX12_widest 27 = .ok (.ireturn, 1) := by decide +kernel
theorem dX12_widest_28 : decode cX12_widest 28 = .ok (.aload_n 0, 1) := by decide +kernel
theorem dX12_widest_29 : decode cX12_widest 29 = .ok (.invokevirtual 177, 3) := by decide +kernel
theorem dX12_widest_32 : decode cX12_widest 32 = .ok (.aload_n 0, 1) := by decide +kernel
theorem dX12_widest_33 : decode cX12_widest 33 = .ok (.invokevirtual 371, 3) := by decide +kernel
theorem dX12_widest_36 : decode cX12_widest 36 = .ok (.istore_n 2, 1) := by decide +kernel
theorem dX12_widest_37 : decode cX12_widest 37 = .ok (.iconst 0, 1) := by decide +kernel
theorem dX12_widest_38 : decode cX12_widest 38 = .ok (.istore_n 3, 1) := by decide +kernel
theorem dX12_widest_39 : decode cX12_widest 39 = .ok (.iload_n 3, 1) := by decide +kernel
theorem dX12_widest_40 : decode cX12_widest 40 = .ok (.iload_n 1, 1) := by decide +kernel
theorem dX12_widest_41 : decode cX12_widest 41 = .ok (.if_icmp .ge 23, 3) := by decide +kernel
theorem dX12_widest_44 : decode cX12_widest 44 = .ok (.aload_n 0, 1) := by decide +kernel
theorem dX12_widest_45 : decode cX12_widest 45 = .ok (.iconst 0, 1) := by decide +kernel
theorem dX12_widest_46 : decode cX12_widest 46 = .ok (.invokevirtual 335, 3) := by decide +kernel
theorem dX12_widest_49 : decode cX12_widest 49 = .ok (.iload_n 2, 1) := by decide +kernel
theorem dX12_widest_50 : decode cX12_widest 50 = .ok (.aload_n 0, 1) := by decide +kernel
theorem dX12_widest_51 : decode cX12_widest 51 = .ok (.invokevirtual 371, 3) := by decide +kernel
theorem dX12_widest_54 : decode cX12_widest 54 = .ok (.invokestatic 73, 3) := by decide +kernel
theorem dX12_widest_57 : decode cX12_widest 57 = .ok (.istore_n 2, 1) := by decide +kernel
theorem dX12_widest_58 : decode cX12_widest 58 = .ok (.iinc 3 1, 3) := by decide +kernel
theorem dX12_widest_61 : decode cX12_widest 61 = .ok (.goto (-22), 3) := by decide +kernel
theorem dX12_widest_64 : decode cX12_widest 64 = .ok (.aload_n 0, 1) := by decide +kernel
theorem dX12_widest_65 : decode cX12_widest 65 = .ok (.invokevirtual 187, 3) := by decide +kernel
theorem dX12_widest_68 : decode cX12_widest 68 = .ok (.iload_n 2, 1) := by decide +kernel
theorem dX12_widest_69 : decode cX12_widest 69 = .ok (.ireturn, 1) := by decide +kernel
set_option maxRecDepth 20000 in
theorem ggX12_leads_X12_putsAside : GoodIn wsX12_leads wsX12_putsAside := goodIn_r _ [6, 7, 8, 286, 287, 288, 289, 290, 291, 292, 293, 294, 295, 296, 297, 298, 299, 300, 301, 302, 303, 304, 305, 306, 307, 308, 309, 310, 311, 312, 313, 314, 315] (by decide +kernel) (by decide +kernel)
set_option maxRecDepth 20000 in
theorem gX12_leads_X12_putsAside : GoodIn wsX12_leads (wsV RX12 177 RX12 yX12_putsAside wsX12_putsAside) := goodIn_app (goodIn_of _ (by decide +kernel)) ggX12_leads_X12_putsAside
set_option maxRecDepth 20000 in
theorem ggX12_leads_X12_inState : GoodIn wsX12_leads wsX12_inState := goodIn_r _ [12, 8, 13, 14, 15, 5, 16, 286, 287, 288, 289, 290, 291, 292, 293, 294, 295, 296, 297, 298, 299, 300, 301, 302, 303, 304, 305, 306, 307, 308, 309, 310, 311, 312, 313, 314, 315] (by decide +kernel) (by decide +kernel)
set_option maxRecDepth 20000 in
theorem gX12_leads_X12_inState : GoodIn wsX12_leads (wsV RX12 250 RX12 yX12_inState wsX12_inState) := goodIn_app (goodIn_of _ (by decide +kernel)) ggX12_leads_X12_inState
set_option maxRecDepth 20000 in
theorem ggX12_leads_X12_lowest : GoodIn wsX12_leads wsX12_lowest := goodIn_r _ [19, 20, 21, 5, 22] (by decide +kernel) (by decide +kernel)
set_option maxRecDepth 20000 in
theorem gX12_leads_X12_lowest : GoodIn wsX12_leads (va_wsS RX12 374 yX12_lowest wsX12_lowest) := goodIn_app (goodIn_of _ (by decide +kernel)) ggX12_leads_X12_lowest
set_option maxRecDepth 20000 in
theorem ggX12_leads_X12_passes : GoodIn wsX12_leads wsX12_passes := goodIn_r _ [26, 8, 9, 10, 11, 5, 12, 13, 14, 15, 16, 27, 28, 29, 30, 31, 32, 33, 34, 35, 36, 37, 38, 39, 40, 41, 42, 43, 44, 45, 46, 47, 48, 49, 50, 51, 52, 53, 54, 55, 56, 57, 58, 59, 60, 61, 62, 63, 64, 65, 66, 67, 68, 69, 70, 71, 72, 73, 74, 75, 76, 77, 78, 79, 80, 81, 82, 83, 84, 85, 86, 87, 88, 89, 90, 91, 92, 93, 94, 95, 96, 97, 98, 99, 100, 101, 102, 103, 104, 105, 106, 107, 108, 109, 110, 111, 112, 113, 114, 115, 116, 117, 118, 119, 120, 121, 122, 123, 124, 125, 126, 127, 128, 129, 130, 131, 132, 133, 134, 135, 136, 137, 138, 139, 140, 141, 142, 143, 144, 145, 146, 147, 148, 149, 150, 151, 152, 153, 154, 155, 156, 157, 158, 159, 160, 161, 162, 163, 164, 165, 166, 167, 168, 169, 170, 171, 172, 173, 174, 175, 176, 177, 178, 179, 180, 181, 182, 183, 184, 185, 186, 187, 188, 189, 190, 191, 192, 193, 194, 195, 196, 197, 198, 199, 200, 201, 202, 203, 204, 205, 206, 207, 208, 209, 210, 211, 212, 213, 214, 215, 216, 217, 218, 20, 21, 22, 219, 220, 221, 222, 223, 224, 225, 226, 227, 228, 229, 230, 231, 232, 233, 234, 235, 236, 237, 238, 239, 240, 241, 242, 243, 244, 245, 246, 247, 248, 249, 250, 251, 252, 253, 254, 255, 256, 257, 258, 259, 260, 261, 262, 263, 264, 265, 266, 267, 268, 269, 270, 271, 272, 273, 274, 275, 276, 277, 278, 279, 280, 281, 286, 287, 288, 289, 290, 291, 292, 293, 294, 295, 296, 297, 298, 299, 300, 301, 302, 303, 304, 305, 306, 307, 308, 309, 310, 311, 312, 313, 314, 315] (by decide +kernel) (by decide +kernel)
set_option maxRecDepth 20000 in
theorem gX12_leads_X12_passes : GoodIn wsX12_leads (wsV RX12 335 RX12 yX12_passes wsX12_passes) := goodIn_app (goodIn_of _ (by decide +kernel)) ggX12_leads_X12_passes
set_option maxRecDepth 20000 in
theorem ggX12_leads_X12_comesBack : GoodIn wsX12_leads wsX12_comesBack := goodIn_r _ [285, 8, 7, 286, 287, 288, 289, 290, 291, 292, 293, 294, 295, 296, 297, 298, 299, 300, 301, 302, 303, 304, 305, 306, 307, 308, 309, 310, 311, 312, 313, 314, 315] (by decide +kernel) (by decide +kernel)
set_option maxRecDepth 20000 in
theorem gX12_leads_X12_comesBack : GoodIn wsX12_leads (wsV RX12 187 RX12 yX12_comesBack wsX12_comesBack) := goodIn_app (goodIn_of _ (by decide +kernel)) ggX12_leads_X12_comesBack
theorem dX12_leads_0 : decode cX12_leads 0 = .ok (.aload_n 0, 1) := by decide +kernel
theorem dX12_leads_1 : decode cX12_leads 1 = .ok (.iconst 0, 1) := by decide +kernel
theorem dX12_leads_2 : decode cX12_leads 2 = .ok (.putfield 59, 3) := by decide +kernel
theorem dX12_leads_5 : decode cX12_leads 5 = .ok (.aload_n 0, 1) := by decide +kernel
theorem dX12_leads_6 : decode cX12_leads 6 = .ok (.invokevirtual 177, 3) := by decide +kernel
theorem dX12_leads_9 : decode cX12_leads 9 = .ok (.iconst (-1), 1) := by decide +kernel
theorem dX12_leads_10 : decode cX12_leads 10 = .ok (.istore_n 2, 1) := by decide +kernel
theorem dX12_leads_11 : decode cX12_leads 11 = .ok (.iconst 0, 1) := by decide +kernel
theorem dX12_leads_12 : decode cX12_leads 12 = .ok (.istore_n 3, 1) := by decide +kernel
theorem dX12_leads_13 : decode cX12_leads 13 = .ok (.iload_n 3, 1) := by decide +kernel
theorem dX12_leads_14 : decode cX12_leads 14 = .ok (.bipush 60, 2) := by decide +kernel
theorem dX12_leads_16 : decode cX12_leads 16 = .ok (.if_icmp .gt 45, 3) := by decide +kernel
theorem dX12_leads_19 : decode cX12_leads 19 = .ok (.iload_n 2, 1) := by decide +kernel
theorem dX12_leads_20 : decode cX12_leads 20 = .ok (.iconst (-1), 1) := by decide +kernel
theorem dX12_leads_21 : decode cX12_leads 21 = .ok (.if_icmp .ne 40, 3) := by decide +kernel
theorem dX12_leads_24 : decode cX12_leads 24 = .ok (.aload_n 0, 1) := by decide +kernel
theorem dX12_leads_25 : decode cX12_leads 25 = .ok (.iconst 2, 1) := by decide +kernel
theorem dX12_leads_26 : decode cX12_leads 26 = .ok (.invokevirtual 250, 3) := by decide +kernel
theorem dX12_leads_29 : decode cX12_leads 29 = .ok (.istore 4, 2) := by decide +kernel
theorem dX12_leads_31 : decode cX12_leads 31 = .ok (.iload 4, 2) := by decide +kernel
theorem dX12_leads_33 : decode cX12_leads 33 = .ok (.ifCond .eq 17, 3) := by decide +kernel
theorem dX12_leads_36 : decode cX12_leads 36 = .ok (.iload_n 1, 1) := by decide +kernel
theorem dX12_leads_37 : decode cX12_leads 37 = .ok (.ifCond .eq 11, 3) := by decide +kernel
theorem dX12_leads_40 : decode cX12_leads 40 = .ok (.iload 4, 2) := by decide +kernel
theorem dX12_leads_42 : decode cX12_leads 42 = .ok (.invokestatic 374, 3) := by decide +kernel
theorem dX12_leads_45 : decode cX12_leads 45 = .ok (.goto 4, 3) := by decide +kernel
theorem dX12_leads_48 : decode cX12_leads 48 = .ok (.iload_n 3, 1) := by decide +kernel
theorem dX12_leads_49 : decode cX12_leads 49 = .ok (.istore_n 2, 1) := by decide +kernel
theorem dX12_leads_50 : decode cX12_leads 50 = .ok (.aload_n 0, 1) := by decide +kernel
theorem dX12_leads_51 : decode cX12_leads 51 = .ok (.iconst 0, 1) := by decide +kernel
theorem dX12_leads_52 : decode cX12_leads 52 = .ok (.invokevirtual 335, 3) := by decide +kernel
theorem dX12_leads_55 : decode cX12_leads 55 = .ok (.iinc 3 1, 3) := by decide +kernel
theorem dX12_leads_58 : decode cX12_leads 58 = .ok (.goto (-45), 3) := by decide +kernel
theorem dX12_leads_61 : decode cX12_leads 61 = .ok (.aload_n 0, 1) := by decide +kernel
theorem dX12_leads_62 : decode cX12_leads 62 = .ok (.invokevirtual 187, 3) := by decide +kernel
theorem dX12_leads_65 : decode cX12_leads 65 = .ok (.iload_n 2, 1) := by decide +kernel
theorem dX12_leads_66 : decode cX12_leads 66 = .ok (.ireturn, 1) := by decide +kernel
set_option maxRecDepth 20000 in
theorem ggX12_lowest_X12_isOf : GoodIn wsX12_lowest wsX12_isOf := goodIn_r _ [4] (by decide +kernel) (by decide +kernel)
set_option maxRecDepth 20000 in
theorem gX12_lowest_X12_isOf : GoodIn wsX12_lowest (va_wsS RX12 274 yX12_isOf wsX12_isOf) := goodIn_app (goodIn_of _ (by decide +kernel)) ggX12_lowest_X12_isOf
theorem dX12_lowest_0 : decode cX12_lowest 0 = .ok (.iconst 0, 1) := by decide +kernel
theorem dX12_lowest_1 : decode cX12_lowest 1 = .ok (.istore_n 1, 1) := by decide +kernel
theorem dX12_lowest_2 : decode cX12_lowest 2 = .ok (.iload_n 0, 1) := by decide +kernel
theorem dX12_lowest_3 : decode cX12_lowest 3 = .ok (.iload_n 1, 1) := by decide +kernel
theorem dX12_lowest_4 : decode cX12_lowest 4 = .ok (.invokestatic 274, 3) := by decide +kernel
theorem dX12_lowest_7 : decode cX12_lowest 7 = .ok (.ifCond .ne 9, 3) := by decide +kernel
theorem dX12_lowest_10 : decode cX12_lowest 10 = .ok (.iinc 1 1, 3) := by decide +kernel
theorem dX12_lowest_13 : decode cX12_lowest 13 = .ok (.goto (-11), 3) := by decide +kernel
theorem dX12_lowest_16 : decode cX12_lowest 16 = .ok (.iload_n 1, 1) := by decide +kernel
theorem dX12_lowest_17 : decode cX12_lowest 17 = .ok (.ireturn, 1) := by decide +kernel
set_option maxRecDepth 20000 in
theorem ggX12_narrow_X12_isActive : GoodIn wsX12_narrow wsX12_isActive := goodIn_r _ [7, 8, 9, 10, 6, 11, 2, 187, 188, 189, 190, 191, 192, 193, 194, 195, 196, 197, 198, 199, 200, 201, 202, 203, 204, 205, 206, 207, 208, 209, 210, 211, 212, 213, 214, 215, 216] (by decide +kernel) (by decide +kernel)
set_option maxRecDepth 20000 in
theorem gX12_narrow_X12_isActive : GoodIn wsX12_narrow (wsV RX12 262 RX12 yX12_isActive wsX12_isActive) := goodIn_app (goodIn_of _ (by decide +kernel)) ggX12_narrow_X12_isActive
set_option maxRecDepth 20000 in
theorem ggX12_narrow_X12_of : GoodIn wsX12_narrow wsX12_of := goodIn_r _ [11, 2, 187, 188, 189, 190, 191, 192, 193, 194, 195, 196, 197, 198, 199, 200, 201, 202, 203, 204, 205, 206, 207, 208, 209, 210, 211, 212, 213, 214, 215, 216] (by decide +kernel) (by decide +kernel)
set_option maxRecDepth 20000 in
theorem gX12_narrow_X12_of : GoodIn wsX12_narrow (wsV RX12 66 RX12 yX12_of wsX12_of) := goodIn_app (goodIn_of _ (by decide +kernel)) ggX12_narrow_X12_of
set_option maxRecDepth 20000 in
theorem ggX12_narrow_X12_sentBy : GoodIn wsX12_narrow wsX12_sentBy := goodIn_r _ [15, 8, 9, 10, 6, 11, 2, 16, 17, 18, 19, 20, 21, 22, 23, 24, 25, 26, 27, 28, 29, 30, 31, 32, 33, 34, 35, 36, 37, 38, 39, 40, 41, 42, 43, 44, 45, 46, 47, 48, 49, 50, 51, 52, 53, 54, 55, 56, 57, 58, 59, 60, 61, 62, 63, 64, 65, 66, 67, 68, 69, 70, 71, 72, 73, 74, 75, 76, 77, 78, 79, 80, 81, 82, 83, 84, 85, 86, 87, 88, 89, 90, 91, 92, 93, 94, 95, 96, 97, 98, 99, 100, 101, 102, 103, 104, 105, 106, 107, 108, 109, 110, 111, 112, 113, 114, 115, 116, 117, 118, 119, 120, 121, 122, 123, 124, 125, 126, 127, 128, 129, 130, 131, 132, 133, 134, 135, 136, 137, 138, 139, 140, 141, 142, 143, 144, 145, 146, 147, 148, 149, 150, 151, 152, 153, 154, 155, 156, 157, 158, 159, 160, 161, 162, 163, 164, 165, 166, 167, 168, 169, 170, 171, 172, 173, 174, 175, 176, 177, 178, 179, 180, 181, 182, 183, 187, 188, 189, 190, 191, 192, 193, 194, 195, 196, 197, 198, 199, 200, 201, 202, 203, 204, 205, 206, 207, 208, 209, 210, 211, 212, 213, 214, 215, 216] (by decide +kernel) (by decide +kernel)
set_option maxRecDepth 20000 in
theorem gX12_narrow_X12_sentBy : GoodIn wsX12_narrow (wsV RX12 259 RX12 yX12_sentBy wsX12_sentBy) := goodIn_app (goodIn_of _ (by decide +kernel)) ggX12_narrow_X12_sentBy
set_option maxRecDepth 20000 in
theorem ggX12_narrow_X12_sign : GoodIn wsX12_narrow wsX12_sign := goodIn_r _ [186] (by decide +kernel) (by decide +kernel)
set_option maxRecDepth 20000 in
theorem gX12_narrow_X12_sign : GoodIn wsX12_narrow (va_wsS RX12 377 yX12_sign wsX12_sign) := goodIn_app (goodIn_of _ (by decide +kernel)) ggX12_narrow_X12_sign
set_option maxRecDepth 20000 in
theorem ggX12_narrow_X12_greater : GoodIn wsX12_narrow wsX12_greater := goodIn_r _ [36] (by decide +kernel) (by decide +kernel)
set_option maxRecDepth 20000 in
theorem gX12_narrow_X12_greater : GoodIn wsX12_narrow (va_wsS RX12 73 yX12_greater wsX12_greater) := goodIn_app (goodIn_of _ (by decide +kernel)) ggX12_narrow_X12_greater
theorem dX12_narrow_0 : decode cX12_narrow 0 = .ok (.aload_n 0, 1) := by decide +kernel
theorem dX12_narrow_1 : decode cX12_narrow 1 = .ok (.iconst 0, 1) := by decide +kernel
theorem dX12_narrow_2 : decode cX12_narrow 2 = .ok (.putfield 59, 3) := by decide +kernel
theorem dX12_narrow_5 : decode cX12_narrow 5 = .ok (.iconst 1, 1) := by decide +kernel
theorem dX12_narrow_6 : decode cX12_narrow 6 = .ok (.istore_n 1, 1) := by decide +kernel
theorem dX12_narrow_7 : decode cX12_narrow 7 = .ok (.iconst 0, 1) := by decide +kernel
theorem dX12_narrow_8 : decode cX12_narrow 8 = .ok (.istore_n 2, 1) := by decide +kernel
theorem dX12_narrow_9 : decode cX12_narrow 9 = .ok (.iload_n 2, 1) := by decide +kernel
theorem dX12_narrow_10 : decode cX12_narrow 10 = .ok (.aload_n 0, 1) := by decide +kernel
theorem dX12_narrow_11 : decode cX12_narrow 11 = .ok (.getfield 7, 3) := by decide +kernel
theorem dX12_narrow_14 : decode cX12_narrow 14 = .ok (.iconst 3, 1) := by decide +kernel
theorem dX12_narrow_15 : decode cX12_narrow 15 = .ok (.iaload, 1) := by decide +kernel
theorem dX12_narrow_16 : decode cX12_narrow 16 = .ok (.if_icmp .ge 41, 3) := by decide +kernel
theorem dX12_narrow_19 : decode cX12_narrow 19 = .ok (.aload_n 0, 1) := by decide +kernel
theorem dX12_narrow_20 : decode cX12_narrow 20 = .ok (.iload_n 2, 1) := by decide +kernel
theorem dX12_narrow_21 : decode cX12_narrow 21 = .ok (.invokevirtual 262, 3) := by decide +kernel
theorem dX12_narrow_24 : decode cX12_narrow 24 = .ok (.ifCond .eq 27, 3) := by decide +kernel
theorem dX12_narrow_27 : decode cX12_narrow 27 = .ok (.aload_n 0, 1) := by decide +kernel
theorem dX12_narrow_28 : decode cX12_narrow 28 = .ok (.iload_n 2, 1) := by decide +kernel
theorem dX12_narrow_29 : decode cX12_narrow 29 = .ok (.bipush 9, 2) := by decide +kernel
theorem dX12_narrow_31 : decode cX12_narrow 31 = .ok (.invokevirtual 66, 3) := by decide +kernel
theorem dX12_narrow_34 : decode cX12_narrow 34 = .ok (.iconst 2, 1) := by decide +kernel
theorem dX12_narrow_35 : decode cX12_narrow 35 = .ok (.if_icmp .eq 16, 3) := by decide +kernel
theorem dX12_narrow_38 : decode cX12_narrow 38 = .ok (.iload_n 1, 1) := by decide +kernel
theorem dX12_narrow_39 : decode cX12_narrow 39 = .ok (.aload_n 0, 1) := by decide +kernel
theorem dX12_narrow_40 : decode cX12_narrow 40 = .ok (.iload_n 2, 1) := by decide +kernel
theorem dX12_narrow_41 : decode cX12_narrow 41 = .ok (.invokevirtual 259, 3) := by decide +kernel
theorem dX12_narrow_44 : decode cX12_narrow 44 = .ok (.invokestatic 377, 3) := by decide +kernel
theorem dX12_narrow_47 : decode cX12_narrow 47 = .ok (.invokestatic 73, 3) := by decide +kernel
theorem dX12_narrow_50 : decode cX12_narrow 50 = .ok (.istore_n 1, 1) := by decide +kernel
theorem dX12_narrow_51 : decode cX12_narrow 51 = .ok (.iinc 2 1, 3) := by decide +kernel
theorem dX12_narrow_54 : decode cX12_narrow 54 = .ok (.goto (-45), 3) := by decide +kernel
theorem dX12_narrow_57 : decode cX12_narrow 57 = .ok (.iload_n 1, 1) := by decide +kernel
theorem dX12_narrow_58 : decode cX12_narrow 58 = .ok (.sipush 999, 3) := by decide +kernel
theorem dX12_narrow_61 : decode cX12_narrow 61 = .ok (.if_icmp .le 7, 3) := by decide +kernel
theorem dX12_narrow_64 : decode cX12_narrow 64 = .ok (.iconst (-1), 1) := by decide +kernel
theorem dX12_narrow_65 : decode cX12_narrow 65 = .ok (.goto 4, 3) := by decide +kernel
theorem dX12_narrow_68 : decode cX12_narrow 68 = .ok (.iload_n 1, 1) := by decide +kernel
theorem dX12_narrow_69 : decode cX12_narrow 69 = .ok (.ireturn, 1) := by decide +kernel
set_option maxRecDepth 20000 in
theorem ggX12_tight_X12_isActive : GoodIn wsX12_tight wsX12_isActive := goodIn_r _ [7, 8, 9, 10, 6, 11, 2, 191, 192, 193, 194, 195, 196, 197, 198, 199, 200, 201, 202, 203, 204, 205, 206, 207, 208, 209, 210, 211, 212, 213, 214, 215, 216, 217, 218, 219, 220] (by decide +kernel) (by decide +kernel)
set_option maxRecDepth 20000 in
theorem gX12_tight_X12_isActive : GoodIn wsX12_tight (wsV RX12 262 RX12 yX12_isActive wsX12_isActive) := goodIn_app (goodIn_of _ (by decide +kernel)) ggX12_tight_X12_isActive
set_option maxRecDepth 20000 in
theorem ggX12_tight_X12_shiftOf : GoodIn wsX12_tight wsX12_shiftOf := goodIn_r _ [15, 16, 17, 18, 6, 19, 8, 9, 10, 11, 2, 20, 21, 22, 23, 24, 25, 26, 27, 28, 29, 30, 31, 32, 33, 34, 35, 36, 37, 38, 39, 40, 41, 42, 43, 44, 45, 46, 47, 48, 49, 50, 51, 52, 53, 54, 55, 56, 57, 58, 59, 60, 61, 62, 63, 64, 65, 66, 67, 68, 69, 70, 71, 72, 73, 74, 75, 76, 77, 78, 79, 80, 81, 82, 83, 84, 85, 86, 87, 88, 89, 90, 91, 92, 93, 94, 95, 96, 97, 98, 99, 100, 101, 102, 103, 104, 105, 106, 107, 108, 109, 110, 111, 112, 113, 114, 115, 116, 117, 118, 119, 120, 121, 122, 123, 124, 125, 126, 127, 128, 129, 130, 131, 132, 133, 134, 135, 136, 137, 138, 139, 140, 141, 142, 143, 144, 145, 146, 147, 148, 149, 150, 151, 152, 153, 154, 155, 156, 157, 158, 159, 160, 161, 162, 163, 164, 165, 166, 167, 168, 169, 170, 171, 172, 173, 174, 175, 176, 177, 178, 179, 180, 181, 182, 183, 184, 185, 186, 187, 191, 192, 193, 194, 195, 196, 197, 198, 199, 200, 201, 202, 203, 204, 205, 206, 207, 208, 209, 210, 211, 212, 213, 214, 215, 216, 217, 218, 219, 220] (by decide +kernel) (by decide +kernel)
set_option maxRecDepth 20000 in
theorem gX12_tight_X12_shiftOf : GoodIn wsX12_tight (wsV RX12 265 RX12 yX12_shiftOf wsX12_shiftOf) := goodIn_app (goodIn_of _ (by decide +kernel)) ggX12_tight_X12_shiftOf
set_option maxRecDepth 20000 in
theorem ggX12_tight_X12_of : GoodIn wsX12_tight wsX12_of := goodIn_r _ [11, 2, 191, 192, 193, 194, 195, 196, 197, 198, 199, 200, 201, 202, 203, 204, 205, 206, 207, 208, 209, 210, 211, 212, 213, 214, 215, 216, 217, 218, 219, 220] (by decide +kernel) (by decide +kernel)
set_option maxRecDepth 20000 in
theorem gX12_tight_X12_of : GoodIn wsX12_tight (wsV RX12 66 RX12 yX12_of wsX12_of) := goodIn_app (goodIn_of _ (by decide +kernel)) ggX12_tight_X12_of
set_option maxRecDepth 20000 in
theorem ggX12_tight_X12_sign : GoodIn wsX12_tight wsX12_sign := goodIn_r _ [190] (by decide +kernel) (by decide +kernel)
set_option maxRecDepth 20000 in
theorem gX12_tight_X12_sign : GoodIn wsX12_tight (va_wsS RX12 377 yX12_sign wsX12_sign) := goodIn_app (goodIn_of _ (by decide +kernel)) ggX12_tight_X12_sign
set_option maxRecDepth 20000 in
theorem ggX12_tight_X12_greater : GoodIn wsX12_tight wsX12_greater := goodIn_r _ [40] (by decide +kernel) (by decide +kernel)
set_option maxRecDepth 20000 in
theorem gX12_tight_X12_greater : GoodIn wsX12_tight (va_wsS RX12 73 yX12_greater wsX12_greater) := goodIn_app (goodIn_of _ (by decide +kernel)) ggX12_tight_X12_greater
theorem dX12_tight_0 : decode cX12_tight 0 = .ok (.aload_n 0, 1) := by decide +kernel
theorem dX12_tight_1 : decode cX12_tight 1 = .ok (.iconst 0, 1) := by decide +kernel
theorem dX12_tight_2 : decode cX12_tight 2 = .ok (.putfield 59, 3) := by decide +kernel
theorem dX12_tight_5 : decode cX12_tight 5 = .ok (.iconst 1, 1) := by decide +kernel
theorem dX12_tight_6 : decode cX12_tight 6 = .ok (.istore_n 1, 1) := by decide +kernel
theorem dX12_tight_7 : decode cX12_tight 7 = .ok (.iconst 0, 1) := by decide +kernel
theorem dX12_tight_8 : decode cX12_tight 8 = .ok (.istore_n 2, 1) := by decide +kernel
theorem dX12_tight_9 : decode cX12_tight 9 = .ok (.iload_n 2, 1) := by decide +kernel
theorem dX12_tight_10 : decode cX12_tight 10 = .ok (.aload_n 0, 1) := by decide +kernel
theorem dX12_tight_11 : decode cX12_tight 11 = .ok (.getfield 7, 3) := by decide +kernel
theorem dX12_tight_14 : decode cX12_tight 14 = .ok (.iconst 3, 1) := by decide +kernel
theorem dX12_tight_15 : decode cX12_tight 15 = .ok (.iaload, 1) := by decide +kernel
theorem dX12_tight_16 : decode cX12_tight 16 = .ok (.if_icmp .ge 69, 3) := by decide +kernel
theorem dX12_tight_19 : decode cX12_tight 19 = .ok (.iconst 0, 1) := by decide +kernel
theorem dX12_tight_20 : decode cX12_tight 20 = .ok (.istore_n 3, 1) := by decide +kernel
theorem dX12_tight_21 : decode cX12_tight 21 = .ok (.iload_n 3, 1) := by decide +kernel
theorem dX12_tight_22 : decode cX12_tight 22 = .ok (.aload_n 0, 1) := by decide +kernel
theorem dX12_tight_23 : decode cX12_tight 23 = .ok (.getfield 7, 3) := by decide +kernel
theorem dX12_tight_26 : decode cX12_tight 26 = .ok (.iconst 3, 1) := by decide +kernel
theorem dX12_tight_27 : decode cX12_tight 27 = .ok (.iaload, 1) := by decide +kernel
theorem dX12_tight_28 : decode cX12_tight 28 = .ok (.if_icmp .ge 51, 3) := by decide +kernel
theorem dX12_tight_31 : decode cX12_tight 31 = .ok (.iload_n 2, 1) := by decide +kernel
theorem dX12_tight_32 : decode cX12_tight 32 = .ok (.iload_n 3, 1) := by decide +kernel
theorem dX12_tight_33 : decode cX12_tight 33 = .ok (.if_icmp .eq 40, 3) := by decide +kernel
theorem dX12_tight_36 : decode cX12_tight 36 = .ok (.aload_n 0, 1) := by decide +kernel
theorem dX12_tight_37 : decode cX12_tight 37 = .ok (.iload_n 2, 1) := by decide +kernel
theorem dX12_tight_38 : decode cX12_tight 38 = .ok (.invokevirtual 262, 3) := by decide +kernel
theorem dX12_tight_41 : decode cX12_tight 41 = .ok (.ifCond .eq 32, 3) := by decide +kernel
theorem dX12_tight_44 : decode cX12_tight 44 = .ok (.aload_n 0, 1) := by decide +kernel
theorem dX12_tight_45 : decode cX12_tight 45 = .ok (.iload_n 3, 1) := by decide +kernel
theorem dX12_tight_46 : decode cX12_tight 46 = .ok (.invokevirtual 262, 3) := by decide +kernel
theorem dX12_tight_49 : decode cX12_tight 49 = .ok (.ifCond .eq 24, 3) := by decide +kernel
theorem dX12_tight_52 : decode cX12_tight 52 = .ok (.iload_n 1, 1) := by decide +kernel
theorem dX12_tight_53 : decode cX12_tight 53 = .ok (.aload_n 0, 1) := by decide +kernel
theorem dX12_tight_54 : decode cX12_tight 54 = .ok (.iload_n 3, 1) := by decide +kernel
theorem dX12_tight_55 : decode cX12_tight 55 = .ok (.iload_n 2, 1) := by decide +kernel
theorem dX12_tight_56 : decode cX12_tight 56 = .ok (.invokevirtual 265, 3) := by decide +kernel
theorem dX12_tight_59 : decode cX12_tight 59 = .ok (.aload_n 0, 1) := by decide +kernel
theorem dX12_tight_60 : decode cX12_tight 60 = .ok (.iload_n 2, 1) := by decide +kernel
theorem dX12_tight_61 : decode cX12_tight 61 = .ok (.iconst 0, 1) := by decide +kernel
theorem dX12_tight_62 : decode cX12_tight 62 = .ok (.invokevirtual 66, 3) := by decide +kernel
theorem dX12_tight_65 : decode cX12_tight 65 = .ok (.isub, 1) := by decide +kernel
theorem dX12_tight_66 : decode cX12_tight 66 = .ok (.invokestatic 377, 3) := by decide +kernel
theorem dX12_tight_69 : decode cX12_tight 69 = .ok (.invokestatic 73, 3) := by decide +kernel
theorem dX12_tight_72 : decode cX12_tight 72 = .ok (.istore_n 1, 1) := by decide +kernel
theorem dX12_tight_73 : decode cX12_tight 73 = .ok (.iinc 3 1, 3) := by decide +kernel
theorem dX12_tight_76 : decode cX12_tight 76 = .ok (.goto (-55), 3) := by decide +kernel
theorem dX12_tight_79 : decode cX12_tight 79 = .ok (.iinc 2 1, 3) := by decide +kernel
theorem dX12_tight_82 : decode cX12_tight 82 = .ok (.goto (-73), 3) := by decide +kernel
theorem dX12_tight_85 : decode cX12_tight 85 = .ok (.iload_n 1, 1) := by decide +kernel
theorem dX12_tight_86 : decode cX12_tight 86 = .ok (.sipush 999, 3) := by decide +kernel
theorem dX12_tight_89 : decode cX12_tight 89 = .ok (.if_icmp .le 7, 3) := by decide +kernel
theorem dX12_tight_92 : decode cX12_tight 92 = .ok (.iconst (-1), 1) := by decide +kernel
theorem dX12_tight_93 : decode cX12_tight 93 = .ok (.goto 4, 3) := by decide +kernel
theorem dX12_tight_96 : decode cX12_tight 96 = .ok (.iload_n 1, 1) := by decide +kernel
theorem dX12_tight_97 : decode cX12_tight 97 = .ok (.ireturn, 1) := by decide +kernel
set_option maxRecDepth 20000 in
theorem ggX12_areAllFriends_X12_isOf : GoodIn wsX12_areAllFriends wsX12_isOf := goodIn_r _ [6] (by decide +kernel) (by decide +kernel)
set_option maxRecDepth 20000 in
theorem gX12_areAllFriends_X12_isOf : GoodIn wsX12_areAllFriends (va_wsS RX12 274 yX12_isOf wsX12_isOf) := goodIn_app (goodIn_of _ (by decide +kernel)) ggX12_areAllFriends_X12_isOf
theorem dX12_areAllFriends_0 : decode cX12_areAllFriends 0 = .ok (.iconst 1, 1) := by decide +kernel
theorem dX12_areAllFriends_1 : decode cX12_areAllFriends 1 = .ok (.istore_n 2, 1) := by decide +kernel
theorem dX12_areAllFriends_2 : decode cX12_areAllFriends 2 = .ok (.iconst 0, 1) := by decide +kernel
theorem dX12_areAllFriends_3 : decode cX12_areAllFriends 3 = .ok (.istore_n 3, 1) := by decide +kernel
theorem dX12_areAllFriends_4 : decode cX12_areAllFriends 4 = .ok (.iload_n 3, 1) := by decide +kernel
theorem dX12_areAllFriends_5 : decode cX12_areAllFriends 5 = .ok (.aload_n 0, 1) := by decide +kernel
theorem dX12_areAllFriends_6 : decode cX12_areAllFriends 6 = .ok (.getfield 7, 3) := by decide +kernel
theorem dX12_areAllFriends_9 : decode cX12_areAllFriends 9 = .ok (.iconst 3, 1) := by decide +kernel
theorem dX12_areAllFriends_10 : decode cX12_areAllFriends 10 = .ok (.iaload, 1) := by decide +kernel
theorem dX12_areAllFriends_11 : decode cX12_areAllFriends 11 = .ok (.if_icmp .ge 65, 3) := by decide +kernel
theorem dX12_areAllFriends_14 : decode cX12_areAllFriends 14 = .ok (.iconst 0, 1) := by decide +kernel
theorem dX12_areAllFriends_15 : decode cX12_areAllFriends 15 = .ok (.istore 4, 2) := by decide +kernel
theorem dX12_areAllFriends_17 : decode cX12_areAllFriends 17 = .ok (.iload 4, 2) := by decide +kernel
theorem dX12_areAllFriends_19 : decode cX12_areAllFriends 19 = .ok (.iload_n 3, 1) := by decide +kernel
theorem dX12_areAllFriends_20 : decode cX12_areAllFriends 20 = .ok (.if_icmp .ge 50, 3) := by decide +kernel
theorem dX12_areAllFriends_23 : decode cX12_areAllFriends 23 = .ok (.iload_n 2, 1) := by decide +kernel
theorem dX12_areAllFriends_24 : decode cX12_areAllFriends 24 = .ok (.ifCond .eq 38, 3) := by decide +kernel
theorem dX12_areAllFriends_27 : decode cX12_areAllFriends 27 = .ok (.iload_n 1, 1) := by decide +kernel
theorem dX12_areAllFriends_28 : decode cX12_areAllFriends 28 = .ok (.iload_n 3, 1) := by decide +kernel
theorem dX12_areAllFriends_29 : decode cX12_areAllFriends 29 = .ok (.invokestatic 274, 3) := by decide +kernel
theorem dX12_areAllFriends_32 : decode cX12_areAllFriends 32 = .ok (.ifCond .eq 26, 3) := by decide +kernel
theorem dX12_areAllFriends_35 : decode cX12_areAllFriends 35 = .ok (.iload_n 1, 1) := by decide +kernel
theorem dX12_areAllFriends_36 : decode cX12_areAllFriends 36 = .ok (.iload 4, 2) := by decide +kernel
theorem dX12_areAllFriends_38 : decode cX12_areAllFriends 38 = .ok (.invokestatic 274, 3) := by decide +kernel
theorem dX12_areAllFriends_41 : decode cX12_areAllFriends 41 = .ok (.ifCond .eq 17, 3) := by decide +kernel
theorem dX12_areAllFriends_44 : decode cX12_areAllFriends 44 = .ok (.aload_n 0, 1) := by decide +kernel
theorem dX12_areAllFriends_45 : decode cX12_areAllFriends 45 = .ok (.getfield 47, 3) := by decide +kernel
theorem dX12_areAllFriends_48 : decode cX12_areAllFriends 48 = .ok (.iload_n 3, 1) := by decide +kernel
theorem dX12_areAllFriends_49 : decode cX12_areAllFriends 49 = .ok (.iaload, 1) := by decide +kernel
theorem dX12_areAllFriends_50 : decode cX12_areAllFriends 50 = .ok (.iload 4, 2) := by decide +kernel
theorem dX12_areAllFriends_52 : decode cX12_areAllFriends 52 = .ok (.invokestatic 274, 3) := by decide +kernel
theorem dX12_areAllFriends_55 : decode cX12_areAllFriends 55 = .ok (.ifCond .eq 7, 3) := by decide +kernel
theorem dX12_areAllFriends_58 : decode cX12_areAllFriends 58 = .ok (.iconst 1, 1) := by decide +kernel
theorem dX12_areAllFriends_59 : decode cX12_areAllFriends 59 = .ok (.goto 4, 3) := by decide +kernel
theorem dX12_areAllFriends_62 : decode cX12_areAllFriends 62 = .ok (.iconst 0, 1) := by decide +kernel
theorem dX12_areAllFriends_63 : decode cX12_areAllFriends 63 = .ok (.istore_n 2, 1) := by decide +kernel
theorem dX12_areAllFriends_64 : decode cX12_areAllFriends 64 = .ok (.iinc 4 1, 3) := by decide +kernel
theorem dX12_areAllFriends_67 : decode cX12_areAllFriends 67 = .ok (.goto (-50), 3) := by decide +kernel
theorem dX12_areAllFriends_70 : decode cX12_areAllFriends 70 = .ok (.iinc 3 1, 3) := by decide +kernel
theorem dX12_areAllFriends_73 : decode cX12_areAllFriends 73 = .ok (.goto (-69), 3) := by decide +kernel
theorem dX12_areAllFriends_76 : decode cX12_areAllFriends 76 = .ok (.iload_n 2, 1) := by decide +kernel
theorem dX12_areAllFriends_77 : decode cX12_areAllFriends 77 = .ok (.ireturn, 1) := by decide +kernel
set_option maxRecDepth 20000 in
theorem ggX12_spare_X12_inState : GoodIn wsX12_spare wsX12_inState := goodIn_r _ [8, 2, 9, 10, 11, 7, 12, 204, 205, 206, 207, 208, 209, 210, 211, 212, 213, 214, 215, 216, 217, 218, 219, 220, 221, 222, 223, 224, 225, 226, 227, 228, 229, 230, 231, 232, 233] (by decide +kernel) (by decide +kernel)
set_option maxRecDepth 20000 in
theorem gX12_spare_X12_inState : GoodIn wsX12_spare (wsV RX12 250 RX12 yX12_inState wsX12_inState) := goodIn_app (goodIn_of _ (by decide +kernel)) ggX12_spare_X12_inState
set_option maxRecDepth 20000 in
theorem ggX12_spare_X12_areFriends : GoodIn wsX12_spare wsX12_areFriends := goodIn_r _ [16, 17, 18, 19, 7, 20, 9, 10, 11, 12, 2, 21, 22, 23, 24, 25, 26, 27, 28, 29, 30, 31, 32, 33, 34, 35, 36, 37, 38, 39, 40, 41, 42, 43, 44, 45, 46, 47, 48, 49, 50, 51, 52, 53, 54, 55, 56, 4, 5, 6, 8, 57, 58, 59, 60, 61, 62, 63, 64, 65, 66, 67, 68, 69, 70, 71, 72, 73, 74, 75, 76, 77, 78, 79, 80, 81, 82, 83, 84, 85, 86, 87, 88, 89, 90, 91, 92, 93, 94, 95, 96, 97, 98, 99, 100, 101, 102, 103, 104, 105, 106, 107, 108, 109, 110, 111, 112, 113, 114, 115, 116, 117, 118, 119, 120, 121, 122, 123, 124, 125, 126, 127, 128, 129, 130, 131, 132, 133, 134, 135, 136, 137, 138, 139, 140, 141, 142, 143, 144, 145, 146, 147, 148, 149, 150, 151, 152, 153, 154, 155, 156, 157, 158, 159, 160, 161, 162, 163, 164, 165, 166, 167, 168, 169, 170, 171, 172, 173, 174, 175, 176, 177, 178, 179, 180, 181, 182, 183, 184, 185, 186, 187, 188, 189, 190, 191, 192, 193, 194, 195, 196, 204, 205, 206, 207, 208, 209, 210, 211, 212, 213, 214, 215, 216, 217, 218, 219, 220, 221, 222, 223, 224, 225, 226, 227, 228, 229, 230, 231, 232, 233] (by decide +kernel) (by decide +kernel)
set_option maxRecDepth 20000 in
theorem gX12_spare_X12_areFriends : GoodIn wsX12_spare (wsV RX12 344 RX12 yX12_areFriends wsX12_areFriends) := goodIn_app (goodIn_of _ (by decide +kernel)) ggX12_spare_X12_areFriends
set_option maxRecDepth 20000 in
theorem ggX12_spare_X12_bits : GoodIn wsX12_spare wsX12_bits := goodIn_r _ [56] (by decide +kernel) (by decide +kernel)
set_option maxRecDepth 20000 in
theorem gX12_spare_X12_bits : GoodIn wsX12_spare (va_wsS RX12 247 yX12_bits wsX12_bits) := goodIn_app (goodIn_of _ (by decide +kernel)) ggX12_spare_X12_bits
set_option maxRecDepth 20000 in
theorem ggX12_spare_X12_areAllFriends : GoodIn wsX12_spare wsX12_areAllFriends := goodIn_r _ [200, 2, 3, 201, 202, 7, 203, 204, 205, 206, 207, 208, 209, 210, 211, 212, 213, 214, 215, 216, 217, 218, 219, 220, 221, 222, 223, 224, 225, 226, 227, 228, 229, 230, 231, 232, 233] (by decide +kernel) (by decide +kernel)
set_option maxRecDepth 20000 in
theorem gX12_spare_X12_areAllFriends : GoodIn wsX12_spare (wsV RX12 380 RX12 yX12_areAllFriends wsX12_areAllFriends) := goodIn_app (goodIn_of _ (by decide +kernel)) ggX12_spare_X12_areAllFriends
theorem dX12_spare_0 : decode cX12_spare 0 = .ok (.aload_n 0, 1) := by decide +kernel
theorem dX12_spare_1 : decode cX12_spare 1 = .ok (.iconst 0, 1) := by decide +kernel
theorem dX12_spare_2 : decode cX12_spare 2 = .ok (.putfield 59, 3) := by decide +kernel
theorem dX12_spare_5 : decode cX12_spare 5 = .ok (.aload_n 0, 1) := by decide +kernel
theorem dX12_spare_6 : decode cX12_spare 6 = .ok (.iconst 2, 1) := by decide +kernel
theorem dX12_spare_7 : decode cX12_spare 7 = .ok (.invokevirtual 250, 3) := by decide +kernel
theorem dX12_spare_10 : decode cX12_spare 10 = .ok (.istore_n 1, 1) := by decide +kernel
theorem dX12_spare_11 : decode cX12_spare 11 = .ok (.iconst 0, 1) := by decide +kernel
theorem dX12_spare_12 : decode cX12_spare 12 = .ok (.istore_n 2, 1) := by decide +kernel
theorem dX12_spare_13 : decode cX12_spare 13 = .ok (.iload_n 2, 1) := by decide +kernel
theorem dX12_spare_14 : decode cX12_spare 14 = .ok (.aload_n 0, 1) := by decide +kernel
theorem dX12_spare_15 : decode cX12_spare 15 = .ok (.getfield 7, 3) := by decide +kernel
theorem dX12_spare_18 : decode cX12_spare 18 = .ok (.iconst 3, 1) := by decide +kernel
theorem dX12_spare_19 : decode cX12_spare 19 = .ok (.iaload, 1) := by decide +kernel
theorem dX12_spare_20 : decode cX12_spare 20 = .ok (.if_icmp .ge 59, 3) := by decide +kernel
theorem dX12_spare_23 : decode cX12_spare 23 = .ok (.aload_n 0, 1) := by decide +kernel
theorem dX12_spare_24 : decode cX12_spare 24 = .ok (.getfield 47, 3) := by decide +kernel
theorem dX12_spare_27 : decode cX12_spare 27 = .ok (.iload_n 2, 1) := by decide +kernel
theorem dX12_spare_28 : decode cX12_spare 28 = .ok (.iconst 0, 1) := by decide +kernel
theorem dX12_spare_29 : decode cX12_spare 29 = .ok (.iastore, 1) := by decide +kernel
theorem dX12_spare_30 : decode cX12_spare 30 = .ok (.iconst 0, 1) := by decide +kernel
theorem dX12_spare_31 : decode cX12_spare 31 = .ok (.istore_n 3, 1) := by decide +kernel
theorem dX12_spare_32 : decode cX12_spare 32 = .ok (.iload_n 3, 1) := by decide +kernel
theorem dX12_spare_33 : decode cX12_spare 33 = .ok (.aload_n 0, 1) := by decide +kernel
theorem dX12_spare_34 : decode cX12_spare 34 = .ok (.getfield 7, 3) := by decide +kernel
theorem dX12_spare_37 : decode cX12_spare 37 = .ok (.iconst 3, 1) := by decide +kernel
theorem dX12_spare_38 : decode cX12_spare 38 = .ok (.iaload, 1) := by decide +kernel
theorem dX12_spare_39 : decode cX12_spare 39 = .ok (.if_icmp .ge 34, 3) := by decide +kernel
theorem dX12_spare_42 : decode cX12_spare 42 = .ok (.aload_n 0, 1) := by decide +kernel
theorem dX12_spare_43 : decode cX12_spare 43 = .ok (.getfield 47, 3) := by decide +kernel
theorem dX12_spare_46 : decode cX12_spare 46 = .ok (.iload_n 2, 1) := by decide +kernel
theorem dX12_spare_47 : decode cX12_spare 47 = .ok (.dup2, 1) := by decide +kernel
theorem dX12_spare_48 : decode cX12_spare 48 = .ok (.iaload, 1) := by decide +kernel
theorem dX12_spare_49 : decode cX12_spare 49 = .ok (.aload_n 0, 1) := by decide +kernel
theorem dX12_spare_50 : decode cX12_spare 50 = .ok (.iload_n 2, 1) := by decide +kernel
theorem dX12_spare_51 : decode cX12_spare 51 = .ok (.iload_n 3, 1) := by decide +kernel
theorem dX12_spare_52 : decode cX12_spare 52 = .ok (.invokevirtual 344, 3) := by decide +kernel
theorem dX12_spare_55 : decode cX12_spare 55 = .ok (.ifCond .eq 9, 3) := by decide +kernel
theorem dX12_spare_58 : decode cX12_spare 58 = .ok (.iconst 1, 1) := by decide +kernel
theorem dX12_spare_59 : decode cX12_spare 59 = .ok (.iload_n 3, 1) := by decide +kernel
theorem dX12_spare_60 : decode cX12_spare 60 = .ok (.ishl, 1) := by decide +kernel
theorem dX12_spare_61 : decode cX12_spare 61 = .ok (.goto 4, 3) := by decide +kernel
theorem dX12_spare_64 : decode cX12_spare 64 = .ok (.iconst 0, 1) := by decide +kernel
theorem dX12_spare_65 : decode cX12_spare 65 = .ok (.ior, 1) := by decide +kernel
theorem dX12_spare_66 : decode cX12_spare 66 = .ok (.iastore, 1) := by decide +kernel
theorem dX12_spare_67 : decode cX12_spare 67 = .ok (.iinc 3 1, 3) := by decide +kernel
theorem dX12_spare_70 : decode cX12_spare 70 = .ok (.goto (-38), 3) := by decide +kernel
theorem dX12_spare_73 : decode cX12_spare 73 = .ok (.iinc 2 1, 3) := by decide +kernel
theorem dX12_spare_76 : decode cX12_spare 76 = .ok (.goto (-63), 3) := by decide +kernel
theorem dX12_spare_79 : decode cX12_spare 79 = .ok (.iload_n 1, 1) := by decide +kernel
theorem dX12_spare_80 : decode cX12_spare 80 = .ok (.istore_n 2, 1) := by decide +kernel
theorem dX12_spare_81 : decode cX12_spare 81 = .ok (.iconst 0, 1) := by decide +kernel
theorem dX12_spare_82 : decode cX12_spare 82 = .ok (.istore_n 3, 1) := by decide +kernel
theorem dX12_spare_83 : decode cX12_spare 83 = .ok (.iload_n 3, 1) := by decide +kernel
theorem dX12_spare_84 : decode cX12_spare 84 = .ok (.iload_n 1, 1) := by decide +kernel
theorem dX12_spare_85 : decode cX12_spare 85 = .ok (.if_icmp .ge 42, 3) := by decide +kernel
theorem dX12_spare_88 : decode cX12_spare 88 = .ok (.iload_n 3, 1) := by decide +kernel
theorem dX12_spare_89 : decode cX12_spare 89 = .ok (.iload_n 1, 1) := by decide +kernel
theorem dX12_spare_90 : decode cX12_spare 90 = .ok (.iconst (-1), 1) := by decide +kernel
theorem dX12_spare_91 : decode cX12_spare 91 = .ok (.ixor, 1) := by decide +kernel
theorem dX12_spare_92 : decode cX12_spare 92 = .ok (.iand, 1) := by decide +kernel
theorem dX12_spare_93 : decode cX12_spare 93 = .ok (.ifCond .ne 28, 3) := by decide +kernel
theorem dX12_spare_96 : decode cX12_spare 96 = .ok (.iload_n 3, 1) := by decide +kernel
theorem dX12_spare_97 : decode cX12_spare 97 = .ok (.invokestatic 247, 3) := by decide +kernel
theorem dX12_spare_100 : decode cX12_spare 100 = .ok (.iload_n 2, 1) := by decide +kernel
theorem dX12_spare_101 : decode cX12_spare 101 = .ok (.invokestatic 247, 3) := by decide +kernel
theorem dX12_spare_104 : decode cX12_spare 104 = .ok (.if_icmp .ge 17, 3) := by decide +kernel
theorem dX12_spare_107 : decode cX12_spare 107 = .ok (.aload_n 0, 1) := by decide +kernel
theorem dX12_spare_108 : decode cX12_spare 108 = .ok (.iload_n 1, 1) := by decide +kernel
theorem dX12_spare_109 : decode cX12_spare 109 = .ok (.iload_n 3, 1) := by decide +kernel
theorem dX12_spare_110 : decode cX12_spare 110 = .ok (.iconst (-1), 1) := by decide +kernel
theorem dX12_spare_111 : decode cX12_spare 111 = .ok (.ixor, 1) := by decide +kernel
theorem dX12_spare_112 : decode cX12_spare 112 = .ok (.iand, 1) := by decide +kernel
theorem dX12_spare_113 : decode cX12_spare 113 = .ok (.invokevirtual 380, 3) := by decide +kernel
theorem dX12_spare_116 : decode cX12_spare 116 = .ok (.ifCond .eq 5, 3) := by decide +kernel
theorem dX12_spare_119 : decode cX12_spare 119 = .ok (.iload_n 3, 1) := by decide +kernel
theorem dX12_spare_120 : decode cX12_spare 120 = .ok (.istore_n 2, 1) := by decide +kernel
theorem dX12_spare_121 : decode cX12_spare 121 = .ok (.iinc 3 1, 3) := by decide +kernel
theorem dX12_spare_124 : decode cX12_spare 124 = .ok (.goto (-41), 3) := by decide +kernel
theorem dX12_spare_127 : decode cX12_spare 127 = .ok (.iload_n 2, 1) := by decide +kernel
theorem dX12_spare_128 : decode cX12_spare 128 = .ok (.ireturn, 1) := by decide +kernel
set_option maxRecDepth 20000 in
theorem ggX12_apart_X12_of : GoodIn wsX12_apart wsX12_of := goodIn_r _ [5, 6, 10, 11, 12, 13, 14, 15, 16, 17, 18, 19, 20, 21, 22, 23, 24, 25, 26, 27, 28, 29, 30, 31, 32, 33, 34, 35, 36, 37, 38, 39] (by decide +kernel) (by decide +kernel)
set_option maxRecDepth 20000 in
theorem gX12_apart_X12_of : GoodIn wsX12_apart (wsV RX12 66 RX12 yX12_of wsX12_of) := goodIn_app (goodIn_of _ (by decide +kernel)) ggX12_apart_X12_of
set_option maxRecDepth 20000 in
theorem ggX12_apart_X12_sign : GoodIn wsX12_apart wsX12_sign := goodIn_r _ [9] (by decide +kernel) (by decide +kernel)
set_option maxRecDepth 20000 in
theorem gX12_apart_X12_sign : GoodIn wsX12_apart (va_wsS RX12 377 yX12_sign wsX12_sign) := goodIn_app (goodIn_of _ (by decide +kernel)) ggX12_apart_X12_sign
theorem dX12_apart_0 : decode cX12_apart 0 = .ok (.aload_n 0, 1) := by decide +kernel
theorem dX12_apart_1 : decode cX12_apart 1 = .ok (.iload_n 1, 1) := by decide +kernel
theorem dX12_apart_2 : decode cX12_apart 2 = .ok (.iconst 0, 1) := by decide +kernel
theorem dX12_apart_3 : decode cX12_apart 3 = .ok (.invokevirtual 66, 3) := by decide +kernel
theorem dX12_apart_6 : decode cX12_apart 6 = .ok (.aload_n 0, 1) := by decide +kernel
theorem dX12_apart_7 : decode cX12_apart 7 = .ok (.iload_n 2, 1) := by decide +kernel
theorem dX12_apart_8 : decode cX12_apart 8 = .ok (.iconst 0, 1) := by decide +kernel
theorem dX12_apart_9 : decode cX12_apart 9 = .ok (.invokevirtual 66, 3) := by decide +kernel
theorem dX12_apart_12 : decode cX12_apart 12 = .ok (.isub, 1) := by decide +kernel
theorem dX12_apart_13 : decode cX12_apart 13 = .ok (.invokestatic 377, 3) := by decide +kernel
theorem dX12_apart_16 : decode cX12_apart 16 = .ok (.ireturn, 1) := by decide +kernel
set_option maxRecDepth 20000 in
theorem ggX12_allPaths_X12_isOf : GoodIn wsX12_allPaths wsX12_isOf := goodIn_r _ [7] (by decide +kernel) (by decide +kernel)
set_option maxRecDepth 20000 in
theorem gX12_allPaths_X12_isOf : GoodIn wsX12_allPaths (va_wsS RX12 274 yX12_isOf wsX12_isOf) := goodIn_app (goodIn_of _ (by decide +kernel)) ggX12_allPaths_X12_isOf
set_option maxRecDepth 20000 in
theorem ggX12_allPaths_X12_apart : GoodIn wsX12_allPaths wsX12_apart := goodIn_r _ [11, 12, 13, 14, 6, 15, 1, 16, 17, 18, 22, 23, 24, 25, 26, 27, 28, 29, 30, 31, 32, 33, 34, 35, 36, 37, 38, 39, 40, 41, 42, 43, 44, 45, 46, 47, 48, 49, 50, 51] (by decide +kernel) (by decide +kernel)
set_option maxRecDepth 20000 in
theorem gX12_allPaths_X12_apart : GoodIn wsX12_allPaths (wsV RX12 383 RX12 yX12_apart wsX12_apart) := goodIn_app (goodIn_of _ (by decide +kernel)) ggX12_allPaths_X12_apart
set_option maxRecDepth 20000 in
theorem ggX12_allPaths_X12_lesser : GoodIn wsX12_allPaths wsX12_lesser := goodIn_r _ [21] (by decide +kernel) (by decide +kernel)
set_option maxRecDepth 20000 in
theorem gX12_allPaths_X12_lesser : GoodIn wsX12_allPaths (va_wsS RX12 70 yX12_lesser wsX12_lesser) := goodIn_app (goodIn_of _ (by decide +kernel)) ggX12_allPaths_X12_lesser
theorem dX12_allPaths_0 : decode cX12_allPaths 0 = .ok (.iconst 1, 1) := by decide +kernel
theorem dX12_allPaths_1 : decode cX12_allPaths 1 = .ok (.istore_n 1, 1) := by decide +kernel
theorem dX12_allPaths_2 : decode cX12_allPaths 2 = .ok (.iload_n 1, 1) := by decide +kernel
theorem dX12_allPaths_3 : decode cX12_allPaths 3 = .ok (.iconst 1, 1) := by decide +kernel
theorem dX12_allPaths_4 : decode cX12_allPaths 4 = .ok (.aload_n 0, 1) := by decide +kernel
theorem dX12_allPaths_5 : decode cX12_allPaths 5 = .ok (.getfield 7, 3) := by decide +kernel
theorem dX12_allPaths_8 : decode cX12_allPaths 8 = .ok (.iconst 3, 1) := by decide +kernel
theorem dX12_allPaths_9 : decode cX12_allPaths 9 = .ok (.iaload, 1) := by decide +kernel
theorem dX12_allPaths_10 : decode cX12_allPaths 10 = .ok (.ishl, 1) := by decide +kernel
theorem dX12_allPaths_11 : decode cX12_allPaths 11 = .ok (.if_icmp .ge 125, 3) := by decide +kernel
theorem dX12_allPaths_14 : decode cX12_allPaths 14 = .ok (.iconst 0, 1) := by decide +kernel
theorem dX12_allPaths_15 : decode cX12_allPaths 15 = .ok (.istore_n 2, 1) := by decide +kernel
theorem dX12_allPaths_16 : decode cX12_allPaths 16 = .ok (.iload_n 2, 1) := by decide +kernel
theorem dX12_allPaths_17 : decode cX12_allPaths 17 = .ok (.aload_n 0, 1) := by decide +kernel
theorem dX12_allPaths_18 : decode cX12_allPaths 18 = .ok (.getfield 7, 3) := by decide +kernel
theorem dX12_allPaths_21 : decode cX12_allPaths 21 = .ok (.iconst 3, 1) := by decide +kernel
theorem dX12_allPaths_22 : decode cX12_allPaths 22 = .ok (.iaload, 1) := by decide +kernel
theorem dX12_allPaths_23 : decode cX12_allPaths 23 = .ok (.if_icmp .ge 107, 3) := by decide +kernel
theorem dX12_allPaths_26 : decode cX12_allPaths 26 = .ok (.iload_n 1, 1) := by decide +kernel
theorem dX12_allPaths_27 : decode cX12_allPaths 27 = .ok (.iconst 1, 1) := by decide +kernel
theorem dX12_allPaths_28 : decode cX12_allPaths 28 = .ok (.iload_n 2, 1) := by decide +kernel
theorem dX12_allPaths_29 : decode cX12_allPaths 29 = .ok (.ishl, 1) := by decide +kernel
theorem dX12_allPaths_30 : decode cX12_allPaths 30 = .ok (.iconst (-1), 1) := by decide +kernel
theorem dX12_allPaths_31 : decode cX12_allPaths 31 = .ok (.ixor, 1) := by decide +kernel
theorem dX12_allPaths_32 : decode cX12_allPaths 32 = .ok (.iand, 1) := by decide +kernel
theorem dX12_allPaths_33 : decode cX12_allPaths 33 = .ok (.istore_n 3, 1) := by decide +kernel
theorem dX12_allPaths_34 : decode cX12_allPaths 34 = .ok (.iload_n 3, 1) := by decide +kernel
theorem dX12_allPaths_35 : decode cX12_allPaths 35 = .ok (.ifCond .ne 7, 3) := by decide +kernel
theorem dX12_allPaths_38 : decode cX12_allPaths 38 = .ok (.iconst 0, 1) := by decide +kernel
theorem dX12_allPaths_39 : decode cX12_allPaths 39 = .ok (.goto 6, 3) := by decide +kernel
theorem dX12_allPaths_42 : decode cX12_allPaths 42 = .ok (.ldc_w 339, 3) := by decide +kernel
theorem dX12_allPaths_45 : decode cX12_allPaths 45 = .ok (.istore 4, 2) := by decide +kernel
theorem dX12_allPaths_47 : decode cX12_allPaths 47 = .ok (.iconst 0, 1) := by decide +kernel
theorem dX12_allPaths_48 : decode cX12_allPaths 48 = .ok (.istore 5, 2) := by decide +kernel
theorem dX12_allPaths_50 : decode cX12_allPaths 50 = .ok (.iload 5, 2) := by decide +kernel
theorem dX12_allPaths_52 : decode cX12_allPaths 52 = .ok (.aload_n 0, 1) := by decide +kernel
theorem dX12_allPaths_53 : decode cX12_allPaths 53 = .ok (.getfield 7, 3) := by decide +kernel
theorem dX12_allPaths_56 : decode cX12_allPaths 56 = .ok (.iconst 3, 1) := by decide +kernel
theorem dX12_allPaths_57 : decode cX12_allPaths 57 = .ok (.iaload, 1) := by decide +kernel
theorem dX12_allPaths_58 : decode cX12_allPaths 58 = .ok (.if_icmp .ge 53, 3) := by decide +kernel
theorem dX12_allPaths_61 : decode cX12_allPaths 61 = .ok (.iload_n 1, 1) := by decide +kernel
theorem dX12_allPaths_62 : decode cX12_allPaths 62 = .ok (.iload_n 2, 1) := by decide +kernel
theorem dX12_allPaths_63 : decode cX12_allPaths 63 = .ok (.invokestatic 274, 3) := by decide +kernel
theorem dX12_allPaths_66 : decode cX12_allPaths 66 = .ok (.ifCond .eq 39, 3) := by decide +kernel
theorem dX12_allPaths_69 : decode cX12_allPaths 69 = .ok (.iload_n 3, 1) := by decide +kernel
theorem dX12_allPaths_70 : decode cX12_allPaths 70 = .ok (.iload 5, 2) := by decide +kernel
theorem dX12_allPaths_72 : decode cX12_allPaths 72 = .ok (.invokestatic 274, 3) := by decide +kernel
theorem dX12_allPaths_75 : decode cX12_allPaths 75 = .ok (.ifCond .eq 30, 3) := by decide +kernel
theorem dX12_allPaths_78 : decode cX12_allPaths 78 = .ok (.iload 4, 2) := by decide +kernel
theorem dX12_allPaths_80 : decode cX12_allPaths 80 = .ok (.aload_n 0, 1) := by decide +kernel
theorem dX12_allPaths_81 : decode cX12_allPaths 81 = .ok (.iload_n 2, 1) := by decide +kernel
theorem dX12_allPaths_82 : decode cX12_allPaths 82 = .ok (.iload 5, 2) := by decide +kernel
theorem dX12_allPaths_84 : decode cX12_allPaths 84 = .ok (.invokevirtual 383, 3) := by decide +kernel
theorem dX12_allPaths_87 : decode cX12_allPaths 87 = .ok (.aload_n 0, 1) := by decide +kernel
theorem dX12_allPaths_88 : decode cX12_allPaths 88 = .ok (.getfield 50, 3) := by decide +kernel
theorem dX12_allPaths_91 : decode cX12_allPaths 91 = .ok (.bipush 8, 2) := by decide +kernel
theorem dX12_allPaths_93 : decode cX12_allPaths 93 = .ok (.iload_n 3, 1) := by decide +kernel
theorem dX12_allPaths_94 : decode cX12_allPaths 94 = .ok (.imul, 1) := by decide +kernel
theorem dX12_allPaths_95 : decode cX12_allPaths 95 = .ok (.iload 5, 2) := by decide +kernel
theorem dX12_allPaths_97 : decode cX12_allPaths 97 = .ok (.iadd, 1) := by decide +kernel
theorem dX12_allPaths_98 : decode cX12_allPaths 98 = .ok (.iaload, 1) := by decide +kernel
theorem dX12_allPaths_99 : decode cX12_allPaths 99 = .ok (.iadd, 1) := by decide +kernel
theorem dX12_allPaths_100 : decode cX12_allPaths 100 = .ok (.invokestatic 70, 3) := by decide +kernel
theorem dX12_allPaths_103 : decode cX12_allPaths 103 = .ok (.istore 4, 2) := by decide +kernel
theorem dX12_allPaths_105 : decode cX12_allPaths 105 = .ok (.iinc 5 1, 3) := by decide +kernel
theorem dX12_allPaths_108 : decode cX12_allPaths 108 = .ok (.goto (-58), 3) := by decide +kernel
theorem dX12_allPaths_111 : decode cX12_allPaths 111 = .ok (.aload_n 0, 1) := by decide +kernel
theorem dX12_allPaths_112 : decode cX12_allPaths 112 = .ok (.getfield 50, 3) := by decide +kernel
theorem dX12_allPaths_115 : decode cX12_allPaths 115 = .ok (.bipush 8, 2) := by decide +kernel
theorem dX12_allPaths_117 : decode cX12_allPaths 117 = .ok (.iload_n 1, 1) := by decide +kernel
theorem dX12_allPaths_118 : decode cX12_allPaths 118 = .ok (.imul, 1) := by decide +kernel
theorem dX12_allPaths_119 : decode cX12_allPaths 119 = .ok (.iload_n 2, 1) := by decide +kernel
theorem dX12_allPaths_120 : decode cX12_allPaths 120 = .ok (.iadd, 1) := by decide +kernel
theorem dX12_allPaths_121 : decode cX12_allPaths 121 = .ok (.iload 4, 2) := by decide +kernel
theorem dX12_allPaths_123 : decode cX12_allPaths 123 = .ok (.iastore, 1) := by decide +kernel
theorem dX12_allPaths_124 : decode cX12_allPaths 124 = .ok (.iinc 2 1, 3) := by decide +kernel
theorem dX12_allPaths_127 : decode cX12_allPaths 127 = .ok (.goto (-111), 3) := by decide +kernel
theorem dX12_allPaths_130 : decode cX12_allPaths 130 = .ok (.iinc 1 1, 3) := by decide +kernel
theorem dX12_allPaths_133 : decode cX12_allPaths 133 = .ok (.goto (-131), 3) := by decide +kernel
theorem dX12_allPaths_136 : decode cX12_allPaths 136 = .ok (.return_, 1) := by decide +kernel
set_option maxRecDepth 20000 in
theorem ggX12_order_X12_inState : GoodIn wsX12_order wsX12_inState := goodIn_r _ [8, 2, 9, 10, 11, 7, 12, 49, 50, 51, 52, 53, 54, 55, 56, 57, 58, 59, 60, 61, 62, 63, 64, 65, 66, 67, 68, 69, 70, 71, 72, 73, 74, 75, 76, 77, 78] (by decide +kernel) (by decide +kernel)
set_option maxRecDepth 20000 in
theorem gX12_order_X12_inState : GoodIn wsX12_order (wsV RX12 250 RX12 yX12_inState wsX12_inState) := goodIn_app (goodIn_of _ (by decide +kernel)) ggX12_order_X12_inState
set_option maxRecDepth 20000 in
theorem ggX12_order_X12_bits : GoodIn wsX12_order wsX12_bits := goodIn_r _ [15] (by decide +kernel) (by decide +kernel)
set_option maxRecDepth 20000 in
theorem gX12_order_X12_bits : GoodIn wsX12_order (va_wsS RX12 247 yX12_bits wsX12_bits) := goodIn_app (goodIn_of _ (by decide +kernel)) ggX12_order_X12_bits
set_option maxRecDepth 20000 in
theorem ggX12_order_X12_spreadNow : GoodIn wsX12_order wsX12_spreadNow := goodIn_r _ [19, 20, 21, 2, 22, 23, 24, 7, 25, 9, 10, 11, 12, 26, 27, 28, 29, 30, 31, 4, 5, 6, 8, 13, 14, 15, 49, 50, 51, 52, 53, 54, 55, 56, 57, 58, 59, 60, 61, 62, 63, 64, 65, 66, 67, 68, 69, 70, 71, 72, 73, 74, 75, 76, 77, 78] (by decide +kernel) (by decide +kernel)
set_option maxRecDepth 20000 in
theorem gX12_order_X12_spreadNow : GoodIn wsX12_order (wsV RX12 371 RX12 yX12_spreadNow wsX12_spreadNow) := goodIn_app (goodIn_of _ (by decide +kernel)) ggX12_order_X12_spreadNow
set_option maxRecDepth 20000 in
theorem ggX12_order_X12_isIn : GoodIn wsX12_order wsX12_isIn := goodIn_r _ [34] (by decide +kernel) (by decide +kernel)
set_option maxRecDepth 20000 in
theorem gX12_order_X12_isIn : GoodIn wsX12_order (va_wsS RX12 62 yX12_isIn wsX12_isIn) := goodIn_app (goodIn_of _ (by decide +kernel)) ggX12_order_X12_isIn
set_option maxRecDepth 20000 in
theorem ggX12_order_X12_allPaths : GoodIn wsX12_order wsX12_allPaths := goodIn_r _ [38, 2, 20, 3, 39, 40, 7, 41, 42, 43, 44, 45, 9, 10, 11, 12, 46, 47, 48, 26, 27, 28, 49, 50, 51, 52, 53, 54, 55, 56, 57, 58, 59, 60, 61, 62, 63, 64, 65, 66, 67, 68, 69, 70, 71, 72, 73, 74, 75, 76, 77, 78] (by decide +kernel) (by decide +kernel)
set_option maxRecDepth 20000 in
theorem gX12_order_X12_allPaths : GoodIn wsX12_order (wsV RX12 386 RX12 yX12_allPaths wsX12_allPaths) := goodIn_app (goodIn_of _ (by decide +kernel)) ggX12_order_X12_allPaths
set_option maxRecDepth 20000 in
theorem ggX12_order_X12_isOf : GoodIn wsX12_order wsX12_isOf := goodIn_r _ [41] (by decide +kernel) (by decide +kernel)
set_option maxRecDepth 20000 in
theorem gX12_order_X12_isOf : GoodIn wsX12_order (va_wsS RX12 274 yX12_isOf wsX12_isOf) := goodIn_app (goodIn_of _ (by decide +kernel)) ggX12_order_X12_isOf
set_option maxRecDepth 20000 in
theorem ggX12_order_X12_apart : GoodIn wsX12_order wsX12_apart := goodIn_r _ [45, 9, 10, 11, 7, 12, 2, 46, 47, 48, 49, 50, 51, 52, 53, 54, 55, 56, 57, 58, 59, 60, 61, 62, 63, 64, 65, 66, 67, 68, 69, 70, 71, 72, 73, 74, 75, 76, 77, 78] (by decide +kernel) (by decide +kernel)
set_option maxRecDepth 20000 in
theorem gX12_order_X12_apart : GoodIn wsX12_order (wsV RX12 383 RX12 yX12_apart wsX12_apart) := goodIn_app (goodIn_of _ (by decide +kernel)) ggX12_order_X12_apart
theorem dX12_order_0 : decode cX12_order 0 = .ok (.aload_n 0, 1) := by decide +kernel
theorem dX12_order_1 : decode cX12_order 1 = .ok (.iconst 0, 1) := by decide +kernel
theorem dX12_order_2 : decode cX12_order 2 = .ok (.putfield 59, 3) := by decide +kernel
theorem dX12_order_5 : decode cX12_order 5 = .ok (.aload_n 0, 1) := by decide +kernel
theorem dX12_order_6 : decode cX12_order 6 = .ok (.iconst 2, 1) := by decide +kernel
theorem dX12_order_7 : decode cX12_order 7 = .ok (.invokevirtual 250, 3) := by decide +kernel
theorem dX12_order_10 : decode cX12_order 10 = .ok (.istore_n 2, 1) := by decide +kernel
theorem dX12_order_11 : decode cX12_order 11 = .ok (.iload_n 2, 1) := by decide +kernel
theorem dX12_order_12 : decode cX12_order 12 = .ok (.invokestatic 247, 3) := by decide +kernel
theorem dX12_order_15 : decode cX12_order 15 = .ok (.istore_n 3, 1) := by decide +kernel
theorem dX12_order_16 : decode cX12_order 16 = .ok (.iload_n 1, 1) := by decide +kernel
theorem dX12_order_17 : decode cX12_order 17 = .ok (.iconst (-1), 1) := by decide +kernel
theorem dX12_order_18 : decode cX12_order 18 = .ok (.if_icmp .ne 8, 3) := by decide +kernel
theorem dX12_order_21 : decode cX12_order 21 = .ok (.aload_n 0, 1) := by decide +kernel
theorem dX12_order_22 : decode cX12_order 22 = .ok (.invokevirtual 371, 3) := by decide +kernel
theorem dX12_order_25 : decode cX12_order 25 = .ok (.ireturn, 1) := by decide +kernel
theorem dX12_order_26 : decode cX12_order 26 = .ok (.iload_n 1, 1) := by decide +kernel
theorem dX12_order_27 : decode cX12_order 27 = .ok (.iconst 0, 1) := by decide +kernel
theorem dX12_order_28 : decode cX12_order 28 = .ok (.iload_n 3, 1) := by decide +kernel
theorem dX12_order_29 : decode cX12_order 29 = .ok (.iconst 1, 1) := by decide +kernel
theorem dX12_order_30 : decode cX12_order 30 = .ok (.isub, 1) := by decide +kernel
theorem dX12_order_31 : decode cX12_order 31 = .ok (.invokestatic 62, 3) := by decide +kernel
theorem dX12_order_34 : decode cX12_order 34 = .ok (.ifCond .ne 5, 3) := by decide +kernel
theorem dX12_order_37 : decode cX12_order 37 = .ok (.iconst (-1), 1) := by decide +kernel
theorem dX12_order_38 : decode cX12_order 38 = .ok (.ireturn, 1) := by decide +kernel
theorem dX12_order_39 : decode cX12_order 39 = .ok (.aload_n 0, 1) := by decide +kernel
theorem dX12_order_40 : decode cX12_order 40 = .ok (.invokevirtual 386, 3) := by decide +kernel
theorem dX12_order_43 : decode cX12_order 43 = .ok (.aload_n 0, 1) := by decide +kernel
theorem dX12_order_44 : decode cX12_order 44 = .ok (.invokevirtual 371, 3) := by decide +kernel
theorem dX12_order_47 : decode cX12_order 47 = .ok (.istore 4, 2) := by decide +kernel
theorem dX12_order_49 : decode cX12_order 49 = .ok (.iconst (-1), 1) := by decide +kernel
theorem dX12_order_50 : decode cX12_order 50 = .ok (.istore 5, 2) := by decide +kernel
theorem dX12_order_52 : decode cX12_order 52 = .ok (.iconst 0, 1) := by decide +kernel
theorem dX12_order_53 : decode cX12_order 53 = .ok (.istore 6, 2) := by decide +kernel
theorem dX12_order_55 : decode cX12_order 55 = .ok (.iload 6, 2) := by decide +kernel
theorem dX12_order_57 : decode cX12_order 57 = .ok (.iload_n 1, 1) := by decide +kernel
theorem dX12_order_58 : decode cX12_order 58 = .ok (.if_icmp .gt 118, 3) := by decide +kernel
theorem dX12_order_61 : decode cX12_order 61 = .ok (.iconst (-1), 1) := by decide +kernel
theorem dX12_order_62 : decode cX12_order 62 = .ok (.istore 7, 2) := by decide +kernel
theorem dX12_order_64 : decode cX12_order 64 = .ok (.aload_n 0, 1) := by decide +kernel
theorem dX12_order_65 : decode cX12_order 65 = .ok (.getfield 7, 3) := by decide +kernel
theorem dX12_order_68 : decode cX12_order 68 = .ok (.iconst 3, 1) := by decide +kernel
theorem dX12_order_69 : decode cX12_order 69 = .ok (.iaload, 1) := by decide +kernel
theorem dX12_order_70 : decode cX12_order 70 = .ok (.iconst 1, 1) := by decide +kernel
theorem dX12_order_71 : decode cX12_order 71 = .ok (.isub, 1) := by decide +kernel
theorem dX12_order_72 : decode cX12_order 72 = .ok (.istore 8, 2) := by decide +kernel
theorem dX12_order_74 : decode cX12_order 74 = .ok (.iload 8, 2) := by decide +kernel
theorem dX12_order_76 : decode cX12_order 76 = .ok (.ifCond .lt 58, 3) := by decide +kernel
theorem dX12_order_79 : decode cX12_order 79 = .ok (.iload_n 2, 1) := by decide +kernel
theorem dX12_order_80 : decode cX12_order 80 = .ok (.iload 8, 2) := by decide +kernel
theorem dX12_order_82 : decode cX12_order 82 = .ok (.invokestatic 274, 3) := by decide +kernel
theorem dX12_order_85 : decode cX12_order 85 = .ok (.ifCond .eq 43, 3) := by decide +kernel
theorem dX12_order_88 : decode cX12_order 88 = .ok (.iload 5, 2) := by decide +kernel
theorem dX12_order_90 : decode cX12_order 90 = .ok (.iconst (-1), 1) := by decide +kernel
theorem dX12_order_91 : decode cX12_order 91 = .ok (.if_icmp .ne 7, 3) := by decide +kernel
theorem dX12_order_94 : decode cX12_order 94 = .ok (.iconst 0, 1) := by decide +kernel
theorem dX12_order_95 : decode cX12_order 95 = .ok (.goto 11, 3) := by decide +kernel
theorem dX12_order_98 : decode cX12_order 98 = .ok (.aload_n 0, 1) := by decide +kernel
theorem dX12_order_99 : decode cX12_order 99 = .ok (.iload 5, 2) := by decide +kernel
theorem dX12_order_101 : decode cX12_order 101 = .ok (.iload 8, 2) := by decide +kernel
theorem dX12_order_103 : decode cX12_order 103 = .ok (.invokevirtual 383, 3) := by decide +kernel
theorem dX12_order_106 : decode cX12_order 106 = .ok (.aload_n 0, 1) := by decide +kernel
theorem dX12_order_107 : decode cX12_order 107 = .ok (.getfield 50, 3) := by decide +kernel
theorem dX12_order_110 : decode cX12_order 110 = .ok (.bipush 8, 2) := by decide +kernel
theorem dX12_order_112 : decode cX12_order 112 = .ok (.iload_n 2, 1) := by decide +kernel
theorem dX12_order_113 : decode cX12_order 113 = .ok (.imul, 1) := by decide +kernel
theorem dX12_order_114 : decode cX12_order 114 = .ok (.iload 8, 2) := by decide +kernel
theorem dX12_order_116 : decode cX12_order 116 = .ok (.iadd, 1) := by decide +kernel
theorem dX12_order_117 : decode cX12_order 117 = .ok (.iaload, 1) := by decide +kernel
theorem dX12_order_118 : decode cX12_order 118 = .ok (.iadd, 1) := by decide +kernel
theorem dX12_order_119 : decode cX12_order 119 = .ok (.iload 4, 2) := by decide +kernel
theorem dX12_order_121 : decode cX12_order 121 = .ok (.if_icmp .ne 7, 3) := by decide +kernel
theorem dX12_order_124 : decode cX12_order 124 = .ok (.iload 8, 2) := by decide +kernel
theorem dX12_order_126 : decode cX12_order 126 = .ok (.istore 7, 2) := by decide +kernel
theorem dX12_order_128 : decode cX12_order 128 = .ok (.iinc 8 (-1), 3) := by decide +kernel
theorem dX12_order_131 : decode cX12_order 131 = .ok (.goto (-57), 3) := by decide +kernel
theorem dX12_order_134 : decode cX12_order 134 = .ok (.iload 4, 2) := by decide +kernel
theorem dX12_order_136 : decode cX12_order 136 = .ok (.iload 5, 2) := by decide +kernel
theorem dX12_order_138 : decode cX12_order 138 = .ok (.iconst (-1), 1) := by decide +kernel
theorem dX12_order_139 : decode cX12_order 139 = .ok (.if_icmp .ne 7, 3) := by decide +kernel
theorem dX12_order_142 : decode cX12_order 142 = .ok (.iconst 0, 1) := by decide +kernel
theorem dX12_order_143 : decode cX12_order 143 = .ok (.goto 11, 3) := by decide +kernel
theorem dX12_order_146 : decode cX12_order 146 = .ok (.aload_n 0, 1) := by decide +kernel
theorem dX12_order_147 : decode cX12_order 147 = .ok (.iload 5, 2) := by decide +kernel
theorem dX12_order_149 : decode cX12_order 149 = .ok (.iload 7, 2) := by decide +kernel
theorem dX12_order_151 : decode cX12_order 151 = .ok (.invokevirtual 383, 3) := by decide +kernel
theorem dX12_order_154 : decode cX12_order 154 = .ok (.isub, 1) := by decide +kernel
theorem dX12_order_155 : decode cX12_order 155 = .ok (.istore 4, 2) := by decide +kernel
theorem dX12_order_157 : decode cX12_order 157 = .ok (.iload_n 2, 1) := by decide +kernel
theorem dX12_order_158 : decode cX12_order 158 = .ok (.iconst 1, 1) := by decide +kernel
theorem dX12_order_159 : decode cX12_order 159 = .ok (.iload 7, 2) := by decide +kernel
theorem dX12_order_161 : decode cX12_order 161 = .ok (.ishl, 1) := by decide +kernel
theorem dX12_order_162 : decode cX12_order 162 = .ok (.iconst (-1), 1) := by decide +kernel
theorem dX12_order_163 : decode cX12_order 163 = .ok (.ixor, 1) := by decide +kernel
theorem dX12_order_164 : decode cX12_order 164 = .ok (.iand, 1) := by decide +kernel
theorem dX12_order_165 : decode cX12_order 165 = .ok (.istore_n 2, 1) := by decide +kernel
theorem dX12_order_166 : decode cX12_order 166 = .ok (.iload 7, 2) := by decide +kernel
theorem dX12_order_168 : decode cX12_order 168 = .ok (.istore 5, 2) := by decide +kernel
theorem dX12_order_170 : decode cX12_order 170 = .ok (.iinc 6 1, 3) := by decide +kernel
theorem dX12_order_173 : decode cX12_order 173 = .ok (.goto (-118), 3) := by decide +kernel
theorem dX12_order_176 : decode cX12_order 176 = .ok (.iload 5, 2) := by decide +kernel
theorem dX12_order_178 : decode cX12_order 178 = .ok (.ireturn, 1) := by decide +kernel
theorem dX12_clockOf_0 : decode cX12_clockOf 0 = .ok (.iload_n 0, 1) := by decide +kernel
theorem dX12_clockOf_1 : decode cX12_clockOf 1 = .ok (.bipush 19, 2) := by decide +kernel
theorem dX12_clockOf_3 : decode cX12_clockOf 3 = .ok (.idiv, 1) := by decide +kernel
theorem dX12_clockOf_4 : decode cX12_clockOf 4 = .ok (.bipush 40, 2) := by decide +kernel
theorem dX12_clockOf_6 : decode cX12_clockOf 6 = .ok (.isub, 1) := by decide +kernel
theorem dX12_clockOf_7 : decode cX12_clockOf 7 = .ok (.iload_n 1, 1) := by decide +kernel
theorem dX12_clockOf_8 : decode cX12_clockOf 8 = .ok (.iload_n 0, 1) := by decide +kernel
theorem dX12_clockOf_9 : decode cX12_clockOf 9 = .ok (.bipush 19, 2) := by decide +kernel
theorem dX12_clockOf_11 : decode cX12_clockOf 11 = .ok (.irem, 1) := by decide +kernel
theorem dX12_clockOf_12 : decode cX12_clockOf 12 = .ok (.bipush 9, 2) := by decide +kernel
theorem dX12_clockOf_14 : decode cX12_clockOf 14 = .ok (.isub, 1) := by decide +kernel
theorem dX12_clockOf_15 : decode cX12_clockOf 15 = .ok (.imul, 1) := by decide +kernel
theorem dX12_clockOf_16 : decode cX12_clockOf 16 = .ok (.iadd, 1) := by decide +kernel
theorem dX12_clockOf_17 : decode cX12_clockOf 17 = .ok (.ireturn, 1) := by decide +kernel
theorem dX12_readMany_0 : decode cX12_readMany 0 = .ok (.aload_n 0, 1) := by decide +kernel
theorem dX12_readMany_1 : decode cX12_readMany 1 = .ok (.getfield 76, 3) := by decide +kernel
theorem dX12_readMany_4 : decode cX12_readMany 4 = .ok (.istore_n 1, 1) := by decide +kernel
theorem dX12_readMany_5 : decode cX12_readMany 5 = .ok (.aload_n 0, 1) := by decide +kernel
theorem dX12_readMany_6 : decode cX12_readMany 6 = .ok (.iconst 0, 1) := by decide +kernel
theorem dX12_readMany_7 : decode cX12_readMany 7 = .ok (.putfield 76, 3) := by decide +kernel
theorem dX12_readMany_10 : decode cX12_readMany 10 = .ok (.iload_n 1, 1) := by decide +kernel
theorem dX12_readMany_11 : decode cX12_readMany 11 = .ok (.iconst 2, 1) := by decide +kernel
theorem dX12_readMany_12 : decode cX12_readMany 12 = .ok (.irem, 1) := by decide +kernel
theorem dX12_readMany_13 : decode cX12_readMany 13 = .ok (.ifCond .ne 13, 3) := by decide +kernel
theorem dX12_readMany_16 : decode cX12_readMany 16 = .ok (.iload_n 1, 1) := by decide +kernel
theorem dX12_readMany_17 : decode cX12_readMany 17 = .ok (.bipush 40, 2) := by decide +kernel
theorem dX12_readMany_19 : decode cX12_readMany 19 = .ok (.if_icmp .gt 7, 3) := by decide +kernel
theorem dX12_readMany_22 : decode cX12_readMany 22 = .ok (.iconst 1, 1) := by decide +kernel
theorem dX12_readMany_23 : decode cX12_readMany 23 = .ok (.goto 4, 3) := by decide +kernel
theorem dX12_readMany_26 : decode cX12_readMany 26 = .ok (.iconst 0, 1) := by decide +kernel
theorem dX12_readMany_27 : decode cX12_readMany 27 = .ok (.istore_n 2, 1) := by decide +kernel
theorem dX12_readMany_28 : decode cX12_readMany 28 = .ok (.iconst 0, 1) := by decide +kernel
theorem dX12_readMany_29 : decode cX12_readMany 29 = .ok (.istore_n 3, 1) := by decide +kernel
theorem dX12_readMany_30 : decode cX12_readMany 30 = .ok (.iload_n 3, 1) := by decide +kernel
theorem dX12_readMany_31 : decode cX12_readMany 31 = .ok (.iload_n 1, 1) := by decide +kernel
theorem dX12_readMany_32 : decode cX12_readMany 32 = .ok (.if_icmp .ge 30, 3) := by decide +kernel
theorem dX12_readMany_35 : decode cX12_readMany 35 = .ok (.iload_n 2, 1) := by decide +kernel
theorem dX12_readMany_36 : decode cX12_readMany 36 = .ok (.ifCond .eq 26, 3) := by decide +kernel
theorem dX12_readMany_39 : decode cX12_readMany 39 = .ok (.aload_n 0, 1) := by decide +kernel
theorem dX12_readMany_40 : decode cX12_readMany 40 = .ok (.getfield 22, 3) := by decide +kernel
theorem dX12_readMany_43 : decode cX12_readMany 43 = .ok (.iload_n 3, 1) := by decide +kernel
theorem dX12_readMany_44 : decode cX12_readMany 44 = .ok (.iaload, 1) := by decide +kernel
theorem dX12_readMany_45 : decode cX12_readMany 45 = .ok (.bipush 100, 2) := by decide +kernel
theorem dX12_readMany_47 : decode cX12_readMany 47 = .ok (.if_icmp .ge 7, 3) := by decide +kernel
theorem dX12_readMany_50 : decode cX12_readMany 50 = .ok (.iconst 1, 1) := by decide +kernel
theorem dX12_readMany_51 : decode cX12_readMany 51 = .ok (.goto 4, 3) := by decide +kernel
theorem dX12_readMany_54 : decode cX12_readMany 54 = .ok (.iconst 0, 1) := by decide +kernel
theorem dX12_readMany_55 : decode cX12_readMany 55 = .ok (.istore_n 2, 1) := by decide +kernel
theorem dX12_readMany_56 : decode cX12_readMany 56 = .ok (.iinc 3 2, 3) := by decide +kernel
theorem dX12_readMany_59 : decode cX12_readMany 59 = .ok (.goto (-29), 3) := by decide +kernel
theorem dX12_readMany_62 : decode cX12_readMany 62 = .ok (.aload_n 0, 1) := by decide +kernel
theorem dX12_readMany_63 : decode cX12_readMany 63 = .ok (.iload_n 2, 1) := by decide +kernel
theorem dX12_readMany_64 : decode cX12_readMany 64 = .ok (.ifCond .eq 7, 3) := by decide +kernel
theorem dX12_readMany_67 : decode cX12_readMany 67 = .ok (.iconst 0, 1) := by decide +kernel
theorem dX12_readMany_68 : decode cX12_readMany 68 = .ok (.goto 4, 3) := by decide +kernel
theorem dX12_readMany_71 : decode cX12_readMany 71 = .ok (.iconst 1, 1) := by decide +kernel
theorem dX12_readMany_72 : decode cX12_readMany 72 = .ok (.putfield 59, 3) := by decide +kernel
theorem dX12_readMany_75 : decode cX12_readMany 75 = .ok (.iload_n 1, 1) := by decide +kernel
theorem dX12_readMany_76 : decode cX12_readMany 76 = .ok (.ireturn, 1) := by decide +kernel
set_option maxRecDepth 20000 in
theorem ggX12_wrongReads_X12_clockOf : GoodIn wsX12_wrongReads wsX12_clockOf := goodIn_r _ [5] (by decide +kernel) (by decide +kernel)
set_option maxRecDepth 20000 in
theorem gX12_wrongReads_X12_clockOf : GoodIn wsX12_wrongReads (va_wsS RX12 389 yX12_clockOf wsX12_clockOf) := goodIn_app (goodIn_of _ (by decide +kernel)) ggX12_wrongReads_X12_clockOf
theorem dX12_wrongReads_0 : decode cX12_wrongReads 0 = .ok (.iconst 0, 1) := by decide +kernel
theorem dX12_wrongReads_1 : decode cX12_wrongReads 1 = .ok (.istore_n 3, 1) := by decide +kernel
theorem dX12_wrongReads_2 : decode cX12_wrongReads 2 = .ok (.iconst 0, 1) := by decide +kernel
theorem dX12_wrongReads_3 : decode cX12_wrongReads 3 = .ok (.istore 4, 2) := by decide +kernel
theorem dX12_wrongReads_5 : decode cX12_wrongReads 5 = .ok (.iload 4, 2) := by decide +kernel
theorem dX12_wrongReads_7 : decode cX12_wrongReads 7 = .ok (.iload_n 2, 1) := by decide +kernel
theorem dX12_wrongReads_8 : decode cX12_wrongReads 8 = .ok (.if_icmp .ge 44, 3) := by decide +kernel
theorem dX12_wrongReads_11 : decode cX12_wrongReads 11 = .ok (.iload_n 3, 1) := by decide +kernel
theorem dX12_wrongReads_12 : decode cX12_wrongReads 12 = .ok (.iload_n 1, 1) := by decide +kernel
theorem dX12_wrongReads_13 : decode cX12_wrongReads 13 = .ok (.aload_n 0, 1) := by decide +kernel
theorem dX12_wrongReads_14 : decode cX12_wrongReads 14 = .ok (.getfield 22, 3) := by decide +kernel
theorem dX12_wrongReads_17 : decode cX12_wrongReads 17 = .ok (.iload 4, 2) := by decide +kernel
theorem dX12_wrongReads_19 : decode cX12_wrongReads 19 = .ok (.iaload, 1) := by decide +kernel
theorem dX12_wrongReads_20 : decode cX12_wrongReads 20 = .ok (.invokestatic 389, 3) := by decide +kernel
theorem dX12_wrongReads_23 : decode cX12_wrongReads 23 = .ok (.aload_n 0, 1) := by decide +kernel
theorem dX12_wrongReads_24 : decode cX12_wrongReads 24 = .ok (.getfield 22, 3) := by decide +kernel
theorem dX12_wrongReads_27 : decode cX12_wrongReads 27 = .ok (.iload 4, 2) := by decide +kernel
theorem dX12_wrongReads_29 : decode cX12_wrongReads 29 = .ok (.iconst 1, 1) := by decide +kernel
theorem dX12_wrongReads_30 : decode cX12_wrongReads 30 = .ok (.iadd, 1) := by decide +kernel
theorem dX12_wrongReads_31 : decode cX12_wrongReads 31 = .ok (.iaload, 1) := by decide +kernel
theorem dX12_wrongReads_32 : decode cX12_wrongReads 32 = .ok (.sipush 128, 3) := by decide +kernel
theorem dX12_wrongReads_35 : decode cX12_wrongReads 35 = .ok (.isub, 1) := by decide +kernel
theorem dX12_wrongReads_36 : decode cX12_wrongReads 36 = .ok (.if_icmp .ne 7, 3) := by decide +kernel
theorem dX12_wrongReads_39 : decode cX12_wrongReads 39 = .ok (.iconst 0, 1) := by decide +kernel
theorem dX12_wrongReads_40 : decode cX12_wrongReads 40 = .ok (.goto 4, 3) := by decide +kernel
theorem dX12_wrongReads_43 : decode cX12_wrongReads 43 = .ok (.iconst 1, 1) := by decide +kernel
theorem dX12_wrongReads_44 : decode cX12_wrongReads 44 = .ok (.iadd, 1) := by decide +kernel
theorem dX12_wrongReads_45 : decode cX12_wrongReads 45 = .ok (.istore_n 3, 1) := by decide +kernel
theorem dX12_wrongReads_46 : decode cX12_wrongReads 46 = .ok (.iinc 4 2, 3) := by decide +kernel
theorem dX12_wrongReads_49 : decode cX12_wrongReads 49 = .ok (.goto (-44), 3) := by decide +kernel
theorem dX12_wrongReads_52 : decode cX12_wrongReads 52 = .ok (.iload_n 3, 1) := by decide +kernel
theorem dX12_wrongReads_53 : decode cX12_wrongReads 53 = .ok (.ireturn, 1) := by decide +kernel
set_option maxRecDepth 20000 in
theorem ggX12_read_X12_readMany : GoodIn wsX12_read wsX12_readMany := goodIn_r _ [6, 7, 8, 1, 16, 17, 18, 19, 20, 21, 22, 23, 24, 25, 26, 27, 28, 29, 30, 31, 32, 33, 34, 35, 36, 37, 38, 39, 40, 41, 42, 43, 44, 45] (by decide +kernel) (by decide +kernel)
set_option maxRecDepth 20000 in
theorem gX12_read_X12_readMany : GoodIn wsX12_read (wsV RX12 392 RX12 yX12_readMany wsX12_readMany) := goodIn_app (goodIn_of _ (by decide +kernel)) ggX12_read_X12_readMany
set_option maxRecDepth 20000 in
theorem ggX12_read_X12_wrongReads : GoodIn wsX12_read wsX12_wrongReads := goodIn_r _ [12, 8, 13, 14, 5, 15, 16, 17, 18, 19, 20, 21, 22, 23, 24, 25, 26, 27, 28, 29, 30, 31, 32, 33, 34, 35, 36, 37, 38, 39, 40, 41, 42, 43, 44, 45] (by decide +kernel) (by decide +kernel)
set_option maxRecDepth 20000 in
theorem gX12_read_X12_wrongReads : GoodIn wsX12_read (wsV RX12 395 RX12 yX12_wrongReads wsX12_wrongReads) := goodIn_app (goodIn_of _ (by decide +kernel)) ggX12_read_X12_wrongReads
theorem dX12_read_0 : decode cX12_read 0 = .ok (.aload_n 0, 1) := by decide +kernel
theorem dX12_read_1 : decode cX12_read 1 = .ok (.invokevirtual 392, 3) := by decide +kernel
theorem dX12_read_4 : decode cX12_read 4 = .ok (.istore_n 2, 1) := by decide +kernel
theorem dX12_read_5 : decode cX12_read 5 = .ok (.aload_n 0, 1) := by decide +kernel
theorem dX12_read_6 : decode cX12_read 6 = .ok (.getfield 59, 3) := by decide +kernel
theorem dX12_read_9 : decode cX12_read 9 = .ok (.ifCond .le 5, 3) := by decide +kernel
theorem dX12_read_12 : decode cX12_read 12 = .ok (.iconst 0, 1) := by decide +kernel
theorem dX12_read_13 : decode cX12_read 13 = .ok (.ireturn, 1) := by decide +kernel
theorem dX12_read_14 : decode cX12_read 14 = .ok (.iconst 0, 1) := by decide +kernel
theorem dX12_read_15 : decode cX12_read 15 = .ok (.istore_n 3, 1) := by decide +kernel
theorem dX12_read_16 : decode cX12_read 16 = .ok (.iconst (-1), 1) := by decide +kernel
theorem dX12_read_17 : decode cX12_read 17 = .ok (.istore 4, 2) := by decide +kernel
theorem dX12_read_19 : decode cX12_read 19 = .ok (.iconst 2, 1) := by decide +kernel
theorem dX12_read_20 : decode cX12_read 20 = .ok (.istore 5, 2) := by decide +kernel
theorem dX12_read_22 : decode cX12_read 22 = .ok (.iconst 0, 1) := by decide +kernel
theorem dX12_read_23 : decode cX12_read 23 = .ok (.istore 6, 2) := by decide +kernel
theorem dX12_read_25 : decode cX12_read 25 = .ok (.iload 6, 2) := by decide +kernel
theorem dX12_read_27 : decode cX12_read 27 = .ok (.sipush 1539, 3) := by decide +kernel
theorem dX12_read_30 : decode cX12_read 30 = .ok (.if_icmp .ge 50, 3) := by decide +kernel
theorem dX12_read_33 : decode cX12_read 33 = .ok (.aload_n 0, 1) := by decide +kernel
theorem dX12_read_34 : decode cX12_read 34 = .ok (.iload 6, 2) := by decide +kernel
theorem dX12_read_36 : decode cX12_read 36 = .ok (.iload_n 2, 1) := by decide +kernel
theorem dX12_read_37 : decode cX12_read 37 = .ok (.invokevirtual 395, 3) := by decide +kernel
theorem dX12_read_40 : decode cX12_read 40 = .ok (.istore 7, 2) := by decide +kernel
theorem dX12_read_42 : decode cX12_read 42 = .ok (.iload_n 3, 1) := by decide +kernel
theorem dX12_read_43 : decode cX12_read 43 = .ok (.iload 7, 2) := by decide +kernel
theorem dX12_read_45 : decode cX12_read 45 = .ok (.iconst 2, 1) := by decide +kernel
theorem dX12_read_46 : decode cX12_read 46 = .ok (.if_icmp .ge 7, 3) := by decide +kernel
theorem dX12_read_49 : decode cX12_read 49 = .ok (.iconst 1, 1) := by decide +kernel
theorem dX12_read_50 : decode cX12_read 50 = .ok (.goto 4, 3) := by decide +kernel
theorem dX12_read_53 : decode cX12_read 53 = .ok (.iconst 0, 1) := by decide +kernel
theorem dX12_read_54 : decode cX12_read 54 = .ok (.iadd, 1) := by decide +kernel
theorem dX12_read_55 : decode cX12_read 55 = .ok (.istore_n 3, 1) := by decide +kernel
theorem dX12_read_56 : decode cX12_read 56 = .ok (.iload 7, 2) := by decide +kernel
theorem dX12_read_58 : decode cX12_read 58 = .ok (.iload 5, 2) := by decide +kernel
theorem dX12_read_60 : decode cX12_read 60 = .ok (.if_icmp .lt 6, 3) := by decide +kernel
theorem dX12_read_63 : decode cX12_read 63 = .ok (.goto 11, 3) := by decide +kernel
theorem dX12_read_66 : decode cX12_read 66 = .ok (.iload 7, 2) := by decide +kernel
theorem dX12_read_68 : decode cX12_read 68 = .ok (.istore 5, 2) := by decide +kernel
theorem dX12_read_70 : decode cX12_read 70 = .ok (.iload 6, 2) := by decide +kernel
theorem dX12_read_72 : decode cX12_read 72 = .ok (.istore 4, 2) := by decide +kernel
theorem dX12_read_74 : decode cX12_read 74 = .ok (.iinc 6 1, 3) := by decide +kernel
theorem dX12_read_77 : decode cX12_read 77 = .ok (.goto (-52), 3) := by decide +kernel
theorem dX12_read_80 : decode cX12_read 80 = .ok (.iload_n 1, 1) := by decide +kernel
theorem dX12_read_81 : decode cX12_read 81 = .ok (.ifCond .eq 8, 3) := by decide +kernel
theorem dX12_read_84 : decode cX12_read 84 = .ok (.iload 4, 2) := by decide +kernel
theorem dX12_read_86 : decode cX12_read 86 = .ok (.goto 4, 3) := by decide +kernel
theorem dX12_read_89 : decode cX12_read 89 = .ok (.iload_n 3, 1) := by decide +kernel
theorem dX12_read_90 : decode cX12_read 90 = .ok (.ireturn, 1) := by decide +kernel
set_option maxRecDepth 20000 in
theorem ggX12_when_X12_readMany : GoodIn wsX12_when wsX12_readMany := goodIn_r _ [8, 9, 10, 1, 21, 22, 23, 24, 25, 26, 27, 28, 29, 30, 31, 32, 33, 34, 35, 36, 37, 38, 39, 40, 41, 42, 43, 44, 45, 46, 47, 48, 49, 50] (by decide +kernel) (by decide +kernel)
set_option maxRecDepth 20000 in
theorem gX12_when_X12_readMany : GoodIn wsX12_when (wsV RX12 392 RX12 yX12_readMany wsX12_readMany) := goodIn_app (goodIn_of _ (by decide +kernel)) ggX12_when_X12_readMany
set_option maxRecDepth 20000 in
theorem ggX12_when_X12_wrongReads : GoodIn wsX12_when wsX12_wrongReads := goodIn_r _ [14, 10, 15, 16, 7, 17, 21, 22, 23, 24, 25, 26, 27, 28, 29, 30, 31, 32, 33, 34, 35, 36, 37, 38, 39, 40, 41, 42, 43, 44, 45, 46, 47, 48, 49, 50] (by decide +kernel) (by decide +kernel)
set_option maxRecDepth 20000 in
theorem gX12_when_X12_wrongReads : GoodIn wsX12_when (wsV RX12 395 RX12 yX12_wrongReads wsX12_wrongReads) := goodIn_app (goodIn_of _ (by decide +kernel)) ggX12_when_X12_wrongReads
set_option maxRecDepth 20000 in
theorem ggX12_when_X12_clockOf : GoodIn wsX12_when wsX12_clockOf := goodIn_r _ [17] (by decide +kernel) (by decide +kernel)
set_option maxRecDepth 20000 in
theorem gX12_when_X12_clockOf : GoodIn wsX12_when (va_wsS RX12 389 yX12_clockOf wsX12_clockOf) := goodIn_app (goodIn_of _ (by decide +kernel)) ggX12_when_X12_clockOf
set_option maxRecDepth 20000 in
theorem ggX12_when_X12_greater : GoodIn wsX12_when wsX12_greater := goodIn_r _ [20] (by decide +kernel) (by decide +kernel)
set_option maxRecDepth 20000 in
theorem gX12_when_X12_greater : GoodIn wsX12_when (va_wsS RX12 73 yX12_greater wsX12_greater) := goodIn_app (goodIn_of _ (by decide +kernel)) ggX12_when_X12_greater
theorem dX12_when_0 : decode cX12_when 0 = .ok (.aload_n 0, 1) := by decide +kernel
theorem dX12_when_1 : decode cX12_when 1 = .ok (.invokevirtual 392, 3) := by decide +kernel
theorem dX12_when_4 : decode cX12_when 4 = .ok (.istore_n 1, 1) := by decide +kernel
theorem dX12_when_5 : decode cX12_when 5 = .ok (.aload_n 0, 1) := by decide +kernel
theorem dX12_when_6 : decode cX12_when 6 = .ok (.getfield 59, 3) := by decide +kernel
theorem dX12_when_9 : decode cX12_when 9 = .ok (.ifCond .le 5, 3) := by decide +kernel
theorem dX12_when_12 : decode cX12_when 12 = .ok (.iconst 0, 1) := by decide +kernel
theorem dX12_when_13 : decode cX12_when 13 = .ok (.ireturn, 1) := by decide +kernel
theorem dX12_when_14 : decode cX12_when 14 = .ok (.iconst (-1), 1) := by decide +kernel
theorem dX12_when_15 : decode cX12_when 15 = .ok (.istore_n 2, 1) := by decide +kernel
theorem dX12_when_16 : decode cX12_when 16 = .ok (.ldc_w 339, 3) := by decide +kernel
theorem dX12_when_19 : decode cX12_when 19 = .ok (.istore_n 3, 1) := by decide +kernel
theorem dX12_when_20 : decode cX12_when 20 = .ok (.iconst 0, 1) := by decide +kernel
theorem dX12_when_21 : decode cX12_when 21 = .ok (.istore 4, 2) := by decide +kernel
theorem dX12_when_23 : decode cX12_when 23 = .ok (.iload 4, 2) := by decide +kernel
theorem dX12_when_25 : decode cX12_when 25 = .ok (.bipush 10, 2) := by decide +kernel
theorem dX12_when_27 : decode cX12_when 27 = .ok (.if_icmp .ge 132, 3) := by decide +kernel
theorem dX12_when_30 : decode cX12_when 30 = .ok (.iconst 0, 1) := by decide +kernel
theorem dX12_when_31 : decode cX12_when 31 = .ok (.istore 5, 2) := by decide +kernel
theorem dX12_when_33 : decode cX12_when 33 = .ok (.iload 5, 2) := by decide +kernel
theorem dX12_when_35 : decode cX12_when 35 = .ok (.sipush 243, 3) := by decide +kernel
theorem dX12_when_38 : decode cX12_when 38 = .ok (.if_icmp .ge 17, 3) := by decide +kernel
theorem dX12_when_41 : decode cX12_when 41 = .ok (.aload_n 0, 1) := by decide +kernel
theorem dX12_when_42 : decode cX12_when 42 = .ok (.getfield 56, 3) := by decide +kernel
theorem dX12_when_45 : decode cX12_when 45 = .ok (.iload 5, 2) := by decide +kernel
theorem dX12_when_47 : decode cX12_when 47 = .ok (.iconst 0, 1) := by decide +kernel
theorem dX12_when_48 : decode cX12_when 48 = .ok (.iastore, 1) := by decide +kernel
theorem dX12_when_49 : decode cX12_when 49 = .ok (.iinc 5 1, 3) := by decide +kernel
theorem dX12_when_52 : decode cX12_when 52 = .ok (.goto (-19), 3) := by decide +kernel
theorem dX12_when_55 : decode cX12_when 55 = .ok (.iconst 0, 1) := by decide +kernel
theorem dX12_when_56 : decode cX12_when 56 = .ok (.istore 5, 2) := by decide +kernel
theorem dX12_when_58 : decode cX12_when 58 = .ok (.iconst 0, 1) := by decide +kernel
theorem dX12_when_59 : decode cX12_when 59 = .ok (.istore 6, 2) := by decide +kernel
theorem dX12_when_61 : decode cX12_when 61 = .ok (.iconst 0, 1) := by decide +kernel
theorem dX12_when_62 : decode cX12_when 62 = .ok (.istore 7, 2) := by decide +kernel
theorem dX12_when_64 : decode cX12_when 64 = .ok (.iload 7, 2) := by decide +kernel
theorem dX12_when_66 : decode cX12_when 66 = .ok (.sipush 1539, 3) := by decide +kernel
theorem dX12_when_69 : decode cX12_when 69 = .ok (.if_icmp .ge 63, 3) := by decide +kernel
theorem dX12_when_72 : decode cX12_when 72 = .ok (.aload_n 0, 1) := by decide +kernel
theorem dX12_when_73 : decode cX12_when 73 = .ok (.iload 7, 2) := by decide +kernel
theorem dX12_when_75 : decode cX12_when 75 = .ok (.iload_n 1, 1) := by decide +kernel
theorem dX12_when_76 : decode cX12_when 76 = .ok (.invokevirtual 395, 3) := by decide +kernel
theorem dX12_when_79 : decode cX12_when 79 = .ok (.iconst 1, 1) := by decide +kernel
theorem dX12_when_80 : decode cX12_when 80 = .ok (.if_icmp .le 6, 3) := by decide +kernel
theorem dX12_when_83 : decode cX12_when 83 = .ok (.goto 43, 3) := by decide +kernel
theorem dX12_when_86 : decode cX12_when 86 = .ok (.iload 7, 2) := by decide +kernel
theorem dX12_when_88 : decode cX12_when 88 = .ok (.iload 4, 2) := by decide +kernel
theorem dX12_when_90 : decode cX12_when 90 = .ok (.invokestatic 389, 3) := by decide +kernel
theorem dX12_when_93 : decode cX12_when 93 = .ok (.bipush 121, 2) := by decide +kernel
theorem dX12_when_95 : decode cX12_when 95 = .ok (.iadd, 1) := by decide +kernel
theorem dX12_when_96 : decode cX12_when 96 = .ok (.istore 8, 2) := by decide +kernel
theorem dX12_when_98 : decode cX12_when 98 = .ok (.aload_n 0, 1) := by decide +kernel
theorem dX12_when_99 : decode cX12_when 99 = .ok (.getfield 56, 3) := by decide +kernel
theorem dX12_when_102 : decode cX12_when 102 = .ok (.iload 8, 2) := by decide +kernel
theorem dX12_when_104 : decode cX12_when 104 = .ok (.dup2, 1) := by decide +kernel
theorem dX12_when_105 : decode cX12_when 105 = .ok (.iaload, 1) := by decide +kernel
theorem dX12_when_106 : decode cX12_when 106 = .ok (.iconst 1, 1) := by decide +kernel
theorem dX12_when_107 : decode cX12_when 107 = .ok (.iadd, 1) := by decide +kernel
theorem dX12_when_108 : decode cX12_when 108 = .ok (.iastore, 1) := by decide +kernel
theorem dX12_when_109 : decode cX12_when 109 = .ok (.iinc 5 1, 3) := by decide +kernel
theorem dX12_when_112 : decode cX12_when 112 = .ok (.iload 6, 2) := by decide +kernel
theorem dX12_when_114 : decode cX12_when 114 = .ok (.aload_n 0, 1) := by decide +kernel
theorem dX12_when_115 : decode cX12_when 115 = .ok (.getfield 56, 3) := by decide +kernel
theorem dX12_when_118 : decode cX12_when 118 = .ok (.iload 8, 2) := by decide +kernel
theorem dX12_when_120 : decode cX12_when 120 = .ok (.iaload, 1) := by decide +kernel
theorem dX12_when_121 : decode cX12_when 121 = .ok (.invokestatic 73, 3) := by decide +kernel
theorem dX12_when_124 : decode cX12_when 124 = .ok (.istore 6, 2) := by decide +kernel
theorem dX12_when_126 : decode cX12_when 126 = .ok (.iinc 7 1, 3) := by decide +kernel
theorem dX12_when_129 : decode cX12_when 129 = .ok (.goto (-65), 3) := by decide +kernel
theorem dX12_when_132 : decode cX12_when 132 = .ok (.iload 5, 2) := by decide +kernel
theorem dX12_when_134 : decode cX12_when 134 = .ok (.iconst 2, 1) := by decide +kernel
theorem dX12_when_135 : decode cX12_when 135 = .ok (.if_icmp .lt 18, 3) := by decide +kernel
theorem dX12_when_138 : decode cX12_when 138 = .ok (.iload 6, 2) := by decide +kernel
theorem dX12_when_140 : decode cX12_when 140 = .ok (.iload_n 3, 1) := by decide +kernel
theorem dX12_when_141 : decode cX12_when 141 = .ok (.if_icmp .lt 6, 3) := by decide +kernel
theorem dX12_when_144 : decode cX12_when 144 = .ok (.goto 9, 3) := by decide +kernel
theorem dX12_when_147 : decode cX12_when 147 = .ok (.iload 6, 2) := by decide +kernel
theorem dX12_when_149 : decode cX12_when 149 = .ok (.istore_n 3, 1) := by decide +kernel
theorem dX12_when_150 : decode cX12_when 150 = .ok (.iload 4, 2) := by decide +kernel
theorem dX12_when_152 : decode cX12_when 152 = .ok (.istore_n 2, 1) := by decide +kernel
theorem dX12_when_153 : decode cX12_when 153 = .ok (.iinc 4 1, 3) := by decide +kernel
theorem dX12_when_156 : decode cX12_when 156 = .ok (.goto (-133), 3) := by decide +kernel
theorem dX12_when_159 : decode cX12_when 159 = .ok (.iload_n 2, 1) := by decide +kernel
theorem dX12_when_160 : decode cX12_when 160 = .ok (.ireturn, 1) := by decide +kernel
theorem dX12_wouldHear_0 : decode cX12_wouldHear 0 = .ok (.iload_n 0, 1) := by decide +kernel
theorem dX12_wouldHear_1 : decode cX12_wouldHear 1 = .ok (.iconst 1, 1) := by decide +kernel
theorem dX12_wouldHear_2 : decode cX12_wouldHear 2 = .ok (.iload_n 1, 1) := by decide +kernel
theorem dX12_wouldHear_3 : decode cX12_wouldHear 3 = .ok (.iadd, 1) := by decide +kernel
theorem dX12_wouldHear_4 : decode cX12_wouldHear 4 = .ok (.if_icmp .eq 15, 3) := by decide +kernel
theorem dX12_wouldHear_7 : decode cX12_wouldHear 7 = .ok (.iload_n 0, 1) := by decide +kernel
theorem dX12_wouldHear_8 : decode cX12_wouldHear 8 = .ok (.bipush 9, 2) := by decide +kernel
theorem dX12_wouldHear_10 : decode cX12_wouldHear 10 = .ok (.iload_n 2, 1) := by decide +kernel
theorem dX12_wouldHear_11 : decode cX12_wouldHear 11 = .ok (.iadd, 1) := by decide +kernel
theorem dX12_wouldHear_12 : decode cX12_wouldHear 12 = .ok (.if_icmp .eq 7, 3) := by decide +kernel
theorem dX12_wouldHear_15 : decode cX12_wouldHear 15 = .ok (.iconst 1, 1) := by decide +kernel
theorem dX12_wouldHear_16 : decode cX12_wouldHear 16 = .ok (.goto 4, 3) := by decide +kernel
theorem dX12_wouldHear_19 : decode cX12_wouldHear 19 = .ok (.iconst 0, 1) := by decide +kernel
theorem dX12_wouldHear_20 : decode cX12_wouldHear 20 = .ok (.ireturn, 1) := by decide +kernel
theorem dX12_blameMany_0 : decode cX12_blameMany 0 = .ok (.aload_n 0, 1) := by decide +kernel
theorem dX12_blameMany_1 : decode cX12_blameMany 1 = .ok (.getfield 76, 3) := by decide +kernel
theorem dX12_blameMany_4 : decode cX12_blameMany 4 = .ok (.istore_n 1, 1) := by decide +kernel
theorem dX12_blameMany_5 : decode cX12_blameMany 5 = .ok (.aload_n 0, 1) := by decide +kernel
theorem dX12_blameMany_6 : decode cX12_blameMany 6 = .ok (.iconst 0, 1) := by decide +kernel
theorem dX12_blameMany_7 : decode cX12_blameMany 7 = .ok (.putfield 76, 3) := by decide +kernel
theorem dX12_blameMany_10 : decode cX12_blameMany 10 = .ok (.iload_n 1, 1) := by decide +kernel
theorem dX12_blameMany_11 : decode cX12_blameMany 11 = .ok (.iconst 3, 1) := by decide +kernel
theorem dX12_blameMany_12 : decode cX12_blameMany 12 = .ok (.irem, 1) := by decide +kernel
theorem dX12_blameMany_13 : decode cX12_blameMany 13 = .ok (.ifCond .ne 13, 3) := by decide +kernel
theorem dX12_blameMany_16 : decode cX12_blameMany 16 = .ok (.iload_n 1, 1) := by decide +kernel
theorem dX12_blameMany_17 : decode cX12_blameMany 17 = .ok (.bipush 60, 2) := by decide +kernel
theorem dX12_blameMany_19 : decode cX12_blameMany 19 = .ok (.if_icmp .gt 7, 3) := by decide +kernel
theorem dX12_blameMany_22 : decode cX12_blameMany 22 = .ok (.iconst 1, 1) := by decide +kernel
theorem dX12_blameMany_23 : decode cX12_blameMany 23 = .ok (.goto 4, 3) := by decide +kernel
theorem dX12_blameMany_26 : decode cX12_blameMany 26 = .ok (.iconst 0, 1) := by decide +kernel
theorem dX12_blameMany_27 : decode cX12_blameMany 27 = .ok (.istore_n 2, 1) := by decide +kernel
theorem dX12_blameMany_28 : decode cX12_blameMany 28 = .ok (.iconst 0, 1) := by decide +kernel
theorem dX12_blameMany_29 : decode cX12_blameMany 29 = .ok (.istore_n 3, 1) := by decide +kernel
theorem dX12_blameMany_30 : decode cX12_blameMany 30 = .ok (.iload_n 3, 1) := by decide +kernel
theorem dX12_blameMany_31 : decode cX12_blameMany 31 = .ok (.iload_n 1, 1) := by decide +kernel
theorem dX12_blameMany_32 : decode cX12_blameMany 32 = .ok (.if_icmp .ge 72, 3) := by decide +kernel
theorem dX12_blameMany_35 : decode cX12_blameMany 35 = .ok (.iload_n 2, 1) := by decide +kernel
theorem dX12_blameMany_36 : decode cX12_blameMany 36 = .ok (.ifCond .eq 68, 3) := by decide +kernel
theorem dX12_blameMany_39 : decode cX12_blameMany 39 = .ok (.aload_n 0, 1) := by decide +kernel
theorem dX12_blameMany_40 : decode cX12_blameMany 40 = .ok (.getfield 22, 3) := by decide +kernel
theorem dX12_blameMany_43 : decode cX12_blameMany 43 = .ok (.iload_n 3, 1) := by decide +kernel
theorem dX12_blameMany_44 : decode cX12_blameMany 44 = .ok (.iaload, 1) := by decide +kernel
theorem dX12_blameMany_45 : decode cX12_blameMany 45 = .ok (.bipush 8, 2) := by decide +kernel
theorem dX12_blameMany_47 : decode cX12_blameMany 47 = .ok (.if_icmp .ge 49, 3) := by decide +kernel
theorem dX12_blameMany_50 : decode cX12_blameMany 50 = .ok (.aload_n 0, 1) := by decide +kernel
theorem dX12_blameMany_51 : decode cX12_blameMany 51 = .ok (.getfield 22, 3) := by decide +kernel
theorem dX12_blameMany_54 : decode cX12_blameMany 54 = .ok (.iload_n 3, 1) := by decide +kernel
theorem dX12_blameMany_55 : decode cX12_blameMany 55 = .ok (.iconst 1, 1) := by decide +kernel
theorem dX12_blameMany_56 : decode cX12_blameMany 56 = .ok (.iadd, 1) := by decide +kernel
theorem dX12_blameMany_57 : decode cX12_blameMany 57 = .ok (.iaload, 1) := by decide +kernel
theorem dX12_blameMany_58 : decode cX12_blameMany 58 = .ok (.bipush 8, 2) := by decide +kernel
theorem dX12_blameMany_60 : decode cX12_blameMany 60 = .ok (.if_icmp .ge 36, 3) := by decide +kernel
theorem dX12_blameMany_63 : decode cX12_blameMany 63 = .ok (.aload_n 0, 1) := by decide +kernel
theorem dX12_blameMany_64 : decode cX12_blameMany 64 = .ok (.getfield 22, 3) := by decide +kernel
theorem dX12_blameMany_67 : decode cX12_blameMany 67 = .ok (.iload_n 3, 1) := by decide +kernel
theorem dX12_blameMany_68 : decode cX12_blameMany 68 = .ok (.iaload, 1) := by decide +kernel
theorem dX12_blameMany_69 : decode cX12_blameMany 69 = .ok (.aload_n 0, 1) := by decide +kernel
theorem dX12_blameMany_70 : decode cX12_blameMany 70 = .ok (.getfield 22, 3) := by decide +kernel
theorem dX12_blameMany_73 : decode cX12_blameMany 73 = .ok (.iload_n 3, 1) := by decide +kernel
theorem dX12_blameMany_74 : decode cX12_blameMany 74 = .ok (.iconst 1, 1) := by decide +kernel
theorem dX12_blameMany_75 : decode cX12_blameMany 75 = .ok (.iadd, 1) := by decide +kernel
theorem dX12_blameMany_76 : decode cX12_blameMany 76 = .ok (.iaload, 1) := by decide +kernel
theorem dX12_blameMany_77 : decode cX12_blameMany 77 = .ok (.if_icmp .eq 19, 3) := by decide +kernel
theorem dX12_blameMany_80 : decode cX12_blameMany 80 = .ok (.aload_n 0, 1) := by decide +kernel
theorem dX12_blameMany_81 : decode cX12_blameMany 81 = .ok (.getfield 22, 3) := by decide +kernel
theorem dX12_blameMany_84 : decode cX12_blameMany 84 = .ok (.iload_n 3, 1) := by decide +kernel
theorem dX12_blameMany_85 : decode cX12_blameMany 85 = .ok (.iconst 2, 1) := by decide +kernel
theorem dX12_blameMany_86 : decode cX12_blameMany 86 = .ok (.iadd, 1) := by decide +kernel
theorem dX12_blameMany_87 : decode cX12_blameMany 87 = .ok (.iaload, 1) := by decide +kernel
theorem dX12_blameMany_88 : decode cX12_blameMany 88 = .ok (.iconst 2, 1) := by decide +kernel
theorem dX12_blameMany_89 : decode cX12_blameMany 89 = .ok (.if_icmp .ge 7, 3) := by decide +kernel
theorem dX12_blameMany_92 : decode cX12_blameMany 92 = .ok (.iconst 1, 1) := by decide +kernel
theorem dX12_blameMany_93 : decode cX12_blameMany 93 = .ok (.goto 4, 3) := by decide +kernel
theorem dX12_blameMany_96 : decode cX12_blameMany 96 = .ok (.iconst 0, 1) := by decide +kernel
theorem dX12_blameMany_97 : decode cX12_blameMany 97 = .ok (.istore_n 2, 1) := by decide +kernel
theorem dX12_blameMany_98 : decode cX12_blameMany 98 = .ok (.iinc 3 3, 3) := by decide +kernel
theorem dX12_blameMany_101 : decode cX12_blameMany 101 = .ok (.goto (-71), 3) := by decide +kernel
theorem dX12_blameMany_104 : decode cX12_blameMany 104 = .ok (.aload_n 0, 1) := by decide +kernel
theorem dX12_blameMany_105 : decode cX12_blameMany 105 = .ok (.iload_n 2, 1) := by decide +kernel
theorem dX12_blameMany_106 : decode cX12_blameMany 106 = .ok (.ifCond .eq 7, 3) := by decide +kernel
theorem dX12_blameMany_109 : decode cX12_blameMany 109 = .ok (.iconst 0, 1) := by decide +kernel
theorem dX12_blameMany_110 : decode cX12_blameMany 110 = .ok (.goto 4, 3) := by decide +kernel
theorem dX12_blameMany_113 : decode cX12_blameMany 113 = .ok (.iconst 1, 1) := by decide +kernel
theorem dX12_blameMany_114 : decode cX12_blameMany 114 = .ok (.putfield 59, 3) := by decide +kernel
theorem dX12_blameMany_117 : decode cX12_blameMany 117 = .ok (.iload_n 1, 1) := by decide +kernel
theorem dX12_blameMany_118 : decode cX12_blameMany 118 = .ok (.ireturn, 1) := by decide +kernel
set_option maxRecDepth 20000 in
theorem ggX12_wrongBlames_X12_wouldHear : GoodIn wsX12_wrongBlames wsX12_wouldHear := goodIn_r _ [5] (by decide +kernel) (by decide +kernel)
set_option maxRecDepth 20000 in
theorem gX12_wrongBlames_X12_wouldHear : GoodIn wsX12_wrongBlames (va_wsS RX12 398 yX12_wouldHear wsX12_wouldHear) := goodIn_app (goodIn_of _ (by decide +kernel)) ggX12_wrongBlames_X12_wouldHear
theorem dX12_wrongBlames_0 : decode cX12_wrongBlames 0 = .ok (.iconst 0, 1) := by decide +kernel
theorem dX12_wrongBlames_1 : decode cX12_wrongBlames 1 = .ok (.istore_n 3, 1) := by decide +kernel
theorem dX12_wrongBlames_2 : decode cX12_wrongBlames 2 = .ok (.iconst 0, 1) := by decide +kernel
theorem dX12_wrongBlames_3 : decode cX12_wrongBlames 3 = .ok (.istore 4, 2) := by decide +kernel
theorem dX12_wrongBlames_5 : decode cX12_wrongBlames 5 = .ok (.iload 4, 2) := by decide +kernel
theorem dX12_wrongBlames_7 : decode cX12_wrongBlames 7 = .ok (.iload_n 2, 1) := by decide +kernel
theorem dX12_wrongBlames_8 : decode cX12_wrongBlames 8 = .ok (.if_icmp .ge 58, 3) := by decide +kernel
theorem dX12_wrongBlames_11 : decode cX12_wrongBlames 11 = .ok (.iload_n 3, 1) := by decide +kernel
theorem dX12_wrongBlames_12 : decode cX12_wrongBlames 12 = .ok (.iload_n 1, 1) := by decide +kernel
theorem dX12_wrongBlames_13 : decode cX12_wrongBlames 13 = .ok (.aload_n 0, 1) := by decide +kernel
theorem dX12_wrongBlames_14 : decode cX12_wrongBlames 14 = .ok (.getfield 22, 3) := by decide +kernel
theorem dX12_wrongBlames_17 : decode cX12_wrongBlames 17 = .ok (.iload 4, 2) := by decide +kernel
theorem dX12_wrongBlames_19 : decode cX12_wrongBlames 19 = .ok (.iaload, 1) := by decide +kernel
theorem dX12_wrongBlames_20 : decode cX12_wrongBlames 20 = .ok (.aload_n 0, 1) := by decide +kernel
theorem dX12_wrongBlames_21 : decode cX12_wrongBlames 21 = .ok (.getfield 22, 3) := by decide +kernel
theorem dX12_wrongBlames_24 : decode cX12_wrongBlames 24 = .ok (.iload 4, 2) := by decide +kernel
theorem dX12_wrongBlames_26 : decode cX12_wrongBlames 26 = .ok (.iconst 1, 1) := by decide +kernel
theorem dX12_wrongBlames_27 : decode cX12_wrongBlames 27 = .ok (.iadd, 1) := by decide +kernel
theorem dX12_wrongBlames_28 : decode cX12_wrongBlames 28 = .ok (.iaload, 1) := by decide +kernel
theorem dX12_wrongBlames_29 : decode cX12_wrongBlames 29 = .ok (.invokestatic 398, 3) := by decide +kernel
theorem dX12_wrongBlames_32 : decode cX12_wrongBlames 32 = .ok (.aload_n 0, 1) := by decide +kernel
theorem dX12_wrongBlames_33 : decode cX12_wrongBlames 33 = .ok (.getfield 22, 3) := by decide +kernel
theorem dX12_wrongBlames_36 : decode cX12_wrongBlames 36 = .ok (.iload 4, 2) := by decide +kernel
theorem dX12_wrongBlames_38 : decode cX12_wrongBlames 38 = .ok (.iconst 2, 1) := by decide +kernel
theorem dX12_wrongBlames_39 : decode cX12_wrongBlames 39 = .ok (.iadd, 1) := by decide +kernel
theorem dX12_wrongBlames_40 : decode cX12_wrongBlames 40 = .ok (.iaload, 1) := by decide +kernel
theorem dX12_wrongBlames_41 : decode cX12_wrongBlames 41 = .ok (.iconst 1, 1) := by decide +kernel
theorem dX12_wrongBlames_42 : decode cX12_wrongBlames 42 = .ok (.if_icmp .ne 7, 3) := by decide +kernel
theorem dX12_wrongBlames_45 : decode cX12_wrongBlames 45 = .ok (.iconst 1, 1) := by decide +kernel
theorem dX12_wrongBlames_46 : decode cX12_wrongBlames 46 = .ok (.goto 4, 3) := by decide +kernel
theorem dX12_wrongBlames_49 : decode cX12_wrongBlames 49 = .ok (.iconst 0, 1) := by decide +kernel
theorem dX12_wrongBlames_50 : decode cX12_wrongBlames 50 = .ok (.if_icmp .ne 7, 3) := by decide +kernel
theorem dX12_wrongBlames_53 : decode cX12_wrongBlames 53 = .ok (.iconst 0, 1) := by decide +kernel
theorem dX12_wrongBlames_54 : decode cX12_wrongBlames 54 = .ok (.goto 4, 3) := by decide +kernel
theorem dX12_wrongBlames_57 : decode cX12_wrongBlames 57 = .ok (.iconst 1, 1) := by decide +kernel
theorem dX12_wrongBlames_58 : decode cX12_wrongBlames 58 = .ok (.iadd, 1) := by decide +kernel
theorem dX12_wrongBlames_59 : decode cX12_wrongBlames 59 = .ok (.istore_n 3, 1) := by decide +kernel
theorem dX12_wrongBlames_60 : decode cX12_wrongBlames 60 = .ok (.iinc 4 3, 3) := by decide +kernel
theorem dX12_wrongBlames_63 : decode cX12_wrongBlames 63 = .ok (.goto (-58), 3) := by decide +kernel
theorem dX12_wrongBlames_66 : decode cX12_wrongBlames 66 = .ok (.iload_n 3, 1) := by decide +kernel
theorem dX12_wrongBlames_67 : decode cX12_wrongBlames 67 = .ok (.ireturn, 1) := by decide +kernel
set_option maxRecDepth 20000 in
theorem ggX12_blame_X12_blameMany : GoodIn wsX12_blame wsX12_blameMany := goodIn_r _ [6, 7, 8, 1, 16, 17, 18, 19, 20, 21, 22, 23, 24, 25, 26, 27, 28, 29, 30, 31, 32, 33, 34, 35, 36, 37, 38, 39, 40, 41, 42, 43, 44, 45] (by decide +kernel) (by decide +kernel)
set_option maxRecDepth 20000 in
theorem gX12_blame_X12_blameMany : GoodIn wsX12_blame (wsV RX12 401 RX12 yX12_blameMany wsX12_blameMany) := goodIn_app (goodIn_of _ (by decide +kernel)) ggX12_blame_X12_blameMany
set_option maxRecDepth 20000 in
theorem ggX12_blame_X12_wrongBlames : GoodIn wsX12_blame wsX12_wrongBlames := goodIn_r _ [12, 8, 13, 14, 5, 15, 16, 17, 18, 19, 20, 21, 22, 23, 24, 25, 26, 27, 28, 29, 30, 31, 32, 33, 34, 35, 36, 37, 38, 39, 40, 41, 42, 43, 44, 45] (by decide +kernel) (by decide +kernel)
set_option maxRecDepth 20000 in
theorem gX12_blame_X12_wrongBlames : GoodIn wsX12_blame (wsV RX12 404 RX12 yX12_wrongBlames wsX12_wrongBlames) := goodIn_app (goodIn_of _ (by decide +kernel)) ggX12_blame_X12_wrongBlames
theorem dX12_blame_0 : decode cX12_blame 0 = .ok (.aload_n 0, 1) := by decide +kernel
theorem dX12_blame_1 : decode cX12_blame 1 = .ok (.invokevirtual 401, 3) := by decide +kernel
theorem dX12_blame_4 : decode cX12_blame 4 = .ok (.istore_n 1, 1) := by decide +kernel
theorem dX12_blame_5 : decode cX12_blame 5 = .ok (.aload_n 0, 1) := by decide +kernel
theorem dX12_blame_6 : decode cX12_blame 6 = .ok (.getfield 59, 3) := by decide +kernel
theorem dX12_blame_9 : decode cX12_blame 9 = .ok (.ifCond .le 5, 3) := by decide +kernel
theorem dX12_blame_12 : decode cX12_blame 12 = .ok (.iconst 0, 1) := by decide +kernel
theorem dX12_blame_13 : decode cX12_blame 13 = .ok (.ireturn, 1) := by decide +kernel
theorem dX12_blame_14 : decode cX12_blame 14 = .ok (.iconst 0, 1) := by decide +kernel
theorem dX12_blame_15 : decode cX12_blame 15 = .ok (.istore_n 2, 1) := by decide +kernel
theorem dX12_blame_16 : decode cX12_blame 16 = .ok (.iconst 0, 1) := by decide +kernel
theorem dX12_blame_17 : decode cX12_blame 17 = .ok (.istore_n 3, 1) := by decide +kernel
theorem dX12_blame_18 : decode cX12_blame 18 = .ok (.iload_n 3, 1) := by decide +kernel
theorem dX12_blame_19 : decode cX12_blame 19 = .ok (.bipush 17, 2) := by decide +kernel
theorem dX12_blame_21 : decode cX12_blame 21 = .ok (.if_icmp .ge 27, 3) := by decide +kernel
theorem dX12_blame_24 : decode cX12_blame 24 = .ok (.iload_n 2, 1) := by decide +kernel
theorem dX12_blame_25 : decode cX12_blame 25 = .ok (.aload_n 0, 1) := by decide +kernel
theorem dX12_blame_26 : decode cX12_blame 26 = .ok (.iload_n 3, 1) := by decide +kernel
theorem dX12_blame_27 : decode cX12_blame 27 = .ok (.iload_n 1, 1) := by decide +kernel
theorem dX12_blame_28 : decode cX12_blame 28 = .ok (.invokevirtual 404, 3) := by decide +kernel
theorem dX12_blame_31 : decode cX12_blame 31 = .ok (.iconst 2, 1) := by decide +kernel
theorem dX12_blame_32 : decode cX12_blame 32 = .ok (.if_icmp .ge 7, 3) := by decide +kernel
theorem dX12_blame_35 : decode cX12_blame 35 = .ok (.iconst 1, 1) := by decide +kernel
theorem dX12_blame_36 : decode cX12_blame 36 = .ok (.goto 4, 3) := by decide +kernel
theorem dX12_blame_39 : decode cX12_blame 39 = .ok (.iconst 0, 1) := by decide +kernel
theorem dX12_blame_40 : decode cX12_blame 40 = .ok (.iadd, 1) := by decide +kernel
theorem dX12_blame_41 : decode cX12_blame 41 = .ok (.istore_n 2, 1) := by decide +kernel
theorem dX12_blame_42 : decode cX12_blame 42 = .ok (.iinc 3 1, 3) := by decide +kernel
theorem dX12_blame_45 : decode cX12_blame 45 = .ok (.goto (-27), 3) := by decide +kernel
theorem dX12_blame_48 : decode cX12_blame 48 = .ok (.iload_n 2, 1) := by decide +kernel
theorem dX12_blame_49 : decode cX12_blame 49 = .ok (.ireturn, 1) := by decide +kernel
set_option maxRecDepth 20000 in
theorem ggX12_guilty_X12_blameMany : GoodIn wsX12_guilty wsX12_blameMany := goodIn_r _ [6, 7, 8, 1, 16, 17, 18, 19, 20, 21, 22, 23, 24, 25, 26, 27, 28, 29, 30, 31, 32, 33, 34, 35, 36, 37, 38, 39, 40, 41, 42, 43, 44, 45] (by decide +kernel) (by decide +kernel)
set_option maxRecDepth 20000 in
theorem gX12_guilty_X12_blameMany : GoodIn wsX12_guilty (wsV RX12 401 RX12 yX12_blameMany wsX12_blameMany) := goodIn_app (goodIn_of _ (by decide +kernel)) ggX12_guilty_X12_blameMany
set_option maxRecDepth 20000 in
theorem ggX12_guilty_X12_wrongBlames : GoodIn wsX12_guilty wsX12_wrongBlames := goodIn_r _ [12, 8, 13, 14, 5, 15, 16, 17, 18, 19, 20, 21, 22, 23, 24, 25, 26, 27, 28, 29, 30, 31, 32, 33, 34, 35, 36, 37, 38, 39, 40, 41, 42, 43, 44, 45] (by decide +kernel) (by decide +kernel)
set_option maxRecDepth 20000 in
theorem gX12_guilty_X12_wrongBlames : GoodIn wsX12_guilty (wsV RX12 404 RX12 yX12_wrongBlames wsX12_wrongBlames) := goodIn_app (goodIn_of _ (by decide +kernel)) ggX12_guilty_X12_wrongBlames
theorem dX12_guilty_0 : decode cX12_guilty 0 = .ok (.aload_n 0, 1) := by decide +kernel
theorem dX12_guilty_1 : decode cX12_guilty 1 = .ok (.invokevirtual 401, 3) := by decide +kernel
theorem dX12_guilty_4 : decode cX12_guilty 4 = .ok (.istore_n 1, 1) := by decide +kernel
theorem dX12_guilty_5 : decode cX12_guilty 5 = .ok (.aload_n 0, 1) := by decide +kernel
theorem dX12_guilty_6 : decode cX12_guilty 6 = .ok (.getfield 59, 3) := by decide +kernel
theorem dX12_guilty_9 : decode cX12_guilty 9 = .ok (.ifCond .le 5, 3) := by decide +kernel
theorem dX12_guilty_12 : decode cX12_guilty 12 = .ok (.iconst 0, 1) := by decide +kernel
theorem dX12_guilty_13 : decode cX12_guilty 13 = .ok (.ireturn, 1) := by decide +kernel
theorem dX12_guilty_14 : decode cX12_guilty 14 = .ok (.iconst (-1), 1) := by decide +kernel
theorem dX12_guilty_15 : decode cX12_guilty 15 = .ok (.istore_n 2, 1) := by decide +kernel
theorem dX12_guilty_16 : decode cX12_guilty 16 = .ok (.iconst 2, 1) := by decide +kernel
theorem dX12_guilty_17 : decode cX12_guilty 17 = .ok (.istore_n 3, 1) := by decide +kernel
theorem dX12_guilty_18 : decode cX12_guilty 18 = .ok (.iconst 0, 1) := by decide +kernel
theorem dX12_guilty_19 : decode cX12_guilty 19 = .ok (.istore 4, 2) := by decide +kernel
theorem dX12_guilty_21 : decode cX12_guilty 21 = .ok (.iload 4, 2) := by decide +kernel
theorem dX12_guilty_23 : decode cX12_guilty 23 = .ok (.bipush 17, 2) := by decide +kernel
theorem dX12_guilty_25 : decode cX12_guilty 25 = .ok (.if_icmp .ge 34, 3) := by decide +kernel
theorem dX12_guilty_28 : decode cX12_guilty 28 = .ok (.aload_n 0, 1) := by decide +kernel
theorem dX12_guilty_29 : decode cX12_guilty 29 = .ok (.iload 4, 2) := by decide +kernel
theorem dX12_guilty_31 : decode cX12_guilty 31 = .ok (.iload_n 1, 1) := by decide +kernel
theorem dX12_guilty_32 : decode cX12_guilty 32 = .ok (.invokevirtual 404, 3) := by decide +kernel
theorem dX12_guilty_35 : decode cX12_guilty 35 = .ok (.iload_n 3, 1) := by decide +kernel
theorem dX12_guilty_36 : decode cX12_guilty 36 = .ok (.if_icmp .lt 6, 3) := by decide +kernel
theorem dX12_guilty_39 : decode cX12_guilty 39 = .ok (.goto 14, 3) := by decide +kernel
theorem dX12_guilty_42 : decode cX12_guilty 42 = .ok (.aload_n 0, 1) := by decide +kernel
theorem dX12_guilty_43 : decode cX12_guilty 43 = .ok (.iload 4, 2) := by decide +kernel
theorem dX12_guilty_45 : decode cX12_guilty 45 = .ok (.iload_n 1, 1) := by decide +kernel
theorem dX12_guilty_46 : decode cX12_guilty 46 = .ok (.invokevirtual 404, 3) := by decide +kernel
theorem dX12_guilty_49 : decode cX12_guilty 49 = .ok (.istore_n 3, 1) := by decide +kernel
theorem dX12_guilty_50 : decode cX12_guilty 50 = .ok (.iload 4, 2) := by decide +kernel
theorem dX12_guilty_52 : decode cX12_guilty 52 = .ok (.istore_n 2, 1) := by decide +kernel
theorem dX12_guilty_53 : decode cX12_guilty 53 = .ok (.iinc 4 1, 3) := by decide +kernel
theorem dX12_guilty_56 : decode cX12_guilty 56 = .ok (.goto (-35), 3) := by decide +kernel
theorem dX12_guilty_59 : decode cX12_guilty 59 = .ok (.iload_n 2, 1) := by decide +kernel
theorem dX12_guilty_60 : decode cX12_guilty 60 = .ok (.ireturn, 1) := by decide +kernel
set_option maxRecDepth 20000 in
theorem ggX12_probe_X12_blameMany : GoodIn wsX12_probe wsX12_blameMany := goodIn_r _ [7, 8, 9, 1, 20, 21, 22, 23, 24, 25, 26, 27, 28, 29, 30, 31, 32, 33, 34, 35, 36, 37, 38, 39, 40, 41, 42, 43, 44, 45, 46, 47, 48, 49] (by decide +kernel) (by decide +kernel)
set_option maxRecDepth 20000 in
theorem gX12_probe_X12_blameMany : GoodIn wsX12_probe (wsV RX12 401 RX12 yX12_blameMany wsX12_blameMany) := goodIn_app (goodIn_of _ (by decide +kernel)) ggX12_probe_X12_blameMany
set_option maxRecDepth 20000 in
theorem ggX12_probe_X12_wrongBlames : GoodIn wsX12_probe wsX12_wrongBlames := goodIn_r _ [13, 9, 14, 15, 6, 16, 20, 21, 22, 23, 24, 25, 26, 27, 28, 29, 30, 31, 32, 33, 34, 35, 36, 37, 38, 39, 40, 41, 42, 43, 44, 45, 46, 47, 48, 49] (by decide +kernel) (by decide +kernel)
set_option maxRecDepth 20000 in
theorem gX12_probe_X12_wrongBlames : GoodIn wsX12_probe (wsV RX12 404 RX12 yX12_wrongBlames wsX12_wrongBlames) := goodIn_app (goodIn_of _ (by decide +kernel)) ggX12_probe_X12_wrongBlames
set_option maxRecDepth 20000 in
theorem ggX12_probe_X12_wouldHear : GoodIn wsX12_probe wsX12_wouldHear := goodIn_r _ [16] (by decide +kernel) (by decide +kernel)
set_option maxRecDepth 20000 in
theorem gX12_probe_X12_wouldHear : GoodIn wsX12_probe (va_wsS RX12 398 yX12_wouldHear wsX12_wouldHear) := goodIn_app (goodIn_of _ (by decide +kernel)) ggX12_probe_X12_wouldHear
set_option maxRecDepth 20000 in
theorem ggX12_probe_X12_greater : GoodIn wsX12_probe wsX12_greater := goodIn_r _ [19] (by decide +kernel) (by decide +kernel)
set_option maxRecDepth 20000 in
theorem gX12_probe_X12_greater : GoodIn wsX12_probe (va_wsS RX12 73 yX12_greater wsX12_greater) := goodIn_app (goodIn_of _ (by decide +kernel)) ggX12_probe_X12_greater
theorem dX12_probe_0 : decode cX12_probe 0 = .ok (.aload_n 0, 1) := by decide +kernel
theorem dX12_probe_1 : decode cX12_probe 1 = .ok (.invokevirtual 401, 3) := by decide +kernel
theorem dX12_probe_4 : decode cX12_probe 4 = .ok (.istore_n 1, 1) := by decide +kernel
theorem dX12_probe_5 : decode cX12_probe 5 = .ok (.aload_n 0, 1) := by decide +kernel
theorem dX12_probe_6 : decode cX12_probe 6 = .ok (.getfield 59, 3) := by decide +kernel
theorem dX12_probe_9 : decode cX12_probe 9 = .ok (.ifCond .le 5, 3) := by decide +kernel
theorem dX12_probe_12 : decode cX12_probe 12 = .ok (.iconst 0, 1) := by decide +kernel
theorem dX12_probe_13 : decode cX12_probe 13 = .ok (.ireturn, 1) := by decide +kernel
theorem dX12_probe_14 : decode cX12_probe 14 = .ok (.iconst (-1), 1) := by decide +kernel
theorem dX12_probe_15 : decode cX12_probe 15 = .ok (.istore_n 2, 1) := by decide +kernel
theorem dX12_probe_16 : decode cX12_probe 16 = .ok (.ldc_w 339, 3) := by decide +kernel
theorem dX12_probe_19 : decode cX12_probe 19 = .ok (.istore_n 3, 1) := by decide +kernel
theorem dX12_probe_20 : decode cX12_probe 20 = .ok (.iconst 0, 1) := by decide +kernel
theorem dX12_probe_21 : decode cX12_probe 21 = .ok (.istore 4, 2) := by decide +kernel
theorem dX12_probe_23 : decode cX12_probe 23 = .ok (.iload 4, 2) := by decide +kernel
theorem dX12_probe_25 : decode cX12_probe 25 = .ok (.bipush 64, 2) := by decide +kernel
theorem dX12_probe_27 : decode cX12_probe 27 = .ok (.if_icmp .ge 125, 3) := by decide +kernel
theorem dX12_probe_30 : decode cX12_probe 30 = .ok (.iload 4, 2) := by decide +kernel
theorem dX12_probe_32 : decode cX12_probe 32 = .ok (.bipush 8, 2) := by decide +kernel
theorem dX12_probe_34 : decode cX12_probe 34 = .ok (.idiv, 1) := by decide +kernel
theorem dX12_probe_35 : decode cX12_probe 35 = .ok (.iload 4, 2) := by decide +kernel
theorem dX12_probe_37 : decode cX12_probe 37 = .ok (.bipush 8, 2) := by decide +kernel
theorem dX12_probe_39 : decode cX12_probe 39 = .ok (.irem, 1) := by decide +kernel
theorem dX12_probe_40 : decode cX12_probe 40 = .ok (.if_icmp .ne 6, 3) := by decide +kernel
theorem dX12_probe_43 : decode cX12_probe 43 = .ok (.goto 103, 3) := by decide +kernel
theorem dX12_probe_46 : decode cX12_probe 46 = .ok (.iconst 0, 1) := by decide +kernel
theorem dX12_probe_47 : decode cX12_probe 47 = .ok (.istore 5, 2) := by decide +kernel
theorem dX12_probe_49 : decode cX12_probe 49 = .ok (.iconst 0, 1) := by decide +kernel
theorem dX12_probe_50 : decode cX12_probe 50 = .ok (.istore 6, 2) := by decide +kernel
theorem dX12_probe_52 : decode cX12_probe 52 = .ok (.iconst 0, 1) := by decide +kernel
theorem dX12_probe_53 : decode cX12_probe 53 = .ok (.istore 7, 2) := by decide +kernel
theorem dX12_probe_55 : decode cX12_probe 55 = .ok (.iload 7, 2) := by decide +kernel
theorem dX12_probe_57 : decode cX12_probe 57 = .ok (.bipush 17, 2) := by decide +kernel
theorem dX12_probe_59 : decode cX12_probe 59 = .ok (.if_icmp .ge 54, 3) := by decide +kernel
theorem dX12_probe_62 : decode cX12_probe 62 = .ok (.aload_n 0, 1) := by decide +kernel
theorem dX12_probe_63 : decode cX12_probe 63 = .ok (.iload 7, 2) := by decide +kernel
theorem dX12_probe_65 : decode cX12_probe 65 = .ok (.iload_n 1, 1) := by decide +kernel
theorem dX12_probe_66 : decode cX12_probe 66 = .ok (.invokevirtual 404, 3) := by decide +kernel
theorem dX12_probe_69 : decode cX12_probe 69 = .ok (.iconst 1, 1) := by decide +kernel
theorem dX12_probe_70 : decode cX12_probe 70 = .ok (.if_icmp .le 6, 3) := by decide +kernel
theorem dX12_probe_73 : decode cX12_probe 73 = .ok (.goto 34, 3) := by decide +kernel
theorem dX12_probe_76 : decode cX12_probe 76 = .ok (.iinc 5 1, 3) := by decide +kernel
theorem dX12_probe_79 : decode cX12_probe 79 = .ok (.iload 6, 2) := by decide +kernel
theorem dX12_probe_81 : decode cX12_probe 81 = .ok (.iload 7, 2) := by decide +kernel
theorem dX12_probe_83 : decode cX12_probe 83 = .ok (.iload 4, 2) := by decide +kernel
theorem dX12_probe_85 : decode cX12_probe 85 = .ok (.bipush 8, 2) := by decide +kernel
theorem dX12_probe_87 : decode cX12_probe 87 = .ok (.idiv, 1) := by decide +kernel
theorem dX12_probe_88 : decode cX12_probe 88 = .ok (.iload 4, 2) := by decide +kernel
theorem dX12_probe_90 : decode cX12_probe 90 = .ok (.bipush 8, 2) := by decide +kernel
theorem dX12_probe_92 : decode cX12_probe 92 = .ok (.irem, 1) := by decide +kernel
theorem dX12_probe_93 : decode cX12_probe 93 = .ok (.invokestatic 398, 3) := by decide +kernel
theorem dX12_probe_96 : decode cX12_probe 96 = .ok (.ifCond .eq 7, 3) := by decide +kernel
theorem dX12_probe_99 : decode cX12_probe 99 = .ok (.iconst 1, 1) := by decide +kernel
theorem dX12_probe_100 : decode cX12_probe 100 = .ok (.goto 4, 3) := by decide +kernel
theorem dX12_probe_103 : decode cX12_probe 103 = .ok (.iconst 0, 1) := by decide +kernel
theorem dX12_probe_104 : decode cX12_probe 104 = .ok (.iadd, 1) := by decide +kernel
theorem dX12_probe_105 : decode cX12_probe 105 = .ok (.istore 6, 2) := by decide +kernel
theorem dX12_probe_107 : decode cX12_probe 107 = .ok (.iinc 7 1, 3) := by decide +kernel
theorem dX12_probe_110 : decode cX12_probe 110 = .ok (.goto (-55), 3) := by decide +kernel
theorem dX12_probe_113 : decode cX12_probe 113 = .ok (.iload 6, 2) := by decide +kernel
theorem dX12_probe_115 : decode cX12_probe 115 = .ok (.iload 5, 2) := by decide +kernel
theorem dX12_probe_117 : decode cX12_probe 117 = .ok (.iload 6, 2) := by decide +kernel
theorem dX12_probe_119 : decode cX12_probe 119 = .ok (.isub, 1) := by decide +kernel
theorem dX12_probe_120 : decode cX12_probe 120 = .ok (.invokestatic 73, 3) := by decide +kernel
theorem dX12_probe_123 : decode cX12_probe 123 = .ok (.istore 7, 2) := by decide +kernel
theorem dX12_probe_125 : decode cX12_probe 125 = .ok (.iload 5, 2) := by decide +kernel
theorem dX12_probe_127 : decode cX12_probe 127 = .ok (.iconst 2, 1) := by decide +kernel
theorem dX12_probe_128 : decode cX12_probe 128 = .ok (.if_icmp .lt 18, 3) := by decide +kernel
theorem dX12_probe_131 : decode cX12_probe 131 = .ok (.iload 7, 2) := by decide +kernel
theorem dX12_probe_133 : decode cX12_probe 133 = .ok (.iload_n 3, 1) := by decide +kernel
theorem dX12_probe_134 : decode cX12_probe 134 = .ok (.if_icmp .lt 6, 3) := by decide +kernel
theorem dX12_probe_137 : decode cX12_probe 137 = .ok (.goto 9, 3) := by decide +kernel
theorem dX12_probe_140 : decode cX12_probe 140 = .ok (.iload 7, 2) := by decide +kernel
theorem dX12_probe_142 : decode cX12_probe 142 = .ok (.istore_n 3, 1) := by decide +kernel
theorem dX12_probe_143 : decode cX12_probe 143 = .ok (.iload 4, 2) := by decide +kernel
theorem dX12_probe_145 : decode cX12_probe 145 = .ok (.istore_n 2, 1) := by decide +kernel
theorem dX12_probe_146 : decode cX12_probe 146 = .ok (.iinc 4 1, 3) := by decide +kernel
theorem dX12_probe_149 : decode cX12_probe 149 = .ok (.goto (-126), 3) := by decide +kernel
theorem dX12_probe_152 : decode cX12_probe 152 = .ok (.iload_n 2, 1) := by decide +kernel
theorem dX12_probe_153 : decode cX12_probe 153 = .ok (.ireturn, 1) := by decide +kernel
set_option maxRecDepth 20000 in
theorem ggX12_both_X12_apart : GoodIn wsX12_both wsX12_apart := goodIn_r _ [5, 6, 7, 8, 4, 9, 10, 11, 12, 13, 202, 203, 204, 205, 206, 207, 208, 209, 210, 211, 212, 213, 214, 215, 216, 217, 218, 219, 220, 221, 222, 223, 224, 225, 226, 227, 228, 229, 230, 231] (by decide +kernel) (by decide +kernel)
set_option maxRecDepth 20000 in
theorem gX12_both_X12_apart : GoodIn wsX12_both (wsV RX12 383 RX12 yX12_apart wsX12_apart) := goodIn_app (goodIn_of _ (by decide +kernel)) ggX12_both_X12_apart
set_option maxRecDepth 20000 in
theorem ggX12_both_X12_areFriends : GoodIn wsX12_both wsX12_areFriends := goodIn_r _ [17, 18, 19, 20, 4, 21, 6, 7, 8, 9, 10, 22, 23, 24, 25, 26, 27, 28, 29, 30, 31, 32, 33, 34, 35, 36, 37, 38, 39, 40, 41, 42, 43, 44, 45, 46, 47, 48, 49, 50, 51, 52, 53, 54, 55, 56, 57, 58, 59, 60, 61, 62, 63, 64, 65, 66, 67, 68, 69, 70, 71, 72, 73, 74, 75, 76, 77, 78, 79, 80, 81, 82, 83, 84, 85, 86, 87, 88, 89, 90, 91, 92, 93, 94, 95, 96, 97, 98, 99, 100, 101, 102, 103, 104, 105, 106, 107, 108, 109, 110, 111, 112, 113, 114, 115, 116, 117, 118, 119, 120, 121, 122, 123, 124, 125, 126, 127, 128, 129, 130, 131, 132, 133, 134, 135, 136, 137, 138, 139, 140, 141, 142, 143, 144, 145, 146, 147, 148, 149, 150, 151, 152, 153, 154, 155, 156, 157, 158, 159, 160, 161, 162, 163, 164, 165, 166, 167, 168, 169, 170, 171, 172, 173, 174, 175, 176, 177, 178, 179, 180, 181, 182, 183, 184, 185, 186, 187, 188, 189, 190, 191, 192, 193, 194, 195, 196, 197, 198, 199, 200, 201, 202, 203, 204, 205, 206, 207, 208, 209, 210, 211, 212, 213, 214, 215, 216, 217, 218, 219, 220, 221, 222, 223, 224, 225, 226, 227, 228, 229, 230, 231] (by decide +kernel) (by decide +kernel)
set_option maxRecDepth 20000 in
theorem gX12_both_X12_areFriends : GoodIn wsX12_both (wsV RX12 344 RX12 yX12_areFriends wsX12_areFriends) := goodIn_app (goodIn_of _ (by decide +kernel)) ggX12_both_X12_areFriends
theorem dX12_both_0 : decode cX12_both 0 = .ok (.bipush 100, 2) := by decide +kernel
theorem dX12_both_2 : decode cX12_both 2 = .ok (.aload_n 0, 1) := by decide +kernel
theorem dX12_both_3 : decode cX12_both 3 = .ok (.iload_n 1, 1) := by decide +kernel
theorem dX12_both_4 : decode cX12_both 4 = .ok (.iload_n 2, 1) := by decide +kernel
theorem dX12_both_5 : decode cX12_both 5 = .ok (.invokevirtual 383, 3) := by decide +kernel
theorem dX12_both_8 : decode cX12_both 8 = .ok (.isub, 1) := by decide +kernel
theorem dX12_both_9 : decode cX12_both 9 = .ok (.istore_n 3, 1) := by decide +kernel
theorem dX12_both_10 : decode cX12_both 10 = .ok (.iload_n 3, 1) := by decide +kernel
theorem dX12_both_11 : decode cX12_both 11 = .ok (.ifCond .le 16, 3) := by decide +kernel
theorem dX12_both_14 : decode cX12_both 14 = .ok (.aload_n 0, 1) := by decide +kernel
theorem dX12_both_15 : decode cX12_both 15 = .ok (.iload_n 1, 1) := by decide +kernel
theorem dX12_both_16 : decode cX12_both 16 = .ok (.iload_n 2, 1) := by decide +kernel
theorem dX12_both_17 : decode cX12_both 17 = .ok (.invokevirtual 344, 3) := by decide +kernel
theorem dX12_both_20 : decode cX12_both 20 = .ok (.ifCond .eq 7, 3) := by decide +kernel
theorem dX12_both_23 : decode cX12_both 23 = .ok (.iload_n 3, 1) := by decide +kernel
theorem dX12_both_24 : decode cX12_both 24 = .ok (.goto 4, 3) := by decide +kernel
theorem dX12_both_27 : decode cX12_both 27 = .ok (.iconst (-1), 1) := by decide +kernel
theorem dX12_both_28 : decode cX12_both 28 = .ok (.ireturn, 1) := by decide +kernel
set_option maxRecDepth 20000 in
theorem ggX12_allBest_X12_lowest : GoodIn wsX12_allBest wsX12_lowest := goodIn_r _ [7, 8, 9, 6, 10] (by decide +kernel) (by decide +kernel)
set_option maxRecDepth 20000 in
theorem gX12_allBest_X12_lowest : GoodIn wsX12_allBest (va_wsS RX12 374 yX12_lowest wsX12_lowest) := goodIn_app (goodIn_of _ (by decide +kernel)) ggX12_allBest_X12_lowest
set_option maxRecDepth 20000 in
theorem ggX12_allBest_X12_isOf : GoodIn wsX12_allBest wsX12_isOf := goodIn_r _ [10] (by decide +kernel) (by decide +kernel)
set_option maxRecDepth 20000 in
theorem gX12_allBest_X12_isOf : GoodIn wsX12_allBest (va_wsS RX12 274 yX12_isOf wsX12_isOf) := goodIn_app (goodIn_of _ (by decide +kernel)) ggX12_allBest_X12_isOf
set_option maxRecDepth 20000 in
theorem ggX12_allBest_X12_greater : GoodIn wsX12_allBest wsX12_greater := goodIn_r _ [13] (by decide +kernel) (by decide +kernel)
set_option maxRecDepth 20000 in
theorem gX12_allBest_X12_greater : GoodIn wsX12_allBest (va_wsS RX12 73 yX12_greater wsX12_greater) := goodIn_app (goodIn_of _ (by decide +kernel)) ggX12_allBest_X12_greater
theorem dX12_allBest_0 : decode cX12_allBest 0 = .ok (.aload_n 0, 1) := by decide +kernel
theorem dX12_allBest_1 : decode cX12_allBest 1 = .ok (.getfield 47, 3) := by decide +kernel
theorem dX12_allBest_4 : decode cX12_allBest 4 = .ok (.iconst 0, 1) := by decide +kernel
theorem dX12_allBest_5 : decode cX12_allBest 5 = .ok (.iconst 0, 1) := by decide +kernel
theorem dX12_allBest_6 : decode cX12_allBest 6 = .ok (.iastore, 1) := by decide +kernel
theorem dX12_allBest_7 : decode cX12_allBest 7 = .ok (.iconst 1, 1) := by decide +kernel
theorem dX12_allBest_8 : decode cX12_allBest 8 = .ok (.istore_n 1, 1) := by decide +kernel
theorem dX12_allBest_9 : decode cX12_allBest 9 = .ok (.iload_n 1, 1) := by decide +kernel
theorem dX12_allBest_10 : decode cX12_allBest 10 = .ok (.iconst 1, 1) := by decide +kernel
theorem dX12_allBest_11 : decode cX12_allBest 11 = .ok (.aload_n 0, 1) := by decide +kernel
theorem dX12_allBest_12 : decode cX12_allBest 12 = .ok (.getfield 7, 3) := by decide +kernel
theorem dX12_allBest_15 : decode cX12_allBest 15 = .ok (.iconst 3, 1) := by decide +kernel
theorem dX12_allBest_16 : decode cX12_allBest 16 = .ok (.iaload, 1) := by decide +kernel
theorem dX12_allBest_17 : decode cX12_allBest 17 = .ok (.ishl, 1) := by decide +kernel
theorem dX12_allBest_18 : decode cX12_allBest 18 = .ok (.if_icmp .ge 121, 3) := by decide +kernel
theorem dX12_allBest_21 : decode cX12_allBest 21 = .ok (.iload_n 1, 1) := by decide +kernel
theorem dX12_allBest_22 : decode cX12_allBest 22 = .ok (.invokestatic 374, 3) := by decide +kernel
theorem dX12_allBest_25 : decode cX12_allBest 25 = .ok (.istore_n 2, 1) := by decide +kernel
theorem dX12_allBest_26 : decode cX12_allBest 26 = .ok (.iload_n 1, 1) := by decide +kernel
theorem dX12_allBest_27 : decode cX12_allBest 27 = .ok (.iconst 1, 1) := by decide +kernel
theorem dX12_allBest_28 : decode cX12_allBest 28 = .ok (.iload_n 2, 1) := by decide +kernel
theorem dX12_allBest_29 : decode cX12_allBest 29 = .ok (.ishl, 1) := by decide +kernel
theorem dX12_allBest_30 : decode cX12_allBest 30 = .ok (.iconst (-1), 1) := by decide +kernel
theorem dX12_allBest_31 : decode cX12_allBest 31 = .ok (.ixor, 1) := by decide +kernel
