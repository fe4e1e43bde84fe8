theorem dX12_allBest_32 : decode cX12_allBest 32 = .ok (.iand, 1) := by decide +kernel
theorem dX12_allBest_33 : decode cX12_allBest 33 = .ok (.istore_n 3, 1) := by decide +kernel
theorem dX12_allBest_34 : decode cX12_allBest 34 = .ok (.aload_n 0, 1) := by decide +kernel
theorem dX12_allBest_35 : decode cX12_allBest 35 = .ok (.getfield 47, 3) := by decide +kernel
theorem dX12_allBest_38 : decode cX12_allBest 38 = .ok (.iload_n 1, 1) := by decide +kernel
theorem dX12_allBest_39 : decode cX12_allBest 39 = .ok (.aload_n 0, 1) := by decide +kernel
theorem dX12_allBest_40 : decode cX12_allBest 40 = .ok (.getfield 47, 3) := by decide +kernel
theorem dX12_allBest_43 : decode cX12_allBest 43 = .ok (.iload_n 3, 1) := by decide +kernel
theorem dX12_allBest_44 : decode cX12_allBest 44 = .ok (.iaload, 1) := by decide +kernel
theorem dX12_allBest_45 : decode cX12_allBest 45 = .ok (.iastore, 1) := by decide +kernel
theorem dX12_allBest_46 : decode cX12_allBest 46 = .ok (.iload_n 2, 1) := by decide +kernel
theorem dX12_allBest_47 : decode cX12_allBest 47 = .ok (.iconst 1, 1) := by decide +kernel
theorem dX12_allBest_48 : decode cX12_allBest 48 = .ok (.iadd, 1) := by decide +kernel
theorem dX12_allBest_49 : decode cX12_allBest 49 = .ok (.istore 4, 2) := by decide +kernel
theorem dX12_allBest_51 : decode cX12_allBest 51 = .ok (.iload 4, 2) := by decide +kernel
theorem dX12_allBest_53 : decode cX12_allBest 53 = .ok (.aload_n 0, 1) := by decide +kernel
theorem dX12_allBest_54 : decode cX12_allBest 54 = .ok (.getfield 7, 3) := by decide +kernel
theorem dX12_allBest_57 : decode cX12_allBest 57 = .ok (.iconst 3, 1) := by decide +kernel
theorem dX12_allBest_58 : decode cX12_allBest 58 = .ok (.iaload, 1) := by decide +kernel
theorem dX12_allBest_59 : decode cX12_allBest 59 = .ok (.if_icmp .ge 74, 3) := by decide +kernel
theorem dX12_allBest_62 : decode cX12_allBest 62 = .ok (.iload_n 3, 1) := by decide +kernel
theorem dX12_allBest_63 : decode cX12_allBest 63 = .ok (.iload 4, 2) := by decide +kernel
theorem dX12_allBest_65 : decode cX12_allBest 65 = .ok (.invokestatic 274, 3) := by decide +kernel
theorem dX12_allBest_68 : decode cX12_allBest 68 = .ok (.ifCond .eq 59, 3) := by decide +kernel
theorem dX12_allBest_71 : decode cX12_allBest 71 = .ok (.aload_n 0, 1) := by decide +kernel
theorem dX12_allBest_72 : decode cX12_allBest 72 = .ok (.getfield 50, 3) := by decide +kernel
theorem dX12_allBest_75 : decode cX12_allBest 75 = .ok (.bipush 8, 2) := by decide +kernel
theorem dX12_allBest_77 : decode cX12_allBest 77 = .ok (.iload_n 2, 1) := by decide +kernel
theorem dX12_allBest_78 : decode cX12_allBest 78 = .ok (.imul, 1) := by decide +kernel
theorem dX12_allBest_79 : decode cX12_allBest 79 = .ok (.iload 4, 2) := by decide +kernel
theorem dX12_allBest_81 : decode cX12_allBest 81 = .ok (.iadd, 1) := by decide +kernel
theorem dX12_allBest_82 : decode cX12_allBest 82 = .ok (.iaload, 1) := by decide +kernel
theorem dX12_allBest_83 : decode cX12_allBest 83 = .ok (.ifCond .le 44, 3) := by decide +kernel
theorem dX12_allBest_86 : decode cX12_allBest 86 = .ok (.aload_n 0, 1) := by decide +kernel
theorem dX12_allBest_87 : decode cX12_allBest 87 = .ok (.getfield 47, 3) := by decide +kernel
theorem dX12_allBest_90 : decode cX12_allBest 90 = .ok (.iload_n 1, 1) := by decide +kernel
theorem dX12_allBest_91 : decode cX12_allBest 91 = .ok (.aload_n 0, 1) := by decide +kernel
theorem dX12_allBest_92 : decode cX12_allBest 92 = .ok (.getfield 47, 3) := by decide +kernel
theorem dX12_allBest_95 : decode cX12_allBest 95 = .ok (.iload_n 1, 1) := by decide +kernel
theorem dX12_allBest_96 : decode cX12_allBest 96 = .ok (.iaload, 1) := by decide +kernel
theorem dX12_allBest_97 : decode cX12_allBest 97 = .ok (.aload_n 0, 1) := by decide +kernel
theorem dX12_allBest_98 : decode cX12_allBest 98 = .ok (.getfield 50, 3) := by decide +kernel
theorem dX12_allBest_101 : decode cX12_allBest 101 = .ok (.bipush 8, 2) := by decide +kernel
theorem dX12_allBest_103 : decode cX12_allBest 103 = .ok (.iload_n 2, 1) := by decide +kernel
theorem dX12_allBest_104 : decode cX12_allBest 104 = .ok (.imul, 1) := by decide +kernel
theorem dX12_allBest_105 : decode cX12_allBest 105 = .ok (.iload 4, 2) := by decide +kernel
theorem dX12_allBest_107 : decode cX12_allBest 107 = .ok (.iadd, 1) := by decide +kernel
theorem dX12_allBest_108 : decode cX12_allBest 108 = .ok (.iaload, 1) := by decide +kernel
theorem dX12_allBest_109 : decode cX12_allBest 109 = .ok (.aload_n 0, 1) := by decide +kernel
theorem dX12_allBest_110 : decode cX12_allBest 110 = .ok (.getfield 47, 3) := by decide +kernel
theorem dX12_allBest_113 : decode cX12_allBest 113 = .ok (.iload_n 3, 1) := by decide +kernel
theorem dX12_allBest_114 : decode cX12_allBest 114 = .ok (.iconst 1, 1) := by decide +kernel
theorem dX12_allBest_115 : decode cX12_allBest 115 = .ok (.iload 4, 2) := by decide +kernel
theorem dX12_allBest_117 : decode cX12_allBest 117 = .ok (.ishl, 1) := by decide +kernel
theorem dX12_allBest_118 : decode cX12_allBest 118 = .ok (.iconst (-1), 1) := by decide +kernel
theorem dX12_allBest_119 : decode cX12_allBest 119 = .ok (.ixor, 1) := by decide +kernel
theorem dX12_allBest_120 : decode cX12_allBest 120 = .ok (.iand, 1) := by decide +kernel
theorem dX12_allBest_121 : decode cX12_allBest 121 = .ok (.iaload, 1) := by decide +kernel
theorem dX12_allBest_122 : decode cX12_allBest 122 = .ok (.iadd, 1) := by decide +kernel
theorem dX12_allBest_123 : decode cX12_allBest 123 = .ok (.invokestatic 73, 3) := by decide +kernel
theorem dX12_allBest_126 : decode cX12_allBest 126 = .ok (.iastore, 1) := by decide +kernel
theorem dX12_allBest_127 : decode cX12_allBest 127 = .ok (.iinc 4 1, 3) := by decide +kernel
theorem dX12_allBest_130 : decode cX12_allBest 130 = .ok (.goto (-79), 3) := by decide +kernel
theorem dX12_allBest_133 : decode cX12_allBest 133 = .ok (.iinc 1 1, 3) := by decide +kernel
theorem dX12_allBest_136 : decode cX12_allBest 136 = .ok (.goto (-127), 3) := by decide +kernel
theorem dX12_allBest_139 : decode cX12_allBest 139 = .ok (.return_, 1) := by decide +kernel
set_option maxRecDepth 20000 in
theorem ggX12_pairs_X12_isNode : GoodIn wsX12_pairs wsX12_isNode := goodIn_r _ [9, 2, 10, 11, 8, 12, 223, 224, 225, 226, 227, 228, 229, 230, 231, 232, 233, 234, 235, 236, 237, 238, 239, 240, 241, 242, 243, 244, 245, 246, 247, 248, 249, 250, 251, 252] (by decide +kernel) (by decide +kernel)
set_option maxRecDepth 20000 in
theorem gX12_pairs_X12_isNode : GoodIn wsX12_pairs (wsV RX12 347 RX12 yX12_isNode wsX12_isNode) := goodIn_app (goodIn_of _ (by decide +kernel)) ggX12_pairs_X12_isNode
set_option maxRecDepth 20000 in
theorem ggX12_pairs_X12_both : GoodIn wsX12_pairs wsX12_both := goodIn_r _ [16, 17, 18, 19, 8, 20, 21, 22, 23, 24, 2, 25, 26, 27, 28, 29, 30, 31, 32, 33, 34, 35, 36, 37, 38, 39, 40, 41, 42, 43, 44, 45, 46, 47, 48, 49, 50, 51, 52, 53, 54, 55, 56, 57, 58, 59, 60, 61, 62, 63, 64, 65, 66, 67, 68, 69, 70, 71, 72, 73, 74, 75, 76, 77, 78, 79, 80, 81, 82, 83, 84, 85, 86, 87, 88, 89, 90, 91, 92, 93, 94, 95, 96, 97, 98, 99, 100, 10, 11, 12, 101, 102, 103, 104, 105, 106, 107, 108, 109, 110, 111, 112, 113, 114, 115, 116, 117, 118, 119, 120, 121, 122, 123, 124, 125, 126, 127, 128, 129, 130, 131, 132, 133, 134, 135, 136, 137, 138, 139, 140, 141, 142, 143, 144, 145, 146, 147, 148, 149, 150, 151, 152, 153, 154, 155, 156, 157, 158, 159, 160, 161, 162, 163, 164, 165, 166, 167, 168, 169, 170, 171, 172, 173, 174, 175, 176, 177, 178, 179, 180, 181, 182, 183, 184, 185, 186, 187, 188, 189, 190, 191, 192, 193, 194, 195, 196, 197, 198, 199, 200, 201, 202, 203, 204, 205, 206, 207, 208, 209, 210, 211, 212, 223, 224, 225, 226, 227, 228, 229, 230, 231, 232, 233, 234, 235, 236, 237, 238, 239, 240, 241, 242, 243, 244, 245, 246, 247, 248, 249, 250, 251, 252] (by decide +kernel) (by decide +kernel)
set_option maxRecDepth 20000 in
theorem gX12_pairs_X12_both : GoodIn wsX12_pairs (wsV RX12 407 RX12 yX12_both wsX12_both) := goodIn_app (goodIn_of _ (by decide +kernel)) ggX12_pairs_X12_both
set_option maxRecDepth 20000 in
theorem ggX12_pairs_X12_allBest : GoodIn wsX12_pairs wsX12_allBest := goodIn_r _ [216, 4, 2, 3, 217, 218, 8, 219, 220, 221, 222, 66, 67, 68, 223, 224, 225, 226, 227, 228, 229, 230, 231, 232, 233, 234, 235, 236, 237, 238, 239, 240, 241, 242, 243, 244, 245, 246, 247, 248, 249, 250, 251, 252] (by decide +kernel) (by decide +kernel)
set_option maxRecDepth 20000 in
theorem gX12_pairs_X12_allBest : GoodIn wsX12_pairs (wsV RX12 410 RX12 yX12_allBest wsX12_allBest) := goodIn_app (goodIn_of _ (by decide +kernel)) ggX12_pairs_X12_allBest
set_option maxRecDepth 20000 in
theorem ggX12_pairs_X12_inState : GoodIn wsX12_pairs wsX12_inState := goodIn_r _ [75, 2, 21, 22, 23, 8, 24, 223, 224, 225, 226, 227, 228, 229, 230, 231, 232, 233, 234, 235, 236, 237, 238, 239, 240, 241, 242, 243, 244, 245, 246, 247, 248, 249, 250, 251, 252] (by decide +kernel) (by decide +kernel)
set_option maxRecDepth 20000 in
theorem gX12_pairs_X12_inState : GoodIn wsX12_pairs (wsV RX12 250 RX12 yX12_inState wsX12_inState) := goodIn_app (goodIn_of _ (by decide +kernel)) ggX12_pairs_X12_inState
set_option maxRecDepth 20000 in
theorem ggX12_pairs_X12_lowest : GoodIn wsX12_pairs wsX12_lowest := goodIn_r _ [219, 220, 221, 8, 222] (by decide +kernel) (by decide +kernel)
set_option maxRecDepth 20000 in
theorem gX12_pairs_X12_lowest : GoodIn wsX12_pairs (va_wsS RX12 374 yX12_lowest wsX12_lowest) := goodIn_app (goodIn_of _ (by decide +kernel)) ggX12_pairs_X12_lowest
set_option maxRecDepth 20000 in
theorem ggX12_pairs_X12_isOf : GoodIn wsX12_pairs wsX12_isOf := goodIn_r _ [222] (by decide +kernel) (by decide +kernel)
set_option maxRecDepth 20000 in
theorem gX12_pairs_X12_isOf : GoodIn wsX12_pairs (va_wsS RX12 274 yX12_isOf wsX12_isOf) := goodIn_app (goodIn_of _ (by decide +kernel)) ggX12_pairs_X12_isOf
theorem dX12_pairs_0 : decode cX12_pairs 0 = .ok (.aload_n 0, 1) := by decide +kernel
theorem dX12_pairs_1 : decode cX12_pairs 1 = .ok (.iload_n 1, 1) := by decide +kernel
theorem dX12_pairs_2 : decode cX12_pairs 2 = .ok (.iconst (-1), 1) := by decide +kernel
theorem dX12_pairs_3 : decode cX12_pairs 3 = .ok (.if_icmp .eq 15, 3) := by decide +kernel
theorem dX12_pairs_6 : decode cX12_pairs 6 = .ok (.aload_n 0, 1) := by decide +kernel
theorem dX12_pairs_7 : decode cX12_pairs 7 = .ok (.iload_n 1, 1) := by decide +kernel
theorem dX12_pairs_8 : decode cX12_pairs 8 = .ok (.invokevirtual 347, 3) := by decide +kernel
theorem dX12_pairs_11 : decode cX12_pairs 11 = .ok (.ifCond .ne 7, 3) := by decide +kernel
theorem dX12_pairs_14 : decode cX12_pairs 14 = .ok (.iconst 1, 1) := by decide +kernel
theorem dX12_pairs_15 : decode cX12_pairs 15 = .ok (.goto 4, 3) := by decide +kernel
theorem dX12_pairs_18 : decode cX12_pairs 18 = .ok (.iconst 0, 1) := by decide +kernel
theorem dX12_pairs_19 : decode cX12_pairs 19 = .ok (.putfield 59, 3) := by decide +kernel
theorem dX12_pairs_22 : decode cX12_pairs 22 = .ok (.aload_n 0, 1) := by decide +kernel
theorem dX12_pairs_23 : decode cX12_pairs 23 = .ok (.getfield 59, 3) := by decide +kernel
theorem dX12_pairs_26 : decode cX12_pairs 26 = .ok (.ifCond .le 5, 3) := by decide +kernel
theorem dX12_pairs_29 : decode cX12_pairs 29 = .ok (.iconst 0, 1) := by decide +kernel
theorem dX12_pairs_30 : decode cX12_pairs 30 = .ok (.ireturn, 1) := by decide +kernel
theorem dX12_pairs_31 : decode cX12_pairs 31 = .ok (.iconst 0, 1) := by decide +kernel
theorem dX12_pairs_32 : decode cX12_pairs 32 = .ok (.istore_n 2, 1) := by decide +kernel
theorem dX12_pairs_33 : decode cX12_pairs 33 = .ok (.iload_n 2, 1) := by decide +kernel
theorem dX12_pairs_34 : decode cX12_pairs 34 = .ok (.aload_n 0, 1) := by decide +kernel
theorem dX12_pairs_35 : decode cX12_pairs 35 = .ok (.getfield 7, 3) := by decide +kernel
theorem dX12_pairs_38 : decode cX12_pairs 38 = .ok (.iconst 3, 1) := by decide +kernel
theorem dX12_pairs_39 : decode cX12_pairs 39 = .ok (.iaload, 1) := by decide +kernel
theorem dX12_pairs_40 : decode cX12_pairs 40 = .ok (.if_icmp .ge 53, 3) := by decide +kernel
theorem dX12_pairs_43 : decode cX12_pairs 43 = .ok (.iconst 0, 1) := by decide +kernel
theorem dX12_pairs_44 : decode cX12_pairs 44 = .ok (.istore_n 3, 1) := by decide +kernel
theorem dX12_pairs_45 : decode cX12_pairs 45 = .ok (.iload_n 3, 1) := by decide +kernel
theorem dX12_pairs_46 : decode cX12_pairs 46 = .ok (.aload_n 0, 1) := by decide +kernel
theorem dX12_pairs_47 : decode cX12_pairs 47 = .ok (.getfield 7, 3) := by decide +kernel
theorem dX12_pairs_50 : decode cX12_pairs 50 = .ok (.iconst 3, 1) := by decide +kernel
theorem dX12_pairs_51 : decode cX12_pairs 51 = .ok (.iaload, 1) := by decide +kernel
theorem dX12_pairs_52 : decode cX12_pairs 52 = .ok (.if_icmp .ge 35, 3) := by decide +kernel
theorem dX12_pairs_55 : decode cX12_pairs 55 = .ok (.aload_n 0, 1) := by decide +kernel
theorem dX12_pairs_56 : decode cX12_pairs 56 = .ok (.getfield 50, 3) := by decide +kernel
theorem dX12_pairs_59 : decode cX12_pairs 59 = .ok (.bipush 8, 2) := by decide +kernel
theorem dX12_pairs_61 : decode cX12_pairs 61 = .ok (.iload_n 2, 1) := by decide +kernel
theorem dX12_pairs_62 : decode cX12_pairs 62 = .ok (.imul, 1) := by decide +kernel
theorem dX12_pairs_63 : decode cX12_pairs 63 = .ok (.iload_n 3, 1) := by decide +kernel
theorem dX12_pairs_64 : decode cX12_pairs 64 = .ok (.iadd, 1) := by decide +kernel
theorem dX12_pairs_65 : decode cX12_pairs 65 = .ok (.iload_n 2, 1) := by decide +kernel
theorem dX12_pairs_66 : decode cX12_pairs 66 = .ok (.iload_n 3, 1) := by decide +kernel
theorem dX12_pairs_67 : decode cX12_pairs 67 = .ok (.if_icmp .ne 7, 3) := by decide +kernel
theorem dX12_pairs_70 : decode cX12_pairs 70 = .ok (.iconst (-1), 1) := by decide +kernel
theorem dX12_pairs_71 : decode cX12_pairs 71 = .ok (.goto 9, 3) := by decide +kernel
theorem dX12_pairs_74 : decode cX12_pairs 74 = .ok (.aload_n 0, 1) := by decide +kernel
theorem dX12_pairs_75 : decode cX12_pairs 75 = .ok (.iload_n 2, 1) := by decide +kernel
theorem dX12_pairs_76 : decode cX12_pairs 76 = .ok (.iload_n 3, 1) := by decide +kernel
theorem dX12_pairs_77 : decode cX12_pairs 77 = .ok (.invokevirtual 407, 3) := by decide +kernel
theorem dX12_pairs_80 : decode cX12_pairs 80 = .ok (.iastore, 1) := by decide +kernel
theorem dX12_pairs_81 : decode cX12_pairs 81 = .ok (.iinc 3 1, 3) := by decide +kernel
theorem dX12_pairs_84 : decode cX12_pairs 84 = .ok (.goto (-39), 3) := by decide +kernel
theorem dX12_pairs_87 : decode cX12_pairs 87 = .ok (.iinc 2 1, 3) := by decide +kernel
theorem dX12_pairs_90 : decode cX12_pairs 90 = .ok (.goto (-57), 3) := by decide +kernel
theorem dX12_pairs_93 : decode cX12_pairs 93 = .ok (.aload_n 0, 1) := by decide +kernel
theorem dX12_pairs_94 : decode cX12_pairs 94 = .ok (.invokevirtual 410, 3) := by decide +kernel
theorem dX12_pairs_97 : decode cX12_pairs 97 = .ok (.aload_n 0, 1) := by decide +kernel
theorem dX12_pairs_98 : decode cX12_pairs 98 = .ok (.iconst 2, 1) := by decide +kernel
theorem dX12_pairs_99 : decode cX12_pairs 99 = .ok (.invokevirtual 250, 3) := by decide +kernel
theorem dX12_pairs_102 : decode cX12_pairs 102 = .ok (.istore_n 2, 1) := by decide +kernel
theorem dX12_pairs_103 : decode cX12_pairs 103 = .ok (.iload_n 1, 1) := by decide +kernel
theorem dX12_pairs_104 : decode cX12_pairs 104 = .ok (.iconst (-1), 1) := by decide +kernel
theorem dX12_pairs_105 : decode cX12_pairs 105 = .ok (.if_icmp .ne 10, 3) := by decide +kernel
theorem dX12_pairs_108 : decode cX12_pairs 108 = .ok (.aload_n 0, 1) := by decide +kernel
theorem dX12_pairs_109 : decode cX12_pairs 109 = .ok (.getfield 47, 3) := by decide +kernel
theorem dX12_pairs_112 : decode cX12_pairs 112 = .ok (.iload_n 2, 1) := by decide +kernel
theorem dX12_pairs_113 : decode cX12_pairs 113 = .ok (.iaload, 1) := by decide +kernel
theorem dX12_pairs_114 : decode cX12_pairs 114 = .ok (.ireturn, 1) := by decide +kernel
theorem dX12_pairs_115 : decode cX12_pairs 115 = .ok (.iload_n 2, 1) := by decide +kernel
theorem dX12_pairs_116 : decode cX12_pairs 116 = .ok (.ifCond .eq 163, 3) := by decide +kernel
theorem dX12_pairs_119 : decode cX12_pairs 119 = .ok (.iload_n 2, 1) := by decide +kernel
theorem dX12_pairs_120 : decode cX12_pairs 120 = .ok (.invokestatic 374, 3) := by decide +kernel
theorem dX12_pairs_123 : decode cX12_pairs 123 = .ok (.istore_n 3, 1) := by decide +kernel
theorem dX12_pairs_124 : decode cX12_pairs 124 = .ok (.iload_n 2, 1) := by decide +kernel
theorem dX12_pairs_125 : decode cX12_pairs 125 = .ok (.iconst 1, 1) := by decide +kernel
theorem dX12_pairs_126 : decode cX12_pairs 126 = .ok (.iload_n 3, 1) := by decide +kernel
theorem dX12_pairs_127 : decode cX12_pairs 127 = .ok (.ishl, 1) := by decide +kernel
theorem dX12_pairs_128 : decode cX12_pairs 128 = .ok (.iconst (-1), 1) := by decide +kernel
theorem dX12_pairs_129 : decode cX12_pairs 129 = .ok (.ixor, 1) := by decide +kernel
theorem dX12_pairs_130 : decode cX12_pairs 130 = .ok (.iand, 1) := by decide +kernel
theorem dX12_pairs_131 : decode cX12_pairs 131 = .ok (.istore 4, 2) := by decide +kernel
theorem dX12_pairs_133 : decode cX12_pairs 133 = .ok (.iconst (-1), 1) := by decide +kernel
theorem dX12_pairs_134 : decode cX12_pairs 134 = .ok (.istore 5, 2) := by decide +kernel
theorem dX12_pairs_136 : decode cX12_pairs 136 = .ok (.aload_n 0, 1) := by decide +kernel
theorem dX12_pairs_137 : decode cX12_pairs 137 = .ok (.getfield 7, 3) := by decide +kernel
theorem dX12_pairs_140 : decode cX12_pairs 140 = .ok (.iconst 3, 1) := by decide +kernel
theorem dX12_pairs_141 : decode cX12_pairs 141 = .ok (.iaload, 1) := by decide +kernel
theorem dX12_pairs_142 : decode cX12_pairs 142 = .ok (.iconst 1, 1) := by decide +kernel
theorem dX12_pairs_143 : decode cX12_pairs 143 = .ok (.isub, 1) := by decide +kernel
theorem dX12_pairs_144 : decode cX12_pairs 144 = .ok (.istore 6, 2) := by decide +kernel
theorem dX12_pairs_146 : decode cX12_pairs 146 = .ok (.iload 6, 2) := by decide +kernel
theorem dX12_pairs_148 : decode cX12_pairs 148 = .ok (.iload_n 3, 1) := by decide +kernel
theorem dX12_pairs_149 : decode cX12_pairs 149 = .ok (.if_icmp .le 90, 3) := by decide +kernel
theorem dX12_pairs_152 : decode cX12_pairs 152 = .ok (.aload_n 0, 1) := by decide +kernel
theorem dX12_pairs_153 : decode cX12_pairs 153 = .ok (.getfield 47, 3) := by decide +kernel
theorem dX12_pairs_156 : decode cX12_pairs 156 = .ok (.iload 4, 2) := by decide +kernel
theorem dX12_pairs_158 : decode cX12_pairs 158 = .ok (.iaload, 1) := by decide +kernel
theorem dX12_pairs_159 : decode cX12_pairs 159 = .ok (.aload_n 0, 1) := by decide +kernel
theorem dX12_pairs_160 : decode cX12_pairs 160 = .ok (.getfield 47, 3) := by decide +kernel
theorem dX12_pairs_163 : decode cX12_pairs 163 = .ok (.iload_n 2, 1) := by decide +kernel
theorem dX12_pairs_164 : decode cX12_pairs 164 = .ok (.iaload, 1) := by decide +kernel
theorem dX12_pairs_165 : decode cX12_pairs 165 = .ok (.if_icmp .eq 74, 3) := by decide +kernel
theorem dX12_pairs_168 : decode cX12_pairs 168 = .ok (.iload 4, 2) := by decide +kernel
theorem dX12_pairs_170 : decode cX12_pairs 170 = .ok (.iload 6, 2) := by decide +kernel
theorem dX12_pairs_172 : decode cX12_pairs 172 = .ok (.invokestatic 274, 3) := by decide +kernel
theorem dX12_pairs_175 : decode cX12_pairs 175 = .ok (.ifCond .eq 58, 3) := by decide +kernel
theorem dX12_pairs_178 : decode cX12_pairs 178 = .ok (.aload_n 0, 1) := by decide +kernel
theorem dX12_pairs_179 : decode cX12_pairs 179 = .ok (.getfield 50, 3) := by decide +kernel
theorem dX12_pairs_182 : decode cX12_pairs 182 = .ok (.bipush 8, 2) := by decide +kernel
theorem dX12_pairs_184 : decode cX12_pairs 184 = .ok (.iload_n 3, 1) := by decide +kernel
theorem dX12_pairs_185 : decode cX12_pairs 185 = .ok (.imul, 1) := by decide +kernel
theorem dX12_pairs_186 : decode cX12_pairs 186 = .ok (.iload 6, 2) := by decide +kernel
theorem dX12_pairs_188 : decode cX12_pairs 188 = .ok (.iadd, 1) := by decide +kernel
theorem dX12_pairs_189 : decode cX12_pairs 189 = .ok (.iaload, 1) := by decide +kernel
theorem dX12_pairs_190 : decode cX12_pairs 190 = .ok (.ifCond .le 43, 3) := by decide +kernel
theorem dX12_pairs_193 : decode cX12_pairs 193 = .ok (.aload_n 0, 1) := by decide +kernel
theorem dX12_pairs_194 : decode cX12_pairs 194 = .ok (.getfield 50, 3) := by decide +kernel
theorem dX12_pairs_197 : decode cX12_pairs 197 = .ok (.bipush 8, 2) := by decide +kernel
theorem dX12_pairs_199 : decode cX12_pairs 199 = .ok (.iload_n 3, 1) := by decide +kernel
theorem dX12_pairs_200 : decode cX12_pairs 200 = .ok (.imul, 1) := by decide +kernel
theorem dX12_pairs_201 : decode cX12_pairs 201 = .ok (.iload 6, 2) := by decide +kernel
theorem dX12_pairs_203 : decode cX12_pairs 203 = .ok (.iadd, 1) := by decide +kernel
theorem dX12_pairs_204 : decode cX12_pairs 204 = .ok (.iaload, 1) := by decide +kernel
theorem dX12_pairs_205 : decode cX12_pairs 205 = .ok (.aload_n 0, 1) := by decide +kernel
theorem dX12_pairs_206 : decode cX12_pairs 206 = .ok (.getfield 47, 3) := by decide +kernel
theorem dX12_pairs_209 : decode cX12_pairs 209 = .ok (.iload 4, 2) := by decide +kernel
theorem dX12_pairs_211 : decode cX12_pairs 211 = .ok (.iconst 1, 1) := by decide +kernel
theorem dX12_pairs_212 : decode cX12_pairs 212 = .ok (.iload 6, 2) := by decide +kernel
theorem dX12_pairs_214 : decode cX12_pairs 214 = .ok (.ishl, 1) := by decide +kernel
theorem dX12_pairs_215 : decode cX12_pairs 215 = .ok (.iconst (-1), 1) := by decide +kernel
theorem dX12_pairs_216 : decode cX12_pairs 216 = .ok (.ixor, 1) := by decide +kernel
theorem dX12_pairs_217 : decode cX12_pairs 217 = .ok (.iand, 1) := by decide +kernel
theorem dX12_pairs_218 : decode cX12_pairs 218 = .ok (.iaload, 1) := by decide +kernel
theorem dX12_pairs_219 : decode cX12_pairs 219 = .ok (.iadd, 1) := by decide +kernel
theorem dX12_pairs_220 : decode cX12_pairs 220 = .ok (.aload_n 0, 1) := by decide +kernel
theorem dX12_pairs_221 : decode cX12_pairs 221 = .ok (.getfield 47, 3) := by decide +kernel
theorem dX12_pairs_224 : decode cX12_pairs 224 = .ok (.iload_n 2, 1) := by decide +kernel
theorem dX12_pairs_225 : decode cX12_pairs 225 = .ok (.iaload, 1) := by decide +kernel
theorem dX12_pairs_226 : decode cX12_pairs 226 = .ok (.if_icmp .ne 7, 3) := by decide +kernel
theorem dX12_pairs_229 : decode cX12_pairs 229 = .ok (.iload 6, 2) := by decide +kernel
theorem dX12_pairs_231 : decode cX12_pairs 231 = .ok (.istore 5, 2) := by decide +kernel
theorem dX12_pairs_233 : decode cX12_pairs 233 = .ok (.iinc 6 (-1), 3) := by decide +kernel
theorem dX12_pairs_236 : decode cX12_pairs 236 = .ok (.goto (-90), 3) := by decide +kernel
theorem dX12_pairs_239 : decode cX12_pairs 239 = .ok (.iload_n 3, 1) := by decide +kernel
theorem dX12_pairs_240 : decode cX12_pairs 240 = .ok (.iload_n 1, 1) := by decide +kernel
theorem dX12_pairs_241 : decode cX12_pairs 241 = .ok (.if_icmp .ne 6, 3) := by decide +kernel
theorem dX12_pairs_244 : decode cX12_pairs 244 = .ok (.iload 5, 2) := by decide +kernel
theorem dX12_pairs_246 : decode cX12_pairs 246 = .ok (.ireturn, 1) := by decide +kernel
theorem dX12_pairs_247 : decode cX12_pairs 247 = .ok (.iload 5, 2) := by decide +kernel
theorem dX12_pairs_249 : decode cX12_pairs 249 = .ok (.iload_n 1, 1) := by decide +kernel
theorem dX12_pairs_250 : decode cX12_pairs 250 = .ok (.if_icmp .ne 5, 3) := by decide +kernel
theorem dX12_pairs_253 : decode cX12_pairs 253 = .ok (.iload_n 3, 1) := by decide +kernel
theorem dX12_pairs_254 : decode cX12_pairs 254 = .ok (.ireturn, 1) := by decide +kernel
theorem dX12_pairs_255 : decode cX12_pairs 255 = .ok (.iload 5, 2) := by decide +kernel
theorem dX12_pairs_257 : decode cX12_pairs 257 = .ok (.iconst (-1), 1) := by decide +kernel
theorem dX12_pairs_258 : decode cX12_pairs 258 = .ok (.if_icmp .ne 8, 3) := by decide +kernel
theorem dX12_pairs_261 : decode cX12_pairs 261 = .ok (.iload 4, 2) := by decide +kernel
theorem dX12_pairs_263 : decode cX12_pairs 263 = .ok (.goto 12, 3) := by decide +kernel
theorem dX12_pairs_266 : decode cX12_pairs 266 = .ok (.iload 4, 2) := by decide +kernel
theorem dX12_pairs_268 : decode cX12_pairs 268 = .ok (.iconst 1, 1) := by decide +kernel
theorem dX12_pairs_269 : decode cX12_pairs 269 = .ok (.iload 5, 2) := by decide +kernel
theorem dX12_pairs_271 : decode cX12_pairs 271 = .ok (.ishl, 1) := by decide +kernel
theorem dX12_pairs_272 : decode cX12_pairs 272 = .ok (.iconst (-1), 1) := by decide +kernel
theorem dX12_pairs_273 : decode cX12_pairs 273 = .ok (.ixor, 1) := by decide +kernel
theorem dX12_pairs_274 : decode cX12_pairs 274 = .ok (.iand, 1) := by decide +kernel
theorem dX12_pairs_275 : decode cX12_pairs 275 = .ok (.istore_n 2, 1) := by decide +kernel
theorem dX12_pairs_276 : decode cX12_pairs 276 = .ok (.goto (-161), 3) := by decide +kernel
theorem dX12_pairs_279 : decode cX12_pairs 279 = .ok (.iconst (-1), 1) := by decide +kernel
theorem dX12_pairs_280 : decode cX12_pairs 280 = .ok (.ireturn, 1) := by decide +kernel
set_option maxRecDepth 20000 in
theorem ggX12_share_X12_isNode : GoodIn wsX12_share wsX12_isNode := goodIn_r _ [8, 3, 9, 10, 7, 11, 16, 17, 18, 19, 20, 21, 22, 23, 24, 25, 26, 27, 28, 29, 30, 31, 32, 33, 34, 35, 36, 37, 38, 39, 40, 41, 42, 43, 44, 45] (by decide +kernel) (by decide +kernel)
set_option maxRecDepth 20000 in
theorem gX12_share_X12_isNode : GoodIn wsX12_share (wsV RX12 347 RX12 yX12_isNode wsX12_isNode) := goodIn_app (goodIn_of _ (by decide +kernel)) ggX12_share_X12_isNode
set_option maxRecDepth 20000 in
theorem ggX12_share_X12_isIn : GoodIn wsX12_share wsX12_isIn := goodIn_r _ [11] (by decide +kernel) (by decide +kernel)
set_option maxRecDepth 20000 in
theorem gX12_share_X12_isIn : GoodIn wsX12_share (va_wsS RX12 62 yX12_isIn wsX12_isIn) := goodIn_app (goodIn_of _ (by decide +kernel)) ggX12_share_X12_isIn
set_option maxRecDepth 20000 in
theorem ggX12_share_X12_of : GoodIn wsX12_share wsX12_of := goodIn_r _ [15, 3, 16, 17, 18, 19, 20, 21, 22, 23, 24, 25, 26, 27, 28, 29, 30, 31, 32, 33, 34, 35, 36, 37, 38, 39, 40, 41, 42, 43, 44, 45] (by decide +kernel) (by decide +kernel)
set_option maxRecDepth 20000 in
theorem gX12_share_X12_of : GoodIn wsX12_share (wsV RX12 66 RX12 yX12_of wsX12_of) := goodIn_app (goodIn_of _ (by decide +kernel)) ggX12_share_X12_of
theorem dX12_share_0 : decode cX12_share 0 = .ok (.aload_n 0, 1) := by decide +kernel
theorem dX12_share_1 : decode cX12_share 1 = .ok (.aload_n 0, 1) := by decide +kernel
theorem dX12_share_2 : decode cX12_share 2 = .ok (.iload_n 1, 1) := by decide +kernel
theorem dX12_share_3 : decode cX12_share 3 = .ok (.invokevirtual 347, 3) := by decide +kernel
theorem dX12_share_6 : decode cX12_share 6 = .ok (.ifCond .ne 7, 3) := by decide +kernel
theorem dX12_share_9 : decode cX12_share 9 = .ok (.iconst 1, 1) := by decide +kernel
theorem dX12_share_10 : decode cX12_share 10 = .ok (.goto 18, 3) := by decide +kernel
theorem dX12_share_13 : decode cX12_share 13 = .ok (.iload_n 2, 1) := by decide +kernel
theorem dX12_share_14 : decode cX12_share 14 = .ok (.iconst 0, 1) := by decide +kernel
theorem dX12_share_15 : decode cX12_share 15 = .ok (.bipush 99, 2) := by decide +kernel
theorem dX12_share_17 : decode cX12_share 17 = .ok (.invokestatic 62, 3) := by decide +kernel
theorem dX12_share_20 : decode cX12_share 20 = .ok (.ifCond .ne 7, 3) := by decide +kernel
theorem dX12_share_23 : decode cX12_share 23 = .ok (.iconst 2, 1) := by decide +kernel
theorem dX12_share_24 : decode cX12_share 24 = .ok (.goto 4, 3) := by decide +kernel
theorem dX12_share_27 : decode cX12_share 27 = .ok (.iconst 0, 1) := by decide +kernel
theorem dX12_share_28 : decode cX12_share 28 = .ok (.putfield 59, 3) := by decide +kernel
theorem dX12_share_31 : decode cX12_share 31 = .ok (.aload_n 0, 1) := by decide +kernel
theorem dX12_share_32 : decode cX12_share 32 = .ok (.getfield 59, 3) := by decide +kernel
theorem dX12_share_35 : decode cX12_share 35 = .ok (.ifCond .le 5, 3) := by decide +kernel
theorem dX12_share_38 : decode cX12_share 38 = .ok (.iconst 0, 1) := by decide +kernel
theorem dX12_share_39 : decode cX12_share 39 = .ok (.ireturn, 1) := by decide +kernel
theorem dX12_share_40 : decode cX12_share 40 = .ok (.iconst 0, 1) := by decide +kernel
theorem dX12_share_41 : decode cX12_share 41 = .ok (.istore_n 3, 1) := by decide +kernel
theorem dX12_share_42 : decode cX12_share 42 = .ok (.iload_n 3, 1) := by decide +kernel
theorem dX12_share_43 : decode cX12_share 43 = .ok (.bipush 8, 2) := by decide +kernel
theorem dX12_share_45 : decode cX12_share 45 = .ok (.if_icmp .ge 16, 3) := by decide +kernel
theorem dX12_share_48 : decode cX12_share 48 = .ok (.aload_n 0, 1) := by decide +kernel
theorem dX12_share_49 : decode cX12_share 49 = .ok (.getfield 53, 3) := by decide +kernel
theorem dX12_share_52 : decode cX12_share 52 = .ok (.iload_n 3, 1) := by decide +kernel
theorem dX12_share_53 : decode cX12_share 53 = .ok (.iconst 0, 1) := by decide +kernel
theorem dX12_share_54 : decode cX12_share 54 = .ok (.iastore, 1) := by decide +kernel
theorem dX12_share_55 : decode cX12_share 55 = .ok (.iinc 3 1, 3) := by decide +kernel
theorem dX12_share_58 : decode cX12_share 58 = .ok (.goto (-16), 3) := by decide +kernel
theorem dX12_share_61 : decode cX12_share 61 = .ok (.iconst 0, 1) := by decide +kernel
theorem dX12_share_62 : decode cX12_share 62 = .ok (.istore_n 3, 1) := by decide +kernel
theorem dX12_share_63 : decode cX12_share 63 = .ok (.iload_n 3, 1) := by decide +kernel
theorem dX12_share_64 : decode cX12_share 64 = .ok (.iload_n 2, 1) := by decide +kernel
theorem dX12_share_65 : decode cX12_share 65 = .ok (.if_icmp .ge 92, 3) := by decide +kernel
theorem dX12_share_68 : decode cX12_share 68 = .ok (.iconst 0, 1) := by decide +kernel
theorem dX12_share_69 : decode cX12_share 69 = .ok (.istore 4, 2) := by decide +kernel
theorem dX12_share_71 : decode cX12_share 71 = .ok (.iconst 1, 1) := by decide +kernel
theorem dX12_share_72 : decode cX12_share 72 = .ok (.istore 5, 2) := by decide +kernel
theorem dX12_share_74 : decode cX12_share 74 = .ok (.iload 5, 2) := by decide +kernel
theorem dX12_share_76 : decode cX12_share 76 = .ok (.aload_n 0, 1) := by decide +kernel
theorem dX12_share_77 : decode cX12_share 77 = .ok (.getfield 7, 3) := by decide +kernel
theorem dX12_share_80 : decode cX12_share 80 = .ok (.iconst 3, 1) := by decide +kernel
theorem dX12_share_81 : decode cX12_share 81 = .ok (.iaload, 1) := by decide +kernel
theorem dX12_share_82 : decode cX12_share 82 = .ok (.if_icmp .ge 58, 3) := by decide +kernel
theorem dX12_share_85 : decode cX12_share 85 = .ok (.bipush 100, 2) := by decide +kernel
theorem dX12_share_87 : decode cX12_share 87 = .ok (.aload_n 0, 1) := by decide +kernel
theorem dX12_share_88 : decode cX12_share 88 = .ok (.iload 5, 2) := by decide +kernel
theorem dX12_share_90 : decode cX12_share 90 = .ok (.bipush 8, 2) := by decide +kernel
theorem dX12_share_92 : decode cX12_share 92 = .ok (.invokevirtual 66, 3) := by decide +kernel
theorem dX12_share_95 : decode cX12_share 95 = .ok (.isub, 1) := by decide +kernel
theorem dX12_share_96 : decode cX12_share 96 = .ok (.aload_n 0, 1) := by decide +kernel
theorem dX12_share_97 : decode cX12_share 97 = .ok (.getfield 53, 3) := by decide +kernel
theorem dX12_share_100 : decode cX12_share 100 = .ok (.iload 5, 2) := by decide +kernel
theorem dX12_share_102 : decode cX12_share 102 = .ok (.iaload, 1) := by decide +kernel
theorem dX12_share_103 : decode cX12_share 103 = .ok (.iconst 1, 1) := by decide +kernel
theorem dX12_share_104 : decode cX12_share 104 = .ok (.iadd, 1) := by decide +kernel
theorem dX12_share_105 : decode cX12_share 105 = .ok (.idiv, 1) := by decide +kernel
theorem dX12_share_106 : decode cX12_share 106 = .ok (.bipush 100, 2) := by decide +kernel
theorem dX12_share_108 : decode cX12_share 108 = .ok (.aload_n 0, 1) := by decide +kernel
theorem dX12_share_109 : decode cX12_share 109 = .ok (.iload 4, 2) := by decide +kernel
theorem dX12_share_111 : decode cX12_share 111 = .ok (.bipush 8, 2) := by decide +kernel
theorem dX12_share_113 : decode cX12_share 113 = .ok (.invokevirtual 66, 3) := by decide +kernel
theorem dX12_share_116 : decode cX12_share 116 = .ok (.isub, 1) := by decide +kernel
theorem dX12_share_117 : decode cX12_share 117 = .ok (.aload_n 0, 1) := by decide +kernel
theorem dX12_share_118 : decode cX12_share 118 = .ok (.getfield 53, 3) := by decide +kernel
theorem dX12_share_121 : decode cX12_share 121 = .ok (.iload 4, 2) := by decide +kernel
theorem dX12_share_123 : decode cX12_share 123 = .ok (.iaload, 1) := by decide +kernel
theorem dX12_share_124 : decode cX12_share 124 = .ok (.iconst 1, 1) := by decide +kernel
theorem dX12_share_125 : decode cX12_share 125 = .ok (.iadd, 1) := by decide +kernel
theorem dX12_share_126 : decode cX12_share 126 = .ok (.idiv, 1) := by decide +kernel
theorem dX12_share_127 : decode cX12_share 127 = .ok (.if_icmp .le 7, 3) := by decide +kernel
theorem dX12_share_130 : decode cX12_share 130 = .ok (.iload 5, 2) := by decide +kernel
theorem dX12_share_132 : decode cX12_share 132 = .ok (.istore 4, 2) := by decide +kernel
theorem dX12_share_134 : decode cX12_share 134 = .ok (.iinc 5 1, 3) := by decide +kernel
theorem dX12_share_137 : decode cX12_share 137 = .ok (.goto (-63), 3) := by decide +kernel
theorem dX12_share_140 : decode cX12_share 140 = .ok (.aload_n 0, 1) := by decide +kernel
theorem dX12_share_141 : decode cX12_share 141 = .ok (.getfield 53, 3) := by decide +kernel
theorem dX12_share_144 : decode cX12_share 144 = .ok (.iload 4, 2) := by decide +kernel
theorem dX12_share_146 : decode cX12_share 146 = .ok (.dup2, 1) := by decide +kernel
theorem dX12_share_147 : decode cX12_share 147 = .ok (.iaload, 1) := by decide +kernel
theorem dX12_share_148 : decode cX12_share 148 = .ok (.iconst 1, 1) := by decide +kernel
theorem dX12_share_149 : decode cX12_share 149 = .ok (.iadd, 1) := by decide +kernel
theorem dX12_share_150 : decode cX12_share 150 = .ok (.iastore, 1) := by decide +kernel
theorem dX12_share_151 : decode cX12_share 151 = .ok (.iinc 3 1, 3) := by decide +kernel
theorem dX12_share_154 : decode cX12_share 154 = .ok (.goto (-91), 3) := by decide +kernel
theorem dX12_share_157 : decode cX12_share 157 = .ok (.aload_n 0, 1) := by decide +kernel
theorem dX12_share_158 : decode cX12_share 158 = .ok (.getfield 53, 3) := by decide +kernel
theorem dX12_share_161 : decode cX12_share 161 = .ok (.iload_n 1, 1) := by decide +kernel
theorem dX12_share_162 : decode cX12_share 162 = .ok (.iaload, 1) := by decide +kernel
theorem dX12_share_163 : decode cX12_share 163 = .ok (.ireturn, 1) := by decide +kernel
set_option maxRecDepth 20000 in
theorem ggX12_guardHas_X12_of : GoodIn wsX12_guardHas wsX12_of := goodIn_r _ [5, 6, 7, 8, 9, 10, 11, 12, 13, 14, 15, 16, 17, 18, 19, 20, 21, 22, 23, 24, 25, 26, 27, 28, 29, 30, 31, 32, 33, 34, 35, 36] (by decide +kernel) (by decide +kernel)
set_option maxRecDepth 20000 in
theorem gX12_guardHas_X12_of : GoodIn wsX12_guardHas (wsV RX12 66 RX12 yX12_of wsX12_of) := goodIn_app (goodIn_of _ (by decide +kernel)) ggX12_guardHas_X12_of
theorem dX12_guardHas_0 : decode cX12_guardHas 0 = .ok (.iload_n 2, 1) := by decide +kernel
theorem dX12_guardHas_1 : decode cX12_guardHas 1 = .ok (.ifCond .ne 26, 3) := by decide +kernel
theorem dX12_guardHas_4 : decode cX12_guardHas 4 = .ok (.iload_n 3, 1) := by decide +kernel
theorem dX12_guardHas_5 : decode cX12_guardHas 5 = .ok (.ifCond .ne 13, 3) := by decide +kernel
theorem dX12_guardHas_8 : decode cX12_guardHas 8 = .ok (.aload_n 0, 1) := by decide +kernel
theorem dX12_guardHas_9 : decode cX12_guardHas 9 = .ok (.iload_n 1, 1) := by decide +kernel
theorem dX12_guardHas_10 : decode cX12_guardHas 10 = .ok (.bipush 6, 2) := by decide +kernel
theorem dX12_guardHas_12 : decode cX12_guardHas 12 = .ok (.invokevirtual 66, 3) := by decide +kernel
theorem dX12_guardHas_15 : decode cX12_guardHas 15 = .ok (.goto 11, 3) := by decide +kernel
theorem dX12_guardHas_18 : decode cX12_guardHas 18 = .ok (.aload_n 0, 1) := by decide +kernel
theorem dX12_guardHas_19 : decode cX12_guardHas 19 = .ok (.iload_n 1, 1) := by decide +kernel
theorem dX12_guardHas_20 : decode cX12_guardHas 20 = .ok (.bipush 6, 2) := by decide +kernel
theorem dX12_guardHas_22 : decode cX12_guardHas 22 = .ok (.invokevirtual 66, 3) := by decide +kernel
theorem dX12_guardHas_25 : decode cX12_guardHas 25 = .ok (.ineg, 1) := by decide +kernel
theorem dX12_guardHas_26 : decode cX12_guardHas 26 = .ok (.ireturn, 1) := by decide +kernel
theorem dX12_guardHas_27 : decode cX12_guardHas 27 = .ok (.iload_n 3, 1) := by decide +kernel
theorem dX12_guardHas_28 : decode cX12_guardHas 28 = .ok (.ifCond .ne 16, 3) := by decide +kernel
theorem dX12_guardHas_31 : decode cX12_guardHas 31 = .ok (.aload_n 0, 1) := by decide +kernel
theorem dX12_guardHas_32 : decode cX12_guardHas 32 = .ok (.iload_n 1, 1) := by decide +kernel
theorem dX12_guardHas_33 : decode cX12_guardHas 33 = .ok (.bipush 7, 2) := by decide +kernel
theorem dX12_guardHas_35 : decode cX12_guardHas 35 = .ok (.invokevirtual 66, 3) := by decide +kernel
theorem dX12_guardHas_38 : decode cX12_guardHas 38 = .ok (.ineg, 1) := by decide +kernel
theorem dX12_guardHas_39 : decode cX12_guardHas 39 = .ok (.iconst 1, 1) := by decide +kernel
theorem dX12_guardHas_40 : decode cX12_guardHas 40 = .ok (.isub, 1) := by decide +kernel
theorem dX12_guardHas_41 : decode cX12_guardHas 41 = .ok (.goto 4, 3) := by decide +kernel
theorem dX12_guardHas_44 : decode cX12_guardHas 44 = .ok (.iconst 2, 1) := by decide +kernel
theorem dX12_guardHas_45 : decode cX12_guardHas 45 = .ok (.ireturn, 1) := by decide +kernel
theorem dX12_talkHas_0 : decode cX12_talkHas 0 = .ok (.iload_n 0, 1) := by decide +kernel
theorem dX12_talkHas_1 : decode cX12_talkHas 1 = .ok (.ifCond .ne 13, 3) := by decide +kernel
theorem dX12_talkHas_4 : decode cX12_talkHas 4 = .ok (.iload_n 1, 1) := by decide +kernel
theorem dX12_talkHas_5 : decode cX12_talkHas 5 = .ok (.ifCond .ne 7, 3) := by decide +kernel
theorem dX12_talkHas_8 : decode cX12_talkHas 8 = .ok (.iconst (-1), 1) := by decide +kernel
theorem dX12_talkHas_9 : decode cX12_talkHas 9 = .ok (.goto 4, 3) := by decide +kernel
theorem dX12_talkHas_12 : decode cX12_talkHas 12 = .ok (.iconst 0, 1) := by decide +kernel
theorem dX12_talkHas_13 : decode cX12_talkHas 13 = .ok (.ireturn, 1) := by decide +kernel
theorem dX12_talkHas_14 : decode cX12_talkHas 14 = .ok (.iload_n 1, 1) := by decide +kernel
theorem dX12_talkHas_15 : decode cX12_talkHas 15 = .ok (.ifCond .ne 7, 3) := by decide +kernel
theorem dX12_talkHas_18 : decode cX12_talkHas 18 = .ok (.iconst 2, 1) := by decide +kernel
theorem dX12_talkHas_19 : decode cX12_talkHas 19 = .ok (.goto 4, 3) := by decide +kernel
theorem dX12_talkHas_22 : decode cX12_talkHas 22 = .ok (.iconst 1, 1) := by decide +kernel
theorem dX12_talkHas_23 : decode cX12_talkHas 23 = .ok (.ireturn, 1) := by decide +kernel
set_option maxRecDepth 20000 in
theorem ggX12_rests_X12_isNode : GoodIn wsX12_rests wsX12_isNode := goodIn_r _ [6, 7, 8, 9, 5, 10, 22, 23, 24, 25, 26, 27, 28, 29, 30, 31, 32, 33, 34, 35, 36, 37, 38, 39, 40, 41, 42, 43, 44, 45, 46, 47, 48, 49, 50, 51] (by decide +kernel) (by decide +kernel)
set_option maxRecDepth 20000 in
theorem gX12_rests_X12_isNode : GoodIn wsX12_rests (wsV RX12 347 RX12 yX12_isNode wsX12_isNode) := goodIn_app (goodIn_of _ (by decide +kernel)) ggX12_rests_X12_isNode
set_option maxRecDepth 20000 in
theorem ggX12_rests_X12_guardHas : GoodIn wsX12_rests wsX12_guardHas := goodIn_r _ [14, 15, 16, 17, 5, 18, 7, 22, 23, 24, 25, 26, 27, 28, 29, 30, 31, 32, 33, 34, 35, 36, 37, 38, 39, 40, 41, 42, 43, 44, 45, 46, 47, 48, 49, 50, 51] (by decide +kernel) (by decide +kernel)
set_option maxRecDepth 20000 in
theorem gX12_rests_X12_guardHas : GoodIn wsX12_rests (wsV RX12 413 RX12 yX12_guardHas wsX12_guardHas) := goodIn_app (goodIn_of _ (by decide +kernel)) ggX12_rests_X12_guardHas
set_option maxRecDepth 20000 in
theorem ggX12_rests_X12_talkHas : GoodIn wsX12_rests wsX12_talkHas := goodIn_r _ [21] (by decide +kernel) (by decide +kernel)
set_option maxRecDepth 20000 in
theorem gX12_rests_X12_talkHas : GoodIn wsX12_rests (va_wsS RX12 417 yX12_talkHas wsX12_talkHas) := goodIn_app (goodIn_of _ (by decide +kernel)) ggX12_rests_X12_talkHas
theorem dX12_rests_0 : decode cX12_rests 0 = .ok (.aload_n 0, 1) := by decide +kernel
theorem dX12_rests_1 : decode cX12_rests 1 = .ok (.aload_n 0, 1) := by decide +kernel
theorem dX12_rests_2 : decode cX12_rests 2 = .ok (.iload_n 1, 1) := by decide +kernel
theorem dX12_rests_3 : decode cX12_rests 3 = .ok (.invokevirtual 347, 3) := by decide +kernel
theorem dX12_rests_6 : decode cX12_rests 6 = .ok (.ifCond .ne 7, 3) := by decide +kernel
theorem dX12_rests_9 : decode cX12_rests 9 = .ok (.iconst 1, 1) := by decide +kernel
theorem dX12_rests_10 : decode cX12_rests 10 = .ok (.goto 4, 3) := by decide +kernel
theorem dX12_rests_13 : decode cX12_rests 13 = .ok (.iconst 0, 1) := by decide +kernel
theorem dX12_rests_14 : decode cX12_rests 14 = .ok (.putfield 59, 3) := by decide +kernel
theorem dX12_rests_17 : decode cX12_rests 17 = .ok (.aload_n 0, 1) := by decide +kernel
theorem dX12_rests_18 : decode cX12_rests 18 = .ok (.getfield 59, 3) := by decide +kernel
theorem dX12_rests_21 : decode cX12_rests 21 = .ok (.ifCond .le 5, 3) := by decide +kernel
theorem dX12_rests_24 : decode cX12_rests 24 = .ok (.iconst 0, 1) := by decide +kernel
theorem dX12_rests_25 : decode cX12_rests 25 = .ok (.ireturn, 1) := by decide +kernel
theorem dX12_rests_26 : decode cX12_rests 26 = .ok (.iconst 0, 1) := by decide +kernel
theorem dX12_rests_27 : decode cX12_rests 27 = .ok (.istore_n 2, 1) := by decide +kernel
theorem dX12_rests_28 : decode cX12_rests 28 = .ok (.iconst 0, 1) := by decide +kernel
theorem dX12_rests_29 : decode cX12_rests 29 = .ok (.istore_n 3, 1) := by decide +kernel
theorem dX12_rests_30 : decode cX12_rests 30 = .ok (.iload_n 3, 1) := by decide +kernel
theorem dX12_rests_31 : decode cX12_rests 31 = .ok (.iconst 4, 1) := by decide +kernel
theorem dX12_rests_32 : decode cX12_rests 32 = .ok (.if_icmp .ge 67, 3) := by decide +kernel
theorem dX12_rests_35 : decode cX12_rests 35 = .ok (.iload_n 3, 1) := by decide +kernel
theorem dX12_rests_36 : decode cX12_rests 36 = .ok (.iconst 2, 1) := by decide +kernel
theorem dX12_rests_37 : decode cX12_rests 37 = .ok (.idiv, 1) := by decide +kernel
theorem dX12_rests_38 : decode cX12_rests 38 = .ok (.istore 4, 2) := by decide +kernel
theorem dX12_rests_40 : decode cX12_rests 40 = .ok (.iload_n 3, 1) := by decide +kernel
theorem dX12_rests_41 : decode cX12_rests 41 = .ok (.iconst 2, 1) := by decide +kernel
theorem dX12_rests_42 : decode cX12_rests 42 = .ok (.irem, 1) := by decide +kernel
theorem dX12_rests_43 : decode cX12_rests 43 = .ok (.istore 5, 2) := by decide +kernel
theorem dX12_rests_45 : decode cX12_rests 45 = .ok (.aload_n 0, 1) := by decide +kernel
theorem dX12_rests_46 : decode cX12_rests 46 = .ok (.iload_n 1, 1) := by decide +kernel
theorem dX12_rests_47 : decode cX12_rests 47 = .ok (.iconst 1, 1) := by decide +kernel
theorem dX12_rests_48 : decode cX12_rests 48 = .ok (.iload 4, 2) := by decide +kernel
theorem dX12_rests_50 : decode cX12_rests 50 = .ok (.isub, 1) := by decide +kernel
theorem dX12_rests_51 : decode cX12_rests 51 = .ok (.iload 5, 2) := by decide +kernel
theorem dX12_rests_53 : decode cX12_rests 53 = .ok (.invokevirtual 413, 3) := by decide +kernel
theorem dX12_rests_56 : decode cX12_rests 56 = .ok (.aload_n 0, 1) := by decide +kernel
theorem dX12_rests_57 : decode cX12_rests 57 = .ok (.iload_n 1, 1) := by decide +kernel
theorem dX12_rests_58 : decode cX12_rests 58 = .ok (.iload 4, 2) := by decide +kernel
theorem dX12_rests_60 : decode cX12_rests 60 = .ok (.iload 5, 2) := by decide +kernel
theorem dX12_rests_62 : decode cX12_rests 62 = .ok (.invokevirtual 413, 3) := by decide +kernel
theorem dX12_rests_65 : decode cX12_rests 65 = .ok (.if_icmp .gt 28, 3) := by decide +kernel
theorem dX12_rests_68 : decode cX12_rests 68 = .ok (.iload 4, 2) := by decide +kernel
theorem dX12_rests_70 : decode cX12_rests 70 = .ok (.iconst 1, 1) := by decide +kernel
theorem dX12_rests_71 : decode cX12_rests 71 = .ok (.iload 5, 2) := by decide +kernel
theorem dX12_rests_73 : decode cX12_rests 73 = .ok (.isub, 1) := by decide +kernel
theorem dX12_rests_74 : decode cX12_rests 74 = .ok (.invokestatic 417, 3) := by decide +kernel
theorem dX12_rests_77 : decode cX12_rests 77 = .ok (.iload 4, 2) := by decide +kernel
theorem dX12_rests_79 : decode cX12_rests 79 = .ok (.iload 5, 2) := by decide +kernel
theorem dX12_rests_81 : decode cX12_rests 81 = .ok (.invokestatic 417, 3) := by decide +kernel
theorem dX12_rests_84 : decode cX12_rests 84 = .ok (.if_icmp .gt 9, 3) := by decide +kernel
theorem dX12_rests_87 : decode cX12_rests 87 = .ok (.iload_n 2, 1) := by decide +kernel
theorem dX12_rests_88 : decode cX12_rests 88 = .ok (.iconst 1, 1) := by decide +kernel
theorem dX12_rests_89 : decode cX12_rests 89 = .ok (.iload_n 3, 1) := by decide +kernel
theorem dX12_rests_90 : decode cX12_rests 90 = .ok (.ishl, 1) := by decide +kernel
theorem dX12_rests_91 : decode cX12_rests 91 = .ok (.ior, 1) := by decide +kernel
theorem dX12_rests_92 : decode cX12_rests 92 = .ok (.istore_n 2, 1) := by decide +kernel
theorem dX12_rests_93 : decode cX12_rests 93 = .ok (.iinc 3 1, 3) := by decide +kernel
theorem dX12_rests_96 : decode cX12_rests 96 = .ok (.goto (-66), 3) := by decide +kernel
theorem dX12_rests_99 : decode cX12_rests 99 = .ok (.iload_n 2, 1) := by decide +kernel
theorem dX12_rests_100 : decode cX12_rests 100 = .ok (.ireturn, 1) := by decide +kernel
set_option maxRecDepth 20000 in
theorem ggX12_odds_X12_isNode : GoodIn wsX12_odds wsX12_isNode := goodIn_r _ [9, 10, 11, 12, 8, 13, 181, 182, 183, 184, 185, 186, 187, 188, 189, 190, 191, 192, 193, 194, 195, 196, 197, 198, 199, 200, 201, 202, 203, 204, 205, 206, 207, 208, 209, 210] (by decide +kernel) (by decide +kernel)
set_option maxRecDepth 20000 in
theorem gX12_odds_X12_isNode : GoodIn wsX12_odds (wsV RX12 347 RX12 yX12_isNode wsX12_isNode) := goodIn_app (goodIn_of _ (by decide +kernel)) ggX12_odds_X12_isNode
set_option maxRecDepth 20000 in
theorem ggX12_odds_X12_isIn : GoodIn wsX12_odds wsX12_isIn := goodIn_r _ [13] (by decide +kernel) (by decide +kernel)
set_option maxRecDepth 20000 in
theorem gX12_odds_X12_isIn : GoodIn wsX12_odds (va_wsS RX12 62 yX12_isIn wsX12_isIn) := goodIn_app (goodIn_of _ (by decide +kernel)) ggX12_odds_X12_isIn
set_option maxRecDepth 20000 in
theorem ggX12_odds_X12_asks : GoodIn wsX12_odds wsX12_asks := goodIn_r _ [17, 18, 2, 19, 20, 21, 22, 23, 10, 24, 25, 26, 27, 28, 29, 8, 30, 31, 32, 33, 34, 35, 36, 37, 38, 39, 40, 41, 42, 43, 44, 45, 46, 47, 48, 49, 50, 51, 52, 53, 54, 55, 56, 57, 58, 59, 60, 61, 62, 63, 64, 65, 11, 12, 13, 66, 67, 68, 69, 70, 71, 72, 73, 74, 75, 76, 77, 78, 79, 80, 81, 82, 83, 84, 85, 86, 87, 88, 89, 90, 91, 92, 93, 94, 95, 96, 97, 98, 99, 100, 101, 102, 103, 104, 105, 106, 107, 108, 109, 110, 111, 112, 113, 114, 115, 116, 117, 118, 119, 120, 121, 122, 123, 124, 125, 126, 127, 128, 129, 130, 131, 132, 133, 134, 135, 136, 137, 138, 139, 140, 141, 142, 143, 144, 145, 146, 147, 148, 149, 150, 151, 152, 153, 154, 155, 156, 157, 158, 159, 160, 161, 162, 163, 164, 165, 166, 167, 168, 169, 170, 171, 172, 173, 174, 175, 176, 177, 181, 182, 183, 184, 185, 186, 187, 188, 189, 190, 191, 192, 193, 194, 195, 196, 197, 198, 199, 200, 201, 202, 203, 204, 205, 206, 207, 208, 209, 210] (by decide +kernel) (by decide +kernel)
set_option maxRecDepth 20000 in
theorem gX12_odds_X12_asks : GoodIn wsX12_odds (wsV RX12 253 RX12 yX12_asks wsX12_asks) := goodIn_app (goodIn_of _ (by decide +kernel)) ggX12_odds_X12_asks
set_option maxRecDepth 20000 in
theorem ggX12_odds_X12_bits : GoodIn wsX12_odds wsX12_bits := goodIn_r _ [36] (by decide +kernel) (by decide +kernel)
set_option maxRecDepth 20000 in
theorem gX12_odds_X12_bits : GoodIn wsX12_odds (va_wsS RX12 247 yX12_bits wsX12_bits) := goodIn_app (goodIn_of _ (by decide +kernel)) ggX12_odds_X12_bits
set_option maxRecDepth 20000 in
theorem ggX12_odds_X12_isOf : GoodIn wsX12_odds wsX12_isOf := goodIn_r _ [180] (by decide +kernel) (by decide +kernel)
set_option maxRecDepth 20000 in
theorem gX12_odds_X12_isOf : GoodIn wsX12_odds (va_wsS RX12 274 yX12_isOf wsX12_isOf) := goodIn_app (goodIn_of _ (by decide +kernel)) ggX12_odds_X12_isOf
theorem dX12_odds_0 : decode cX12_odds 0 = .ok (.aload_n 0, 1) := by decide +kernel
theorem dX12_odds_1 : decode cX12_odds 1 = .ok (.aload_n 0, 1) := by decide +kernel
theorem dX12_odds_2 : decode cX12_odds 2 = .ok (.iload_n 1, 1) := by decide +kernel
theorem dX12_odds_3 : decode cX12_odds 3 = .ok (.invokevirtual 347, 3) := by decide +kernel
theorem dX12_odds_6 : decode cX12_odds 6 = .ok (.ifCond .ne 7, 3) := by decide +kernel
theorem dX12_odds_9 : decode cX12_odds 9 = .ok (.iconst 1, 1) := by decide +kernel
theorem dX12_odds_10 : decode cX12_odds 10 = .ok (.goto 26, 3) := by decide +kernel
theorem dX12_odds_13 : decode cX12_odds 13 = .ok (.iload_n 2, 1) := by decide +kernel
theorem dX12_odds_14 : decode cX12_odds 14 = .ok (.iconst 0, 1) := by decide +kernel
theorem dX12_odds_15 : decode cX12_odds 15 = .ok (.iconst 5, 1) := by decide +kernel
theorem dX12_odds_16 : decode cX12_odds 16 = .ok (.invokestatic 62, 3) := by decide +kernel
theorem dX12_odds_19 : decode cX12_odds 19 = .ok (.ifCond .eq 12, 3) := by decide +kernel
theorem dX12_odds_22 : decode cX12_odds 22 = .ok (.iload_n 3, 1) := by decide +kernel
theorem dX12_odds_23 : decode cX12_odds 23 = .ok (.iconst 0, 1) := by decide +kernel
theorem dX12_odds_24 : decode cX12_odds 24 = .ok (.iconst 5, 1) := by decide +kernel
theorem dX12_odds_25 : decode cX12_odds 25 = .ok (.invokestatic 62, 3) := by decide +kernel
theorem dX12_odds_28 : decode cX12_odds 28 = .ok (.ifCond .ne 7, 3) := by decide +kernel
theorem dX12_odds_31 : decode cX12_odds 31 = .ok (.iconst 2, 1) := by decide +kernel
theorem dX12_odds_32 : decode cX12_odds 32 = .ok (.goto 4, 3) := by decide +kernel
theorem dX12_odds_35 : decode cX12_odds 35 = .ok (.iconst 0, 1) := by decide +kernel
theorem dX12_odds_36 : decode cX12_odds 36 = .ok (.putfield 59, 3) := by decide +kernel
theorem dX12_odds_39 : decode cX12_odds 39 = .ok (.aload_n 0, 1) := by decide +kernel
theorem dX12_odds_40 : decode cX12_odds 40 = .ok (.getfield 59, 3) := by decide +kernel
theorem dX12_odds_43 : decode cX12_odds 43 = .ok (.ifCond .le 5, 3) := by decide +kernel
theorem dX12_odds_46 : decode cX12_odds 46 = .ok (.iconst 0, 1) := by decide +kernel
theorem dX12_odds_47 : decode cX12_odds 47 = .ok (.ireturn, 1) := by decide +kernel
theorem dX12_odds_48 : decode cX12_odds 48 = .ok (.aload_n 0, 1) := by decide +kernel
theorem dX12_odds_49 : decode cX12_odds 49 = .ok (.iload_n 1, 1) := by decide +kernel
theorem dX12_odds_50 : decode cX12_odds 50 = .ok (.invokevirtual 253, 3) := by decide +kernel
theorem dX12_odds_53 : decode cX12_odds 53 = .ok (.aload_n 0, 1) := by decide +kernel
theorem dX12_odds_54 : decode cX12_odds 54 = .ok (.getfield 242, 3) := by decide +kernel
theorem dX12_odds_57 : decode cX12_odds 57 = .ok (.istore 4, 2) := by decide +kernel
theorem dX12_odds_59 : decode cX12_odds 59 = .ok (.lconst 0, 1) := by decide +kernel
theorem dX12_odds_60 : decode cX12_odds 60 = .ok (.lstore 5, 2) := by decide +kernel
theorem dX12_odds_62 : decode cX12_odds 62 = .ok (.lconst 1, 1) := by decide +kernel
theorem dX12_odds_63 : decode cX12_odds 63 = .ok (.lstore 7, 2) := by decide +kernel
theorem dX12_odds_65 : decode cX12_odds 65 = .ok (.iconst 0, 1) := by decide +kernel
theorem dX12_odds_66 : decode cX12_odds 66 = .ok (.istore 9, 2) := by decide +kernel
theorem dX12_odds_68 : decode cX12_odds 68 = .ok (.iload 9, 2) := by decide +kernel
theorem dX12_odds_70 : decode cX12_odds 70 = .ok (.iload_n 2, 1) := by decide +kernel
theorem dX12_odds_71 : decode cX12_odds 71 = .ok (.if_icmp .ge 17, 3) := by decide +kernel
theorem dX12_odds_74 : decode cX12_odds 74 = .ok (.lload 7, 2) := by decide +kernel
theorem dX12_odds_76 : decode cX12_odds 76 = .ok (.ldc2_w 420, 3) := by decide +kernel
theorem dX12_odds_79 : decode cX12_odds 79 = .ok (.lmul, 1) := by decide +kernel
theorem dX12_odds_80 : decode cX12_odds 80 = .ok (.lstore 7, 2) := by decide +kernel
theorem dX12_odds_82 : decode cX12_odds 82 = .ok (.iinc 9 1, 3) := by decide +kernel
theorem dX12_odds_85 : decode cX12_odds 85 = .ok (.goto (-17), 3) := by decide +kernel
theorem dX12_odds_88 : decode cX12_odds 88 = .ok (.iconst 0, 1) := by decide +kernel
theorem dX12_odds_89 : decode cX12_odds 89 = .ok (.istore 9, 2) := by decide +kernel
theorem dX12_odds_91 : decode cX12_odds 91 = .ok (.iload 9, 2) := by decide +kernel
theorem dX12_odds_93 : decode cX12_odds 93 = .ok (.iconst 1, 1) := by decide +kernel
theorem dX12_odds_94 : decode cX12_odds 94 = .ok (.iload_n 2, 1) := by decide +kernel
theorem dX12_odds_95 : decode cX12_odds 95 = .ok (.ishl, 1) := by decide +kernel
theorem dX12_odds_96 : decode cX12_odds 96 = .ok (.if_icmp .ge 74, 3) := by decide +kernel
theorem dX12_odds_99 : decode cX12_odds 99 = .ok (.iload 9, 2) := by decide +kernel
theorem dX12_odds_101 : decode cX12_odds 101 = .ok (.invokestatic 247, 3) := by decide +kernel
theorem dX12_odds_104 : decode cX12_odds 104 = .ok (.iload_n 3, 1) := by decide +kernel
theorem dX12_odds_105 : decode cX12_odds 105 = .ok (.if_icmp .ge 7, 3) := by decide +kernel
theorem dX12_odds_108 : decode cX12_odds 108 = .ok (.lconst 0, 1) := by decide +kernel
theorem dX12_odds_109 : decode cX12_odds 109 = .ok (.goto 4, 3) := by decide +kernel
theorem dX12_odds_112 : decode cX12_odds 112 = .ok (.lconst 1, 1) := by decide +kernel
theorem dX12_odds_113 : decode cX12_odds 113 = .ok (.lstore 10, 2) := by decide +kernel
theorem dX12_odds_115 : decode cX12_odds 115 = .ok (.iconst 0, 1) := by decide +kernel
theorem dX12_odds_116 : decode cX12_odds 116 = .ok (.istore 12, 2) := by decide +kernel
theorem dX12_odds_118 : decode cX12_odds 118 = .ok (.iload 12, 2) := by decide +kernel
theorem dX12_odds_120 : decode cX12_odds 120 = .ok (.iload_n 2, 1) := by decide +kernel
theorem dX12_odds_121 : decode cX12_odds 121 = .ok (.if_icmp .ge 36, 3) := by decide +kernel
theorem dX12_odds_124 : decode cX12_odds 124 = .ok (.lload 10, 2) := by decide +kernel
theorem dX12_odds_126 : decode cX12_odds 126 = .ok (.iload 9, 2) := by decide +kernel
theorem dX12_odds_128 : decode cX12_odds 128 = .ok (.iload 12, 2) := by decide +kernel
theorem dX12_odds_130 : decode cX12_odds 130 = .ok (.invokestatic 274, 3) := by decide +kernel
theorem dX12_odds_133 : decode cX12_odds 133 = .ok (.ifCond .eq 9, 3) := by decide +kernel
theorem dX12_odds_136 : decode cX12_odds 136 = .ok (.iload 4, 2) := by decide +kernel
theorem dX12_odds_138 : decode cX12_odds 138 = .ok (.i2l, 1) := by decide +kernel
theorem dX12_odds_139 : decode cX12_odds 139 = .ok (.goto 9, 3) := by decide +kernel
theorem dX12_odds_142 : decode cX12_odds 142 = .ok (.bipush 100, 2) := by decide +kernel
theorem dX12_odds_144 : decode cX12_odds 144 = .ok (.iload 4, 2) := by decide +kernel
theorem dX12_odds_146 : decode cX12_odds 146 = .ok (.isub, 1) := by decide +kernel
theorem dX12_odds_147 : decode cX12_odds 147 = .ok (.i2l, 1) := by decide +kernel
theorem dX12_odds_148 : decode cX12_odds 148 = .ok (.lmul, 1) := by decide +kernel
theorem dX12_odds_149 : decode cX12_odds 149 = .ok (.lstore 10, 2) := by decide +kernel
theorem dX12_odds_151 : decode cX12_odds 151 = .ok (.iinc 12 1, 3) := by decide +kernel
theorem dX12_odds_154 : decode cX12_odds 154 = .ok (.goto (-36), 3) := by decide +kernel
theorem dX12_odds_157 : decode cX12_odds 157 = .ok (.lload 5, 2) := by decide +kernel
theorem dX12_odds_159 : decode cX12_odds 159 = .ok (.lload 10, 2) := by decide +kernel
theorem dX12_odds_161 : decode cX12_odds 161 = .ok (.ladd, 1) := by decide +kernel
theorem dX12_odds_162 : decode cX12_odds 162 = .ok (.lstore 5, 2) := by decide +kernel
theorem dX12_odds_164 : decode cX12_odds 164 = .ok (.iinc 9 1, 3) := by decide +kernel
theorem dX12_odds_167 : decode cX12_odds 167 = .ok (.goto (-76), 3) := by decide +kernel
theorem dX12_odds_170 : decode cX12_odds 170 = .ok (.ldc2_w 422, 3) := by decide +kernel
theorem dX12_odds_173 : decode cX12_odds 173 = .ok (.lload 5, 2) := by decide +kernel
theorem dX12_odds_175 : decode cX12_odds 175 = .ok (.lmul, 1) := by decide +kernel
theorem dX12_odds_176 : decode cX12_odds 176 = .ok (.lload 7, 2) := by decide +kernel
theorem dX12_odds_178 : decode cX12_odds 178 = .ok (.ldiv, 1) := by decide +kernel
theorem dX12_odds_179 : decode cX12_odds 179 = .ok (.l2i, 1) := by decide +kernel
theorem dX12_odds_180 : decode cX12_odds 180 = .ok (.ireturn, 1) := by decide +kernel
set_option maxRecDepth 20000 in
theorem ggX12_valueOf_X12_of : GoodIn wsX12_valueOf wsX12_of := goodIn_r _ [5, 6, 10, 11, 12, 13, 14, 15, 16, 17, 18, 19, 20, 21, 22, 23, 24, 25, 26, 27, 28, 29, 30, 31, 32, 33, 34, 35, 36, 37, 38, 39] (by decide +kernel) (by decide +kernel)
set_option maxRecDepth 20000 in
theorem gX12_valueOf_X12_of : GoodIn wsX12_valueOf (wsV RX12 66 RX12 yX12_of wsX12_of) := goodIn_app (goodIn_of _ (by decide +kernel)) ggX12_valueOf_X12_of
set_option maxRecDepth 20000 in
theorem ggX12_valueOf_X12_sign : GoodIn wsX12_valueOf wsX12_sign := goodIn_r _ [9] (by decide +kernel) (by decide +kernel)
set_option maxRecDepth 20000 in
theorem gX12_valueOf_X12_sign : GoodIn wsX12_valueOf (va_wsS RX12 377 yX12_sign wsX12_sign) := goodIn_app (goodIn_of _ (by decide +kernel)) ggX12_valueOf_X12_sign
theorem dX12_valueOf_0 : decode cX12_valueOf 0 = .ok (.aload_n 0, 1) := by decide +kernel
theorem dX12_valueOf_1 : decode cX12_valueOf 1 = .ok (.iload_n 2, 1) := by decide +kernel
theorem dX12_valueOf_2 : decode cX12_valueOf 2 = .ok (.iconst 1, 1) := by decide +kernel
theorem dX12_valueOf_3 : decode cX12_valueOf 3 = .ok (.invokevirtual 66, 3) := by decide +kernel
theorem dX12_valueOf_6 : decode cX12_valueOf 6 = .ok (.aload_n 0, 1) := by decide +kernel
theorem dX12_valueOf_7 : decode cX12_valueOf 7 = .ok (.iload_n 2, 1) := by decide +kernel
theorem dX12_valueOf_8 : decode cX12_valueOf 8 = .ok (.iconst 2, 1) := by decide +kernel
theorem dX12_valueOf_9 : decode cX12_valueOf 9 = .ok (.invokevirtual 66, 3) := by decide +kernel
theorem dX12_valueOf_12 : decode cX12_valueOf 12 = .ok (.iadd, 1) := by decide +kernel
theorem dX12_valueOf_13 : decode cX12_valueOf 13 = .ok (.istore_n 3, 1) := by decide +kernel
theorem dX12_valueOf_14 : decode cX12_valueOf 14 = .ok (.iload_n 1, 1) := by decide +kernel
theorem dX12_valueOf_15 : decode cX12_valueOf 15 = .ok (.ifCond .ne 7, 3) := by decide +kernel
theorem dX12_valueOf_18 : decode cX12_valueOf 18 = .ok (.iload_n 3, 1) := by decide +kernel
theorem dX12_valueOf_19 : decode cX12_valueOf 19 = .ok (.goto 22, 3) := by decide +kernel
theorem dX12_valueOf_22 : decode cX12_valueOf 22 = .ok (.iload_n 1, 1) := by decide +kernel
theorem dX12_valueOf_23 : decode cX12_valueOf 23 = .ok (.iconst 1, 1) := by decide +kernel
theorem dX12_valueOf_24 : decode cX12_valueOf 24 = .ok (.if_icmp .ne 8, 3) := by decide +kernel
theorem dX12_valueOf_27 : decode cX12_valueOf 27 = .ok (.iload_n 3, 1) := by decide +kernel
theorem dX12_valueOf_28 : decode cX12_valueOf 28 = .ok (.ineg, 1) := by decide +kernel
theorem dX12_valueOf_29 : decode cX12_valueOf 29 = .ok (.goto 12, 3) := by decide +kernel
theorem dX12_valueOf_32 : decode cX12_valueOf 32 = .ok (.aload_n 0, 1) := by decide +kernel
theorem dX12_valueOf_33 : decode cX12_valueOf 33 = .ok (.iload_n 2, 1) := by decide +kernel
theorem dX12_valueOf_34 : decode cX12_valueOf 34 = .ok (.iconst 0, 1) := by decide +kernel
theorem dX12_valueOf_35 : decode cX12_valueOf 35 = .ok (.invokevirtual 66, 3) := by decide +kernel
theorem dX12_valueOf_38 : decode cX12_valueOf 38 = .ok (.invokestatic 377, 3) := by decide +kernel
theorem dX12_valueOf_41 : decode cX12_valueOf 41 = .ok (.ireturn, 1) := by decide +kernel
set_option maxRecDepth 20000 in
theorem ggX12_most_X12_isIn : GoodIn wsX12_most wsX12_isIn := goodIn_r _ [6] (by decide +kernel) (by decide +kernel)
set_option maxRecDepth 20000 in
theorem gX12_most_X12_isIn : GoodIn wsX12_most (va_wsS RX12 62 yX12_isIn wsX12_isIn) := goodIn_app (goodIn_of _ (by decide +kernel)) ggX12_most_X12_isIn
set_option maxRecDepth 20000 in
theorem ggX12_most_X12_valueOf : GoodIn wsX12_most wsX12_valueOf := goodIn_r _ [10, 11, 12, 13, 5, 14, 2, 15, 16, 17, 18, 19, 20, 21, 22, 23, 24, 25, 26, 27, 28, 29, 30, 31, 32, 33, 34, 35, 36, 37, 38, 39, 40, 41, 42, 43, 44, 45, 46, 47] (by decide +kernel) (by decide +kernel)
set_option maxRecDepth 20000 in
theorem gX12_most_X12_valueOf : GoodIn wsX12_most (wsV RX12 424 RX12 yX12_valueOf wsX12_valueOf) := goodIn_app (goodIn_of _ (by decide +kernel)) ggX12_most_X12_valueOf
theorem dX12_most_0 : decode cX12_most 0 = .ok (.aload_n 0, 1) := by decide +kernel
theorem dX12_most_1 : decode cX12_most 1 = .ok (.iload_n 1, 1) := by decide +kernel
theorem dX12_most_2 : decode cX12_most 2 = .ok (.iconst 0, 1) := by decide +kernel
theorem dX12_most_3 : decode cX12_most 3 = .ok (.iconst 2, 1) := by decide +kernel
theorem dX12_most_4 : decode cX12_most 4 = .ok (.invokestatic 62, 3) := by decide +kernel
theorem dX12_most_7 : decode cX12_most 7 = .ok (.ifCond .ne 7, 3) := by decide +kernel
theorem dX12_most_10 : decode cX12_most 10 = .ok (.iconst 1, 1) := by decide +kernel
theorem dX12_most_11 : decode cX12_most 11 = .ok (.goto 4, 3) := by decide +kernel
theorem dX12_most_14 : decode cX12_most 14 = .ok (.iconst 0, 1) := by decide +kernel
theorem dX12_most_15 : decode cX12_most 15 = .ok (.putfield 59, 3) := by decide +kernel
theorem dX12_most_18 : decode cX12_most 18 = .ok (.aload_n 0, 1) := by decide +kernel
theorem dX12_most_19 : decode cX12_most 19 = .ok (.getfield 59, 3) := by decide +kernel
theorem dX12_most_22 : decode cX12_most 22 = .ok (.ifCond .le 5, 3) := by decide +kernel
theorem dX12_most_25 : decode cX12_most 25 = .ok (.iconst 0, 1) := by decide +kernel
theorem dX12_most_26 : decode cX12_most 26 = .ok (.ireturn, 1) := by decide +kernel
theorem dX12_most_27 : decode cX12_most 27 = .ok (.iconst (-1), 1) := by decide +kernel
theorem dX12_most_28 : decode cX12_most 28 = .ok (.istore_n 2, 1) := by decide +kernel
theorem dX12_most_29 : decode cX12_most 29 = .ok (.iconst 0, 1) := by decide +kernel
theorem dX12_most_30 : decode cX12_most 30 = .ok (.istore_n 3, 1) := by decide +kernel
theorem dX12_most_31 : decode cX12_most 31 = .ok (.iload_n 3, 1) := by decide +kernel
theorem dX12_most_32 : decode cX12_most 32 = .ok (.aload_n 0, 1) := by decide +kernel
theorem dX12_most_33 : decode cX12_most 33 = .ok (.getfield 7, 3) := by decide +kernel
theorem dX12_most_36 : decode cX12_most 36 = .ok (.iconst 3, 1) := by decide +kernel
theorem dX12_most_37 : decode cX12_most 37 = .ok (.iaload, 1) := by decide +kernel
theorem dX12_most_38 : decode cX12_most 38 = .ok (.if_icmp .ge 31, 3) := by decide +kernel
theorem dX12_most_41 : decode cX12_most 41 = .ok (.iload_n 2, 1) := by decide +kernel
theorem dX12_most_42 : decode cX12_most 42 = .ok (.iconst (-1), 1) := by decide +kernel
theorem dX12_most_43 : decode cX12_most 43 = .ok (.if_icmp .eq 18, 3) := by decide +kernel
theorem dX12_most_46 : decode cX12_most 46 = .ok (.aload_n 0, 1) := by decide +kernel
theorem dX12_most_47 : decode cX12_most 47 = .ok (.iload_n 1, 1) := by decide +kernel
theorem dX12_most_48 : decode cX12_most 48 = .ok (.iload_n 3, 1) := by decide +kernel
theorem dX12_most_49 : decode cX12_most 49 = .ok (.invokevirtual 424, 3) := by decide +kernel
theorem dX12_most_52 : decode cX12_most 52 = .ok (.aload_n 0, 1) := by decide +kernel
theorem dX12_most_53 : decode cX12_most 53 = .ok (.iload_n 1, 1) := by decide +kernel
theorem dX12_most_54 : decode cX12_most 54 = .ok (.iload_n 2, 1) := by decide +kernel
theorem dX12_most_55 : decode cX12_most 55 = .ok (.invokevirtual 424, 3) := by decide +kernel
theorem dX12_most_58 : decode cX12_most 58 = .ok (.if_icmp .le 5, 3) := by decide +kernel
theorem dX12_most_61 : decode cX12_most 61 = .ok (.iload_n 3, 1) := by decide +kernel
theorem dX12_most_62 : decode cX12_most 62 = .ok (.istore_n 2, 1) := by decide +kernel
theorem dX12_most_63 : decode cX12_most 63 = .ok (.iinc 3 1, 3) := by decide +kernel
theorem dX12_most_66 : decode cX12_most 66 = .ok (.goto (-35), 3) := by decide +kernel
theorem dX12_most_69 : decode cX12_most 69 = .ok (.iload_n 2, 1) := by decide +kernel
theorem dX12_most_70 : decode cX12_most 70 = .ok (.ireturn, 1) := by decide +kernel
set_option maxRecDepth 20000 in
theorem ggX12_byState_X12_isIn : GoodIn wsX12_byState wsX12_isIn := goodIn_r _ [5] (by decide +kernel) (by decide +kernel)
set_option maxRecDepth 20000 in
theorem gX12_byState_X12_isIn : GoodIn wsX12_byState (va_wsS RX12 62 yX12_isIn wsX12_isIn) := goodIn_app (goodIn_of _ (by decide +kernel)) ggX12_byState_X12_isIn
set_option maxRecDepth 20000 in
theorem ggX12_byState_X12_inState : GoodIn wsX12_byState wsX12_inState := goodIn_r _ [9, 10, 11, 12, 13, 4, 14, 15, 16, 17, 18, 19, 20, 21, 22, 23, 24, 25, 26, 27, 28, 29, 30, 31, 32, 33, 34, 35, 36, 37, 38, 39, 40, 41, 42, 43, 44] (by decide +kernel) (by decide +kernel)
set_option maxRecDepth 20000 in
theorem gX12_byState_X12_inState : GoodIn wsX12_byState (wsV RX12 250 RX12 yX12_inState wsX12_inState) := goodIn_app (goodIn_of _ (by decide +kernel)) ggX12_byState_X12_inState
theorem dX12_byState_0 : decode cX12_byState 0 = .ok (.aload_n 0, 1) := by decide +kernel
theorem dX12_byState_1 : decode cX12_byState 1 = .ok (.iload_n 1, 1) := by decide +kernel
theorem dX12_byState_2 : decode cX12_byState 2 = .ok (.iconst 0, 1) := by decide +kernel
theorem dX12_byState_3 : decode cX12_byState 3 = .ok (.iconst 3, 1) := by decide +kernel
theorem dX12_byState_4 : decode cX12_byState 4 = .ok (.invokestatic 62, 3) := by decide +kernel
theorem dX12_byState_7 : decode cX12_byState 7 = .ok (.ifCond .ne 7, 3) := by decide +kernel
theorem dX12_byState_10 : decode cX12_byState 10 = .ok (.iconst 1, 1) := by decide +kernel
theorem dX12_byState_11 : decode cX12_byState 11 = .ok (.goto 4, 3) := by decide +kernel
theorem dX12_byState_14 : decode cX12_byState 14 = .ok (.iconst 0, 1) := by decide +kernel
theorem dX12_byState_15 : decode cX12_byState 15 = .ok (.putfield 59, 3) := by decide +kernel
theorem dX12_byState_18 : decode cX12_byState 18 = .ok (.aload_n 0, 1) := by decide +kernel
theorem dX12_byState_19 : decode cX12_byState 19 = .ok (.getfield 59, 3) := by decide +kernel
theorem dX12_byState_22 : decode cX12_byState 22 = .ok (.ifCond .le 7, 3) := by decide +kernel
theorem dX12_byState_25 : decode cX12_byState 25 = .ok (.iconst 0, 1) := by decide +kernel
theorem dX12_byState_26 : decode cX12_byState 26 = .ok (.goto 8, 3) := by decide +kernel
theorem dX12_byState_29 : decode cX12_byState 29 = .ok (.aload_n 0, 1) := by decide +kernel
theorem dX12_byState_30 : decode cX12_byState 30 = .ok (.iload_n 1, 1) := by decide +kernel
theorem dX12_byState_31 : decode cX12_byState 31 = .ok (.invokevirtual 250, 3) := by decide +kernel
theorem dX12_byState_34 : decode cX12_byState 34 = .ok (.ireturn, 1) := by decide +kernel
set_option maxRecDepth 20000 in
theorem ggX12_twins_X12_of : GoodIn wsX12_twins wsX12_of := goodIn_r _ [7, 2, 8, 9, 10, 11, 12, 13, 14, 15, 16, 17, 18, 19, 20, 21, 22, 23, 24, 25, 26, 27, 28, 29, 30, 31, 32, 33, 34, 35, 36, 37] (by decide +kernel) (by decide +kernel)
set_option maxRecDepth 20000 in
theorem gX12_twins_X12_of : GoodIn wsX12_twins (wsV RX12 66 RX12 yX12_of wsX12_of) := goodIn_app (goodIn_of _ (by decide +kernel)) ggX12_twins_X12_of
theorem dX12_twins_0 : decode cX12_twins 0 = .ok (.aload_n 0, 1) := by decide +kernel
theorem dX12_twins_1 : decode cX12_twins 1 = .ok (.iconst 0, 1) := by decide +kernel
theorem dX12_twins_2 : decode cX12_twins 2 = .ok (.putfield 59, 3) := by decide +kernel
theorem dX12_twins_5 : decode cX12_twins 5 = .ok (.iconst 0, 1) := by decide +kernel
theorem dX12_twins_6 : decode cX12_twins 6 = .ok (.istore_n 1, 1) := by decide +kernel
theorem dX12_twins_7 : decode cX12_twins 7 = .ok (.iconst 0, 1) := by decide +kernel
theorem dX12_twins_8 : decode cX12_twins 8 = .ok (.istore_n 2, 1) := by decide +kernel
theorem dX12_twins_9 : decode cX12_twins 9 = .ok (.iload_n 2, 1) := by decide +kernel
theorem dX12_twins_10 : decode cX12_twins 10 = .ok (.aload_n 0, 1) := by decide +kernel
theorem dX12_twins_11 : decode cX12_twins 11 = .ok (.getfield 7, 3) := by decide +kernel
theorem dX12_twins_14 : decode cX12_twins 14 = .ok (.iconst 3, 1) := by decide +kernel
theorem dX12_twins_15 : decode cX12_twins 15 = .ok (.iaload, 1) := by decide +kernel
theorem dX12_twins_16 : decode cX12_twins 16 = .ok (.if_icmp .ge 67, 3) := by decide +kernel
theorem dX12_twins_19 : decode cX12_twins 19 = .ok (.iload_n 2, 1) := by decide +kernel
theorem dX12_twins_20 : decode cX12_twins 20 = .ok (.iconst 1, 1) := by decide +kernel
theorem dX12_twins_21 : decode cX12_twins 21 = .ok (.iadd, 1) := by decide +kernel
theorem dX12_twins_22 : decode cX12_twins 22 = .ok (.istore_n 3, 1) := by decide +kernel
theorem dX12_twins_23 : decode cX12_twins 23 = .ok (.iload_n 3, 1) := by decide +kernel
theorem dX12_twins_24 : decode cX12_twins 24 = .ok (.aload_n 0, 1) := by decide +kernel
theorem dX12_twins_25 : decode cX12_twins 25 = .ok (.getfield 7, 3) := by decide +kernel
theorem dX12_twins_28 : decode cX12_twins 28 = .ok (.iconst 3, 1) := by decide +kernel
theorem dX12_twins_29 : decode cX12_twins 29 = .ok (.iaload, 1) := by decide +kernel
theorem dX12_twins_30 : decode cX12_twins 30 = .ok (.if_icmp .ge 47, 3) := by decide +kernel
theorem dX12_twins_33 : decode cX12_twins 33 = .ok (.iload_n 1, 1) := by decide +kernel
theorem dX12_twins_34 : decode cX12_twins 34 = .ok (.aload_n 0, 1) := by decide +kernel
theorem dX12_twins_35 : decode cX12_twins 35 = .ok (.iload_n 2, 1) := by decide +kernel
theorem dX12_twins_36 : decode cX12_twins 36 = .ok (.iconst 1, 1) := by decide +kernel
theorem dX12_twins_37 : decode cX12_twins 37 = .ok (.invokevirtual 66, 3) := by decide +kernel
theorem dX12_twins_40 : decode cX12_twins 40 = .ok (.aload_n 0, 1) := by decide +kernel
theorem dX12_twins_41 : decode cX12_twins 41 = .ok (.iload_n 3, 1) := by decide +kernel
theorem dX12_twins_42 : decode cX12_twins 42 = .ok (.iconst 1, 1) := by decide +kernel
theorem dX12_twins_43 : decode cX12_twins 43 = .ok (.invokevirtual 66, 3) := by decide +kernel
theorem dX12_twins_46 : decode cX12_twins 46 = .ok (.if_icmp .ne 22, 3) := by decide +kernel
theorem dX12_twins_49 : decode cX12_twins 49 = .ok (.aload_n 0, 1) := by decide +kernel
theorem dX12_twins_50 : decode cX12_twins 50 = .ok (.iload_n 2, 1) := by decide +kernel
theorem dX12_twins_51 : decode cX12_twins 51 = .ok (.iconst 3, 1) := by decide +kernel
theorem dX12_twins_52 : decode cX12_twins 52 = .ok (.invokevirtual 66, 3) := by decide +kernel
theorem dX12_twins_55 : decode cX12_twins 55 = .ok (.aload_n 0, 1) := by decide +kernel
theorem dX12_twins_56 : decode cX12_twins 56 = .ok (.iload_n 3, 1) := by decide +kernel
theorem dX12_twins_57 : decode cX12_twins 57 = .ok (.iconst 3, 1) := by decide +kernel
theorem dX12_twins_58 : decode cX12_twins 58 = .ok (.invokevirtual 66, 3) := by decide +kernel
theorem dX12_twins_61 : decode cX12_twins 61 = .ok (.if_icmp .ne 7, 3) := by decide +kernel
theorem dX12_twins_64 : decode cX12_twins 64 = .ok (.iconst 1, 1) := by decide +kernel
theorem dX12_twins_65 : decode cX12_twins 65 = .ok (.goto 4, 3) := by decide +kernel
theorem dX12_twins_68 : decode cX12_twins 68 = .ok (.iconst 0, 1) := by decide +kernel
theorem dX12_twins_69 : decode cX12_twins 69 = .ok (.iadd, 1) := by decide +kernel
theorem dX12_twins_70 : decode cX12_twins 70 = .ok (.istore_n 1, 1) := by decide +kernel
theorem dX12_twins_71 : decode cX12_twins 71 = .ok (.iinc 3 1, 3) := by decide +kernel
theorem dX12_twins_74 : decode cX12_twins 74 = .ok (.goto (-51), 3) := by decide +kernel
theorem dX12_twins_77 : decode cX12_twins 77 = .ok (.iinc 2 1, 3) := by decide +kernel
theorem dX12_twins_80 : decode cX12_twins 80 = .ok (.goto (-71), 3) := by decide +kernel
theorem dX12_twins_83 : decode cX12_twins 83 = .ok (.iload_n 1, 1) := by decide +kernel
theorem dX12_twins_84 : decode cX12_twins 84 = .ok (.ireturn, 1) := by decide +kernel
set_option maxRecDepth 20000 in
theorem ggX12_ahead_X12_isNode : GoodIn wsX12_ahead wsX12_isNode := goodIn_r _ [6, 7, 8, 9, 5, 10, 291, 292, 293, 294, 295, 296, 297, 298, 299, 300, 301, 302, 303, 304, 305, 306, 307, 308, 309, 310, 311, 312, 313, 314, 315, 316, 317, 318, 319, 320] (by decide +kernel) (by decide +kernel)
set_option maxRecDepth 20000 in
theorem gX12_ahead_X12_isNode : GoodIn wsX12_ahead (wsV RX12 347 RX12 yX12_isNode wsX12_isNode) := goodIn_app (goodIn_of _ (by decide +kernel)) ggX12_ahead_X12_isNode
set_option maxRecDepth 20000 in
theorem ggX12_ahead_X12_isIn : GoodIn wsX12_ahead wsX12_isIn := goodIn_r _ [10] (by decide +kernel) (by decide +kernel)
set_option maxRecDepth 20000 in
theorem gX12_ahead_X12_isIn : GoodIn wsX12_ahead (va_wsS RX12 62 yX12_isIn wsX12_isIn) := goodIn_app (goodIn_of _ (by decide +kernel)) ggX12_ahead_X12_isIn
set_option maxRecDepth 20000 in
theorem ggX12_ahead_X12_putsAside : GoodIn wsX12_ahead wsX12_putsAside := goodIn_r _ [14, 15, 7, 291, 292, 293, 294, 295, 296, 297, 298, 299, 300, 301, 302, 303, 304, 305, 306, 307, 308, 309, 310, 311, 312, 313, 314, 315, 316, 317, 318, 319, 320] (by decide +kernel) (by decide +kernel)
set_option maxRecDepth 20000 in
theorem gX12_ahead_X12_putsAside : GoodIn wsX12_ahead (wsV RX12 177 RX12 yX12_putsAside wsX12_putsAside) := goodIn_app (goodIn_of _ (by decide +kernel)) ggX12_ahead_X12_putsAside
set_option maxRecDepth 20000 in
theorem ggX12_ahead_X12_goes : GoodIn wsX12_ahead wsX12_goes := goodIn_r _ [19, 20, 21, 22, 23, 5, 24, 7, 25, 26, 27, 28, 29, 30, 31, 32, 33, 34, 35, 36, 37, 38, 39, 40, 41, 42, 43, 44, 45, 46, 47, 48, 49, 50, 51, 52, 53, 54, 55, 56, 57, 58, 59, 60, 61, 62, 63, 64, 65, 66, 67, 68, 69, 70, 71, 72, 73, 74, 75, 76, 77, 78, 79, 80, 81, 82, 83, 84, 85, 86, 87, 88, 89, 90, 91, 92, 93, 94, 95, 96, 97, 98, 99, 100, 101, 8, 9, 10, 102, 103, 104, 105, 106, 107, 108, 109, 110, 111, 112, 113, 114, 115, 116, 117, 118, 119, 120, 121, 122, 123, 124, 125, 126, 127, 128, 129, 130, 131, 132, 133, 134, 135, 136, 137, 138, 139, 140, 141, 142, 143, 144, 145, 146, 147, 148, 149, 150, 151, 152, 153, 154, 155, 156, 157, 158, 159, 160, 161, 162, 163, 164, 165, 166, 167, 168, 169, 170, 171, 172, 173, 174, 175, 176, 177, 178, 179, 180, 181, 182, 183, 184, 185, 186, 187, 188, 189, 190, 191, 192, 193, 194, 195, 196, 197, 198, 199, 200, 201, 202, 203, 204, 205, 206, 207, 208, 209, 210, 211, 212, 213, 214, 215, 216, 217, 218, 219, 220, 221, 222, 223, 224, 225, 226, 227, 228, 229, 230, 231, 232, 233, 234, 235, 236, 237, 238, 239, 240, 241, 242, 243, 244, 245, 246, 247, 248, 249, 250, 251, 252, 253, 254, 255, 256, 257, 258, 259, 260, 261, 262, 263, 264, 265, 266, 267, 268, 269, 270, 271, 272, 273, 274, 275, 276, 277, 278, 279, 280, 281, 282, 283, 284, 285, 286, 291, 292, 293, 294, 295, 296, 297, 298, 299, 300, 301, 302, 303, 304, 305, 306, 307, 308, 309, 310, 311, 312, 313, 314, 315, 316, 317, 318, 319, 320] (by decide +kernel) (by decide +kernel)
set_option maxRecDepth 20000 in
theorem gX12_ahead_X12_goes : GoodIn wsX12_ahead (wsV RX12 365 RX12 yX12_goes wsX12_goes) := goodIn_app (goodIn_of _ (by decide +kernel)) ggX12_ahead_X12_goes
set_option maxRecDepth 20000 in
theorem ggX12_ahead_X12_of : GoodIn wsX12_ahead wsX12_of := goodIn_r _ [32, 7, 291, 292, 293, 294, 295, 296, 297, 298, 299, 300, 301, 302, 303, 304, 305, 306, 307, 308, 309, 310, 311, 312, 313, 314, 315, 316, 317, 318, 319, 320] (by decide +kernel) (by decide +kernel)
set_option maxRecDepth 20000 in
theorem gX12_ahead_X12_of : GoodIn wsX12_ahead (wsV RX12 66 RX12 yX12_of wsX12_of) := goodIn_app (goodIn_of _ (by decide +kernel)) ggX12_ahead_X12_of
set_option maxRecDepth 20000 in
theorem ggX12_ahead_X12_comesBack : GoodIn wsX12_ahead wsX12_comesBack := goodIn_r _ [290, 7, 15, 291, 292, 293, 294, 295, 296, 297, 298, 299, 300, 301, 302, 303, 304, 305, 306, 307, 308, 309, 310, 311, 312, 313, 314, 315, 316, 317, 318, 319, 320] (by decide +kernel) (by decide +kernel)
set_option maxRecDepth 20000 in
theorem gX12_ahead_X12_comesBack : GoodIn wsX12_ahead (wsV RX12 187 RX12 yX12_comesBack wsX12_comesBack) := goodIn_app (goodIn_of _ (by decide +kernel)) ggX12_ahead_X12_comesBack
theorem dX12_ahead_0 : decode cX12_ahead 0 = .ok (.aload_n 0, 1) := by decide +kernel
theorem dX12_ahead_1 : decode cX12_ahead 1 = .ok (.aload_n 0, 1) := by decide +kernel
theorem dX12_ahead_2 : decode cX12_ahead 2 = .ok (.iload_n 1, 1) := by decide +kernel
theorem dX12_ahead_3 : decode cX12_ahead 3 = .ok (.invokevirtual 347, 3) := by decide +kernel
theorem dX12_ahead_6 : decode cX12_ahead 6 = .ok (.ifCond .ne 7, 3) := by decide +kernel
theorem dX12_ahead_9 : decode cX12_ahead 9 = .ok (.iconst 1, 1) := by decide +kernel
theorem dX12_ahead_10 : decode cX12_ahead 10 = .ok (.goto 18, 3) := by decide +kernel
theorem dX12_ahead_13 : decode cX12_ahead 13 = .ok (.iload_n 2, 1) := by decide +kernel
theorem dX12_ahead_14 : decode cX12_ahead 14 = .ok (.iconst 0, 1) := by decide +kernel
theorem dX12_ahead_15 : decode cX12_ahead 15 = .ok (.bipush 60, 2) := by decide +kernel
theorem dX12_ahead_17 : decode cX12_ahead 17 = .ok (.invokestatic 62, 3) := by decide +kernel
theorem dX12_ahead_20 : decode cX12_ahead 20 = .ok (.ifCond .ne 7, 3) := by decide +kernel
theorem dX12_ahead_23 : decode cX12_ahead 23 = .ok (.iconst 2, 1) := by decide +kernel
theorem dX12_ahead_24 : decode cX12_ahead 24 = .ok (.goto 4, 3) := by decide +kernel
theorem dX12_ahead_27 : decode cX12_ahead 27 = .ok (.iconst 0, 1) := by decide +kernel
theorem dX12_ahead_28 : decode cX12_ahead 28 = .ok (.putfield 59, 3) := by decide +kernel
theorem dX12_ahead_31 : decode cX12_ahead 31 = .ok (.aload_n 0, 1) := by decide +kernel
theorem dX12_ahead_32 : decode cX12_ahead 32 = .ok (.getfield 59, 3) := by decide +kernel
theorem dX12_ahead_35 : decode cX12_ahead 35 = .ok (.ifCond .le 5, 3) := by decide +kernel
theorem dX12_ahead_38 : decode cX12_ahead 38 = .ok (.iconst 0, 1) := by decide +kernel
theorem dX12_ahead_39 : decode cX12_ahead 39 = .ok (.ireturn, 1) := by decide +kernel
theorem dX12_ahead_40 : decode cX12_ahead 40 = .ok (.aload_n 0, 1) := by decide +kernel
theorem dX12_ahead_41 : decode cX12_ahead 41 = .ok (.invokevirtual 177, 3) := by decide +kernel
theorem dX12_ahead_44 : decode cX12_ahead 44 = .ok (.aload_n 0, 1) := by decide +kernel
theorem dX12_ahead_45 : decode cX12_ahead 45 = .ok (.iload_n 2, 1) := by decide +kernel
theorem dX12_ahead_46 : decode cX12_ahead 46 = .ok (.iconst 0, 1) := by decide +kernel
theorem dX12_ahead_47 : decode cX12_ahead 47 = .ok (.invokevirtual 365, 3) := by decide +kernel
theorem dX12_ahead_50 : decode cX12_ahead 50 = .ok (.istore 4, 2) := by decide +kernel
theorem dX12_ahead_52 : decode cX12_ahead 52 = .ok (.aload_n 0, 1) := by decide +kernel
theorem dX12_ahead_53 : decode cX12_ahead 53 = .ok (.iload_n 1, 1) := by decide +kernel
theorem dX12_ahead_54 : decode cX12_ahead 54 = .ok (.iload_n 3, 1) := by decide +kernel
theorem dX12_ahead_55 : decode cX12_ahead 55 = .ok (.ifCond .eq 7, 3) := by decide +kernel
theorem dX12_ahead_58 : decode cX12_ahead 58 = .ok (.iconst 3, 1) := by decide +kernel
theorem dX12_ahead_59 : decode cX12_ahead 59 = .ok (.goto 4, 3) := by decide +kernel
theorem dX12_ahead_62 : decode cX12_ahead 62 = .ok (.iconst 0, 1) := by decide +kernel
theorem dX12_ahead_63 : decode cX12_ahead 63 = .ok (.invokevirtual 66, 3) := by decide +kernel
theorem dX12_ahead_66 : decode cX12_ahead 66 = .ok (.istore 5, 2) := by decide +kernel
theorem dX12_ahead_68 : decode cX12_ahead 68 = .ok (.aload_n 0, 1) := by decide +kernel
theorem dX12_ahead_69 : decode cX12_ahead 69 = .ok (.invokevirtual 187, 3) := by decide +kernel
theorem dX12_ahead_72 : decode cX12_ahead 72 = .ok (.iload 5, 2) := by decide +kernel
theorem dX12_ahead_74 : decode cX12_ahead 74 = .ok (.ireturn, 1) := by decide +kernel
set_option maxRecDepth 20000 in
theorem ggX12_trial_X12_isIn : GoodIn wsX12_trial wsX12_isIn := goodIn_r _ [5] (by decide +kernel) (by decide +kernel)
set_option maxRecDepth 20000 in
theorem gX12_trial_X12_isIn : GoodIn wsX12_trial (va_wsS RX12 62 yX12_isIn wsX12_isIn) := goodIn_app (goodIn_of _ (by decide +kernel)) ggX12_trial_X12_isIn
set_option maxRecDepth 20000 in
theorem ggX12_trial_X12_putsAside : GoodIn wsX12_trial wsX12_putsAside := goodIn_r _ [9, 10, 11, 293, 294, 295, 296, 297, 298, 299, 300, 301, 302, 303, 304, 305, 306, 307, 308, 309, 310, 311, 312, 313, 314, 315, 316, 317, 318, 319, 320, 321, 322] (by decide +kernel) (by decide +kernel)
set_option maxRecDepth 20000 in
theorem gX12_trial_X12_putsAside : GoodIn wsX12_trial (wsV RX12 177 RX12 yX12_putsAside wsX12_putsAside) := goodIn_app (goodIn_of _ (by decide +kernel)) ggX12_trial_X12_putsAside
set_option maxRecDepth 20000 in
theorem ggX12_trial_X12_goes : GoodIn wsX12_trial wsX12_goes := goodIn_r _ [15, 16, 17, 18, 19, 4, 20, 11, 21, 22, 23, 24, 25, 26, 27, 28, 29, 30, 31, 32, 33, 34, 35, 36, 37, 38, 39, 40, 41, 42, 43, 44, 45, 46, 47, 48, 49, 50, 51, 52, 53, 54, 55, 56, 57, 58, 59, 60, 61, 62, 63, 64, 65, 66, 67, 68, 69, 70, 71, 72, 73, 74, 75, 76, 77, 78, 79, 80, 81, 82, 83, 84, 85, 86, 87, 88, 89, 90, 91, 92, 93, 94, 95, 96, 97, 2, 3, 5, 98, 99, 100, 101, 102, 103, 104, 105, 106, 107, 108, 109, 110, 111, 112, 113, 114, 115, 116, 117, 118, 119, 120, 121, 122, 123, 124, 125, 126, 127, 128, 129, 130, 131, 132, 133, 134, 135, 136, 137, 138, 139, 140, 141, 142, 143, 144, 145, 146, 147, 148, 149, 150, 151, 152, 153, 154, 155, 156, 157, 158, 159, 160, 161, 162, 163, 164, 165, 166, 167, 168, 169, 170, 171, 172, 173, 174, 175, 176, 177, 178, 179, 180, 181, 182, 183, 184, 185, 186, 187, 188, 189, 190, 191, 192, 193, 194, 195, 196, 197, 198, 199, 200, 201, 202, 203, 204, 205, 206, 207, 208, 209, 210, 211, 212, 213, 214, 215, 216, 217, 218, 219, 220, 221, 222, 223, 224, 225, 226, 227, 228, 229, 230, 231, 232, 233, 234, 235, 236, 237, 238, 239, 240, 241, 242, 243, 244, 245, 246, 247, 248, 249, 250, 251, 252, 253, 254, 255, 256, 257, 258, 259, 260, 261, 262, 263, 264, 265, 266, 267, 268, 269, 270, 271, 272, 273, 274, 275, 276, 277, 278, 279, 280, 281, 282, 293, 294, 295, 296, 297, 298, 299, 300, 301, 302, 303, 304, 305, 306, 307, 308, 309, 310, 311, 312, 313, 314, 315, 316, 317, 318, 319, 320, 321, 322] (by decide +kernel) (by decide +kernel)
set_option maxRecDepth 20000 in
theorem gX12_trial_X12_goes : GoodIn wsX12_trial (wsV RX12 365 RX12 yX12_goes wsX12_goes) := goodIn_app (goodIn_of _ (by decide +kernel)) ggX12_trial_X12_goes
set_option maxRecDepth 20000 in
theorem ggX12_trial_X12_spreadNow : GoodIn wsX12_trial wsX12_spreadNow := goodIn_r _ [286, 287, 288, 11, 42, 43, 44, 4, 45, 25, 26, 27, 28, 207, 208, 209, 67, 68, 69, 21, 22, 23, 24, 70, 71, 72, 293, 294, 295, 296, 297, 298, 299, 300, 301, 302, 303, 304, 305, 306, 307, 308, 309, 310, 311, 312, 313, 314, 315, 316, 317, 318, 319, 320, 321, 322] (by decide +kernel) (by decide +kernel)
set_option maxRecDepth 20000 in
theorem gX12_trial_X12_spreadNow : GoodIn wsX12_trial (wsV RX12 371 RX12 yX12_spreadNow wsX12_spreadNow) := goodIn_app (goodIn_of _ (by decide +kernel)) ggX12_trial_X12_spreadNow
set_option maxRecDepth 20000 in
theorem ggX12_trial_X12_inState : GoodIn wsX12_trial wsX12_inState := goodIn_r _ [24, 11, 25, 26, 27, 4, 28, 293, 294, 295, 296, 297, 298, 299, 300, 301, 302, 303, 304, 305, 306, 307, 308, 309, 310, 311, 312, 313, 314, 315, 316, 317, 318, 319, 320, 321, 322] (by decide +kernel) (by decide +kernel)
set_option maxRecDepth 20000 in
theorem gX12_trial_X12_inState : GoodIn wsX12_trial (wsV RX12 250 RX12 yX12_inState wsX12_inState) := goodIn_app (goodIn_of _ (by decide +kernel)) ggX12_trial_X12_inState
set_option maxRecDepth 20000 in
theorem ggX12_trial_X12_comesBack : GoodIn wsX12_trial wsX12_comesBack := goodIn_r _ [292, 11, 10, 293, 294, 295, 296, 297, 298, 299, 300, 301, 302, 303, 304, 305, 306, 307, 308, 309, 310, 311, 312, 313, 314, 315, 316, 317, 318, 319, 320, 321, 322] (by decide +kernel) (by decide +kernel)
set_option maxRecDepth 20000 in
theorem gX12_trial_X12_comesBack : GoodIn wsX12_trial (wsV RX12 187 RX12 yX12_comesBack wsX12_comesBack) := goodIn_app (goodIn_of _ (by decide +kernel)) ggX12_trial_X12_comesBack
theorem dX12_trial_0 : decode cX12_trial 0 = .ok (.aload_n 0, 1) := by decide +kernel
theorem dX12_trial_1 : decode cX12_trial 1 = .ok (.iload_n 1, 1) := by decide +kernel
theorem dX12_trial_2 : decode cX12_trial 2 = .ok (.iconst 0, 1) := by decide +kernel
theorem dX12_trial_3 : decode cX12_trial 3 = .ok (.bipush 60, 2) := by decide +kernel
theorem dX12_trial_5 : decode cX12_trial 5 = .ok (.invokestatic 62, 3) := by decide +kernel
theorem dX12_trial_8 : decode cX12_trial 8 = .ok (.ifCond .ne 7, 3) := by decide +kernel
theorem dX12_trial_11 : decode cX12_trial 11 = .ok (.iconst 1, 1) := by decide +kernel
theorem dX12_trial_12 : decode cX12_trial 12 = .ok (.goto 4, 3) := by decide +kernel
theorem dX12_trial_15 : decode cX12_trial 15 = .ok (.iconst 0, 1) := by decide +kernel
theorem dX12_trial_16 : decode cX12_trial 16 = .ok (.putfield 59, 3) := by decide +kernel
theorem dX12_trial_19 : decode cX12_trial 19 = .ok (.aload_n 0, 1) := by decide +kernel
theorem dX12_trial_20 : decode cX12_trial 20 = .ok (.getfield 59, 3) := by decide +kernel
theorem dX12_trial_23 : decode cX12_trial 23 = .ok (.ifCond .le 5, 3) := by decide +kernel
theorem dX12_trial_26 : decode cX12_trial 26 = .ok (.iconst 0, 1) := by decide +kernel
theorem dX12_trial_27 : decode cX12_trial 27 = .ok (.ireturn, 1) := by decide +kernel
theorem dX12_trial_28 : decode cX12_trial 28 = .ok (.aload_n 0, 1) := by decide +kernel
theorem dX12_trial_29 : decode cX12_trial 29 = .ok (.invokevirtual 177, 3) := by decide +kernel
theorem dX12_trial_32 : decode cX12_trial 32 = .ok (.aload_n 0, 1) := by decide +kernel
theorem dX12_trial_33 : decode cX12_trial 33 = .ok (.iload_n 1, 1) := by decide +kernel
theorem dX12_trial_34 : decode cX12_trial 34 = .ok (.iconst 1, 1) := by decide +kernel
theorem dX12_trial_35 : decode cX12_trial 35 = .ok (.invokevirtual 365, 3) := by decide +kernel
theorem dX12_trial_38 : decode cX12_trial 38 = .ok (.istore_n 3, 1) := by decide +kernel
theorem dX12_trial_39 : decode cX12_trial 39 = .ok (.iload_n 2, 1) := by decide +kernel
theorem dX12_trial_40 : decode cX12_trial 40 = .ok (.ifCond .eq 10, 3) := by decide +kernel
theorem dX12_trial_43 : decode cX12_trial 43 = .ok (.aload_n 0, 1) := by decide +kernel
theorem dX12_trial_44 : decode cX12_trial 44 = .ok (.invokevirtual 371, 3) := by decide +kernel
theorem dX12_trial_47 : decode cX12_trial 47 = .ok (.goto 8, 3) := by decide +kernel
theorem dX12_trial_50 : decode cX12_trial 50 = .ok (.aload_n 0, 1) := by decide +kernel
theorem dX12_trial_51 : decode cX12_trial 51 = .ok (.iconst 2, 1) := by decide +kernel
theorem dX12_trial_52 : decode cX12_trial 52 = .ok (.invokevirtual 250, 3) := by decide +kernel
theorem dX12_trial_55 : decode cX12_trial 55 = .ok (.istore 4, 2) := by decide +kernel
theorem dX12_trial_57 : decode cX12_trial 57 = .ok (.aload_n 0, 1) := by decide +kernel
theorem dX12_trial_58 : decode cX12_trial 58 = .ok (.invokevirtual 187, 3) := by decide +kernel
theorem dX12_trial_61 : decode cX12_trial 61 = .ok (.iload 4, 2) := by decide +kernel
theorem dX12_trial_63 : decode cX12_trial 63 = .ok (.ireturn, 1) := by decide +kernel
set_option maxRecDepth 20000 in
theorem ggX12_span_X12_isIn : GoodIn wsX12_span wsX12_isIn := goodIn_r _ [6] (by decide +kernel) (by decide +kernel)
set_option maxRecDepth 20000 in
theorem gX12_span_X12_isIn : GoodIn wsX12_span (va_wsS RX12 62 yX12_isIn wsX12_isIn) := goodIn_app (goodIn_of _ (by decide +kernel)) ggX12_span_X12_isIn
set_option maxRecDepth 20000 in
theorem ggX12_span_X12_putsAside : GoodIn wsX12_span wsX12_putsAside := goodIn_r _ [10, 11, 2, 287, 288, 289, 290, 291, 292, 293, 294, 295, 296, 297, 298, 299, 300, 301, 302, 303, 304, 305, 306, 307, 308, 309, 310, 311, 312, 313, 314, 315, 316] (by decide +kernel) (by decide +kernel)
set_option maxRecDepth 20000 in
theorem gX12_span_X12_putsAside : GoodIn wsX12_span (wsV RX12 177 RX12 yX12_putsAside wsX12_putsAside) := goodIn_app (goodIn_of _ (by decide +kernel)) ggX12_span_X12_putsAside
set_option maxRecDepth 20000 in
theorem ggX12_span_X12_goes : GoodIn wsX12_span wsX12_goes := goodIn_r _ [15, 16, 17, 18, 19, 5, 20, 2, 21, 22, 23, 24, 25, 26, 27, 28, 29, 30, 31, 32, 33, 34, 35, 36, 37, 38, 39, 40, 41, 42, 43, 44, 45, 46, 47, 48, 49, 50, 51, 52, 53, 54, 55, 56, 57, 58, 59, 60, 61, 62, 63, 64, 65, 66, 67, 68, 69, 70, 71, 72, 73, 74, 75, 76, 77, 78, 79, 80, 81, 82, 83, 84, 85, 86, 87, 88, 89, 90, 91, 92, 93, 94, 95, 96, 97, 3, 4, 6, 98, 99, 100, 101, 102, 103, 104, 105, 106, 107, 108, 109, 110, 111, 112, 113, 114, 115, 116, 117, 118, 119, 120, 121, 122, 123, 124, 125, 126, 127, 128, 129, 130, 131, 132, 133, 134, 135, 136, 137, 138, 139, 140, 141, 142, 143, 144, 145, 146, 147, 148, 149, 150, 151, 152, 153, 154, 155, 156, 157, 158, 159, 160, 161, 162, 163, 164, 165, 166, 167, 168, 169, 170, 171, 172, 173, 174, 175, 176, 177, 178, 179, 180, 181, 182, 183, 184, 185, 186, 187, 188, 189, 190, 191, 192, 193, 194, 195, 196, 197, 198, 199, 200, 201, 202, 203, 204, 205, 206, 207, 208, 209, 210, 211, 212, 213, 214, 215, 216, 217, 218, 219, 220, 221, 222, 223, 224, 225, 226, 227, 228, 229, 230, 231, 232, 233, 234, 235, 236, 237, 238, 239, 240, 241, 242, 243, 244, 245, 246, 247, 248, 249, 250, 251, 252, 253, 254, 255, 256, 257, 258, 259, 260, 261, 262, 263, 264, 265, 266, 267, 268, 269, 270, 271, 272, 273, 274, 275, 276, 277, 278, 279, 280, 281, 282, 287, 288, 289, 290, 291, 292, 293, 294, 295, 296, 297, 298, 299, 300, 301, 302, 303, 304, 305, 306, 307, 308, 309, 310, 311, 312, 313, 314, 315, 316] (by decide +kernel) (by decide +kernel)
set_option maxRecDepth 20000 in
theorem gX12_span_X12_goes : GoodIn wsX12_span (wsV RX12 365 RX12 yX12_goes wsX12_goes) := goodIn_app (goodIn_of _ (by decide +kernel)) ggX12_span_X12_goes
set_option maxRecDepth 20000 in
theorem ggX12_span_X12_inState : GoodIn wsX12_span wsX12_inState := goodIn_r _ [24, 2, 25, 26, 27, 5, 28, 287, 288, 289, 290, 291, 292, 293, 294, 295, 296, 297, 298, 299, 300, 301, 302, 303, 304, 305, 306, 307, 308, 309, 310, 311, 312, 313, 314, 315, 316] (by decide +kernel) (by decide +kernel)
set_option maxRecDepth 20000 in
theorem gX12_span_X12_inState : GoodIn wsX12_span (wsV RX12 250 RX12 yX12_inState wsX12_inState) := goodIn_app (goodIn_of _ (by decide +kernel)) ggX12_span_X12_inState
set_option maxRecDepth 20000 in
theorem ggX12_span_X12_bits : GoodIn wsX12_span wsX12_bits := goodIn_r _ [72] (by decide +kernel) (by decide +kernel)
set_option maxRecDepth 20000 in
theorem gX12_span_X12_bits : GoodIn wsX12_span (va_wsS RX12 247 yX12_bits wsX12_bits) := goodIn_app (goodIn_of _ (by decide +kernel)) ggX12_span_X12_bits
set_option maxRecDepth 20000 in
theorem ggX12_span_X12_comesBack : GoodIn wsX12_span wsX12_comesBack := goodIn_r _ [286, 2, 11, 287, 288, 289, 290, 291, 292, 293, 294, 295, 296, 297, 298, 299, 300, 301, 302, 303, 304, 305, 306, 307, 308, 309, 310, 311, 312, 313, 314, 315, 316] (by decide +kernel) (by decide +kernel)
set_option maxRecDepth 20000 in
theorem gX12_span_X12_comesBack : GoodIn wsX12_span (wsV RX12 187 RX12 yX12_comesBack wsX12_comesBack) := goodIn_app (goodIn_of _ (by decide +kernel)) ggX12_span_X12_comesBack
set_option maxRecDepth 20000 in
theorem ggX12_span_X12_greater : GoodIn wsX12_span wsX12_greater := goodIn_r _ [69] (by decide +kernel) (by decide +kernel)
set_option maxRecDepth 20000 in
theorem gX12_span_X12_greater : GoodIn wsX12_span (va_wsS RX12 73 yX12_greater wsX12_greater) := goodIn_app (goodIn_of _ (by decide +kernel)) ggX12_span_X12_greater
set_option maxRecDepth 20000 in
theorem ggX12_span_X12_lesser : GoodIn wsX12_span wsX12_lesser := goodIn_r _ [209] (by decide +kernel) (by decide +kernel)
set_option maxRecDepth 20000 in
theorem gX12_span_X12_lesser : GoodIn wsX12_span (va_wsS RX12 70 yX12_lesser wsX12_lesser) := goodIn_app (goodIn_of _ (by decide +kernel)) ggX12_span_X12_lesser
theorem dX12_span_0 : decode cX12_span 0 = .ok (.aload_n 0, 1) := by decide +kernel
theorem dX12_span_1 : decode cX12_span 1 = .ok (.iload_n 1, 1) := by decide +kernel
theorem dX12_span_2 : decode cX12_span 2 = .ok (.iconst 0, 1) := by decide +kernel
theorem dX12_span_3 : decode cX12_span 3 = .ok (.bipush 60, 2) := by decide +kernel
theorem dX12_span_5 : decode cX12_span 5 = .ok (.invokestatic 62, 3) := by decide +kernel
theorem dX12_span_8 : decode cX12_span 8 = .ok (.ifCond .ne 7, 3) := by decide +kernel
theorem dX12_span_11 : decode cX12_span 11 = .ok (.iconst 1, 1) := by decide +kernel
theorem dX12_span_12 : decode cX12_span 12 = .ok (.goto 4, 3) := by decide +kernel
theorem dX12_span_15 : decode cX12_span 15 = .ok (.iconst 0, 1) := by decide +kernel
theorem dX12_span_16 : decode cX12_span 16 = .ok (.putfield 59, 3) := by decide +kernel
theorem dX12_span_19 : decode cX12_span 19 = .ok (.aload_n 0, 1) := by decide +kernel
theorem dX12_span_20 : decode cX12_span 20 = .ok (.getfield 59, 3) := by decide +kernel
theorem dX12_span_23 : decode cX12_span 23 = .ok (.ifCond .le 5, 3) := by decide +kernel
theorem dX12_span_26 : decode cX12_span 26 = .ok (.iconst 0, 1) := by decide +kernel
theorem dX12_span_27 : decode cX12_span 27 = .ok (.ireturn, 1) := by decide +kernel
theorem dX12_span_28 : decode cX12_span 28 = .ok (.aload_n 0, 1) := by decide +kernel
theorem dX12_span_29 : decode cX12_span 29 = .ok (.invokevirtual 177, 3) := by decide +kernel
theorem dX12_span_32 : decode cX12_span 32 = .ok (.iconst (-1), 1) := by decide +kernel
theorem dX12_span_33 : decode cX12_span 33 = .ok (.istore_n 3, 1) := by decide +kernel
theorem dX12_span_34 : decode cX12_span 34 = .ok (.iconst 1, 1) := by decide +kernel
theorem dX12_span_35 : decode cX12_span 35 = .ok (.istore 4, 2) := by decide +kernel
theorem dX12_span_37 : decode cX12_span 37 = .ok (.iload 4, 2) := by decide +kernel
theorem dX12_span_39 : decode cX12_span 39 = .ok (.bipush 6, 2) := by decide +kernel
theorem dX12_span_41 : decode cX12_span 41 = .ok (.if_icmp .gt 70, 3) := by decide +kernel
theorem dX12_span_44 : decode cX12_span 44 = .ok (.aload_n 0, 1) := by decide +kernel
theorem dX12_span_45 : decode cX12_span 45 = .ok (.getfield 7, 3) := by decide +kernel
theorem dX12_span_48 : decode cX12_span 48 = .ok (.bipush 8, 2) := by decide +kernel
theorem dX12_span_50 : decode cX12_span 50 = .ok (.iload 4, 2) := by decide +kernel
theorem dX12_span_52 : decode cX12_span 52 = .ok (.iastore, 1) := by decide +kernel
theorem dX12_span_53 : decode cX12_span 53 = .ok (.aload_n 0, 1) := by decide +kernel
theorem dX12_span_54 : decode cX12_span 54 = .ok (.iload_n 1, 1) := by decide +kernel
theorem dX12_span_55 : decode cX12_span 55 = .ok (.iconst 1, 1) := by decide +kernel
theorem dX12_span_56 : decode cX12_span 56 = .ok (.invokevirtual 365, 3) := by decide +kernel
theorem dX12_span_59 : decode cX12_span 59 = .ok (.istore 5, 2) := by decide +kernel
theorem dX12_span_61 : decode cX12_span 61 = .ok (.aload_n 0, 1) := by decide +kernel
theorem dX12_span_62 : decode cX12_span 62 = .ok (.iconst 2, 1) := by decide +kernel
theorem dX12_span_63 : decode cX12_span 63 = .ok (.invokevirtual 250, 3) := by decide +kernel
theorem dX12_span_66 : decode cX12_span 66 = .ok (.invokestatic 247, 3) := by decide +kernel
theorem dX12_span_69 : decode cX12_span 69 = .ok (.istore 6, 2) := by decide +kernel
theorem dX12_span_71 : decode cX12_span 71 = .ok (.aload_n 0, 1) := by decide +kernel
theorem dX12_span_72 : decode cX12_span 72 = .ok (.invokevirtual 187, 3) := by decide +kernel
theorem dX12_span_75 : decode cX12_span 75 = .ok (.iload_n 3, 1) := by decide +kernel
theorem dX12_span_76 : decode cX12_span 76 = .ok (.iconst (-1), 1) := by decide +kernel
theorem dX12_span_77 : decode cX12_span 77 = .ok (.if_icmp .ne 8, 3) := by decide +kernel
theorem dX12_span_80 : decode cX12_span 80 = .ok (.iload 6, 2) := by decide +kernel
theorem dX12_span_82 : decode cX12_span 82 = .ok (.goto 22, 3) := by decide +kernel
theorem dX12_span_85 : decode cX12_span 85 = .ok (.iload_n 2, 1) := by decide +kernel
theorem dX12_span_86 : decode cX12_span 86 = .ok (.ifCond .eq 12, 3) := by decide +kernel
theorem dX12_span_89 : decode cX12_span 89 = .ok (.iload_n 3, 1) := by decide +kernel
theorem dX12_span_90 : decode cX12_span 90 = .ok (.iload 6, 2) := by decide +kernel
theorem dX12_span_92 : decode cX12_span 92 = .ok (.invokestatic 73, 3) := by decide +kernel
theorem dX12_span_95 : decode cX12_span 95 = .ok (.goto 9, 3) := by decide +kernel
theorem dX12_span_98 : decode cX12_span 98 = .ok (.iload_n 3, 1) := by decide +kernel
theorem dX12_span_99 : decode cX12_span 99 = .ok (.iload 6, 2) := by decide +kernel
theorem dX12_span_101 : decode cX12_span 101 = .ok (.invokestatic 70, 3) := by decide +kernel
theorem dX12_span_104 : decode cX12_span 104 = .ok (.istore_n 3, 1) := by decide +kernel
theorem dX12_span_105 : decode cX12_span 105 = .ok (.iinc 4 1, 3) := by decide +kernel
theorem dX12_span_108 : decode cX12_span 108 = .ok (.goto (-71), 3) := by decide +kernel
theorem dX12_span_111 : decode cX12_span 111 = .ok (.iload_n 3, 1) := by decide +kernel
theorem dX12_span_112 : decode cX12_span 112 = .ok (.ireturn, 1) := by decide +kernel
theorem dX12_logged_0 : decode cX12_logged 0 = .ok (.aload_n 0, 1) := by decide +kernel
theorem dX12_logged_1 : decode cX12_logged 1 = .ok (.getfield 7, 3) := by decide +kernel
theorem dX12_logged_4 : decode cX12_logged 4 = .ok (.bipush 97, 2) := by decide +kernel
theorem dX12_logged_6 : decode cX12_logged 6 = .ok (.iconst 4, 1) := by decide +kernel
theorem dX12_logged_7 : decode cX12_logged 7 = .ok (.iload_n 1, 1) := by decide +kernel
theorem dX12_logged_8 : decode cX12_logged 8 = .ok (.imul, 1) := by decide +kernel
theorem dX12_logged_9 : decode cX12_logged 9 = .ok (.iadd, 1) := by decide +kernel
theorem dX12_logged_10 : decode cX12_logged 10 = .ok (.iload_n 2, 1) := by decide +kernel
theorem dX12_logged_11 : decode cX12_logged 11 = .ok (.iadd, 1) := by decide +kernel
theorem dX12_logged_12 : decode cX12_logged 12 = .ok (.iaload, 1) := by decide +kernel
theorem dX12_logged_13 : decode cX12_logged 13 = .ok (.ireturn, 1) := by decide +kernel
set_option maxRecDepth 20000 in
theorem ggX12_led_X12_isNode : GoodIn wsX12_led wsX12_isNode := goodIn_r _ [7, 2, 8, 9, 6, 10, 15, 16, 17, 18, 19, 20, 21, 22, 23, 24, 25, 26, 27, 28, 29, 30, 31, 32, 33, 34, 35, 36, 37, 38, 39, 40, 41, 42, 43, 44] (by decide +kernel) (by decide +kernel)
set_option maxRecDepth 20000 in
theorem gX12_led_X12_isNode : GoodIn wsX12_led (wsV RX12 347 RX12 yX12_isNode wsX12_isNode) := goodIn_app (goodIn_of _ (by decide +kernel)) ggX12_led_X12_isNode
set_option maxRecDepth 20000 in
theorem ggX12_led_X12_logged : GoodIn wsX12_led wsX12_logged := goodIn_r _ [14, 2, 15, 16, 17, 18, 19, 20, 21, 22, 23, 24, 25, 26, 27, 28, 29, 30, 31, 32, 33, 34, 35, 36, 37, 38, 39, 40, 41, 42, 43, 44] (by decide +kernel) (by decide +kernel)
set_option maxRecDepth 20000 in
theorem gX12_led_X12_logged : GoodIn wsX12_led (wsV RX12 427 RX12 yX12_logged wsX12_logged) := goodIn_app (goodIn_of _ (by decide +kernel)) ggX12_led_X12_logged
theorem dX12_led_0 : decode cX12_led 0 = .ok (.aload_n 0, 1) := by decide +kernel
theorem dX12_led_1 : decode cX12_led 1 = .ok (.aload_n 0, 1) := by decide +kernel
theorem dX12_led_2 : decode cX12_led 2 = .ok (.iload_n 1, 1) := by decide +kernel
theorem dX12_led_3 : decode cX12_led 3 = .ok (.invokevirtual 347, 3) := by decide +kernel
theorem dX12_led_6 : decode cX12_led 6 = .ok (.ifCond .ne 7, 3) := by decide +kernel
theorem dX12_led_9 : decode cX12_led 9 = .ok (.iconst 1, 1) := by decide +kernel
theorem dX12_led_10 : decode cX12_led 10 = .ok (.goto 4, 3) := by decide +kernel
theorem dX12_led_13 : decode cX12_led 13 = .ok (.iconst 0, 1) := by decide +kernel
theorem dX12_led_14 : decode cX12_led 14 = .ok (.putfield 59, 3) := by decide +kernel
theorem dX12_led_17 : decode cX12_led 17 = .ok (.aload_n 0, 1) := by decide +kernel
theorem dX12_led_18 : decode cX12_led 18 = .ok (.getfield 59, 3) := by decide +kernel
theorem dX12_led_21 : decode cX12_led 21 = .ok (.ifCond .le 5, 3) := by decide +kernel
theorem dX12_led_24 : decode cX12_led 24 = .ok (.iconst 0, 1) := by decide +kernel
theorem dX12_led_25 : decode cX12_led 25 = .ok (.ireturn, 1) := by decide +kernel
theorem dX12_led_26 : decode cX12_led 26 = .ok (.iconst 0, 1) := by decide +kernel
theorem dX12_led_27 : decode cX12_led 27 = .ok (.istore_n 3, 1) := by decide +kernel
theorem dX12_led_28 : decode cX12_led 28 = .ok (.iconst (-1), 1) := by decide +kernel
theorem dX12_led_29 : decode cX12_led 29 = .ok (.istore 4, 2) := by decide +kernel
theorem dX12_led_31 : decode cX12_led 31 = .ok (.aload_n 0, 1) := by decide +kernel
theorem dX12_led_32 : decode cX12_led 32 = .ok (.getfield 7, 3) := by decide +kernel
theorem dX12_led_35 : decode cX12_led 35 = .ok (.bipush 7, 2) := by decide +kernel
theorem dX12_led_37 : decode cX12_led 37 = .ok (.iaload, 1) := by decide +kernel
theorem dX12_led_38 : decode cX12_led 38 = .ok (.iconst 1, 1) := by decide +kernel
theorem dX12_led_39 : decode cX12_led 39 = .ok (.isub, 1) := by decide +kernel
theorem dX12_led_40 : decode cX12_led 40 = .ok (.istore 5, 2) := by decide +kernel
theorem dX12_led_42 : decode cX12_led 42 = .ok (.iload 5, 2) := by decide +kernel
theorem dX12_led_44 : decode cX12_led 44 = .ok (.ifCond .lt 35, 3) := by decide +kernel
theorem dX12_led_47 : decode cX12_led 47 = .ok (.aload_n 0, 1) := by decide +kernel
theorem dX12_led_48 : decode cX12_led 48 = .ok (.iload 5, 2) := by decide +kernel
theorem dX12_led_50 : decode cX12_led 50 = .ok (.iconst 1, 1) := by decide +kernel
theorem dX12_led_51 : decode cX12_led 51 = .ok (.invokevirtual 427, 3) := by decide +kernel
theorem dX12_led_54 : decode cX12_led 54 = .ok (.iload_n 1, 1) := by decide +kernel
theorem dX12_led_55 : decode cX12_led 55 = .ok (.if_icmp .eq 6, 3) := by decide +kernel
theorem dX12_led_58 : decode cX12_led 58 = .ok (.goto 15, 3) := by decide +kernel
theorem dX12_led_61 : decode cX12_led 61 = .ok (.iinc 3 1, 3) := by decide +kernel
theorem dX12_led_64 : decode cX12_led 64 = .ok (.aload_n 0, 1) := by decide +kernel
theorem dX12_led_65 : decode cX12_led 65 = .ok (.iload 5, 2) := by decide +kernel
theorem dX12_led_67 : decode cX12_led 67 = .ok (.iconst 0, 1) := by decide +kernel
theorem dX12_led_68 : decode cX12_led 68 = .ok (.invokevirtual 427, 3) := by decide +kernel
theorem dX12_led_71 : decode cX12_led 71 = .ok (.istore 4, 2) := by decide +kernel
theorem dX12_led_73 : decode cX12_led 73 = .ok (.iinc 5 (-1), 3) := by decide +kernel
theorem dX12_led_76 : decode cX12_led 76 = .ok (.goto (-34), 3) := by decide +kernel
theorem dX12_led_79 : decode cX12_led 79 = .ok (.iload_n 2, 1) := by decide +kernel
theorem dX12_led_80 : decode cX12_led 80 = .ok (.ifCond .eq 8, 3) := by decide +kernel
theorem dX12_led_83 : decode cX12_led 83 = .ok (.iload 4, 2) := by decide +kernel
theorem dX12_led_85 : decode cX12_led 85 = .ok (.goto 4, 3) := by decide +kernel
theorem dX12_led_88 : decode cX12_led 88 = .ok (.iload_n 3, 1) := by decide +kernel
theorem dX12_led_89 : decode cX12_led 89 = .ok (.ireturn, 1) := by decide +kernel
set_option maxRecDepth 20000 in
theorem ggX12_log_X12_isIn : GoodIn wsX12_log wsX12_isIn := goodIn_r _ [6] (by decide +kernel) (by decide +kernel)
set_option maxRecDepth 20000 in
theorem gX12_log_X12_isIn : GoodIn wsX12_log (va_wsS RX12 62 yX12_isIn wsX12_isIn) := goodIn_app (goodIn_of _ (by decide +kernel)) ggX12_log_X12_isIn
set_option maxRecDepth 20000 in
theorem ggX12_log_X12_logged : GoodIn wsX12_log wsX12_logged := goodIn_r _ [10, 2, 11, 12, 13, 14, 15, 16, 17, 18, 19, 20, 21, 22, 23, 24, 25, 26, 27, 28, 29, 30, 31, 32, 33, 34, 35, 36, 37, 38, 39, 40] (by decide +kernel) (by decide +kernel)
set_option maxRecDepth 20000 in
theorem gX12_log_X12_logged : GoodIn wsX12_log (wsV RX12 427 RX12 yX12_logged wsX12_logged) := goodIn_app (goodIn_of _ (by decide +kernel)) ggX12_log_X12_logged
theorem dX12_log_0 : decode cX12_log 0 = .ok (.aload_n 0, 1) := by decide +kernel
theorem dX12_log_1 : decode cX12_log 1 = .ok (.iload_n 2, 1) := by decide +kernel
theorem dX12_log_2 : decode cX12_log 2 = .ok (.iconst 0, 1) := by decide +kernel
theorem dX12_log_3 : decode cX12_log 3 = .ok (.iconst 3, 1) := by decide +kernel
theorem dX12_log_4 : decode cX12_log 4 = .ok (.invokestatic 62, 3) := by decide +kernel
theorem dX12_log_7 : decode cX12_log 7 = .ok (.ifCond .ne 7, 3) := by decide +kernel
theorem dX12_log_10 : decode cX12_log 10 = .ok (.iconst 1, 1) := by decide +kernel
theorem dX12_log_11 : decode cX12_log 11 = .ok (.goto 4, 3) := by decide +kernel
theorem dX12_log_14 : decode cX12_log 14 = .ok (.iconst 0, 1) := by decide +kernel
theorem dX12_log_15 : decode cX12_log 15 = .ok (.putfield 59, 3) := by decide +kernel
theorem dX12_log_18 : decode cX12_log 18 = .ok (.aload_n 0, 1) := by decide +kernel
theorem dX12_log_19 : decode cX12_log 19 = .ok (.getfield 59, 3) := by decide +kernel
theorem dX12_log_22 : decode cX12_log 22 = .ok (.ifCond .le 5, 3) := by decide +kernel
theorem dX12_log_25 : decode cX12_log 25 = .ok (.iconst 0, 1) := by decide +kernel
theorem dX12_log_26 : decode cX12_log 26 = .ok (.ireturn, 1) := by decide +kernel
theorem dX12_log_27 : decode cX12_log 27 = .ok (.iload_n 1, 1) := by decide +kernel
theorem dX12_log_28 : decode cX12_log 28 = .ok (.iconst 0, 1) := by decide +kernel
theorem dX12_log_29 : decode cX12_log 29 = .ok (.aload_n 0, 1) := by decide +kernel
theorem dX12_log_30 : decode cX12_log 30 = .ok (.getfield 7, 3) := by decide +kernel
theorem dX12_log_33 : decode cX12_log 33 = .ok (.bipush 7, 2) := by decide +kernel
theorem dX12_log_35 : decode cX12_log 35 = .ok (.iaload, 1) := by decide +kernel
theorem dX12_log_36 : decode cX12_log 36 = .ok (.iconst 1, 1) := by decide +kernel
theorem dX12_log_37 : decode cX12_log 37 = .ok (.isub, 1) := by decide +kernel
theorem dX12_log_38 : decode cX12_log 38 = .ok (.invokestatic 62, 3) := by decide +kernel
theorem dX12_log_41 : decode cX12_log 41 = .ok (.ifCond .eq 12, 3) := by decide +kernel
theorem dX12_log_44 : decode cX12_log 44 = .ok (.aload_n 0, 1) := by decide +kernel
theorem dX12_log_45 : decode cX12_log 45 = .ok (.iload_n 1, 1) := by decide +kernel
theorem dX12_log_46 : decode cX12_log 46 = .ok (.iload_n 2, 1) := by decide +kernel
theorem dX12_log_47 : decode cX12_log 47 = .ok (.invokevirtual 427, 3) := by decide +kernel
theorem dX12_log_50 : decode cX12_log 50 = .ok (.goto 4, 3) := by decide +kernel
theorem dX12_log_53 : decode cX12_log 53 = .ok (.iconst (-1), 1) := by decide +kernel
theorem dX12_log_54 : decode cX12_log 54 = .ok (.ireturn, 1) := by decide +kernel
theorem dX12_seed_0 : decode cX12_seed 0 = .ok (.aload_n 0, 1) := by decide +kernel
theorem dX12_seed_1 : decode cX12_seed 1 = .ok (.iconst 0, 1) := by decide +kernel
theorem dX12_seed_2 : decode cX12_seed 2 = .ok (.putfield 59, 3) := by decide +kernel
theorem dX12_seed_5 : decode cX12_seed 5 = .ok (.aload_n 0, 1) := by decide +kernel
theorem dX12_seed_6 : decode cX12_seed 6 = .ok (.getfield 7, 3) := by decide +kernel
theorem dX12_seed_9 : decode cX12_seed 9 = .ok (.bipush 8, 2) := by decide +kernel
theorem dX12_seed_11 : decode cX12_seed 11 = .ok (.iaload, 1) := by decide +kernel
theorem dX12_seed_12 : decode cX12_seed 12 = .ok (.istore_n 2, 1) := by decide +kernel
theorem dX12_seed_13 : decode cX12_seed 13 = .ok (.aload_n 0, 1) := by decide +kernel
theorem dX12_seed_14 : decode cX12_seed 14 = .ok (.getfield 7, 3) := by decide +kernel
theorem dX12_seed_17 : decode cX12_seed 17 = .ok (.bipush 8, 2) := by decide +kernel
theorem dX12_seed_19 : decode cX12_seed 19 = .ok (.iload_n 1, 1) := by decide +kernel
theorem dX12_seed_20 : decode cX12_seed 20 = .ok (.iastore, 1) := by decide +kernel
theorem dX12_seed_21 : decode cX12_seed 21 = .ok (.iload_n 2, 1) := by decide +kernel
theorem dX12_seed_22 : decode cX12_seed 22 = .ok (.ireturn, 1) := by decide +kernel
theorem dX12_undo_0 : decode cX12_undo 0 = .ok (.aload_n 0, 1) := by decide +kernel
theorem dX12_undo_1 : decode cX12_undo 1 = .ok (.iconst 0, 1) := by decide +kernel
theorem dX12_undo_2 : decode cX12_undo 2 = .ok (.putfield 59, 3) := by decide +kernel
theorem dX12_undo_5 : decode cX12_undo 5 = .ok (.aload_n 0, 1) := by decide +kernel
theorem dX12_undo_6 : decode cX12_undo 6 = .ok (.getfield 190, 3) := by decide +kernel
theorem dX12_undo_9 : decode cX12_undo 9 = .ok (.ifCond .ne 5, 3) := by decide +kernel
theorem dX12_undo_12 : decode cX12_undo 12 = .ok (.iconst 0, 1) := by decide +kernel
theorem dX12_undo_13 : decode cX12_undo 13 = .ok (.ireturn, 1) := by decide +kernel
theorem dX12_undo_14 : decode cX12_undo 14 = .ok (.aload_n 0, 1) := by decide +kernel
theorem dX12_undo_15 : decode cX12_undo 15 = .ok (.dup, 1) := by decide +kernel
theorem dX12_undo_16 : decode cX12_undo 16 = .ok (.getfield 190, 3) := by decide +kernel
theorem dX12_undo_19 : decode cX12_undo 19 = .ok (.iconst 1, 1) := by decide +kernel
theorem dX12_undo_20 : decode cX12_undo 20 = .ok (.isub, 1) := by decide +kernel
theorem dX12_undo_21 : decode cX12_undo 21 = .ok (.putfield 190, 3) := by decide +kernel
theorem dX12_undo_24 : decode cX12_undo 24 = .ok (.iconst 0, 1) := by decide +kernel
theorem dX12_undo_25 : decode cX12_undo 25 = .ok (.istore_n 1, 1) := by decide +kernel
theorem dX12_undo_26 : decode cX12_undo 26 = .ok (.iload_n 1, 1) := by decide +kernel
theorem dX12_undo_27 : decode cX12_undo 27 = .ok (.sipush 337, 3) := by decide +kernel
theorem dX12_undo_30 : decode cX12_undo 30 = .ok (.if_icmp .ge 30, 3) := by decide +kernel
theorem dX12_undo_33 : decode cX12_undo 33 = .ok (.aload_n 0, 1) := by decide +kernel
theorem dX12_undo_34 : decode cX12_undo 34 = .ok (.getfield 7, 3) := by decide +kernel
theorem dX12_undo_37 : decode cX12_undo 37 = .ok (.iload_n 1, 1) := by decide +kernel
theorem dX12_undo_38 : decode cX12_undo 38 = .ok (.aload_n 0, 1) := by decide +kernel
theorem dX12_undo_39 : decode cX12_undo 39 = .ok (.getfield 19, 3) := by decide +kernel
theorem dX12_undo_42 : decode cX12_undo 42 = .ok (.sipush 337, 3) := by decide +kernel
theorem dX12_undo_45 : decode cX12_undo 45 = .ok (.aload_n 0, 1) := by decide +kernel
theorem dX12_undo_46 : decode cX12_undo 46 = .ok (.getfield 190, 3) := by decide +kernel
theorem dX12_undo_49 : decode cX12_undo 49 = .ok (.imul, 1) := by decide +kernel
theorem dX12_undo_50 : decode cX12_undo 50 = .ok (.iload_n 1, 1) := by decide +kernel
theorem dX12_undo_51 : decode cX12_undo 51 = .ok (.iadd, 1) := by decide +kernel
theorem dX12_undo_52 : decode cX12_undo 52 = .ok (.iaload, 1) := by decide +kernel
theorem dX12_undo_53 : decode cX12_undo 53 = .ok (.iastore, 1) := by decide +kernel
theorem dX12_undo_54 : decode cX12_undo 54 = .ok (.iinc 1 1, 3) := by decide +kernel
theorem dX12_undo_57 : decode cX12_undo 57 = .ok (.goto (-31), 3) := by decide +kernel
theorem dX12_undo_60 : decode cX12_undo 60 = .ok (.iconst 1, 1) := by decide +kernel
theorem dX12_undo_61 : decode cX12_undo 61 = .ok (.ireturn, 1) := by decide +kernel
theorem dX12_image_0 : decode cX12_image 0 = .ok (.aload_n 0, 1) := by decide +kernel
theorem dX12_image_1 : decode cX12_image 1 = .ok (.iconst 0, 1) := by decide +kernel
theorem dX12_image_2 : decode cX12_image 2 = .ok (.putfield 59, 3) := by decide +kernel
theorem dX12_image_5 : decode cX12_image 5 = .ok (.iconst 0, 1) := by decide +kernel
theorem dX12_image_6 : decode cX12_image 6 = .ok (.istore_n 1, 1) := by decide +kernel
theorem dX12_image_7 : decode cX12_image 7 = .ok (.iload_n 1, 1) := by decide +kernel
theorem dX12_image_8 : decode cX12_image 8 = .ok (.sipush 737, 3) := by decide +kernel
theorem dX12_image_11 : decode cX12_image 11 = .ok (.if_icmp .ge 21, 3) := by decide +kernel
theorem dX12_image_14 : decode cX12_image 14 = .ok (.aload_n 0, 1) := by decide +kernel
theorem dX12_image_15 : decode cX12_image 15 = .ok (.getfield 13, 3) := by decide +kernel
theorem dX12_image_18 : decode cX12_image 18 = .ok (.iload_n 1, 1) := by decide +kernel
theorem dX12_image_19 : decode cX12_image 19 = .ok (.aload_n 0, 1) := by decide +kernel
theorem dX12_image_20 : decode cX12_image 20 = .ok (.getfield 7, 3) := by decide +kernel
theorem dX12_image_23 : decode cX12_image 23 = .ok (.iload_n 1, 1) := by decide +kernel
theorem dX12_image_24 : decode cX12_image 24 = .ok (.iaload, 1) := by decide +kernel
theorem dX12_image_25 : decode cX12_image 25 = .ok (.iastore, 1) := by decide +kernel
theorem dX12_image_26 : decode cX12_image 26 = .ok (.iinc 1 1, 3) := by decide +kernel
theorem dX12_image_29 : decode cX12_image 29 = .ok (.goto (-22), 3) := by decide +kernel
theorem dX12_image_32 : decode cX12_image 32 = .ok (.aload_n 0, 1) := by decide +kernel
theorem dX12_image_33 : decode cX12_image 33 = .ok (.iconst 1, 1) := by decide +kernel
theorem dX12_image_34 : decode cX12_image 34 = .ok (.putfield 430, 3) := by decide +kernel
theorem dX12_image_37 : decode cX12_image 37 = .ok (.return_, 1) := by decide +kernel
theorem dX12_back_0 : decode cX12_back 0 = .ok (.aload_n 0, 1) := by decide +kernel
theorem dX12_back_1 : decode cX12_back 1 = .ok (.iconst 0, 1) := by decide +kernel
theorem dX12_back_2 : decode cX12_back 2 = .ok (.putfield 59, 3) := by decide +kernel
theorem dX12_back_5 : decode cX12_back 5 = .ok (.aload_n 0, 1) := by decide +kernel
theorem dX12_back_6 : decode cX12_back 6 = .ok (.getfield 430, 3) := by decide +kernel
theorem dX12_back_9 : decode cX12_back 9 = .ok (.ifCond .ne 5, 3) := by decide +kernel
theorem dX12_back_12 : decode cX12_back 12 = .ok (.iconst 0, 1) := by decide +kernel
theorem dX12_back_13 : decode cX12_back 13 = .ok (.ireturn, 1) := by decide +kernel
theorem dX12_back_14 : decode cX12_back 14 = .ok (.iconst 0, 1) := by decide +kernel
theorem dX12_back_15 : decode cX12_back 15 = .ok (.istore_n 1, 1) := by decide +kernel
theorem dX12_back_16 : decode cX12_back 16 = .ok (.iload_n 1, 1) := by decide +kernel
theorem dX12_back_17 : decode cX12_back 17 = .ok (.sipush 737, 3) := by decide +kernel
theorem dX12_back_20 : decode cX12_back 20 = .ok (.if_icmp .ge 21, 3) := by decide +kernel
theorem dX12_back_23 : decode cX12_back 23 = .ok (.aload_n 0, 1) := by decide +kernel
theorem dX12_back_24 : decode cX12_back 24 = .ok (.getfield 7, 3) := by decide +kernel
theorem dX12_back_27 : decode cX12_back 27 = .ok (.iload_n 1, 1) := by decide +kernel
theorem dX12_back_28 : decode cX12_back 28 = .ok (.aload_n 0, 1) := by decide +kernel
theorem dX12_back_29 : decode cX12_back 29 = .ok (.getfield 13, 3) := by decide +kernel
theorem dX12_back_32 : decode cX12_back 32 = .ok (.iload_n 1, 1) := by decide +kernel
theorem dX12_back_33 : decode cX12_back 33 = .ok (.iaload, 1) := by decide +kernel
theorem dX12_back_34 : decode cX12_back 34 = .ok (.iastore, 1) := by decide +kernel
theorem dX12_back_35 : decode cX12_back 35 = .ok (.iinc 1 1, 3) := by decide +kernel
theorem dX12_back_38 : decode cX12_back 38 = .ok (.goto (-22), 3) := by decide +kernel
theorem dX12_back_41 : decode cX12_back 41 = .ok (.aload_n 0, 1) := by decide +kernel
theorem dX12_back_42 : decode cX12_back 42 = .ok (.iconst 0, 1) := by decide +kernel
theorem dX12_back_43 : decode cX12_back 43 = .ok (.putfield 190, 3) := by decide +kernel
theorem dX12_back_46 : decode cX12_back 46 = .ok (.iconst 1, 1) := by decide +kernel
theorem dX12_back_47 : decode cX12_back 47 = .ok (.ireturn, 1) := by decide +kernel
set_option maxRecDepth 20000 in
theorem ggX12_count_X12_isIn : GoodIn wsX12_count wsX12_isIn := goodIn_r _ [7] (by decide +kernel) (by decide +kernel)
set_option maxRecDepth 20000 in
theorem gX12_count_X12_isIn : GoodIn wsX12_count (va_wsS RX12 62 yX12_isIn wsX12_isIn) := goodIn_app (goodIn_of _ (by decide +kernel)) ggX12_count_X12_isIn
set_option maxRecDepth 20000 in
theorem ggX12_count_X12_inState : GoodIn wsX12_count wsX12_inState := goodIn_r _ [11, 2, 12, 13, 14, 6, 15, 19, 20, 21, 22, 23, 24, 25, 26, 27, 28, 29, 30, 31, 32, 33, 34, 35, 36, 37, 38, 39, 40, 41, 42, 43, 44, 45, 46, 47, 48] (by decide +kernel) (by decide +kernel)
set_option maxRecDepth 20000 in
theorem gX12_count_X12_inState : GoodIn wsX12_count (wsV RX12 250 RX12 yX12_inState wsX12_inState) := goodIn_app (goodIn_of _ (by decide +kernel)) ggX12_count_X12_inState
set_option maxRecDepth 20000 in
theorem ggX12_count_X12_bits : GoodIn wsX12_count wsX12_bits := goodIn_r _ [18] (by decide +kernel) (by decide +kernel)
set_option maxRecDepth 20000 in
theorem gX12_count_X12_bits : GoodIn wsX12_count (va_wsS RX12 247 yX12_bits wsX12_bits) := goodIn_app (goodIn_of _ (by decide +kernel)) ggX12_count_X12_bits
theorem dX12_count_0 : decode cX12_count 0 = .ok (.aload_n 0, 1) := by decide +kernel
theorem dX12_count_1 : decode cX12_count 1 = .ok (.iconst 0, 1) := by decide +kernel
theorem dX12_count_2 : decode cX12_count 2 = .ok (.putfield 59, 3) := by decide +kernel
theorem dX12_count_5 : decode cX12_count 5 = .ok (.iload_n 1, 1) := by decide +kernel
theorem dX12_count_6 : decode cX12_count 6 = .ok (.ifCond .ne 10, 3) := by decide +kernel
theorem dX12_count_9 : decode cX12_count 9 = .ok (.aload_n 0, 1) := by decide +kernel
theorem dX12_count_10 : decode cX12_count 10 = .ok (.getfield 7, 3) := by decide +kernel
theorem dX12_count_13 : decode cX12_count 13 = .ok (.iconst 3, 1) := by decide +kernel
theorem dX12_count_14 : decode cX12_count 14 = .ok (.iaload, 1) := by decide +kernel
theorem dX12_count_15 : decode cX12_count 15 = .ok (.ireturn, 1) := by decide +kernel
theorem dX12_count_16 : decode cX12_count 16 = .ok (.iload_n 1, 1) := by decide +kernel
theorem dX12_count_17 : decode cX12_count 17 = .ok (.iconst 1, 1) := by decide +kernel
theorem dX12_count_18 : decode cX12_count 18 = .ok (.if_icmp .ne 10, 3) := by decide +kernel
theorem dX12_count_21 : decode cX12_count 21 = .ok (.aload_n 0, 1) := by decide +kernel
theorem dX12_count_22 : decode cX12_count 22 = .ok (.getfield 7, 3) := by decide +kernel
theorem dX12_count_25 : decode cX12_count 25 = .ok (.iconst 0, 1) := by decide +kernel
theorem dX12_count_26 : decode cX12_count 26 = .ok (.iaload, 1) := by decide +kernel
theorem dX12_count_27 : decode cX12_count 27 = .ok (.ireturn, 1) := by decide +kernel
theorem dX12_count_28 : decode cX12_count 28 = .ok (.iload_n 1, 1) := by decide +kernel
theorem dX12_count_29 : decode cX12_count 29 = .ok (.iconst 2, 1) := by decide +kernel
theorem dX12_count_30 : decode cX12_count 30 = .ok (.if_icmp .ne 10, 3) := by decide +kernel
theorem dX12_count_33 : decode cX12_count 33 = .ok (.aload_n 0, 1) := by decide +kernel
theorem dX12_count_34 : decode cX12_count 34 = .ok (.getfield 7, 3) := by decide +kernel
theorem dX12_count_37 : decode cX12_count 37 = .ok (.iconst 1, 1) := by decide +kernel
theorem dX12_count_38 : decode cX12_count 38 = .ok (.iaload, 1) := by decide +kernel
theorem dX12_count_39 : decode cX12_count 39 = .ok (.ireturn, 1) := by decide +kernel
theorem dX12_count_40 : decode cX12_count 40 = .ok (.iload_n 1, 1) := by decide +kernel
theorem dX12_count_41 : decode cX12_count 41 = .ok (.iconst 3, 1) := by decide +kernel
theorem dX12_count_42 : decode cX12_count 42 = .ok (.iconst 5, 1) := by decide +kernel
theorem dX12_count_43 : decode cX12_count 43 = .ok (.invokestatic 62, 3) := by decide +kernel
theorem dX12_count_46 : decode cX12_count 46 = .ok (.ifCond .eq 14, 3) := by decide +kernel
theorem dX12_count_49 : decode cX12_count 49 = .ok (.aload_n 0, 1) := by decide +kernel
theorem dX12_count_50 : decode cX12_count 50 = .ok (.getfield 7, 3) := by decide +kernel
theorem dX12_count_53 : decode cX12_count 53 = .ok (.iconst 4, 1) := by decide +kernel
theorem dX12_count_54 : decode cX12_count 54 = .ok (.iload_n 1, 1) := by decide +kernel
theorem dX12_count_55 : decode cX12_count 55 = .ok (.iadd, 1) := by decide +kernel
theorem dX12_count_56 : decode cX12_count 56 = .ok (.iconst 3, 1) := by decide +kernel
theorem dX12_count_57 : decode cX12_count 57 = .ok (.isub, 1) := by decide +kernel
theorem dX12_count_58 : decode cX12_count 58 = .ok (.iaload, 1) := by decide +kernel
theorem dX12_count_59 : decode cX12_count 59 = .ok (.ireturn, 1) := by decide +kernel
theorem dX12_count_60 : decode cX12_count 60 = .ok (.iload_n 1, 1) := by decide +kernel
theorem dX12_count_61 : decode cX12_count 61 = .ok (.bipush 6, 2) := by decide +kernel
theorem dX12_count_63 : decode cX12_count 63 = .ok (.if_icmp .ne 12, 3) := by decide +kernel
theorem dX12_count_66 : decode cX12_count 66 = .ok (.aload_n 0, 1) := by decide +kernel
theorem dX12_count_67 : decode cX12_count 67 = .ok (.iconst 2, 1) := by decide +kernel
theorem dX12_count_68 : decode cX12_count 68 = .ok (.invokevirtual 250, 3) := by decide +kernel
theorem dX12_count_71 : decode cX12_count 71 = .ok (.invokestatic 247, 3) := by decide +kernel
theorem dX12_count_74 : decode cX12_count 74 = .ok (.ireturn, 1) := by decide +kernel
theorem dX12_count_75 : decode cX12_count 75 = .ok (.iload_n 1, 1) := by decide +kernel
theorem dX12_count_76 : decode cX12_count 76 = .ok (.bipush 7, 2) := by decide +kernel
theorem dX12_count_78 : decode cX12_count 78 = .ok (.if_icmp .ne 11, 3) := by decide +kernel
theorem dX12_count_81 : decode cX12_count 81 = .ok (.aload_n 0, 1) := by decide +kernel
theorem dX12_count_82 : decode cX12_count 82 = .ok (.getfield 7, 3) := by decide +kernel
theorem dX12_count_85 : decode cX12_count 85 = .ok (.bipush 7, 2) := by decide +kernel
theorem dX12_count_87 : decode cX12_count 87 = .ok (.iaload, 1) := by decide +kernel
theorem dX12_count_88 : decode cX12_count 88 = .ok (.ireturn, 1) := by decide +kernel
theorem dX12_count_89 : decode cX12_count 89 = .ok (.iload_n 1, 1) := by decide +kernel
theorem dX12_count_90 : decode cX12_count 90 = .ok (.bipush 8, 2) := by decide +kernel
theorem dX12_count_92 : decode cX12_count 92 = .ok (.if_icmp .ne 10, 3) := by decide +kernel
theorem dX12_count_95 : decode cX12_count 95 = .ok (.aload_n 0, 1) := by decide +kernel
theorem dX12_count_96 : decode cX12_count 96 = .ok (.getfield 190, 3) := by decide +kernel
theorem dX12_count_99 : decode cX12_count 99 = .ok (.goto 4, 3) := by decide +kernel
theorem dX12_count_102 : decode cX12_count 102 = .ok (.iconst (-1), 1) := by decide +kernel
theorem dX12_count_103 : decode cX12_count 103 = .ok (.ireturn, 1) := by decide +kernel
theorem dJ6_bitCount_0f7a4_0 : decode cJ6_bitCount_0f7a4 0 = .ok (.iload_n 0, 1) := by decide +kernel
theorem dJ6_bitCount_0f7a4_1 : decode cJ6_bitCount_0f7a4 1 = .ok (.iload_n 0, 1) := by decide +kernel
theorem dJ6_bitCount_0f7a4_2 : decode cJ6_bitCount_0f7a4 2 = .ok (.iconst 1, 1) := by decide +kernel
theorem dJ6_bitCount_0f7a4_3 : decode cJ6_bitCount_0f7a4 3 = .ok (.iushr, 1) := by decide +kernel
theorem dJ6_bitCount_0f7a4_4 : decode cJ6_bitCount_0f7a4 4 = .ok (.ldc_w 265, 3) := by decide +kernel
theorem dJ6_bitCount_0f7a4_7 : decode cJ6_bitCount_0f7a4 7 = .ok (.iand, 1) := by decide +kernel
theorem dJ6_bitCount_0f7a4_8 : decode cJ6_bitCount_0f7a4 8 = .ok (.isub, 1) := by decide +kernel
theorem dJ6_bitCount_0f7a4_9 : decode cJ6_bitCount_0f7a4 9 = .ok (.istore_n 0, 1) := by decide +kernel
theorem dJ6_bitCount_0f7a4_10 : decode cJ6_bitCount_0f7a4 10 = .ok (.iload_n 0, 1) := by decide +kernel
theorem dJ6_bitCount_0f7a4_11 : decode cJ6_bitCount_0f7a4 11 = .ok (.ldc_w 266, 3) := by decide +kernel
theorem dJ6_bitCount_0f7a4_14 : decode cJ6_bitCount_0f7a4 14 = .ok (.iand, 1) := by decide +kernel
theorem dJ6_bitCount_0f7a4_15 : decode cJ6_bitCount_0f7a4 15 = .ok (.iload_n 0, 1) := by decide +kernel
theorem dJ6_bitCount_0f7a4_16 : decode cJ6_bitCount_0f7a4 16 = .ok (.iconst 2, 1) := by decide +kernel
theorem dJ6_bitCount_0f7a4_17 : decode cJ6_bitCount_0f7a4 17 = .ok (.iushr, 1) := by decide +kernel
theorem dJ6_bitCount_0f7a4_18 : decode cJ6_bitCount_0f7a4 18 = .ok (.ldc_w 266, 3) := by decide +kernel
theorem dJ6_bitCount_0f7a4_21 : decode cJ6_bitCount_0f7a4 21 = .ok (.iand, 1) := by decide +kernel
theorem dJ6_bitCount_0f7a4_22 : decode cJ6_bitCount_0f7a4 22 = .ok (.iadd, 1) := by decide +kernel
theorem dJ6_bitCount_0f7a4_23 : decode cJ6_bitCount_0f7a4 23 = .ok (.istore_n 0, 1) := by decide +kernel
theorem dJ6_bitCount_0f7a4_24 : decode cJ6_bitCount_0f7a4 24 = .ok (.iload_n 0, 1) := by decide +kernel
theorem dJ6_bitCount_0f7a4_25 : decode cJ6_bitCount_0f7a4 25 = .ok (.iload_n 0, 1) := by decide +kernel
theorem dJ6_bitCount_0f7a4_26 : decode cJ6_bitCount_0f7a4 26 = .ok (.iconst 4, 1) := by decide +kernel
theorem dJ6_bitCount_0f7a4_27 : decode cJ6_bitCount_0f7a4 27 = .ok (.iushr, 1) := by decide +kernel
theorem dJ6_bitCount_0f7a4_28 : decode cJ6_bitCount_0f7a4 28 = .ok (.iadd, 1) := by decide +kernel
theorem dJ6_bitCount_0f7a4_29 : decode cJ6_bitCount_0f7a4 29 = .ok (.ldc_w 267, 3) := by decide +kernel
theorem dJ6_bitCount_0f7a4_32 : decode cJ6_bitCount_0f7a4 32 = .ok (.iand, 1) := by decide +kernel
theorem dJ6_bitCount_0f7a4_33 : decode cJ6_bitCount_0f7a4 33 = .ok (.istore_n 0, 1) := by decide +kernel
theorem dJ6_bitCount_0f7a4_34 : decode cJ6_bitCount_0f7a4 34 = .ok (.iload_n 0, 1) := by decide +kernel
theorem dJ6_bitCount_0f7a4_35 : decode cJ6_bitCount_0f7a4 35 = .ok (.iload_n 0, 1) := by decide +kernel
theorem dJ6_bitCount_0f7a4_36 : decode cJ6_bitCount_0f7a4 36 = .ok (.bipush 8, 2) := by decide +kernel
theorem dJ6_bitCount_0f7a4_38 : decode cJ6_bitCount_0f7a4 38 = .ok (.iushr, 1) := by decide +kernel
theorem dJ6_bitCount_0f7a4_39 : decode cJ6_bitCount_0f7a4 39 = .ok (.iadd, 1) := by decide +kernel
theorem dJ6_bitCount_0f7a4_40 : decode cJ6_bitCount_0f7a4 40 = .ok (.istore_n 0, 1) := by decide +kernel
theorem dJ6_bitCount_0f7a4_41 : decode cJ6_bitCount_0f7a4 41 = .ok (.iload_n 0, 1) := by decide +kernel
theorem dJ6_bitCount_0f7a4_42 : decode cJ6_bitCount_0f7a4 42 = .ok (.iload_n 0, 1) := by decide +kernel
theorem dJ6_bitCount_0f7a4_43 : decode cJ6_bitCount_0f7a4 43 = .ok (.bipush 16, 2) := by decide +kernel
theorem dJ6_bitCount_0f7a4_45 : decode cJ6_bitCount_0f7a4 45 = .ok (.iushr, 1) := by decide +kernel
theorem dJ6_bitCount_0f7a4_46 : decode cJ6_bitCount_0f7a4 46 = .ok (.iadd, 1) := by decide +kernel
theorem dJ6_bitCount_0f7a4_47 : decode cJ6_bitCount_0f7a4 47 = .ok (.istore_n 0, 1) := by decide +kernel
theorem dJ6_bitCount_0f7a4_48 : decode cJ6_bitCount_0f7a4 48 = .ok (.iload_n 0, 1) := by decide +kernel
theorem dJ6_bitCount_0f7a4_49 : decode cJ6_bitCount_0f7a4 49 = .ok (.bipush 63, 2) := by decide +kernel
theorem dJ6_bitCount_0f7a4_51 : decode cJ6_bitCount_0f7a4 51 = .ok (.iand, 1) := by decide +kernel
theorem dJ6_bitCount_0f7a4_52 : decode cJ6_bitCount_0f7a4 52 = .ok (.ireturn, 1) := by decide +kernel
theorem dJ9_abs_0f7a4_0 : decode cJ9_abs_0f7a4 0 = .ok (.iload_n 0, 1) := by decide +kernel
theorem dJ9_abs_0f7a4_1 : decode cJ9_abs_0f7a4 1 = .ok (.ifCond .ge 8, 3) := by decide +kernel
theorem dJ9_abs_0f7a4_4 : decode cJ9_abs_0f7a4 4 = .ok (.iload_n 0, 1) := by decide +kernel
theorem dJ9_abs_0f7a4_5 : decode cJ9_abs_0f7a4 5 = .ok (.ineg, 1) := by decide +kernel
theorem dJ9_abs_0f7a4_6 : decode cJ9_abs_0f7a4 6 = .ok (.goto 4, 3) := by decide +kernel
theorem dJ9_abs_0f7a4_9 : decode cJ9_abs_0f7a4 9 = .ok (.iload_n 0, 1) := by decide +kernel
theorem dJ9_abs_0f7a4_10 : decode cJ9_abs_0f7a4 10 = .ok (.ireturn, 1) := by decide +kernel
theorem dJ9_max_7cf53_0 : decode cJ9_max_7cf53 0 = .ok (.iload_n 0, 1) := by decide +kernel
theorem dJ9_max_7cf53_1 : decode cJ9_max_7cf53 1 = .ok (.iload_n 1, 1) := by decide +kernel
theorem dJ9_max_7cf53_2 : decode cJ9_max_7cf53 2 = .ok (.if_icmp .lt 7, 3) := by decide +kernel
theorem dJ9_max_7cf53_5 : decode cJ9_max_7cf53 5 = .ok (.iload_n 0, 1) := by decide +kernel
theorem dJ9_max_7cf53_6 : decode cJ9_max_7cf53 6 = .ok (.goto 4, 3) := by decide +kernel
theorem dJ9_max_7cf53_9 : decode cJ9_max_7cf53 9 = .ok (.iload_n 1, 1) := by decide +kernel
theorem dJ9_max_7cf53_10 : decode cJ9_max_7cf53 10 = .ok (.ireturn, 1) := by decide +kernel
theorem dJ9_max_f86c9_0 : decode cJ9_max_f86c9 0 = .ok (.lload_n 0, 1) := by decide +kernel
theorem dJ9_max_f86c9_1 : decode cJ9_max_f86c9 1 = .ok (.lload_n 2, 1) := by decide +kernel
theorem dJ9_max_f86c9_2 : decode cJ9_max_f86c9 2 = .ok (.lcmp, 1) := by decide +kernel
theorem dJ9_max_f86c9_3 : decode cJ9_max_f86c9 3 = .ok (.ifCond .lt 7, 3) := by decide +kernel
theorem dJ9_max_f86c9_6 : decode cJ9_max_f86c9 6 = .ok (.lload_n 0, 1) := by decide +kernel
theorem dJ9_max_f86c9_7 : decode cJ9_max_f86c9 7 = .ok (.goto 4, 3) := by decide +kernel
theorem dJ9_max_f86c9_10 : decode cJ9_max_f86c9 10 = .ok (.lload_n 2, 1) := by decide +kernel
theorem dJ9_max_f86c9_11 : decode cJ9_max_f86c9 11 = .ok (.lreturn, 1) := by decide +kernel
theorem dJ9_min_7cf53_0 : decode cJ9_min_7cf53 0 = .ok (.iload_n 0, 1) := by decide +kernel
theorem dJ9_min_7cf53_1 : decode cJ9_min_7cf53 1 = .ok (.iload_n 1, 1) := by decide +kernel
theorem dJ9_min_7cf53_2 : decode cJ9_min_7cf53 2 = .ok (.if_icmp .gt 7, 3) := by decide +kernel
theorem dJ9_min_7cf53_5 : decode cJ9_min_7cf53 5 = .ok (.iload_n 0, 1) := by decide +kernel
theorem dJ9_min_7cf53_6 : decode cJ9_min_7cf53 6 = .ok (.goto 4, 3) := by decide +kernel
theorem dJ9_min_7cf53_9 : decode cJ9_min_7cf53 9 = .ok (.iload_n 1, 1) := by decide +kernel
theorem dJ9_min_7cf53_10 : decode cJ9_min_7cf53 10 = .ok (.ireturn, 1) := by decide +kernel
set_option maxRecDepth 20000 in
theorem ggJ0_length_8abf5_J0_coder_7d493 : GoodIn wsJ0_length_8abf5 wsJ0_coder_7d493 := goodIn_r _ [6, 7, 8] (by decide +kernel) (by decide +kernel)
set_option maxRecDepth 20000 in
theorem gJ0_length_8abf5_J0_coder_7d493 : GoodIn wsJ0_length_8abf5 (wsV RJ0 335 RJ0 yJ0_coder_7d493 wsJ0_coder_7d493) := goodIn_app (goodIn_of _ (by decide +kernel)) ggJ0_length_8abf5_J0_coder_7d493
theorem dJ0_length_8abf5_0 : decode cJ0_length_8abf5 0 = .ok (.aload_n 0, 1) := by decide +kernel
theorem dJ0_length_8abf5_1 : decode cJ0_length_8abf5 1 = .ok (.getfield 9, 3) := by decide +kernel
theorem dJ0_length_8abf5_4 : decode cJ0_length_8abf5 4 = .ok (.arraylength, 1) := by decide +kernel
theorem dJ0_length_8abf5_5 : decode cJ0_length_8abf5 5 = .ok (.aload_n 0, 1) := by decide +kernel
theorem dJ0_length_8abf5_6 : decode cJ0_length_8abf5 6 = .ok (.invokevirtual 335, 3) := by decide +kernel
theorem dJ0_length_8abf5_9 : decode cJ0_length_8abf5 9 = .ok (.ishr, 1) := by decide +kernel
theorem dJ0_length_8abf5_10 : decode cJ0_length_8abf5 10 = .ok (.ireturn, 1) := by decide +kernel
set_option maxRecDepth 20000 in
theorem ggJ0_charAt_5068e_J0_isLatin1_aae02 : GoodIn wsJ0_charAt_5068e wsJ0_isLatin1_aae02 := goodIn_r _ [6, 7, 8] (by decide +kernel) (by decide +kernel)
set_option maxRecDepth 20000 in
theorem gJ0_charAt_5068e_J0_isLatin1_aae02 : GoodIn wsJ0_charAt_5068e (wsV RJ0 492 RJ0 yJ0_isLatin1_aae02 wsJ0_isLatin1_aae02) := goodIn_app (goodIn_of _ (by decide +kernel)) ggJ0_charAt_5068e_J0_isLatin1_aae02
set_option maxRecDepth 20000 in
theorem ggJ0_charAt_5068e_J1_charAt_3b067 : GoodIn wsJ0_charAt_5068e wsJ1_charAt_3b067 := goodIn_r _ [12, 13, 14, 5, 15, 16, 17, 18, 19, 20] (by decide +kernel) (by decide +kernel)
set_option maxRecDepth 20000 in
theorem gJ0_charAt_5068e_J1_charAt_3b067 : GoodIn wsJ0_charAt_5068e (va_wsS RJ0 495 yJ1_charAt_3b067 wsJ1_charAt_3b067) := goodIn_app (goodIn_of _ (by decide +kernel)) ggJ0_charAt_5068e_J1_charAt_3b067
set_option maxRecDepth 20000 in
theorem ggJ0_charAt_5068e_J2_charAt_3b067 : GoodIn wsJ0_charAt_5068e wsJ2_charAt_3b067 := goodIn_r _ [24, 25, 26, 23, 27, 28, 29, 30, 31, 14, 5, 15, 16, 17, 18, 19, 20, 32, 33, 34, 35, 36, 37] (by decide +kernel) (by decide +kernel)
set_option maxRecDepth 20000 in
theorem gJ0_charAt_5068e_J2_charAt_3b067 : GoodIn wsJ0_charAt_5068e (va_wsS RJ0 498 yJ2_charAt_3b067 wsJ2_charAt_3b067) := goodIn_app (goodIn_of _ (by decide +kernel)) ggJ0_charAt_5068e_J2_charAt_3b067
theorem dJ0_charAt_5068e_0 : decode cJ0_charAt_5068e 0 = .ok (.aload_n 0, 1) := by decide +kernel
theorem dJ0_charAt_5068e_1 : decode cJ0_charAt_5068e 1 = .ok (.invokevirtual 492, 3) := by decide +kernel
theorem dJ0_charAt_5068e_4 : decode cJ0_charAt_5068e 4 = .ok (.ifCond .eq 12, 3) := by decide +kernel
theorem dJ0_charAt_5068e_7 : decode cJ0_charAt_5068e 7 = .ok (.aload_n 0, 1) := by decide +kernel
theorem dJ0_charAt_5068e_8 : decode cJ0_charAt_5068e 8 = .ok (.getfield 9, 3) := by decide +kernel
theorem dJ0_charAt_5068e_11 : decode cJ0_charAt_5068e 11 = .ok (.iload_n 1, 1) := by decide +kernel
theorem dJ0_charAt_5068e_12 : decode cJ0_charAt_5068e 12 = .ok (.invokestatic 495, 3) := by decide +kernel
theorem dJ0_charAt_5068e_15 : decode cJ0_charAt_5068e 15 = .ok (.ireturn, 1) := by decide +kernel
theorem dJ0_charAt_5068e_16 : decode cJ0_charAt_5068e 16 = .ok (.aload_n 0, 1) := by decide +kernel
theorem dJ0_charAt_5068e_17 : decode cJ0_charAt_5068e 17 = .ok (.getfield 9, 3) := by decide +kernel
theorem dJ0_charAt_5068e_20 : decode cJ0_charAt_5068e 20 = .ok (.iload_n 1, 1) := by decide +kernel
theorem dJ0_charAt_5068e_21 : decode cJ0_charAt_5068e 21 = .ok (.invokestatic 498, 3) := by decide +kernel
theorem dJ0_charAt_5068e_24 : decode cJ0_charAt_5068e 24 = .ok (.ireturn, 1) := by decide +kernel
theorem dJ0_coder_7d493_0 : decode cJ0_coder_7d493 0 = .ok (.getstatic 38, 3) := by decide +kernel
theorem dJ0_coder_7d493_3 : decode cJ0_coder_7d493 3 = .ok (.ifCond .eq 10, 3) := by decide +kernel
theorem dJ0_coder_7d493_6 : decode cJ0_coder_7d493 6 = .ok (.aload_n 0, 1) := by decide +kernel
theorem dJ0_coder_7d493_7 : decode cJ0_coder_7d493 7 = .ok (.getfield 15, 3) := by decide +kernel
theorem dJ0_coder_7d493_10 : decode cJ0_coder_7d493 10 = .ok (.goto 4, 3) := by decide +kernel
theorem dJ0_coder_7d493_13 : decode cJ0_coder_7d493 13 = .ok (.iconst 1, 1) := by decide +kernel
theorem dJ0_coder_7d493_14 : decode cJ0_coder_7d493 14 = .ok (.ireturn, 1) := by decide +kernel
theorem dJ0_isLatin1_aae02_0 : decode cJ0_isLatin1_aae02 0 = .ok (.getstatic 38, 3) := by decide +kernel
theorem dJ0_isLatin1_aae02_3 : decode cJ0_isLatin1_aae02 3 = .ok (.ifCond .eq 14, 3) := by decide +kernel
theorem dJ0_isLatin1_aae02_6 : decode cJ0_isLatin1_aae02 6 = .ok (.aload_n 0, 1) := by decide +kernel
theorem dJ0_isLatin1_aae02_7 : decode cJ0_isLatin1_aae02 7 = .ok (.getfield 15, 3) := by decide +kernel
theorem dJ0_isLatin1_aae02_10 : decode cJ0_isLatin1_aae02 10 = .ok (.ifCond .ne 7, 3) := by decide +kernel
theorem dJ0_isLatin1_aae02_13 : decode cJ0_isLatin1_aae02 13 = .ok (.iconst 1, 1) := by decide +kernel
theorem dJ0_isLatin1_aae02_14 : decode cJ0_isLatin1_aae02 14 = .ok (.goto 4, 3) := by decide +kernel
theorem dJ0_isLatin1_aae02_17 : decode cJ0_isLatin1_aae02 17 = .ok (.iconst 0, 1) := by decide +kernel
theorem dJ0_isLatin1_aae02_18 : decode cJ0_isLatin1_aae02 18 = .ok (.ireturn, 1) := by decide +kernel
set_option maxRecDepth 20000 in
theorem ggJ0_checkIndex_df160_J3_checkIndex_8e157 : GoodIn wsJ0_checkIndex_df160 wsJ3_checkIndex_8e157 := goodIn_r _ [5] (by decide +kernel) (by decide +kernel)
set_option maxRecDepth 20000 in
theorem gJ0_checkIndex_df160_J3_checkIndex_8e157 : GoodIn wsJ0_checkIndex_df160 (va_wsS RJ0 1059 yJ3_checkIndex_8e157 wsJ3_checkIndex_8e157) := goodIn_app (goodIn_of _ (by decide +kernel)) ggJ0_checkIndex_df160_J3_checkIndex_8e157
theorem dJ0_checkIndex_df160_0 : decode cJ0_checkIndex_df160 0 = .ok (.iload_n 0, 1) := by decide +kernel
theorem dJ0_checkIndex_df160_1 : decode cJ0_checkIndex_df160 1 = .ok (.iload_n 1, 1) := by decide +kernel
theorem dJ0_checkIndex_df160_2 : decode cJ0_checkIndex_df160 2 = .ok (.getstatic 1053, 3) := by decide +kernel
theorem dJ0_checkIndex_df160_5 : decode cJ0_checkIndex_df160 5 = .ok (.invokestatic 1059, 3) := by decide +kernel
theorem dJ0_checkIndex_df160_8 : decode cJ0_checkIndex_df160 8 = .ok (.pop, 1) := by decide +kernel
theorem dJ0_checkIndex_df160_9 : decode cJ0_checkIndex_df160 9 = .ok (.return_, 1) := by decide +kernel
set_option maxRecDepth 20000 in
theorem ggJ1_charAt_3b067_J0_checkIndex_df160 : GoodIn wsJ1_charAt_3b067 wsJ0_checkIndex_df160 := goodIn_r _ [4, 5, 6, 7, 8, 9] (by decide +kernel) (by decide +kernel)
set_option maxRecDepth 20000 in
theorem gJ1_charAt_3b067_J0_checkIndex_df160 : GoodIn wsJ1_charAt_3b067 (va_wsS RJ1 9 yJ0_checkIndex_df160 wsJ0_checkIndex_df160) := goodIn_app (goodIn_of _ (by decide +kernel)) ggJ1_charAt_3b067_J0_checkIndex_df160
theorem dJ1_charAt_3b067_0 : decode cJ1_charAt_3b067 0 = .ok (.iload_n 1, 1) := by decide +kernel
theorem dJ1_charAt_3b067_1 : decode cJ1_charAt_3b067 1 = .ok (.aload_n 0, 1) := by decide +kernel
theorem dJ1_charAt_3b067_2 : decode cJ1_charAt_3b067 2 = .ok (.arraylength, 1) := by decide +kernel
theorem dJ1_charAt_3b067_3 : decode cJ1_charAt_3b067 3 = .ok (.invokestatic 9, 3) := by decide +kernel
theorem dJ1_charAt_3b067_6 : decode cJ1_charAt_3b067 6 = .ok (.aload_n 0, 1) := by decide +kernel
theorem dJ1_charAt_3b067_7 : decode cJ1_charAt_3b067 7 = .ok (.iload_n 1, 1) := by decide +kernel
theorem dJ1_charAt_3b067_8 : decode cJ1_charAt_3b067 8 = .ok (.baload, 1) := by decide +kernel
theorem dJ1_charAt_3b067_9 : decode cJ1_charAt_3b067 9 = .ok (.sipush 255, 3) := by decide +kernel
theorem dJ1_charAt_3b067_12 : decode cJ1_charAt_3b067 12 = .ok (.iand, 1) := by decide +kernel
theorem dJ1_charAt_3b067_13 : decode cJ1_charAt_3b067 13 = .ok (.i2c, 1) := by decide +kernel
theorem dJ1_charAt_3b067_14 : decode cJ1_charAt_3b067 14 = .ok (.ireturn, 1) := by decide +kernel
set_option maxRecDepth 20000 in
theorem ggJ2_getChar_3b067_J2_length_9d52b : GoodIn wsJ2_getChar_3b067 wsJ2_length_9d52b := goodIn_r _ [7] (by decide +kernel) (by decide +kernel)
set_option maxRecDepth 20000 in
theorem gJ2_getChar_3b067_J2_length_9d52b : GoodIn wsJ2_getChar_3b067 (va_wsS RJ2 48 yJ2_length_9d52b wsJ2_length_9d52b) := goodIn_app (goodIn_of _ (by decide +kernel)) ggJ2_getChar_3b067_J2_length_9d52b
theorem dJ2_getChar_3b067_0 : decode cJ2_getChar_3b067 0 = .ok (.getstatic 44, 3) := by decide +kernel
theorem dJ2_getChar_3b067_3 : decode cJ2_getChar_3b067 3 = .ok (.ifCond .ne 25, 3) := by decide +kernel
theorem dJ2_getChar_3b067_6 : decode cJ2_getChar_3b067 6 = .ok (.iload_n 1, 1) := by decide +kernel
theorem dJ2_getChar_3b067_7 : decode cJ2_getChar_3b067 7 = .ok (.ifCond .lt 11, 3) := by decide +kernel
theorem dJ2_getChar_3b067_10 : decode cJ2_getChar_3b067 10 = .ok (.iload_n 1, 1) := by decide +kernel
theorem dJ2_getChar_3b067_11 : decode cJ2_getChar_3b067 11 = .ok (.aload_n 0, 1) := by decide +kernel
theorem dJ2_getChar_3b067_12 : decode cJ2_getChar_3b067 12 = .ok (.invokestatic 48, 3) := by decide +kernel
theorem dJ2_getChar_3b067_15 : decode cJ2_getChar_3b067 15 = .ok (.if_icmp .lt 13, 3) := by decide +kernel
theorem dJ2_getChar_3b067_18 : decode cJ2_getChar_3b067 18 = .ok (.new 52, 3) := by decide +kernel
theorem dJ2_getChar_3b067_21 : decode cJ2_getChar_3b067 21 = .ok (.dup, 1) := by decide +kernel
theorem dJ2_getChar_3b067_22 : decode cJ2_getChar_3b067 22 = .ok (.ldc 54, 2) := by decide +kernel
theorem dJ2_getChar_3b067_24 : decode cJ2_getChar_3b067 24 = .ok (.invokespecial 56, 3) := by decide +kernel
theorem dJ2_getChar_3b067_27 : decode cJ2_getChar_3b067 27 = .ok (.athrow, 1) := by decide +kernel
theorem dJ2_getChar_3b067_28 : decode cJ2_getChar_3b067 28 = .ok (.iload_n 1, 1) := by decide +kernel
theorem dJ2_getChar_3b067_29 : decode cJ2_getChar_3b067 29 = .ok (.iconst 1, 1) := by decide +kernel
theorem dJ2_getChar_3b067_30 : decode cJ2_getChar_3b067 30 = .ok (.ishl, 1) := by decide +kernel
theorem dJ2_getChar_3b067_31 : decode cJ2_getChar_3b067 31 = .ok (.istore_n 1, 1) := by decide +kernel
theorem dJ2_getChar_3b067_32 : decode cJ2_getChar_3b067 32 = .ok (.aload_n 0, 1) := by decide +kernel
theorem dJ2_getChar_3b067_33 : decode cJ2_getChar_3b067 33 = .ok (.iload_n 1, 1) := by decide +kernel
theorem dJ2_getChar_3b067_34 : decode cJ2_getChar_3b067 34 = .ok (.iinc 1 1, 3) := by decide +kernel
theorem dJ2_getChar_3b067_37 : decode cJ2_getChar_3b067 37 = .ok (.baload, 1) := by decide +kernel
theorem dJ2_getChar_3b067_38 : decode cJ2_getChar_3b067 38 = .ok (.sipush 255, 3) := by decide +kernel
theorem dJ2_getChar_3b067_41 : decode cJ2_getChar_3b067 41 = .ok (.iand, 1) := by decide +kernel
theorem dJ2_getChar_3b067_42 : decode cJ2_getChar_3b067 42 = .ok (.getstatic 59, 3) := by decide +kernel
theorem dJ2_getChar_3b067_45 : decode cJ2_getChar_3b067 45 = .ok (.ishl, 1) := by decide +kernel
theorem dJ2_getChar_3b067_46 : decode cJ2_getChar_3b067 46 = .ok (.aload_n 0, 1) := by decide +kernel
theorem dJ2_getChar_3b067_47 : decode cJ2_getChar_3b067 47 = .ok (.iload_n 1, 1) := by decide +kernel
theorem dJ2_getChar_3b067_48 : decode cJ2_getChar_3b067 48 = .ok (.baload, 1) := by decide +kernel
theorem dJ2_getChar_3b067_49 : decode cJ2_getChar_3b067 49 = .ok (.sipush 255, 3) := by decide +kernel
theorem dJ2_getChar_3b067_52 : decode cJ2_getChar_3b067 52 = .ok (.iand, 1) := by decide +kernel
theorem dJ2_getChar_3b067_53 : decode cJ2_getChar_3b067 53 = .ok (.getstatic 63, 3) := by decide +kernel
theorem dJ2_getChar_3b067_56 : decode cJ2_getChar_3b067 56 = .ok (.ishl, 1) := by decide +kernel
theorem dJ2_getChar_3b067_57 : decode cJ2_getChar_3b067 57 = .ok (.ior, 1) := by decide +kernel
theorem dJ2_getChar_3b067_58 : decode cJ2_getChar_3b067 58 = .ok (.i2c, 1) := by decide +kernel
theorem dJ2_getChar_3b067_59 : decode cJ2_getChar_3b067 59 = .ok (.ireturn, 1) := by decide +kernel
theorem dJ2_length_9d52b_0 : decode cJ2_length_9d52b 0 = .ok (.aload_n 0, 1) := by decide +kernel
theorem dJ2_length_9d52b_1 : decode cJ2_length_9d52b 1 = .ok (.arraylength, 1) := by decide +kernel
theorem dJ2_length_9d52b_2 : decode cJ2_length_9d52b 2 = .ok (.iconst 1, 1) := by decide +kernel
theorem dJ2_length_9d52b_3 : decode cJ2_length_9d52b 3 = .ok (.ishr, 1) := by decide +kernel
theorem dJ2_length_9d52b_4 : decode cJ2_length_9d52b 4 = .ok (.ireturn, 1) := by decide +kernel
set_option maxRecDepth 20000 in
theorem ggJ2_charAt_3b067_J2_checkIndex_2214a : GoodIn wsJ2_charAt_3b067 wsJ2_checkIndex_2214a := goodIn_r _ [4, 5, 6, 3, 7, 8, 9, 10, 11, 12, 13, 14, 15, 16] (by decide +kernel) (by decide +kernel)
set_option maxRecDepth 20000 in
theorem gJ2_charAt_3b067_J2_checkIndex_2214a : GoodIn wsJ2_charAt_3b067 (va_wsS RJ2 67 yJ2_checkIndex_2214a wsJ2_checkIndex_2214a) := goodIn_app (goodIn_of _ (by decide +kernel)) ggJ2_charAt_3b067_J2_checkIndex_2214a
set_option maxRecDepth 20000 in
theorem ggJ2_charAt_3b067_J2_getChar_3b067 : GoodIn wsJ2_charAt_3b067 wsJ2_getChar_3b067 := goodIn_r _ [19, 20, 21, 22, 5, 6, 3, 7] (by decide +kernel) (by decide +kernel)
set_option maxRecDepth 20000 in
theorem gJ2_charAt_3b067_J2_getChar_3b067 : GoodIn wsJ2_charAt_3b067 (va_wsS RJ2 71 yJ2_getChar_3b067 wsJ2_getChar_3b067) := goodIn_app (goodIn_of _ (by decide +kernel)) ggJ2_charAt_3b067_J2_getChar_3b067
theorem dJ2_charAt_3b067_0 : decode cJ2_charAt_3b067 0 = .ok (.iload_n 1, 1) := by decide +kernel
theorem dJ2_charAt_3b067_1 : decode cJ2_charAt_3b067 1 = .ok (.aload_n 0, 1) := by decide +kernel
theorem dJ2_charAt_3b067_2 : decode cJ2_charAt_3b067 2 = .ok (.invokestatic 67, 3) := by decide +kernel
theorem dJ2_charAt_3b067_5 : decode cJ2_charAt_3b067 5 = .ok (.aload_n 0, 1) := by decide +kernel
theorem dJ2_charAt_3b067_6 : decode cJ2_charAt_3b067 6 = .ok (.iload_n 1, 1) := by decide +kernel
theorem dJ2_charAt_3b067_7 : decode cJ2_charAt_3b067 7 = .ok (.invokestatic 71, 3) := by decide +kernel
theorem dJ2_charAt_3b067_10 : decode cJ2_charAt_3b067 10 = .ok (.ireturn, 1) := by decide +kernel
set_option maxRecDepth 20000 in
theorem ggJ2_checkIndex_2214a_J2_length_9d52b : GoodIn wsJ2_checkIndex_2214a wsJ2_length_9d52b := goodIn_r _ [4] (by decide +kernel) (by decide +kernel)
set_option maxRecDepth 20000 in
theorem gJ2_checkIndex_2214a_J2_length_9d52b : GoodIn wsJ2_checkIndex_2214a (va_wsS RJ2 48 yJ2_length_9d52b wsJ2_length_9d52b) := goodIn_app (goodIn_of _ (by decide +kernel)) ggJ2_checkIndex_2214a_J2_length_9d52b
set_option maxRecDepth 20000 in
theorem ggJ2_checkIndex_2214a_J0_checkIndex_df160 : GoodIn wsJ2_checkIndex_2214a wsJ0_checkIndex_df160 := goodIn_r _ [8, 9, 10, 11, 12, 13] (by decide +kernel) (by decide +kernel)
set_option maxRecDepth 20000 in
theorem gJ2_checkIndex_2214a_J0_checkIndex_df160 : GoodIn wsJ2_checkIndex_2214a (va_wsS RJ2 414 yJ0_checkIndex_df160 wsJ0_checkIndex_df160) := goodIn_app (goodIn_of _ (by decide +kernel)) ggJ2_checkIndex_2214a_J0_checkIndex_df160
theorem dJ2_checkIndex_2214a_0 : decode cJ2_checkIndex_2214a 0 = .ok (.iload_n 0, 1) := by decide +kernel
theorem dJ2_checkIndex_2214a_1 : decode cJ2_checkIndex_2214a 1 = .ok (.aload_n 1, 1) := by decide +kernel
theorem dJ2_checkIndex_2214a_2 : decode cJ2_checkIndex_2214a 2 = .ok (.invokestatic 48, 3) := by decide +kernel
theorem dJ2_checkIndex_2214a_5 : decode cJ2_checkIndex_2214a 5 = .ok (.invokestatic 414, 3) := by decide +kernel
theorem dJ2_checkIndex_2214a_8 : decode cJ2_checkIndex_2214a 8 = .ok (.return_, 1) := by decide +kernel
theorem dJ3_checkIndex_8e157_0 : decode cJ3_checkIndex_8e157 0 = .ok (.iload_n 0, 1) := by decide +kernel
theorem dJ3_checkIndex_8e157_1 : decode cJ3_checkIndex_8e157 1 = .ok (.ifCond .lt 8, 3) := by decide +kernel
theorem dJ3_checkIndex_8e157_4 : decode cJ3_checkIndex_8e157 4 = .ok (.iload_n 0, 1) := by decide +kernel
theorem dJ3_checkIndex_8e157_5 : decode cJ3_checkIndex_8e157 5 = .ok (.iload_n 1, 1) := by decide +kernel
theorem dJ3_checkIndex_8e157_6 : decode cJ3_checkIndex_8e157 6 = .ok (.if_icmp .lt 10, 3) := by decide +kernel
theorem dJ3_checkIndex_8e157_9 : decode cJ3_checkIndex_8e157 9 = .ok (.aload_n 2, 1) := by decide +kernel
theorem dJ3_checkIndex_8e157_10 : decode cJ3_checkIndex_8e157 10 = .ok (.iload_n 0, 1) := by decide +kernel
theorem dJ3_checkIndex_8e157_11 : decode cJ3_checkIndex_8e157 11 = .ok (.iload_n 1, 1) := by decide +kernel
theorem dJ3_checkIndex_8e157_12 : decode cJ3_checkIndex_8e157 12 = .ok (.invokestatic 95, 3) := by decide +kernel
theorem dJ3_checkIndex_8e157_15 : decode cJ3_checkIndex_8e157 15 = .ok (.athrow, 1) := by decide +kernel
theorem dJ3_checkIndex_8e157_16 : decode cJ3_checkIndex_8e157 16 = .ok (.iload_n 0, 1) := by decide +kernel
theorem dJ3_checkIndex_8e157_17 : decode cJ3_checkIndex_8e157 17 = .ok (.ireturn, 1) := by decide +kernel
set_option maxRecDepth 20000 in
theorem ggL_cluster_X11_cluster : GoodIn wsL_cluster wsX11_cluster := goodIn_ca (goodIn_ca (goodIn_r _ [7, 8, 9, 10, 11, 12, 13, 14, 15, 16, 17, 18, 19, 20, 21, 22, 23, 6, 24, 25, 26, 27, 28, 29, 30, 31, 32, 33, 34, 35, 36, 37, 38, 39, 40, 41, 42, 43, 44, 45, 46, 47, 48, 49, 50, 51, 52, 53, 54, 55, 56, 57, 58, 59, 60, 61, 62, 63, 64, 65, 66, 67, 68, 69, 70, 71, 72, 73, 74, 75, 76, 77, 78, 79, 80, 81, 82, 83, 84, 85, 86, 87, 88, 89, 90, 91, 92, 93, 94, 95, 96, 97, 98, 99, 100, 101, 102, 103, 104, 105, 106, 107, 108, 109, 110, 111, 112, 113, 114, 115, 116, 117, 118, 119, 120, 121, 122, 123, 124, 125, 126, 127, 128, 129, 130, 131, 132, 133, 134, 135, 136, 137, 138, 139, 140, 141, 142, 143, 144, 145, 146, 147, 148, 149, 150, 151, 152, 153, 154, 155, 156, 157, 158, 159, 160, 161, 162, 163, 164, 165, 166, 167, 168, 169, 170, 171, 172, 173, 174, 175, 176, 177, 178, 179, 180, 181, 182, 183, 184, 185, 186, 187, 188, 189, 190, 191, 192, 193, 194, 195, 196, 197, 198, 199, 200, 201, 202, 203, 204, 205, 206, 207, 208, 209, 210, 211, 212, 213, 214, 215, 216, 217, 218, 219, 220, 221, 222, 223, 224, 225, 226, 227, 228, 229, 230, 231, 232, 233, 234, 235, 236, 237, 238, 239, 240, 241, 242, 243, 244, 245, 246] (by decide +kernel) (by decide +kernel)) (goodIn_sub (fun _ h => List.mem_cons_of_mem _ (List.mem_append_left _ (List.mem_append_right _ h))) (by decide +kernel))) (goodIn_sub (fun _ h => List.mem_cons_of_mem _ (List.mem_append_right _ h)) (by decide +kernel))
set_option maxRecDepth 20000 in
theorem gL_cluster_X11_cluster : GoodIn wsL_cluster (wsV RL 7 RX11 yX11_cluster wsX11_cluster) := goodIn_app (goodIn_of _ (by decide +kernel)) ggL_cluster_X11_cluster
theorem dL_cluster_0 : decode cL_cluster 0 = .ok (.aload_n 1, 1) := by decide +kernel
theorem dL_cluster_1 : decode cL_cluster 1 = .ok (.iconst 0, 1) := by decide +kernel
theorem dL_cluster_2 : decode cL_cluster 2 = .ok (.aload_n 0, 1) := by decide +kernel
theorem dL_cluster_3 : decode cL_cluster 3 = .ok (.invokevirtual 7, 3) := by decide +kernel
theorem dL_cluster_6 : decode cL_cluster 6 = .ok (.i2l, 1) := by decide +kernel
theorem dL_cluster_7 : decode cL_cluster 7 = .ok (.lastore, 1) := by decide +kernel
theorem dL_cluster_8 : decode cL_cluster 8 = .ok (.goto 9, 3) := by decide +kernel
theorem dL_cluster_11 : decode cL_cluster 11 = .ok (.astore_n 2, 1) := by decide +kernel
theorem dL_cluster_12 : decode cL_cluster 12 = .ok (.iconst 1, 1) := by decide +kernel
theorem dL_cluster_13 : decode cL_cluster 13 = .ok (.ireturn, 1) := by decide +kernel
theorem dL_cluster_14 : decode cL_cluster 14 = .ok (.astore_n 2, 1) := by decide +kernel
theorem dL_cluster_15 : decode cL_cluster 15 = .ok (.iconst 2, 1) := by decide +kernel
theorem dL_cluster_16 : decode cL_cluster 16 = .ok (.ireturn, 1) := by decide +kernel
theorem dL_cluster_17 : decode cL_cluster 17 = .ok (.iconst 0, 1) := by decide +kernel
theorem dL_cluster_18 : decode cL_cluster 18 = .ok (.ireturn, 1) := by decide +kernel
set_option maxRecDepth 20000 in
theorem ggL_law_X11_law : GoodIn wsL_law wsX11_law := goodIn_ca (goodIn_r _ [6, 7, 8, 9, 10, 11, 12, 13, 14, 15, 16, 17, 18, 19, 20, 5, 21, 22, 23, 24, 25, 26, 27, 28, 29, 30, 31, 32, 33, 34, 35, 36, 37, 38, 39, 40, 41, 42, 43, 44, 45, 46, 47, 48, 49, 50, 51, 52, 53, 54, 55, 56, 57, 58, 59, 60, 61, 62, 63, 64, 65, 66, 67, 68, 69, 70, 71, 72, 73, 74, 75, 76, 77, 78, 79, 80, 81, 82, 83, 84, 85, 86, 87, 88, 89, 90, 91, 92, 93, 94, 95, 96, 97, 98, 99, 100, 101, 102, 103, 104, 105, 106, 107, 108, 109, 110, 111, 112, 113, 114, 115, 116, 117, 118, 119, 120, 121, 122, 123, 124, 125, 126, 127, 128, 129, 130, 131, 132, 133, 134, 135, 136, 137, 138, 139, 140, 141, 142, 143, 144, 145, 146, 147, 148, 149, 150, 151, 152, 153, 154, 155, 156, 157, 158, 159, 160, 161, 162, 163, 164, 165, 166, 167, 168, 169, 170, 171, 172, 173, 174, 175, 176, 177, 178, 179, 180, 181, 182, 183, 184, 185, 186, 187, 188, 189, 190, 191, 192, 193, 194, 195, 196, 197, 198, 199, 200, 201, 202, 203, 204, 205, 206, 207, 208, 209, 210, 211, 212, 213, 214, 215, 216, 217, 218, 219, 220, 221, 222, 223, 224, 225, 226, 227, 228, 229, 230, 231, 232, 233, 234, 235, 236, 237, 238, 239, 240, 241, 242, 243] (by decide +kernel) (by decide +kernel)) (goodIn_sub (fun _ h => List.mem_cons_of_mem _ (List.mem_append_right _ h)) (by decide +kernel))
set_option maxRecDepth 20000 in
theorem gL_law_X11_law : GoodIn wsL_law (wsV RL 17 RX11 yX11_law wsX11_law) := goodIn_app (goodIn_of _ (by decide +kernel)) ggL_law_X11_law
theorem dL_law_0 : decode cL_law 0 = .ok (.aload_n 1, 1) := by decide +kernel
theorem dL_law_1 : decode cL_law 1 = .ok (.iconst 0, 1) := by decide +kernel
theorem dL_law_2 : decode cL_law 2 = .ok (.aload_n 0, 1) := by decide +kernel
theorem dL_law_3 : decode cL_law 3 = .ok (.invokevirtual 17, 3) := by decide +kernel
theorem dL_law_6 : decode cL_law 6 = .ok (.i2l, 1) := by decide +kernel
theorem dL_law_7 : decode cL_law 7 = .ok (.lastore, 1) := by decide +kernel
theorem dL_law_8 : decode cL_law 8 = .ok (.goto 6, 3) := by decide +kernel
theorem dL_law_11 : decode cL_law 11 = .ok (.astore_n 2, 1) := by decide +kernel
theorem dL_law_12 : decode cL_law 12 = .ok (.iconst 1, 1) := by decide +kernel
theorem dL_law_13 : decode cL_law 13 = .ok (.ireturn, 1) := by decide +kernel
theorem dL_law_14 : decode cL_law 14 = .ok (.iconst 0, 1) := by decide +kernel
theorem dL_law_15 : decode cL_law 15 = .ok (.ireturn, 1) := by decide +kernel
set_option maxRecDepth 20000 in
theorem ggL_node_X11_node : GoodIn wsL_node wsX11_node := goodIn_ca (goodIn_ca (goodIn_r _ [7, 8, 9, 10, 11, 12, 13, 14, 15, 16, 17, 18, 19, 20, 21, 22, 23, 24, 6, 25, 26, 27, 28, 29, 30, 31, 32, 33, 34, 35, 36, 37, 38, 39, 40, 41, 42, 43, 44, 45, 46, 47, 48, 49, 50, 51, 52, 53, 54, 55, 56, 57, 58, 59, 60, 61, 62, 63, 64, 65, 66, 67, 68, 69, 70, 71, 72, 73, 74, 75, 76, 77, 78, 79, 80, 81, 82, 83, 84, 85, 86, 87, 88, 89, 90, 91, 92, 93, 94, 95, 96, 97, 98, 99, 100, 101, 102, 103, 104, 105, 106, 107, 108, 109, 110, 111, 112, 113, 114, 115, 116, 117, 118, 119, 120, 121, 122, 123, 124, 125, 126, 127, 128, 129, 130, 131, 132, 133, 134, 135, 136, 137, 138, 139, 140, 141, 142, 143, 144, 145, 146, 147, 148, 149, 150, 151, 152, 153, 154, 155, 156, 157, 158, 159, 160, 161, 162, 163, 164, 165, 166, 167, 168, 169, 170, 171, 172, 173, 174, 175, 176, 177, 178, 179, 180, 181, 182, 183, 184, 185, 186, 187, 188, 189, 190, 191, 192, 193, 194, 195, 196, 197, 198, 199, 200, 201, 202, 203, 204, 205, 206, 207, 208, 209, 210, 211] (by decide +kernel) (by decide +kernel)) (goodIn_sub (fun _ h => List.mem_cons_of_mem _ (List.mem_append_left _ (List.mem_append_right _ h))) (by decide +kernel))) (goodIn_sub (fun _ h => List.mem_cons_of_mem _ (List.mem_append_right _ h)) (by decide +kernel))
set_option maxRecDepth 20000 in
theorem gL_node_X11_node : GoodIn wsL_node (wsV RL 20 RX11 yX11_node wsX11_node) := goodIn_app (goodIn_of _ (by decide +kernel)) ggL_node_X11_node
theorem dL_node_0 : decode cL_node 0 = .ok (.aload_n 3, 1) := by decide +kernel
theorem dL_node_1 : decode cL_node 1 = .ok (.iconst 0, 1) := by decide +kernel
theorem dL_node_2 : decode cL_node 2 = .ok (.aload_n 0, 1) := by decide +kernel
theorem dL_node_3 : decode cL_node 3 = .ok (.iload_n 1, 1) := by decide +kernel
theorem dL_node_4 : decode cL_node 4 = .ok (.iload_n 2, 1) := by decide +kernel
theorem dL_node_5 : decode cL_node 5 = .ok (.invokevirtual 20, 3) := by decide +kernel
theorem dL_node_8 : decode cL_node 8 = .ok (.i2l, 1) := by decide +kernel
theorem dL_node_9 : decode cL_node 9 = .ok (.lastore, 1) := by decide +kernel
theorem dL_node_10 : decode cL_node 10 = .ok (.goto 11, 3) := by decide +kernel
theorem dL_node_13 : decode cL_node 13 = .ok (.astore 4, 2) := by decide +kernel
theorem dL_node_15 : decode cL_node 15 = .ok (.iconst 1, 1) := by decide +kernel
theorem dL_node_16 : decode cL_node 16 = .ok (.ireturn, 1) := by decide +kernel
theorem dL_node_17 : decode cL_node 17 = .ok (.astore 4, 2) := by decide +kernel
theorem dL_node_19 : decode cL_node 19 = .ok (.iconst 2, 1) := by decide +kernel
theorem dL_node_20 : decode cL_node 20 = .ok (.ireturn, 1) := by decide +kernel
theorem dL_node_21 : decode cL_node 21 = .ok (.iconst 0, 1) := by decide +kernel
theorem dL_node_22 : decode cL_node 22 = .ok (.ireturn, 1) := by decide +kernel
set_option maxRecDepth 20000 in
theorem ggL_shift_X11_shift : GoodIn wsL_shift wsX11_shift := goodIn_ca (goodIn_ca (goodIn_r _ [7, 8, 9, 10, 11, 12, 13, 14, 15, 16, 17, 18, 6, 19, 20, 21, 22, 23, 24, 25, 26, 27, 28, 29, 30, 31, 32, 33, 34, 35, 36, 37, 38, 39, 40, 41, 42, 43, 44, 45, 46, 47, 48, 49, 50, 51, 52, 53, 54, 55, 56, 57, 58, 59, 60, 61, 62, 63, 64, 65, 66, 67, 68, 69, 70, 71, 72, 73, 74, 75, 76, 77, 78, 79, 80, 81, 82, 83, 84, 85, 86, 87, 88, 89, 90, 91, 92, 93, 94, 95, 96, 97, 98, 99, 100, 101, 102, 103, 104, 105, 106, 107, 108, 109, 110, 111, 112, 113, 114, 115, 116, 117, 118, 119, 120, 121, 122, 123, 124, 125, 126, 127, 128, 129, 130, 131, 132, 133, 134, 135, 136, 137, 138, 139, 140, 141, 142, 143, 144, 145, 146, 147, 148, 149, 150, 151, 152, 153] (by decide +kernel) (by decide +kernel)) (goodIn_sub (fun _ h => List.mem_cons_of_mem _ (List.mem_append_left _ (List.mem_append_right _ h))) (by decide +kernel))) (goodIn_sub (fun _ h => List.mem_cons_of_mem _ (List.mem_append_right _ h)) (by decide +kernel))
set_option maxRecDepth 20000 in
theorem gL_shift_X11_shift : GoodIn wsL_shift (wsV RL 28 RX11 yX11_shift wsX11_shift) := goodIn_app (goodIn_of _ (by decide +kernel)) ggL_shift_X11_shift
theorem dL_shift_0 : decode cL_shift 0 = .ok (.aload_n 3, 1) := by decide +kernel
theorem dL_shift_1 : decode cL_shift 1 = .ok (.iconst 0, 1) := by decide +kernel
theorem dL_shift_2 : decode cL_shift 2 = .ok (.aload_n 0, 1) := by decide +kernel
theorem dL_shift_3 : decode cL_shift 3 = .ok (.iload_n 1, 1) := by decide +kernel
theorem dL_shift_4 : decode cL_shift 4 = .ok (.iload_n 2, 1) := by decide +kernel
theorem dL_shift_5 : decode cL_shift 5 = .ok (.invokevirtual 28, 3) := by decide +kernel
theorem dL_shift_8 : decode cL_shift 8 = .ok (.i2l, 1) := by decide +kernel
theorem dL_shift_9 : decode cL_shift 9 = .ok (.lastore, 1) := by decide +kernel
theorem dL_shift_10 : decode cL_shift 10 = .ok (.goto 11, 3) := by decide +kernel
theorem dL_shift_13 : decode cL_shift 13 = .ok (.astore 4, 2) := by decide +kernel
theorem dL_shift_15 : decode cL_shift 15 = .ok (.iconst 1, 1) := by decide +kernel
theorem dL_shift_16 : decode cL_shift 16 = .ok (.ireturn, 1) := by decide +kernel
theorem dL_shift_17 : decode cL_shift 17 = .ok (.astore 4, 2) := by decide +kernel
theorem dL_shift_19 : decode cL_shift 19 = .ok (.iconst 2, 1) := by decide +kernel
theorem dL_shift_20 : decode cL_shift 20 = .ok (.ireturn, 1) := by decide +kernel
theorem dL_shift_21 : decode cL_shift 21 = .ok (.iconst 0, 1) := by decide +kernel
theorem dL_shift_22 : decode cL_shift 22 = .ok (.ireturn, 1) := by decide +kernel
set_option maxRecDepth 20000 in
theorem ggL_hears_X11_hears : GoodIn wsL_hears wsX11_hears := goodIn_ca (goodIn_ca (goodIn_r _ [7, 8, 9, 10, 11, 12, 13, 14, 15, 16, 17, 18, 6, 19, 20, 21, 22, 23, 24, 25, 26, 27, 28, 29, 30, 31, 32, 33, 34, 35, 36, 37, 38, 39, 40, 41, 42, 43, 44, 45, 46, 47, 48, 49, 50, 51, 52, 53, 54, 55, 56, 57, 58, 59, 60, 61, 62, 63, 64, 65, 66, 67, 68, 69, 70, 71, 72, 73, 74, 75, 76, 77, 78, 79, 80, 81, 82, 83, 84, 85, 86, 87, 88, 89, 90, 91, 92, 93, 94, 95, 96, 97, 98, 99, 100, 101, 102, 103, 104, 105, 106, 107, 108, 109, 110, 111, 112, 113, 114, 115, 116, 117, 118, 119, 120, 121, 122, 123, 124, 125, 126, 127, 128, 129, 130, 131, 132, 133, 134, 135, 136, 137, 138, 139, 140, 141, 142, 143, 144, 145, 146, 147, 148, 149, 150, 151, 152, 153, 154, 155, 156] (by decide +kernel) (by decide +kernel)) (goodIn_sub (fun _ h => List.mem_cons_of_mem _ (List.mem_append_left _ (List.mem_append_right _ h))) (by decide +kernel))) (goodIn_sub (fun _ h => List.mem_cons_of_mem _ (List.mem_append_right _ h)) (by decide +kernel))
set_option maxRecDepth 20000 in
theorem gL_hears_X11_hears : GoodIn wsL_hears (wsV RL 31 RX11 yX11_hears wsX11_hears) := goodIn_app (goodIn_of _ (by decide +kernel)) ggL_hears_X11_hears
theorem dL_hears_0 : decode cL_hears 0 = .ok (.aload_n 3, 1) := by decide +kernel
theorem dL_hears_1 : decode cL_hears 1 = .ok (.iconst 0, 1) := by decide +kernel
theorem dL_hears_2 : decode cL_hears 2 = .ok (.aload_n 0, 1) := by decide +kernel
theorem dL_hears_3 : decode cL_hears 3 = .ok (.iload_n 1, 1) := by decide +kernel
theorem dL_hears_4 : decode cL_hears 4 = .ok (.iload_n 2, 1) := by decide +kernel
theorem dL_hears_5 : decode cL_hears 5 = .ok (.invokevirtual 31, 3) := by decide +kernel
theorem dL_hears_8 : decode cL_hears 8 = .ok (.ifCond .eq 7, 3) := by decide +kernel
theorem dL_hears_11 : decode cL_hears 11 = .ok (.lconst 1, 1) := by decide +kernel
theorem dL_hears_12 : decode cL_hears 12 = .ok (.goto 4, 3) := by decide +kernel
theorem dL_hears_15 : decode cL_hears 15 = .ok (.lconst 0, 1) := by decide +kernel
theorem dL_hears_16 : decode cL_hears 16 = .ok (.lastore, 1) := by decide +kernel
theorem dL_hears_17 : decode cL_hears 17 = .ok (.goto 11, 3) := by decide +kernel
theorem dL_hears_20 : decode cL_hears 20 = .ok (.astore 4, 2) := by decide +kernel
theorem dL_hears_22 : decode cL_hears 22 = .ok (.iconst 1, 1) := by decide +kernel
theorem dL_hears_23 : decode cL_hears 23 = .ok (.ireturn, 1) := by decide +kernel
theorem dL_hears_24 : decode cL_hears 24 = .ok (.astore 4, 2) := by decide +kernel
theorem dL_hears_26 : decode cL_hears 26 = .ok (.iconst 2, 1) := by decide +kernel
theorem dL_hears_27 : decode cL_hears 27 = .ok (.ireturn, 1) := by decide +kernel
theorem dL_hears_28 : decode cL_hears 28 = .ok (.iconst 0, 1) := by decide +kernel
theorem dL_hears_29 : decode cL_hears 29 = .ok (.ireturn, 1) := by decide +kernel
set_option maxRecDepth 20000 in
theorem ggL_rounds_X11_rounds : GoodIn wsL_rounds wsX11_rounds := goodIn_ca (goodIn_r _ [6, 7, 8, 9, 10, 11, 12, 13, 14, 15, 16, 17, 18, 19, 20, 21, 22, 23, 24, 25, 26, 27, 28, 29, 30, 31, 32, 33, 34, 35, 36, 37, 38, 39, 40, 41, 42, 43, 44, 45, 46, 47, 48, 49, 50, 51, 52, 53, 54, 55, 56, 57, 58, 59, 60, 61, 62, 63, 64, 65, 66, 67, 68, 69, 70, 71, 72, 73, 74, 75, 76, 77, 78, 79, 80, 81, 82, 83, 84, 85, 86, 87, 88, 89, 90, 91, 92, 93, 94, 95, 96, 97, 98, 99, 5, 100, 101, 102, 103, 104, 105, 106, 107, 108, 109, 110, 111, 112, 113, 114, 115, 116, 117, 118, 119, 120, 121, 122, 123, 124, 125, 126, 127, 128, 129, 130, 131, 132, 133, 134, 135, 136, 137, 138, 139, 140, 141, 142, 143, 144, 145, 146, 147, 148, 149, 150, 151, 152, 153, 154, 155, 156, 157, 158, 159, 160, 161, 162, 163, 164, 165, 166, 167, 168, 169, 170, 171, 172, 173, 174, 175, 176, 177, 178, 179, 180, 181, 182, 183, 184, 185, 186, 187, 188, 189, 190, 191, 192, 193, 194, 195, 196, 197, 198, 199, 200, 201, 202, 203, 204, 205, 206, 207, 208, 209, 210, 211, 212, 213, 214, 215, 216, 217, 218, 219, 220, 221, 222, 223, 224, 225, 226, 227, 228, 229, 230, 231, 232, 233, 234, 235, 236, 237, 238, 239, 240, 241, 242, 243, 244, 245, 246, 247, 248, 249, 250, 251, 252, 253, 254, 255, 256, 257, 258, 259, 260, 261, 262, 263, 264, 265, 266, 267, 268, 269, 270, 271, 272, 273, 274, 275, 276, 277, 278, 279, 280, 281] (by decide +kernel) (by decide +kernel)) (goodIn_sub (fun _ h => List.mem_cons_of_mem _ (List.mem_append_right _ h)) (by decide +kernel))
set_option maxRecDepth 20000 in
theorem gL_rounds_X11_rounds : GoodIn wsL_rounds (wsV RL 35 RX11 yX11_rounds wsX11_rounds) := goodIn_app (goodIn_of _ (by decide +kernel)) ggL_rounds_X11_rounds
theorem dL_rounds_0 : decode cL_rounds 0 = .ok (.aload_n 2, 1) := by decide +kernel
theorem dL_rounds_1 : decode cL_rounds 1 = .ok (.iconst 0, 1) := by decide +kernel
theorem dL_rounds_2 : decode cL_rounds 2 = .ok (.aload_n 0, 1) := by decide +kernel
theorem dL_rounds_3 : decode cL_rounds 3 = .ok (.iload_n 1, 1) := by decide +kernel
theorem dL_rounds_4 : decode cL_rounds 4 = .ok (.invokevirtual 35, 3) := by decide +kernel
theorem dL_rounds_7 : decode cL_rounds 7 = .ok (.i2l, 1) := by decide +kernel
theorem dL_rounds_8 : decode cL_rounds 8 = .ok (.lastore, 1) := by decide +kernel
theorem dL_rounds_9 : decode cL_rounds 9 = .ok (.goto 6, 3) := by decide +kernel
theorem dL_rounds_12 : decode cL_rounds 12 = .ok (.astore_n 3, 1) := by decide +kernel
theorem dL_rounds_13 : decode cL_rounds 13 = .ok (.iconst 1, 1) := by decide +kernel
theorem dL_rounds_14 : decode cL_rounds 14 = .ok (.ireturn, 1) := by decide +kernel
theorem dL_rounds_15 : decode cL_rounds 15 = .ok (.iconst 0, 1) := by decide +kernel
theorem dL_rounds_16 : decode cL_rounds 16 = .ok (.ireturn, 1) := by decide +kernel
set_option maxRecDepth 20000 in
theorem ggL_add_X11_add : GoodIn wsL_add wsX11_add := goodIn_ca (goodIn_ca (goodIn_r _ [7, 8, 9, 10, 11, 12, 13, 14, 15, 16, 17, 18, 19, 20, 21, 22, 23, 24, 25, 26, 27, 28, 29, 30, 31, 32, 33, 34, 35, 36, 37, 38, 39, 40, 41, 42, 43, 44, 45, 46, 47, 48, 49, 50, 51, 52, 53, 54, 55, 56, 57, 58, 59, 60, 61, 62, 63, 64, 65, 66, 67, 68, 69, 70, 71, 72, 73, 74, 75, 76, 77, 78, 79, 80, 81, 82, 83, 84, 85, 86, 87, 88, 89, 90, 91, 92, 93, 94, 95, 96, 97, 98, 99, 100, 101, 102, 103, 104, 105, 106, 107, 108, 109, 110, 111] (by decide +kernel) (by decide +kernel)) (goodIn_sub (fun _ h => List.mem_cons_of_mem _ (List.mem_append_left _ (List.mem_append_right _ h))) (by decide +kernel))) (goodIn_sub (fun _ h => List.mem_cons_of_mem _ (List.mem_append_right _ h)) (by decide +kernel))
set_option maxRecDepth 20000 in
theorem gL_add_X11_add : GoodIn wsL_add (wsV RL 39 RX11 yX11_add wsX11_add) := goodIn_app (goodIn_of _ (by decide +kernel)) ggL_add_X11_add
theorem dL_add_0 : decode cL_add 0 = .ok (.aload_n 2, 1) := by decide +kernel
theorem dL_add_1 : decode cL_add 1 = .ok (.iconst 0, 1) := by decide +kernel
theorem dL_add_2 : decode cL_add 2 = .ok (.aload_n 0, 1) := by decide +kernel
theorem dL_add_3 : decode cL_add 3 = .ok (.iload_n 1, 1) := by decide +kernel
theorem dL_add_4 : decode cL_add 4 = .ok (.invokevirtual 39, 3) := by decide +kernel
theorem dL_add_7 : decode cL_add 7 = .ok (.i2l, 1) := by decide +kernel
theorem dL_add_8 : decode cL_add 8 = .ok (.lastore, 1) := by decide +kernel
theorem dL_add_9 : decode cL_add 9 = .ok (.goto 9, 3) := by decide +kernel
theorem dL_add_12 : decode cL_add 12 = .ok (.astore_n 3, 1) := by decide +kernel
theorem dL_add_13 : decode cL_add 13 = .ok (.iconst 1, 1) := by decide +kernel
theorem dL_add_14 : decode cL_add 14 = .ok (.ireturn, 1) := by decide +kernel
theorem dL_add_15 : decode cL_add 15 = .ok (.astore_n 3, 1) := by decide +kernel
theorem dL_add_16 : decode cL_add 16 = .ok (.iconst 2, 1) := by decide +kernel
theorem dL_add_17 : decode cL_add 17 = .ok (.ireturn, 1) := by decide +kernel
theorem dL_add_18 : decode cL_add 18 = .ok (.iconst 0, 1) := by decide +kernel
theorem dL_add_19 : decode cL_add 19 = .ok (.ireturn, 1) := by decide +kernel
set_option maxRecDepth 20000 in
theorem ggL_power_X11_power : GoodIn wsL_power wsX11_power := goodIn_ca (goodIn_ca (goodIn_r _ [7, 8, 9, 10, 11, 12, 13, 14, 15, 16, 17, 18, 19, 20, 21, 22, 23, 24, 25, 26, 27, 6, 28, 29, 30, 31, 32, 33, 34, 35, 36, 37, 38, 39, 40, 41, 42, 43, 44, 45, 46, 47, 48, 49, 50, 51, 52, 53, 54, 55, 56, 57, 58, 59, 60, 61, 62, 63, 64, 65, 66, 67, 68, 69, 70, 71, 72, 73, 74, 75, 76, 77, 78, 79, 80, 81, 82, 83, 84, 85, 86, 87, 88, 89, 90, 91, 92, 93, 94, 95, 96, 97, 98, 99, 100, 101, 102, 103, 104, 105, 106, 107, 108, 109, 110, 111, 112, 113, 114, 115, 116, 117, 118, 119, 120, 121, 122, 123, 124, 125, 126, 127, 128, 129, 130, 131, 132, 133, 134, 135, 136, 137, 138, 139, 140, 141, 142, 143, 144, 145, 146, 147, 148, 149, 150, 151, 152, 153, 154, 155, 156, 157, 158, 159, 160, 161, 162, 163, 164, 165, 166, 167, 168, 169] (by decide +kernel) (by decide +kernel)) (goodIn_sub (fun _ h => List.mem_cons_of_mem _ (List.mem_append_left _ (List.mem_append_right _ h))) (by decide +kernel))) (goodIn_sub (fun _ h => List.mem_cons_of_mem _ (List.mem_append_right _ h)) (by decide +kernel))
set_option maxRecDepth 20000 in
theorem gL_power_X11_power : GoodIn wsL_power (wsV RL 44 RX11 yX11_power wsX11_power) := goodIn_app (goodIn_of _ (by decide +kernel)) ggL_power_X11_power
theorem dL_power_0 : decode cL_power 0 = .ok (.aload_n 3, 1) := by decide +kernel
theorem dL_power_1 : decode cL_power 1 = .ok (.iconst 0, 1) := by decide +kernel
theorem dL_power_2 : decode cL_power 2 = .ok (.aload_n 0, 1) := by decide +kernel
theorem dL_power_3 : decode cL_power 3 = .ok (.iload_n 1, 1) := by decide +kernel
theorem dL_power_4 : decode cL_power 4 = .ok (.iload_n 2, 1) := by decide +kernel
theorem dL_power_5 : decode cL_power 5 = .ok (.invokevirtual 44, 3) := by decide +kernel
theorem dL_power_8 : decode cL_power 8 = .ok (.i2l, 1) := by decide +kernel
theorem dL_power_9 : decode cL_power 9 = .ok (.lastore, 1) := by decide +kernel
theorem dL_power_10 : decode cL_power 10 = .ok (.goto 11, 3) := by decide +kernel
theorem dL_power_13 : decode cL_power 13 = .ok (.astore 4, 2) := by decide +kernel
theorem dL_power_15 : decode cL_power 15 = .ok (.iconst 1, 1) := by decide +kernel
theorem dL_power_16 : decode cL_power 16 = .ok (.ireturn, 1) := by decide +kernel
theorem dL_power_17 : decode cL_power 17 = .ok (.astore 4, 2) := by decide +kernel
theorem dL_power_19 : decode cL_power 19 = .ok (.iconst 2, 1) := by decide +kernel
theorem dL_power_20 : decode cL_power 20 = .ok (.ireturn, 1) := by decide +kernel
theorem dL_power_21 : decode cL_power 21 = .ok (.iconst 0, 1) := by decide +kernel
theorem dL_power_22 : decode cL_power 22 = .ok (.ireturn, 1) := by decide +kernel
set_option maxRecDepth 20000 in
theorem ggL_spoil_X11_spoil : GoodIn wsL_spoil wsX11_spoil := goodIn_ca (goodIn_ca (goodIn_r _ [7, 8, 9, 10, 11, 12, 13, 14, 15, 16, 17, 18, 19, 6, 20, 21, 22, 23, 24, 25, 26, 27, 28, 29, 30, 31, 32, 33, 34, 35, 36, 37, 38, 39, 40, 41, 42, 43, 44, 45, 46, 47, 48, 49, 50, 51, 52, 53, 54, 55, 56, 57, 58, 59, 60, 61, 62, 63, 64, 65, 66, 67, 68, 69, 70, 71, 72, 73, 74, 75, 76, 77, 78, 79, 80, 81, 82, 83, 84, 85, 86, 87, 88, 89, 90, 91, 92, 93, 94, 95, 96, 97, 98, 99, 100, 101, 102, 103, 104, 105, 106, 107, 108, 109, 110] (by decide +kernel) (by decide +kernel)) (goodIn_sub (fun _ h => List.mem_cons_of_mem _ (List.mem_append_left _ (List.mem_append_right _ h))) (by decide +kernel))) (goodIn_sub (fun _ h => List.mem_cons_of_mem _ (List.mem_append_right _ h)) (by decide +kernel))
set_option maxRecDepth 20000 in
theorem gL_spoil_X11_spoil : GoodIn wsL_spoil (wsV RL 48 RX11 yX11_spoil wsX11_spoil) := goodIn_app (goodIn_of _ (by decide +kernel)) ggL_spoil_X11_spoil
theorem dL_spoil_0 : decode cL_spoil 0 = .ok (.aload 4, 2) := by decide +kernel
theorem dL_spoil_2 : decode cL_spoil 2 = .ok (.iconst 0, 1) := by decide +kernel
theorem dL_spoil_3 : decode cL_spoil 3 = .ok (.aload_n 0, 1) := by decide +kernel
theorem dL_spoil_4 : decode cL_spoil 4 = .ok (.iload_n 1, 1) := by decide +kernel
theorem dL_spoil_5 : decode cL_spoil 5 = .ok (.iload_n 2, 1) := by decide +kernel
theorem dL_spoil_6 : decode cL_spoil 6 = .ok (.iload_n 3, 1) := by decide +kernel
theorem dL_spoil_7 : decode cL_spoil 7 = .ok (.invokevirtual 48, 3) := by decide +kernel
theorem dL_spoil_10 : decode cL_spoil 10 = .ok (.i2l, 1) := by decide +kernel
theorem dL_spoil_11 : decode cL_spoil 11 = .ok (.lastore, 1) := by decide +kernel
theorem dL_spoil_12 : decode cL_spoil 12 = .ok (.goto 11, 3) := by decide +kernel
theorem dL_spoil_15 : decode cL_spoil 15 = .ok (.astore 5, 2) := by decide +kernel
theorem dL_spoil_17 : decode cL_spoil 17 = .ok (.iconst 1, 1) := by decide +kernel
theorem dL_spoil_18 : decode cL_spoil 18 = .ok (.ireturn, 1) := by decide +kernel
theorem dL_spoil_19 : decode cL_spoil 19 = .ok (.astore 5, 2) := by decide +kernel
theorem dL_spoil_21 : decode cL_spoil 21 = .ok (.iconst 2, 1) := by decide +kernel
theorem dL_spoil_22 : decode cL_spoil 22 = .ok (.ireturn, 1) := by decide +kernel
theorem dL_spoil_23 : decode cL_spoil 23 = .ok (.iconst 0, 1) := by decide +kernel
theorem dL_spoil_24 : decode cL_spoil 24 = .ok (.ireturn, 1) := by decide +kernel
set_option maxRecDepth 20000 in
theorem ggL_set_X11_set : GoodIn wsL_set wsX11_set := goodIn_ca (goodIn_ca (goodIn_r _ [7, 8, 9, 10, 11, 12, 13, 14, 15, 16, 17, 18, 6, 19, 20, 21, 22, 23, 24, 25, 26, 27, 28, 29, 30, 31, 32, 33, 34, 35, 36, 37, 38, 39, 40, 41, 42, 43, 44, 45, 46, 47, 48, 49, 50, 51, 52, 53, 54, 55, 56, 57, 58, 59, 60, 61, 62, 63, 64, 65, 66, 67, 68, 69, 70, 71, 72, 73, 74, 75, 76, 77, 78, 79, 80, 81, 82, 83, 84, 85, 86, 87, 88, 89, 90, 91, 92, 93, 94, 95, 96, 97, 98, 99, 100, 101, 102, 103, 104, 105, 106, 107, 108, 109] (by decide +kernel) (by decide +kernel)) (goodIn_sub (fun _ h => List.mem_cons_of_mem _ (List.mem_append_left _ (List.mem_append_right _ h))) (by decide +kernel))) (goodIn_sub (fun _ h => List.mem_cons_of_mem _ (List.mem_append_right _ h)) (by decide +kernel))
set_option maxRecDepth 20000 in
theorem gL_set_X11_set : GoodIn wsL_set (wsV RL 52 RX11 yX11_set wsX11_set) := goodIn_app (goodIn_of _ (by decide +kernel)) ggL_set_X11_set
theorem dL_set_0 : decode cL_set 0 = .ok (.aload_n 3, 1) := by decide +kernel
theorem dL_set_1 : decode cL_set 1 = .ok (.iconst 0, 1) := by decide +kernel
theorem dL_set_2 : decode cL_set 2 = .ok (.aload_n 0, 1) := by decide +kernel
theorem dL_set_3 : decode cL_set 3 = .ok (.iload_n 1, 1) := by decide +kernel
theorem dL_set_4 : decode cL_set 4 = .ok (.iload_n 2, 1) := by decide +kernel
theorem dL_set_5 : decode cL_set 5 = .ok (.invokevirtual 52, 3) := by decide +kernel
theorem dL_set_8 : decode cL_set 8 = .ok (.i2l, 1) := by decide +kernel
theorem dL_set_9 : decode cL_set 9 = .ok (.lastore, 1) := by decide +kernel
theorem dL_set_10 : decode cL_set 10 = .ok (.goto 11, 3) := by decide +kernel
theorem dL_set_13 : decode cL_set 13 = .ok (.astore 4, 2) := by decide +kernel
theorem dL_set_15 : decode cL_set 15 = .ok (.iconst 1, 1) := by decide +kernel
theorem dL_set_16 : decode cL_set 16 = .ok (.ireturn, 1) := by decide +kernel
theorem dL_set_17 : decode cL_set 17 = .ok (.astore 4, 2) := by decide +kernel
theorem dL_set_19 : decode cL_set 19 = .ok (.iconst 2, 1) := by decide +kernel
theorem dL_set_20 : decode cL_set 20 = .ok (.ireturn, 1) := by decide +kernel
theorem dL_set_21 : decode cL_set 21 = .ok (.iconst 0, 1) := by decide +kernel
theorem dL_set_22 : decode cL_set 22 = .ok (.ireturn, 1) := by decide +kernel
set_option maxRecDepth 20000 in
theorem ggL_tune_X11_tune : GoodIn wsL_tune wsX11_tune := goodIn_ca (goodIn_r _ [6, 7, 8, 9, 10, 11, 12, 13, 14, 15, 16, 17, 18, 19, 20, 21, 22, 23, 24, 25, 26, 27, 28, 29, 30, 31, 32, 33, 34, 35, 36, 37, 38, 39, 40, 41, 42, 43, 44, 45, 46, 47, 48, 49, 50, 51, 52, 53, 54, 55, 56, 57, 58, 59, 60, 61, 62, 63, 64, 65, 66, 67, 68, 69, 70, 71, 72, 73, 74, 75, 76, 77, 78, 79, 80, 81, 82, 83, 84, 85, 86, 87, 88, 89, 90, 91, 92, 93, 94, 95, 96, 97, 98, 99, 100, 101] (by decide +kernel) (by decide +kernel)) (goodIn_sub (fun _ h => List.mem_cons_of_mem _ (List.mem_append_right _ h)) (by decide +kernel))
set_option maxRecDepth 20000 in
theorem gL_tune_X11_tune : GoodIn wsL_tune (wsV RL 55 RX11 yX11_tune wsX11_tune) := goodIn_app (goodIn_of _ (by decide +kernel)) ggL_tune_X11_tune
theorem dL_tune_0 : decode cL_tune 0 = .ok (.aload_n 3, 1) := by decide +kernel
theorem dL_tune_1 : decode cL_tune 1 = .ok (.iconst 0, 1) := by decide +kernel
theorem dL_tune_2 : decode cL_tune 2 = .ok (.aload_n 0, 1) := by decide +kernel
theorem dL_tune_3 : decode cL_tune 3 = .ok (.iload_n 1, 1) := by decide +kernel
theorem dL_tune_4 : decode cL_tune 4 = .ok (.iload_n 2, 1) := by decide +kernel
theorem dL_tune_5 : decode cL_tune 5 = .ok (.invokevirtual 55, 3) := by decide +kernel
theorem dL_tune_8 : decode cL_tune 8 = .ok (.i2l, 1) := by decide +kernel
theorem dL_tune_9 : decode cL_tune 9 = .ok (.lastore, 1) := by decide +kernel
theorem dL_tune_10 : decode cL_tune 10 = .ok (.goto 7, 3) := by decide +kernel
theorem dL_tune_13 : decode cL_tune 13 = .ok (.astore 4, 2) := by decide +kernel
theorem dL_tune_15 : decode cL_tune 15 = .ok (.iconst 1, 1) := by decide +kernel
theorem dL_tune_16 : decode cL_tune 16 = .ok (.ireturn, 1) := by decide +kernel
theorem dL_tune_17 : decode cL_tune 17 = .ok (.iconst 0, 1) := by decide +kernel
theorem dL_tune_18 : decode cL_tune 18 = .ok (.ireturn, 1) := by decide +kernel
set_option maxRecDepth 20000 in
theorem ggL_mid_X11_mid : GoodIn wsL_mid wsX11_mid := goodIn_ca (goodIn_r _ [6, 7, 8, 9, 10, 11, 12, 13, 5, 14, 15, 16, 17, 18, 19, 20, 21, 22, 23, 24, 25, 26, 27, 28, 29, 30, 31, 32, 33, 34, 35, 36, 37] (by decide +kernel) (by decide +kernel)) (goodIn_sub (fun _ h => List.mem_cons_of_mem _ (List.mem_append_right _ h)) (by decide +kernel))
set_option maxRecDepth 20000 in
theorem gL_mid_X11_mid : GoodIn wsL_mid (wsV RL 59 RX11 yX11_mid wsX11_mid) := goodIn_app (goodIn_of _ (by decide +kernel)) ggL_mid_X11_mid
theorem dL_mid_0 : decode cL_mid 0 = .ok (.aload_n 1, 1) := by decide +kernel
theorem dL_mid_1 : decode cL_mid 1 = .ok (.iconst 0, 1) := by decide +kernel
theorem dL_mid_2 : decode cL_mid 2 = .ok (.aload_n 0, 1) := by decide +kernel
theorem dL_mid_3 : decode cL_mid 3 = .ok (.invokevirtual 59, 3) := by decide +kernel
theorem dL_mid_6 : decode cL_mid 6 = .ok (.i2l, 1) := by decide +kernel
theorem dL_mid_7 : decode cL_mid 7 = .ok (.lastore, 1) := by decide +kernel
theorem dL_mid_8 : decode cL_mid 8 = .ok (.goto 6, 3) := by decide +kernel
theorem dL_mid_11 : decode cL_mid 11 = .ok (.astore_n 2, 1) := by decide +kernel
theorem dL_mid_12 : decode cL_mid 12 = .ok (.iconst 1, 1) := by decide +kernel
theorem dL_mid_13 : decode cL_mid 13 = .ok (.ireturn, 1) := by decide +kernel
theorem dL_mid_14 : decode cL_mid 14 = .ok (.iconst 0, 1) := by decide +kernel
theorem dL_mid_15 : decode cL_mid 15 = .ok (.ireturn, 1) := by decide +kernel
set_option maxRecDepth 20000 in
theorem ggL_settles_X11_settles : GoodIn wsL_settles wsX11_settles := goodIn_ca (goodIn_r _ [6, 7, 8, 9, 10, 11, 12, 13, 14, 15, 16, 17, 18, 19, 20, 21, 22, 23, 24, 25, 26, 27, 28, 29, 30, 31, 32, 33, 34, 35, 36, 37, 38, 39, 40, 41, 42, 43, 44, 45, 46, 47, 48, 49, 50, 51, 52, 53, 5, 54, 55, 56, 57, 58, 59, 60, 61, 62, 63, 64, 65, 66, 67, 68, 69, 70, 71, 72, 73, 74, 75, 76, 77, 78, 79, 80, 81, 82, 83, 84, 85, 86, 87, 88, 89, 90, 91, 92, 93, 94, 95, 96, 97, 98, 99, 100, 101, 102, 103, 104, 105, 106, 107, 108, 109, 110, 111, 112, 113, 114, 115, 116, 117, 118, 119, 120, 121, 122, 123, 124, 125, 126, 127, 128, 129, 130, 131, 132, 133, 134, 135, 136, 137, 138, 139, 140, 141, 142, 143, 144, 145, 146, 147, 148, 149, 150, 151, 152, 153, 154, 155, 156, 157, 158, 159, 160, 161, 162, 163, 164, 165, 166, 167, 168, 169, 170, 171, 172, 173, 174, 175, 176, 177, 178, 179, 180, 181, 182, 183, 184, 185, 186, 187, 188, 189, 190, 191, 192, 193, 194, 195, 196, 197, 198, 199, 200, 201, 202, 203, 204, 205, 206, 207, 208, 209, 210, 211, 212, 213, 214, 215, 216, 217, 218, 219, 220, 221, 222, 223, 224, 225, 226, 227, 228, 229, 230, 231, 232, 233, 234, 235, 236, 237, 238, 239, 240, 241, 242, 243, 244, 245, 246, 247, 248, 249, 250, 251, 252, 253, 254, 255, 256, 257, 258, 259, 260, 261, 262, 263, 264, 265, 266, 267, 268, 269, 270, 271, 272, 273, 274, 275, 276, 277] (by decide +kernel) (by decide +kernel)) (goodIn_sub (fun _ h => List.mem_cons_of_mem _ (List.mem_append_right _ h)) (by decide +kernel))
set_option maxRecDepth 20000 in
theorem gL_settles_X11_settles : GoodIn wsL_settles (wsV RL 62 RX11 yX11_settles wsX11_settles) := goodIn_app (goodIn_of _ (by decide +kernel)) ggL_settles_X11_settles
theorem dL_settles_0 : decode cL_settles 0 = .ok (.aload_n 2, 1) := by decide +kernel
theorem dL_settles_1 : decode cL_settles 1 = .ok (.iconst 0, 1) := by decide +kernel
theorem dL_settles_2 : decode cL_settles 2 = .ok (.aload_n 0, 1) := by decide +kernel
theorem dL_settles_3 : decode cL_settles 3 = .ok (.iload_n 1, 1) := by decide +kernel
theorem dL_settles_4 : decode cL_settles 4 = .ok (.invokevirtual 62, 3) := by decide +kernel
theorem dL_settles_7 : decode cL_settles 7 = .ok (.i2l, 1) := by decide +kernel
theorem dL_settles_8 : decode cL_settles 8 = .ok (.lastore, 1) := by decide +kernel
theorem dL_settles_9 : decode cL_settles 9 = .ok (.goto 6, 3) := by decide +kernel
theorem dL_settles_12 : decode cL_settles 12 = .ok (.astore_n 3, 1) := by decide +kernel
theorem dL_settles_13 : decode cL_settles 13 = .ok (.iconst 1, 1) := by decide +kernel
theorem dL_settles_14 : decode cL_settles 14 = .ok (.ireturn, 1) := by decide +kernel
theorem dL_settles_15 : decode cL_settles 15 = .ok (.iconst 0, 1) := by decide +kernel
theorem dL_settles_16 : decode cL_settles 16 = .ok (.ireturn, 1) := by decide +kernel
set_option maxRecDepth 20000 in
theorem ggL_widest_X11_widest : GoodIn wsL_widest wsX11_widest := goodIn_ca (goodIn_r _ [6, 7, 8, 9, 10, 11, 12, 13, 14, 15, 16, 17, 5, 18, 19, 20, 21, 22, 23, 24, 25, 26, 27, 28, 29, 30, 31, 32, 33, 34, 35, 36, 37, 38, 39, 40, 41, 42, 43, 44, 45, 46, 47, 48, 49, 50, 51, 52, 53, 54, 55, 56, 57, 58, 59, 60, 61, 62, 63, 64, 65, 66, 67, 68, 69, 70, 71, 72, 73, 74, 75, 76, 77, 78, 79, 80, 81, 82, 83, 84, 85, 86, 87, 88, 89, 90, 91, 92, 93, 94, 95, 96, 97, 98, 99, 100, 101, 102, 103, 104, 105, 106, 107, 108, 109, 110, 111, 112, 113, 114, 115, 116, 117, 118, 119, 120, 121, 122, 123, 124, 125, 126, 127, 128, 129, 130, 131, 132, 133, 134, 135, 136, 137, 138, 139, 140, 141, 142, 143, 144, 145, 146, 147, 148, 149, 150, 151, 152, 153, 154, 155, 156, 157, 158, 159, 160, 161, 162, 163, 164, 165, 166, 167, 168, 169, 170, 171, 172, 173, 174, 175, 176, 177, 178, 179, 180, 181, 182, 183, 184, 185, 186, 187, 188, 189, 190, 191, 192, 193, 194, 195, 196, 197, 198, 199, 200, 201, 202, 203, 204, 205, 206, 207, 208, 209, 210, 211, 212, 213, 214, 215, 216, 217, 218, 219, 220, 221, 222, 223, 224, 225, 226, 227, 228, 229, 230, 231, 232, 233, 234, 235, 236, 237, 238, 239, 240, 241, 242, 243, 244, 245, 246, 247, 248, 249, 250, 251, 252, 253, 254, 255, 256, 257, 258, 259, 260, 261, 262, 263, 264, 265, 266, 267, 268, 269, 270, 271, 272, 273, 274, 275, 276, 277, 278] (by decide +kernel) (by decide +kernel)) (goodIn_sub (fun _ h => List.mem_cons_of_mem _ (List.mem_append_right _ h)) (by decide +kernel))
set_option maxRecDepth 20000 in
theorem gL_widest_X11_widest : GoodIn wsL_widest (wsV RL 65 RX11 yX11_widest wsX11_widest) := goodIn_app (goodIn_of _ (by decide +kernel)) ggL_widest_X11_widest
theorem dL_widest_0 : decode cL_widest 0 = .ok (.aload_n 2, 1) := by decide +kernel
theorem dL_widest_1 : decode cL_widest 1 = .ok (.iconst 0, 1) := by decide +kernel
theorem dL_widest_2 : decode cL_widest 2 = .ok (.aload_n 0, 1) := by decide +kernel
theorem dL_widest_3 : decode cL_widest 3 = .ok (.iload_n 1, 1) := by decide +kernel
theorem dL_widest_4 : decode cL_widest 4 = .ok (.invokevirtual 65, 3) := by decide +kernel
theorem dL_widest_7 : decode cL_widest 7 = .ok (.i2l, 1) := by decide +kernel
theorem dL_widest_8 : decode cL_widest 8 = .ok (.lastore, 1) := by decide +kernel
theorem dL_widest_9 : decode cL_widest 9 = .ok (.goto 6, 3) := by decide +kernel
theorem dL_widest_12 : decode cL_widest 12 = .ok (.astore_n 3, 1) := by decide +kernel
theorem dL_widest_13 : decode cL_widest 13 = .ok (.iconst 1, 1) := by decide +kernel
theorem dL_widest_14 : decode cL_widest 14 = .ok (.ireturn, 1) := by decide +kernel
theorem dL_widest_15 : decode cL_widest 15 = .ok (.iconst 0, 1) := by decide +kernel
theorem dL_widest_16 : decode cL_widest 16 = .ok (.ireturn, 1) := by decide +kernel
set_option maxRecDepth 20000 in
theorem ggL_read_X11_read : GoodIn wsL_read wsX11_read := goodIn_ca (goodIn_r _ [6, 7, 8, 9, 10, 11, 12, 13, 5, 14, 15, 16, 17, 18, 19, 20, 21, 22, 23, 24, 25, 26, 27, 28, 29, 30, 31, 32, 33, 34, 35, 36, 37, 38, 39, 40, 41, 42, 43, 44, 45, 46, 47, 48, 49, 50, 51, 52, 53, 54, 55, 56] (by decide +kernel) (by decide +kernel)) (goodIn_sub (fun _ h => List.mem_cons_of_mem _ (List.mem_append_right _ h)) (by decide +kernel))
set_option maxRecDepth 20000 in
theorem gL_read_X11_read : GoodIn wsL_read (wsV RL 68 RX11 yX11_read wsX11_read) := goodIn_app (goodIn_of _ (by decide +kernel)) ggL_read_X11_read
theorem dL_read_0 : decode cL_read 0 = .ok (.aload_n 2, 1) := by decide +kernel
theorem dL_read_1 : decode cL_read 1 = .ok (.iconst 0, 1) := by decide +kernel
theorem dL_read_2 : decode cL_read 2 = .ok (.aload_n 0, 1) := by decide +kernel
theorem dL_read_3 : decode cL_read 3 = .ok (.iload_n 1, 1) := by decide +kernel
theorem dL_read_4 : decode cL_read 4 = .ok (.invokevirtual 68, 3) := by decide +kernel
theorem dL_read_7 : decode cL_read 7 = .ok (.i2l, 1) := by decide +kernel
theorem dL_read_8 : decode cL_read 8 = .ok (.lastore, 1) := by decide +kernel
theorem dL_read_9 : decode cL_read 9 = .ok (.goto 6, 3) := by decide +kernel
theorem dL_read_12 : decode cL_read 12 = .ok (.astore_n 3, 1) := by decide +kernel
theorem dL_read_13 : decode cL_read 13 = .ok (.iconst 1, 1) := by decide +kernel
theorem dL_read_14 : decode cL_read 14 = .ok (.ireturn, 1) := by decide +kernel
theorem dL_read_15 : decode cL_read 15 = .ok (.iconst 0, 1) := by decide +kernel
theorem dL_read_16 : decode cL_read 16 = .ok (.ireturn, 1) := by decide +kernel
set_option maxRecDepth 20000 in
theorem ggL_when_X11_when : GoodIn wsL_when wsX11_when := goodIn_ca (goodIn_r _ [6, 7, 8, 9, 10, 11, 12, 13, 5, 14, 15, 16, 17, 18, 19, 20, 21, 22, 23, 24, 25, 26, 27, 28, 29, 30, 31, 32, 33, 34, 35, 36, 37, 38, 39, 40, 41, 42, 43, 44, 45, 46, 47, 48, 49, 50, 51, 52, 53, 54, 55, 56, 57, 58, 59, 60, 61, 62, 63, 64, 65] (by decide +kernel) (by decide +kernel)) (goodIn_sub (fun _ h => List.mem_cons_of_mem _ (List.mem_append_right _ h)) (by decide +kernel))
set_option maxRecDepth 20000 in
theorem gL_when_X11_when : GoodIn wsL_when (wsV RL 72 RX11 yX11_when wsX11_when) := goodIn_app (goodIn_of _ (by decide +kernel)) ggL_when_X11_when
theorem dL_when_0 : decode cL_when 0 = .ok (.aload_n 1, 1) := by decide +kernel
theorem dL_when_1 : decode cL_when 1 = .ok (.iconst 0, 1) := by decide +kernel
theorem dL_when_2 : decode cL_when 2 = .ok (.aload_n 0, 1) := by decide +kernel
theorem dL_when_3 : decode cL_when 3 = .ok (.invokevirtual 72, 3) := by decide +kernel
theorem dL_when_6 : decode cL_when 6 = .ok (.i2l, 1) := by decide +kernel
theorem dL_when_7 : decode cL_when 7 = .ok (.lastore, 1) := by decide +kernel
theorem dL_when_8 : decode cL_when 8 = .ok (.goto 6, 3) := by decide +kernel
theorem dL_when_11 : decode cL_when 11 = .ok (.astore_n 2, 1) := by decide +kernel
theorem dL_when_12 : decode cL_when 12 = .ok (.iconst 1, 1) := by decide +kernel
theorem dL_when_13 : decode cL_when 13 = .ok (.ireturn, 1) := by decide +kernel
theorem dL_when_14 : decode cL_when 14 = .ok (.iconst 0, 1) := by decide +kernel
theorem dL_when_15 : decode cL_when 15 = .ok (.ireturn, 1) := by decide +kernel
set_option maxRecDepth 20000 in
theorem ggL_blame_X11_blame : GoodIn wsL_blame wsX11_blame := goodIn_ca (goodIn_r _ [6, 7, 8, 9, 10, 11, 12, 13, 5, 14, 15, 16, 17, 18, 19, 20, 21, 22, 23, 24, 25, 26, 27, 28, 29, 30, 31, 32, 33, 34, 35, 36, 37, 38, 39, 40, 41, 42, 43, 44, 45, 46, 47, 48, 49, 50, 51, 52] (by decide +kernel) (by decide +kernel)) (goodIn_sub (fun _ h => List.mem_cons_of_mem _ (List.mem_append_right _ h)) (by decide +kernel))
set_option maxRecDepth 20000 in
theorem gL_blame_X11_blame : GoodIn wsL_blame (wsV RL 75 RX11 yX11_blame wsX11_blame) := goodIn_app (goodIn_of _ (by decide +kernel)) ggL_blame_X11_blame
theorem dL_blame_0 : decode cL_blame 0 = .ok (.aload_n 1, 1) := by decide +kernel
theorem dL_blame_1 : decode cL_blame 1 = .ok (.iconst 0, 1) := by decide +kernel
theorem dL_blame_2 : decode cL_blame 2 = .ok (.aload_n 0, 1) := by decide +kernel
theorem dL_blame_3 : decode cL_blame 3 = .ok (.invokevirtual 75, 3) := by decide +kernel
theorem dL_blame_6 : decode cL_blame 6 = .ok (.i2l, 1) := by decide +kernel
theorem dL_blame_7 : decode cL_blame 7 = .ok (.lastore, 1) := by decide +kernel
theorem dL_blame_8 : decode cL_blame 8 = .ok (.goto 6, 3) := by decide +kernel
theorem dL_blame_11 : decode cL_blame 11 = .ok (.astore_n 2, 1) := by decide +kernel
theorem dL_blame_12 : decode cL_blame 12 = .ok (.iconst 1, 1) := by decide +kernel
theorem dL_blame_13 : decode cL_blame 13 = .ok (.ireturn, 1) := by decide +kernel
theorem dL_blame_14 : decode cL_blame 14 = .ok (.iconst 0, 1) := by decide +kernel
theorem dL_blame_15 : decode cL_blame 15 = .ok (.ireturn, 1) := by decide +kernel
set_option maxRecDepth 20000 in
theorem ggL_guilty_X11_guilty : GoodIn wsL_guilty wsX11_guilty := goodIn_ca (goodIn_r _ [6, 7, 8, 9, 10, 11, 12, 13, 5, 14, 15, 16, 17, 18, 19, 20, 21, 22, 23, 24, 25, 26, 27, 28, 29, 30, 31, 32, 33, 34, 35, 36, 37, 38, 39, 40, 41, 42, 43, 44, 45, 46, 47, 48, 49, 50, 51, 52] (by decide +kernel) (by decide +kernel)) (goodIn_sub (fun _ h => List.mem_cons_of_mem _ (List.mem_append_right _ h)) (by decide +kernel))
set_option maxRecDepth 20000 in
theorem gL_guilty_X11_guilty : GoodIn wsL_guilty (wsV RL 78 RX11 yX11_guilty wsX11_guilty) := goodIn_app (goodIn_of _ (by decide +kernel)) ggL_guilty_X11_guilty
theorem dL_guilty_0 : decode cL_guilty 0 = .ok (.aload_n 1, 1) := by decide +kernel
theorem dL_guilty_1 : decode cL_guilty 1 = .ok (.iconst 0, 1) := by decide +kernel
theorem dL_guilty_2 : decode cL_guilty 2 = .ok (.aload_n 0, 1) := by decide +kernel
theorem dL_guilty_3 : decode cL_guilty 3 = .ok (.invokevirtual 78, 3) := by decide +kernel
theorem dL_guilty_6 : decode cL_guilty 6 = .ok (.i2l, 1) := by decide +kernel
theorem dL_guilty_7 : decode cL_guilty 7 = .ok (.lastore, 1) := by decide +kernel
theorem dL_guilty_8 : decode cL_guilty 8 = .ok (.goto 6, 3) := by decide +kernel
theorem dL_guilty_11 : decode cL_guilty 11 = .ok (.astore_n 2, 1) := by decide +kernel
theorem dL_guilty_12 : decode cL_guilty 12 = .ok (.iconst 1, 1) := by decide +kernel
theorem dL_guilty_13 : decode cL_guilty 13 = .ok (.ireturn, 1) := by decide +kernel
theorem dL_guilty_14 : decode cL_guilty 14 = .ok (.iconst 0, 1) := by decide +kernel
theorem dL_guilty_15 : decode cL_guilty 15 = .ok (.ireturn, 1) := by decide +kernel
set_option maxRecDepth 20000 in
theorem ggL_probe_X11_probe : GoodIn wsL_probe wsX11_probe := goodIn_ca (goodIn_r _ [6, 7, 8, 9, 10, 11, 12, 13, 5, 14, 15, 16, 17, 18, 19, 20, 21, 22, 23, 24, 25, 26, 27, 28, 29, 30, 31, 32, 33, 34, 35, 36, 37, 38, 39, 40, 41, 42, 43, 44, 45, 46, 47, 48, 49, 50, 51, 52, 53, 54, 55, 56, 57, 58, 59, 60, 61, 62, 63, 64] (by decide +kernel) (by decide +kernel)) (goodIn_sub (fun _ h => List.mem_cons_of_mem _ (List.mem_append_right _ h)) (by decide +kernel))
set_option maxRecDepth 20000 in
theorem gL_probe_X11_probe : GoodIn wsL_probe (wsV RL 81 RX11 yX11_probe wsX11_probe) := goodIn_app (goodIn_of _ (by decide +kernel)) ggL_probe_X11_probe
theorem dL_probe_0 : decode cL_probe 0 = .ok (.aload_n 1, 1) := by decide +kernel
theorem dL_probe_1 : decode cL_probe 1 = .ok (.iconst 0, 1) := by decide +kernel
theorem dL_probe_2 : decode cL_probe 2 = .ok (.aload_n 0, 1) := by decide +kernel
theorem dL_probe_3 : decode cL_probe 3 = .ok (.invokevirtual 81, 3) := by decide +kernel
theorem dL_probe_6 : decode cL_probe 6 = .ok (.i2l, 1) := by decide +kernel
theorem dL_probe_7 : decode cL_probe 7 = .ok (.lastore, 1) := by decide +kernel
theorem dL_probe_8 : decode cL_probe 8 = .ok (.goto 6, 3) := by decide +kernel
theorem dL_probe_11 : decode cL_probe 11 = .ok (.astore_n 2, 1) := by decide +kernel
theorem dL_probe_12 : decode cL_probe 12 = .ok (.iconst 1, 1) := by decide +kernel
theorem dL_probe_13 : decode cL_probe 13 = .ok (.ireturn, 1) := by decide +kernel
theorem dL_probe_14 : decode cL_probe 14 = .ok (.iconst 0, 1) := by decide +kernel
theorem dL_probe_15 : decode cL_probe 15 = .ok (.ireturn, 1) := by decide +kernel
set_option maxRecDepth 20000 in
theorem ggL_pairs_X11_pairs : GoodIn wsL_pairs wsX11_pairs := goodIn_ca (goodIn_r _ [6, 7, 8, 9, 10, 11, 12, 13, 14, 15, 5, 16, 17, 18, 19, 20, 21, 22, 23, 24, 25, 26, 27, 28, 29, 30, 31, 32, 33, 34, 35, 36, 37, 38, 39, 40, 41, 42, 43, 44, 45, 46, 47, 48, 49, 50, 51, 52, 53, 54, 55, 56, 57, 58, 59, 60, 61, 62, 63, 64, 65, 66, 67, 68, 69, 70, 71, 72, 73, 74, 75, 76, 77, 78, 79, 80, 81, 82, 83, 84, 85, 86, 87, 88, 89, 90, 91, 92, 93, 94, 95, 96, 97, 98, 99, 100, 101, 102, 103, 104, 105, 106, 107, 108, 109, 110, 111, 112, 113, 114, 115, 116, 117, 118, 119, 120, 121, 122, 123, 124, 125, 126, 127, 128, 129, 130, 131, 132, 133, 134, 135, 136, 137, 138, 139, 140, 141, 142, 143, 144, 145, 146, 147, 148, 149, 150, 151, 152, 153, 154, 155, 156, 157, 158, 159, 160, 161, 162, 163, 164, 165, 166, 167, 168, 169, 170, 171, 172, 173, 174, 175, 176, 177, 178, 179, 180, 181, 182, 183, 184, 185, 186, 187, 188, 189, 190, 191] (by decide +kernel) (by decide +kernel)) (goodIn_sub (fun _ h => List.mem_cons_of_mem _ (List.mem_append_right _ h)) (by decide +kernel))
set_option maxRecDepth 20000 in
theorem gL_pairs_X11_pairs : GoodIn wsL_pairs (wsV RL 84 RX11 yX11_pairs wsX11_pairs) := goodIn_app (goodIn_of _ (by decide +kernel)) ggL_pairs_X11_pairs
theorem dL_pairs_0 : decode cL_pairs 0 = .ok (.aload_n 2, 1) := by decide +kernel
theorem dL_pairs_1 : decode cL_pairs 1 = .ok (.iconst 0, 1) := by decide +kernel
theorem dL_pairs_2 : decode cL_pairs 2 = .ok (.aload_n 0, 1) := by decide +kernel
theorem dL_pairs_3 : decode cL_pairs 3 = .ok (.iload_n 1, 1) := by decide +kernel
theorem dL_pairs_4 : decode cL_pairs 4 = .ok (.invokevirtual 84, 3) := by decide +kernel
theorem dL_pairs_7 : decode cL_pairs 7 = .ok (.i2l, 1) := by decide +kernel
theorem dL_pairs_8 : decode cL_pairs 8 = .ok (.lastore, 1) := by decide +kernel
theorem dL_pairs_9 : decode cL_pairs 9 = .ok (.goto 6, 3) := by decide +kernel
theorem dL_pairs_12 : decode cL_pairs 12 = .ok (.astore_n 3, 1) := by decide +kernel
theorem dL_pairs_13 : decode cL_pairs 13 = .ok (.iconst 1, 1) := by decide +kernel
theorem dL_pairs_14 : decode cL_pairs 14 = .ok (.ireturn, 1) := by decide +kernel
theorem dL_pairs_15 : decode cL_pairs 15 = .ok (.iconst 0, 1) := by decide +kernel
theorem dL_pairs_16 : decode cL_pairs 16 = .ok (.ireturn, 1) := by decide +kernel
set_option maxRecDepth 20000 in
theorem ggL_share_X11_share : GoodIn wsL_share wsX11_share := goodIn_ca (goodIn_ca (goodIn_r _ [7, 8, 9, 10, 11, 12, 13, 14, 15, 6, 16, 17, 18, 19, 20, 21, 22, 23, 24, 25, 26, 27, 28, 29, 30, 31, 32, 33, 34, 35, 36, 37, 38, 39, 40, 41, 42, 43, 44, 45, 46, 47, 48, 49, 50, 51, 52, 53, 54, 55, 56, 57, 58, 59, 60, 61, 62, 63, 64, 65, 66] (by decide +kernel) (by decide +kernel)) (goodIn_sub (fun _ h => List.mem_cons_of_mem _ (List.mem_append_left _ (List.mem_append_right _ h))) (by decide +kernel))) (goodIn_sub (fun _ h => List.mem_cons_of_mem _ (List.mem_append_right _ h)) (by decide +kernel))
set_option maxRecDepth 20000 in
theorem gL_share_X11_share : GoodIn wsL_share (wsV RL 87 RX11 yX11_share wsX11_share) := goodIn_app (goodIn_of _ (by decide +kernel)) ggL_share_X11_share
theorem dL_share_0 : decode cL_share 0 = .ok (.aload_n 3, 1) := by decide +kernel
theorem dL_share_1 : decode cL_share 1 = .ok (.iconst 0, 1) := by decide +kernel
theorem dL_share_2 : decode cL_share 2 = .ok (.aload_n 0, 1) := by decide +kernel
theorem dL_share_3 : decode cL_share 3 = .ok (.iload_n 1, 1) := by decide +kernel
theorem dL_share_4 : decode cL_share 4 = .ok (.iload_n 2, 1) := by decide +kernel
theorem dL_share_5 : decode cL_share 5 = .ok (.invokevirtual 87, 3) := by decide +kernel
theorem dL_share_8 : decode cL_share 8 = .ok (.i2l, 1) := by decide +kernel
theorem dL_share_9 : decode cL_share 9 = .ok (.lastore, 1) := by decide +kernel
theorem dL_share_10 : decode cL_share 10 = .ok (.goto 11, 3) := by decide +kernel
theorem dL_share_13 : decode cL_share 13 = .ok (.astore 4, 2) := by decide +kernel
theorem dL_share_15 : decode cL_share 15 = .ok (.iconst 1, 1) := by decide +kernel
theorem dL_share_16 : decode cL_share 16 = .ok (.ireturn, 1) := by decide +kernel
theorem dL_share_17 : decode cL_share 17 = .ok (.astore 4, 2) := by decide +kernel
theorem dL_share_19 : decode cL_share 19 = .ok (.iconst 2, 1) := by decide +kernel
theorem dL_share_20 : decode cL_share 20 = .ok (.ireturn, 1) := by decide +kernel
theorem dL_share_21 : decode cL_share 21 = .ok (.iconst 0, 1) := by decide +kernel
theorem dL_share_22 : decode cL_share 22 = .ok (.ireturn, 1) := by decide +kernel
set_option maxRecDepth 20000 in
theorem ggL_rests_X11_rests : GoodIn wsL_rests wsX11_rests := goodIn_ca (goodIn_r _ [6, 7, 8, 9, 10, 11, 5, 12, 13, 14, 15, 16, 17, 18, 19, 20, 21, 22, 23, 24, 25, 26, 27, 28, 29, 30, 31, 32, 33, 34, 35, 36, 37, 38, 39, 40, 41, 42, 43, 44, 45, 46, 47, 48, 49, 50, 51, 52, 53, 54, 55, 56, 57, 58, 59, 60, 61, 62, 63, 64, 65] (by decide +kernel) (by decide +kernel)) (goodIn_sub (fun _ h => List.mem_cons_of_mem _ (List.mem_append_right _ h)) (by decide +kernel))
set_option maxRecDepth 20000 in
theorem gL_rests_X11_rests : GoodIn wsL_rests (wsV RL 90 RX11 yX11_rests wsX11_rests) := goodIn_app (goodIn_of _ (by decide +kernel)) ggL_rests_X11_rests
theorem dL_rests_0 : decode cL_rests 0 = .ok (.aload_n 2, 1) := by decide +kernel
theorem dL_rests_1 : decode cL_rests 1 = .ok (.iconst 0, 1) := by decide +kernel
theorem dL_rests_2 : decode cL_rests 2 = .ok (.aload_n 0, 1) := by decide +kernel
theorem dL_rests_3 : decode cL_rests 3 = .ok (.iload_n 1, 1) := by decide +kernel
theorem dL_rests_4 : decode cL_rests 4 = .ok (.invokevirtual 90, 3) := by decide +kernel
theorem dL_rests_7 : decode cL_rests 7 = .ok (.i2l, 1) := by decide +kernel
theorem dL_rests_8 : decode cL_rests 8 = .ok (.lastore, 1) := by decide +kernel
theorem dL_rests_9 : decode cL_rests 9 = .ok (.goto 6, 3) := by decide +kernel
theorem dL_rests_12 : decode cL_rests 12 = .ok (.astore_n 3, 1) := by decide +kernel
theorem dL_rests_13 : decode cL_rests 13 = .ok (.iconst 1, 1) := by decide +kernel
theorem dL_rests_14 : decode cL_rests 14 = .ok (.ireturn, 1) := by decide +kernel
theorem dL_rests_15 : decode cL_rests 15 = .ok (.iconst 0, 1) := by decide +kernel
theorem dL_rests_16 : decode cL_rests 16 = .ok (.ireturn, 1) := by decide +kernel
set_option maxRecDepth 20000 in
theorem ggL_odds_X11_odds : GoodIn wsL_odds wsX11_odds := goodIn_ca (goodIn_ca (goodIn_r _ [7, 8, 9, 10, 11, 12, 13, 14, 15, 16, 17, 18, 19, 20, 21, 22, 23, 24, 6, 25, 26, 27, 28, 29, 30, 31, 32, 33, 34, 35, 36, 37, 38, 39, 40, 41, 42, 43, 44, 45, 46, 47, 48, 49, 50, 51, 52, 53, 54, 55, 56, 57, 58, 59, 60, 61, 62, 63, 64, 65, 66, 67, 68, 69, 70, 71, 72, 73, 74, 75, 76, 77, 78, 79, 80, 81, 82, 83, 84, 85, 86, 87, 88, 89, 90, 91, 92, 93, 94, 95, 96, 97, 98, 99, 100, 101, 102, 103, 104, 105, 106, 107, 108, 109, 110, 111, 112, 113, 114, 115, 116, 117, 118, 119, 120, 121, 122, 123, 124, 125, 126, 127, 128, 129, 130, 131, 132, 133, 134, 135, 136, 137, 138, 139, 140, 141, 142, 143, 144, 145, 146, 147, 148, 149, 150, 151, 152, 153, 154, 155, 156, 157, 158, 159, 160, 161] (by decide +kernel) (by decide +kernel)) (goodIn_sub (fun _ h => List.mem_cons_of_mem _ (List.mem_append_left _ (List.mem_append_right _ h))) (by decide +kernel))) (goodIn_sub (fun _ h => List.mem_cons_of_mem _ (List.mem_append_right _ h)) (by decide +kernel))
set_option maxRecDepth 20000 in
theorem gL_odds_X11_odds : GoodIn wsL_odds (wsV RL 93 RX11 yX11_odds wsX11_odds) := goodIn_app (goodIn_of _ (by decide +kernel)) ggL_odds_X11_odds
theorem dL_odds_0 : decode cL_odds 0 = .ok (.aload 4, 2) := by decide +kernel
theorem dL_odds_2 : decode cL_odds 2 = .ok (.iconst 0, 1) := by decide +kernel
theorem dL_odds_3 : decode cL_odds 3 = .ok (.aload_n 0, 1) := by decide +kernel
theorem dL_odds_4 : decode cL_odds 4 = .ok (.iload_n 1, 1) := by decide +kernel
theorem dL_odds_5 : decode cL_odds 5 = .ok (.iload_n 2, 1) := by decide +kernel
theorem dL_odds_6 : decode cL_odds 6 = .ok (.iload_n 3, 1) := by decide +kernel
theorem dL_odds_7 : decode cL_odds 7 = .ok (.invokevirtual 93, 3) := by decide +kernel
theorem dL_odds_10 : decode cL_odds 10 = .ok (.i2l, 1) := by decide +kernel
theorem dL_odds_11 : decode cL_odds 11 = .ok (.lastore, 1) := by decide +kernel
theorem dL_odds_12 : decode cL_odds 12 = .ok (.goto 11, 3) := by decide +kernel
theorem dL_odds_15 : decode cL_odds 15 = .ok (.astore 5, 2) := by decide +kernel
theorem dL_odds_17 : decode cL_odds 17 = .ok (.iconst 1, 1) := by decide +kernel
theorem dL_odds_18 : decode cL_odds 18 = .ok (.ireturn, 1) := by decide +kernel
theorem dL_odds_19 : decode cL_odds 19 = .ok (.astore 5, 2) := by decide +kernel
theorem dL_odds_21 : decode cL_odds 21 = .ok (.iconst 2, 1) := by decide +kernel
theorem dL_odds_22 : decode cL_odds 22 = .ok (.ireturn, 1) := by decide +kernel
theorem dL_odds_23 : decode cL_odds 23 = .ok (.iconst 0, 1) := by decide +kernel
theorem dL_odds_24 : decode cL_odds 24 = .ok (.ireturn, 1) := by decide +kernel
set_option maxRecDepth 20000 in
theorem ggL_most_X11_most : GoodIn wsL_most wsX11_most := goodIn_ca (goodIn_r _ [6, 7, 8, 9, 10, 11, 12, 13, 14, 15, 16, 17, 18, 19, 20, 21, 22, 23, 24, 25, 26, 27, 28, 29, 30, 31, 32, 33, 34, 35, 36, 37, 38, 39, 40, 41, 42, 43, 44, 45, 46, 47, 48, 49, 50, 51, 52, 53, 54, 55, 56] (by decide +kernel) (by decide +kernel)) (goodIn_sub (fun _ h => List.mem_cons_of_mem _ (List.mem_append_right _ h)) (by decide +kernel))
set_option maxRecDepth 20000 in
theorem gL_most_X11_most : GoodIn wsL_most (wsV RL 96 RX11 yX11_most wsX11_most) := goodIn_app (goodIn_of _ (by decide +kernel)) ggL_most_X11_most
theorem dL_most_0 : decode cL_most 0 = .ok (.aload_n 2, 1) := by decide +kernel
theorem dL_most_1 : decode cL_most 1 = .ok (.iconst 0, 1) := by decide +kernel
theorem dL_most_2 : decode cL_most 2 = .ok (.aload_n 0, 1) := by decide +kernel
theorem dL_most_3 : decode cL_most 3 = .ok (.iload_n 1, 1) := by decide +kernel
theorem dL_most_4 : decode cL_most 4 = .ok (.invokevirtual 96, 3) := by decide +kernel
theorem dL_most_7 : decode cL_most 7 = .ok (.i2l, 1) := by decide +kernel
theorem dL_most_8 : decode cL_most 8 = .ok (.lastore, 1) := by decide +kernel
theorem dL_most_9 : decode cL_most 9 = .ok (.goto 6, 3) := by decide +kernel
theorem dL_most_12 : decode cL_most 12 = .ok (.astore_n 3, 1) := by decide +kernel
theorem dL_most_13 : decode cL_most 13 = .ok (.iconst 1, 1) := by decide +kernel
theorem dL_most_14 : decode cL_most 14 = .ok (.ireturn, 1) := by decide +kernel
theorem dL_most_15 : decode cL_most 15 = .ok (.iconst 0, 1) := by decide +kernel
theorem dL_most_16 : decode cL_most 16 = .ok (.ireturn, 1) := by decide +kernel
set_option maxRecDepth 20000 in
theorem ggL_byState_X11_byState : GoodIn wsL_byState wsX11_byState := goodIn_ca (goodIn_r _ [6, 7, 8, 9, 10, 11, 12, 13, 14, 15, 16, 17, 18, 5, 19, 20, 21, 22, 23, 24, 25, 26, 27, 28, 29, 30, 31, 32, 33, 34, 35, 36, 37, 38, 39, 40, 41, 42, 43, 44, 45, 46, 47, 48, 49, 50, 51, 52, 53, 54, 55, 56, 57] (by decide +kernel) (by decide +kernel)) (goodIn_sub (fun _ h => List.mem_cons_of_mem _ (List.mem_append_right _ h)) (by decide +kernel))
set_option maxRecDepth 20000 in
theorem gL_byState_X11_byState : GoodIn wsL_byState (wsV RL 99 RX11 yX11_byState wsX11_byState) := goodIn_app (goodIn_of _ (by decide +kernel)) ggL_byState_X11_byState
theorem dL_byState_0 : decode cL_byState 0 = .ok (.aload_n 2, 1) := by decide +kernel
theorem dL_byState_1 : decode cL_byState 1 = .ok (.iconst 0, 1) := by decide +kernel
theorem dL_byState_2 : decode cL_byState 2 = .ok (.aload_n 0, 1) := by decide +kernel
theorem dL_byState_3 : decode cL_byState 3 = .ok (.iload_n 1, 1) := by decide +kernel
theorem dL_byState_4 : decode cL_byState 4 = .ok (.invokevirtual 99, 3) := by decide +kernel
theorem dL_byState_7 : decode cL_byState 7 = .ok (.i2l, 1) := by decide +kernel
theorem dL_byState_8 : decode cL_byState 8 = .ok (.lastore, 1) := by decide +kernel
theorem dL_byState_9 : decode cL_byState 9 = .ok (.goto 6, 3) := by decide +kernel
