theorem dX12_law_24 : decode cX12_law 24 = .ok (.putfield 59, 3) := by decide +kernel
theorem dX12_law_27 : decode cX12_law 27 = .ok (.aload_n 0, 1) := by decide +kernel
theorem dX12_law_28 : decode cX12_law 28 = .ok (.getfield 59, 3) := by decide +kernel
theorem dX12_law_31 : decode cX12_law 31 = .ok (.ifCond .le 5, 3) := by decide +kernel
theorem dX12_law_34 : decode cX12_law 34 = .ok (.iconst 0, 1) := by decide +kernel
theorem dX12_law_35 : decode cX12_law 35 = .ok (.ireturn, 1) := by decide +kernel
theorem dX12_law_36 : decode cX12_law 36 = .ok (.aload_n 0, 1) := by decide +kernel
theorem dX12_law_37 : decode cX12_law 37 = .ok (.getfield 7, 3) := by decide +kernel
theorem dX12_law_40 : decode cX12_law 40 = .ok (.iconst 1, 1) := by decide +kernel
theorem dX12_law_41 : decode cX12_law 41 = .ok (.iload_n 1, 1) := by decide +kernel
theorem dX12_law_42 : decode cX12_law 42 = .ok (.iastore, 1) := by decide +kernel
theorem dX12_law_43 : decode cX12_law 43 = .ok (.aload_n 0, 1) := by decide +kernel
theorem dX12_law_44 : decode cX12_law 44 = .ok (.getfield 7, 3) := by decide +kernel
theorem dX12_law_47 : decode cX12_law 47 = .ok (.iconst 2, 1) := by decide +kernel
theorem dX12_law_48 : decode cX12_law 48 = .ok (.aload_n 0, 1) := by decide +kernel
theorem dX12_law_49 : decode cX12_law 49 = .ok (.getfield 85, 3) := by decide +kernel
theorem dX12_law_52 : decode cX12_law 52 = .ok (.iastore, 1) := by decide +kernel
theorem dX12_law_53 : decode cX12_law 53 = .ok (.iconst 0, 1) := by decide +kernel
theorem dX12_law_54 : decode cX12_law 54 = .ok (.istore_n 2, 1) := by decide +kernel
theorem dX12_law_55 : decode cX12_law 55 = .ok (.iload_n 2, 1) := by decide +kernel
theorem dX12_law_56 : decode cX12_law 56 = .ok (.aload_n 0, 1) := by decide +kernel
theorem dX12_law_57 : decode cX12_law 57 = .ok (.getfield 85, 3) := by decide +kernel
theorem dX12_law_60 : decode cX12_law 60 = .ok (.if_icmp .ge 25, 3) := by decide +kernel
theorem dX12_law_63 : decode cX12_law 63 = .ok (.aload_n 0, 1) := by decide +kernel
theorem dX12_law_64 : decode cX12_law 64 = .ok (.getfield 7, 3) := by decide +kernel
theorem dX12_law_67 : decode cX12_law 67 = .ok (.sipush 337, 3) := by decide +kernel
theorem dX12_law_70 : decode cX12_law 70 = .ok (.iload_n 2, 1) := by decide +kernel
theorem dX12_law_71 : decode cX12_law 71 = .ok (.iadd, 1) := by decide +kernel
theorem dX12_law_72 : decode cX12_law 72 = .ok (.aload_n 0, 1) := by decide +kernel
theorem dX12_law_73 : decode cX12_law 73 = .ok (.getfield 22, 3) := by decide +kernel
theorem dX12_law_76 : decode cX12_law 76 = .ok (.iload_n 2, 1) := by decide +kernel
theorem dX12_law_77 : decode cX12_law 77 = .ok (.iaload, 1) := by decide +kernel
theorem dX12_law_78 : decode cX12_law 78 = .ok (.iastore, 1) := by decide +kernel
theorem dX12_law_79 : decode cX12_law 79 = .ok (.iinc 2 1, 3) := by decide +kernel
theorem dX12_law_82 : decode cX12_law 82 = .ok (.goto (-27), 3) := by decide +kernel
theorem dX12_law_85 : decode cX12_law 85 = .ok (.aload_n 0, 1) := by decide +kernel
theorem dX12_law_86 : decode cX12_law 86 = .ok (.iconst 0, 1) := by decide +kernel
theorem dX12_law_87 : decode cX12_law 87 = .ok (.putfield 190, 3) := by decide +kernel
theorem dX12_law_90 : decode cX12_law 90 = .ok (.iload_n 1, 1) := by decide +kernel
theorem dX12_law_91 : decode cX12_law 91 = .ok (.ireturn, 1) := by decide +kernel
theorem dX12_fault_0 : decode cX12_fault 0 = .ok (.aload_n 0, 1) := by decide +kernel
theorem dX12_fault_1 : decode cX12_fault 1 = .ok (.iconst 0, 1) := by decide +kernel
theorem dX12_fault_2 : decode cX12_fault 2 = .ok (.putfield 59, 3) := by decide +kernel
theorem dX12_fault_5 : decode cX12_fault 5 = .ok (.aload_n 0, 1) := by decide +kernel
theorem dX12_fault_6 : decode cX12_fault 6 = .ok (.getfield 25, 3) := by decide +kernel
theorem dX12_fault_9 : decode cX12_fault 9 = .ok (.ireturn, 1) := by decide +kernel
set_option maxRecDepth 20000 in
theorem ggX12_asks_X12_of : GoodIn wsX12_asks wsX12_of := goodIn_r _ [16, 8, 167, 168, 169, 170, 171, 172, 173, 174, 175, 176, 177, 178, 179, 180, 181, 182, 183, 184, 185, 186, 187, 188, 189, 190, 191, 192, 193, 194, 195, 196] (by decide +kernel) (by decide +kernel)
set_option maxRecDepth 20000 in
theorem gX12_asks_X12_of : GoodIn wsX12_asks (wsV RX12 66 RX12 yX12_of wsX12_of) := goodIn_app (goodIn_of _ (by decide +kernel)) ggX12_asks_X12_of
set_option maxRecDepth 20000 in
theorem ggX12_asks_X12_greater : GoodIn wsX12_asks wsX12_greater := goodIn_r _ [19] (by decide +kernel) (by decide +kernel)
set_option maxRecDepth 20000 in
theorem gX12_asks_X12_greater : GoodIn wsX12_asks (va_wsS RX12 73 yX12_greater wsX12_greater) := goodIn_app (goodIn_of _ (by decide +kernel)) ggX12_asks_X12_greater
set_option maxRecDepth 20000 in
theorem ggX12_asks_X12_bits : GoodIn wsX12_asks wsX12_bits := goodIn_r _ [22] (by decide +kernel) (by decide +kernel)
set_option maxRecDepth 20000 in
theorem gX12_asks_X12_bits : GoodIn wsX12_asks (va_wsS RX12 247 yX12_bits wsX12_bits) := goodIn_app (goodIn_of _ (by decide +kernel)) ggX12_asks_X12_bits
set_option maxRecDepth 20000 in
theorem ggX12_asks_X12_inState : GoodIn wsX12_asks wsX12_inState := goodIn_r _ [26, 8, 12, 13, 14, 15, 16, 167, 168, 169, 170, 171, 172, 173, 174, 175, 176, 177, 178, 179, 180, 181, 182, 183, 184, 185, 186, 187, 188, 189, 190, 191, 192, 193, 194, 195, 196] (by decide +kernel) (by decide +kernel)
set_option maxRecDepth 20000 in
theorem gX12_asks_X12_inState : GoodIn wsX12_asks (wsV RX12 250 RX12 yX12_inState wsX12_inState) := goodIn_app (goodIn_of _ (by decide +kernel)) ggX12_asks_X12_inState
set_option maxRecDepth 20000 in
theorem ggX12_asks_X12_reads : GoodIn wsX12_asks wsX12_reads := goodIn_r _ [30, 10, 9, 6, 31, 32, 33, 15, 34, 35, 36, 37, 38, 7, 39, 8, 40, 41, 42, 43, 44, 45, 46, 47, 1, 2, 3, 48, 49, 50, 51, 52, 53, 54, 55, 56, 57, 58, 59, 60, 61, 62, 63, 64, 65, 66, 67, 68, 69, 70, 71, 72, 73, 74, 75, 76, 77, 78, 79, 80, 81, 82, 83, 84, 85, 86, 87, 88, 89, 90, 91, 92, 93, 94, 95, 96, 97, 98, 99, 100, 101, 102, 103, 104, 105, 106, 107, 108, 109, 110, 111, 112, 113, 114, 115, 116, 117, 118, 119, 11, 120, 121, 122, 123, 124, 125, 126, 127, 5, 4, 12, 13, 14, 16, 128, 129, 130, 131, 132, 133, 134, 135, 136, 137, 138, 139, 140, 141, 142, 143, 144, 145, 146, 147, 148, 149, 150, 151, 152, 153, 154, 155, 156, 157, 158, 159, 160, 161, 162, 163, 167, 168, 169, 170, 171, 172, 173, 174, 175, 176, 177, 178, 179, 180, 181, 182, 183, 184, 185, 186, 187, 188, 189, 190, 191, 192, 193, 194, 195, 196] (by decide +kernel) (by decide +kernel)
set_option maxRecDepth 20000 in
theorem gX12_asks_X12_reads : GoodIn wsX12_asks (wsV RX12 183 RX12 yX12_reads wsX12_reads) := goodIn_app (goodIn_of _ (by decide +kernel)) ggX12_asks_X12_reads
set_option maxRecDepth 20000 in
theorem ggX12_asks_X12_lesser : GoodIn wsX12_asks wsX12_lesser := goodIn_r _ [166] (by decide +kernel) (by decide +kernel)
set_option maxRecDepth 20000 in
theorem gX12_asks_X12_lesser : GoodIn wsX12_asks (va_wsS RX12 70 yX12_lesser wsX12_lesser) := goodIn_app (goodIn_of _ (by decide +kernel)) ggX12_asks_X12_lesser
theorem dX12_asks_0 : decode cX12_asks 0 = .ok (.aload_n 0, 1) := by decide +kernel
theorem dX12_asks_1 : decode cX12_asks 1 = .ok (.iload_n 1, 1) := by decide +kernel
theorem dX12_asks_2 : decode cX12_asks 2 = .ok (.iconst 1, 1) := by decide +kernel
theorem dX12_asks_3 : decode cX12_asks 3 = .ok (.invokevirtual 66, 3) := by decide +kernel
theorem dX12_asks_6 : decode cX12_asks 6 = .ok (.aload_n 0, 1) := by decide +kernel
theorem dX12_asks_7 : decode cX12_asks 7 = .ok (.iload_n 1, 1) := by decide +kernel
theorem dX12_asks_8 : decode cX12_asks 8 = .ok (.iconst 2, 1) := by decide +kernel
theorem dX12_asks_9 : decode cX12_asks 9 = .ok (.invokevirtual 66, 3) := by decide +kernel
theorem dX12_asks_12 : decode cX12_asks 12 = .ok (.iadd, 1) := by decide +kernel
theorem dX12_asks_13 : decode cX12_asks 13 = .ok (.istore_n 2, 1) := by decide +kernel
theorem dX12_asks_14 : decode cX12_asks 14 = .ok (.aload_n 0, 1) := by decide +kernel
theorem dX12_asks_15 : decode cX12_asks 15 = .ok (.aload_n 0, 1) := by decide +kernel
theorem dX12_asks_16 : decode cX12_asks 16 = .ok (.iload_n 1, 1) := by decide +kernel
theorem dX12_asks_17 : decode cX12_asks 17 = .ok (.bipush 9, 2) := by decide +kernel
theorem dX12_asks_19 : decode cX12_asks 19 = .ok (.invokevirtual 66, 3) := by decide +kernel
theorem dX12_asks_22 : decode cX12_asks 22 = .ok (.iconst 1, 1) := by decide +kernel
theorem dX12_asks_23 : decode cX12_asks 23 = .ok (.if_icmp .ne 13, 3) := by decide +kernel
theorem dX12_asks_26 : decode cX12_asks 26 = .ok (.aload_n 0, 1) := by decide +kernel
theorem dX12_asks_27 : decode cX12_asks 27 = .ok (.iload_n 1, 1) := by decide +kernel
theorem dX12_asks_28 : decode cX12_asks 28 = .ok (.bipush 10, 2) := by decide +kernel
theorem dX12_asks_30 : decode cX12_asks 30 = .ok (.invokevirtual 66, 3) := by decide +kernel
theorem dX12_asks_33 : decode cX12_asks 33 = .ok (.goto 4, 3) := by decide +kernel
theorem dX12_asks_36 : decode cX12_asks 36 = .ok (.iconst 0, 1) := by decide +kernel
theorem dX12_asks_37 : decode cX12_asks 37 = .ok (.putfield 240, 3) := by decide +kernel
theorem dX12_asks_40 : decode cX12_asks 40 = .ok (.aload_n 0, 1) := by decide +kernel
theorem dX12_asks_41 : decode cX12_asks 41 = .ok (.aload_n 0, 1) := by decide +kernel
theorem dX12_asks_42 : decode cX12_asks 42 = .ok (.iload_n 1, 1) := by decide +kernel
theorem dX12_asks_43 : decode cX12_asks 43 = .ok (.bipush 8, 2) := by decide +kernel
theorem dX12_asks_45 : decode cX12_asks 45 = .ok (.invokevirtual 66, 3) := by decide +kernel
theorem dX12_asks_48 : decode cX12_asks 48 = .ok (.putfield 242, 3) := by decide +kernel
theorem dX12_asks_51 : decode cX12_asks 51 = .ok (.aload_n 0, 1) := by decide +kernel
theorem dX12_asks_52 : decode cX12_asks 52 = .ok (.iconst 0, 1) := by decide +kernel
theorem dX12_asks_53 : decode cX12_asks 53 = .ok (.putfield 245, 3) := by decide +kernel
theorem dX12_asks_56 : decode cX12_asks 56 = .ok (.aload_n 0, 1) := by decide +kernel
theorem dX12_asks_57 : decode cX12_asks 57 = .ok (.getfield 29, 3) := by decide +kernel
theorem dX12_asks_60 : decode cX12_asks 60 = .ok (.iconst 0, 1) := by decide +kernel
theorem dX12_asks_61 : decode cX12_asks 61 = .ok (.iload_n 1, 1) := by decide +kernel
theorem dX12_asks_62 : decode cX12_asks 62 = .ok (.iastore, 1) := by decide +kernel
theorem dX12_asks_63 : decode cX12_asks 63 = .ok (.aload_n 0, 1) := by decide +kernel
theorem dX12_asks_64 : decode cX12_asks 64 = .ok (.getfield 29, 3) := by decide +kernel
theorem dX12_asks_67 : decode cX12_asks 67 = .ok (.iconst 1, 1) := by decide +kernel
theorem dX12_asks_68 : decode cX12_asks 68 = .ok (.iconst 0, 1) := by decide +kernel
theorem dX12_asks_69 : decode cX12_asks 69 = .ok (.iload_n 2, 1) := by decide +kernel
theorem dX12_asks_70 : decode cX12_asks 70 = .ok (.invokestatic 73, 3) := by decide +kernel
theorem dX12_asks_73 : decode cX12_asks 73 = .ok (.iastore, 1) := by decide +kernel
theorem dX12_asks_74 : decode cX12_asks 74 = .ok (.aload_n 0, 1) := by decide +kernel
theorem dX12_asks_75 : decode cX12_asks 75 = .ok (.getfield 29, 3) := by decide +kernel
theorem dX12_asks_78 : decode cX12_asks 78 = .ok (.iconst 2, 1) := by decide +kernel
theorem dX12_asks_79 : decode cX12_asks 79 = .ok (.iconst 0, 1) := by decide +kernel
theorem dX12_asks_80 : decode cX12_asks 80 = .ok (.iload_n 2, 1) := by decide +kernel
theorem dX12_asks_81 : decode cX12_asks 81 = .ok (.ineg, 1) := by decide +kernel
theorem dX12_asks_82 : decode cX12_asks 82 = .ok (.invokestatic 73, 3) := by decide +kernel
theorem dX12_asks_85 : decode cX12_asks 85 = .ok (.iastore, 1) := by decide +kernel
theorem dX12_asks_86 : decode cX12_asks 86 = .ok (.aload_n 0, 1) := by decide +kernel
theorem dX12_asks_87 : decode cX12_asks 87 = .ok (.getfield 29, 3) := by decide +kernel
theorem dX12_asks_90 : decode cX12_asks 90 = .ok (.iconst 3, 1) := by decide +kernel
theorem dX12_asks_91 : decode cX12_asks 91 = .ok (.aload_n 0, 1) := by decide +kernel
theorem dX12_asks_92 : decode cX12_asks 92 = .ok (.iload_n 1, 1) := by decide +kernel
theorem dX12_asks_93 : decode cX12_asks 93 = .ok (.iconst 5, 1) := by decide +kernel
theorem dX12_asks_94 : decode cX12_asks 94 = .ok (.invokevirtual 66, 3) := by decide +kernel
theorem dX12_asks_97 : decode cX12_asks 97 = .ok (.invokestatic 247, 3) := by decide +kernel
theorem dX12_asks_100 : decode cX12_asks 100 = .ok (.iastore, 1) := by decide +kernel
theorem dX12_asks_101 : decode cX12_asks 101 = .ok (.aload_n 0, 1) := by decide +kernel
theorem dX12_asks_102 : decode cX12_asks 102 = .ok (.getfield 29, 3) := by decide +kernel
theorem dX12_asks_105 : decode cX12_asks 105 = .ok (.iconst 4, 1) := by decide +kernel
theorem dX12_asks_106 : decode cX12_asks 106 = .ok (.aload_n 0, 1) := by decide +kernel
theorem dX12_asks_107 : decode cX12_asks 107 = .ok (.iload_n 1, 1) := by decide +kernel
theorem dX12_asks_108 : decode cX12_asks 108 = .ok (.bipush 6, 2) := by decide +kernel
theorem dX12_asks_110 : decode cX12_asks 110 = .ok (.invokevirtual 66, 3) := by decide +kernel
theorem dX12_asks_113 : decode cX12_asks 113 = .ok (.iastore, 1) := by decide +kernel
theorem dX12_asks_114 : decode cX12_asks 114 = .ok (.aload_n 0, 1) := by decide +kernel
theorem dX12_asks_115 : decode cX12_asks 115 = .ok (.getfield 29, 3) := by decide +kernel
theorem dX12_asks_118 : decode cX12_asks 118 = .ok (.iconst 5, 1) := by decide +kernel
theorem dX12_asks_119 : decode cX12_asks 119 = .ok (.aload_n 0, 1) := by decide +kernel
theorem dX12_asks_120 : decode cX12_asks 120 = .ok (.iload_n 1, 1) := by decide +kernel
theorem dX12_asks_121 : decode cX12_asks 121 = .ok (.bipush 7, 2) := by decide +kernel
theorem dX12_asks_123 : decode cX12_asks 123 = .ok (.invokevirtual 66, 3) := by decide +kernel
theorem dX12_asks_126 : decode cX12_asks 126 = .ok (.iastore, 1) := by decide +kernel
theorem dX12_asks_127 : decode cX12_asks 127 = .ok (.aload_n 0, 1) := by decide +kernel
theorem dX12_asks_128 : decode cX12_asks 128 = .ok (.getfield 29, 3) := by decide +kernel
theorem dX12_asks_131 : decode cX12_asks 131 = .ok (.bipush 6, 2) := by decide +kernel
theorem dX12_asks_133 : decode cX12_asks 133 = .ok (.aload_n 0, 1) := by decide +kernel
theorem dX12_asks_134 : decode cX12_asks 134 = .ok (.iload_n 1, 1) := by decide +kernel
theorem dX12_asks_135 : decode cX12_asks 135 = .ok (.iconst 4, 1) := by decide +kernel
theorem dX12_asks_136 : decode cX12_asks 136 = .ok (.invokevirtual 66, 3) := by decide +kernel
theorem dX12_asks_139 : decode cX12_asks 139 = .ok (.iastore, 1) := by decide +kernel
theorem dX12_asks_140 : decode cX12_asks 140 = .ok (.aload_n 0, 1) := by decide +kernel
theorem dX12_asks_141 : decode cX12_asks 141 = .ok (.aload_n 0, 1) := by decide +kernel
theorem dX12_asks_142 : decode cX12_asks 142 = .ok (.iconst 2, 1) := by decide +kernel
theorem dX12_asks_143 : decode cX12_asks 143 = .ok (.invokevirtual 250, 3) := by decide +kernel
theorem dX12_asks_146 : decode cX12_asks 146 = .ok (.iconst 1, 1) := by decide +kernel
theorem dX12_asks_147 : decode cX12_asks 147 = .ok (.iload_n 1, 1) := by decide +kernel
theorem dX12_asks_148 : decode cX12_asks 148 = .ok (.ishl, 1) := by decide +kernel
theorem dX12_asks_149 : decode cX12_asks 149 = .ok (.iconst (-1), 1) := by decide +kernel
theorem dX12_asks_150 : decode cX12_asks 150 = .ok (.ixor, 1) := by decide +kernel
theorem dX12_asks_151 : decode cX12_asks 151 = .ok (.iand, 1) := by decide +kernel
theorem dX12_asks_152 : decode cX12_asks 152 = .ok (.ifCond .ne 7, 3) := by decide +kernel
theorem dX12_asks_155 : decode cX12_asks 155 = .ok (.iconst 1, 1) := by decide +kernel
theorem dX12_asks_156 : decode cX12_asks 156 = .ok (.goto 4, 3) := by decide +kernel
theorem dX12_asks_159 : decode cX12_asks 159 = .ok (.iconst 0, 1) := by decide +kernel
theorem dX12_asks_160 : decode cX12_asks 160 = .ok (.putfield 208, 3) := by decide +kernel
theorem dX12_asks_163 : decode cX12_asks 163 = .ok (.aload_n 0, 1) := by decide +kernel
theorem dX12_asks_164 : decode cX12_asks 164 = .ok (.getfield 25, 3) := by decide +kernel
theorem dX12_asks_167 : decode cX12_asks 167 = .ok (.istore_n 3, 1) := by decide +kernel
theorem dX12_asks_168 : decode cX12_asks 168 = .ok (.aload_n 0, 1) := by decide +kernel
theorem dX12_asks_169 : decode cX12_asks 169 = .ok (.iconst (-1), 1) := by decide +kernel
theorem dX12_asks_170 : decode cX12_asks 170 = .ok (.putfield 25, 3) := by decide +kernel
theorem dX12_asks_173 : decode cX12_asks 173 = .ok (.aload_n 0, 1) := by decide +kernel
theorem dX12_asks_174 : decode cX12_asks 174 = .ok (.sipush 337, 3) := by decide +kernel
theorem dX12_asks_177 : decode cX12_asks 177 = .ok (.putfield 79, 3) := by decide +kernel
theorem dX12_asks_180 : decode cX12_asks 180 = .ok (.aload_n 0, 1) := by decide +kernel
theorem dX12_asks_181 : decode cX12_asks 181 = .ok (.aload_n 0, 1) := by decide +kernel
theorem dX12_asks_182 : decode cX12_asks 182 = .ok (.getfield 7, 3) := by decide +kernel
theorem dX12_asks_185 : decode cX12_asks 185 = .ok (.iconst 1, 1) := by decide +kernel
theorem dX12_asks_186 : decode cX12_asks 186 = .ok (.iaload, 1) := by decide +kernel
theorem dX12_asks_187 : decode cX12_asks 187 = .ok (.iconst 1, 1) := by decide +kernel
theorem dX12_asks_188 : decode cX12_asks 188 = .ok (.if_icmp .ge 7, 3) := by decide +kernel
theorem dX12_asks_191 : decode cX12_asks 191 = .ok (.iconst 0, 1) := by decide +kernel
theorem dX12_asks_192 : decode cX12_asks 192 = .ok (.goto 9, 3) := by decide +kernel
theorem dX12_asks_195 : decode cX12_asks 195 = .ok (.aload_n 0, 1) := by decide +kernel
theorem dX12_asks_196 : decode cX12_asks 196 = .ok (.getfield 7, 3) := by decide +kernel
theorem dX12_asks_199 : decode cX12_asks 199 = .ok (.iconst 2, 1) := by decide +kernel
theorem dX12_asks_200 : decode cX12_asks 200 = .ok (.iaload, 1) := by decide +kernel
theorem dX12_asks_201 : decode cX12_asks 201 = .ok (.putfield 85, 3) := by decide +kernel
theorem dX12_asks_204 : decode cX12_asks 204 = .ok (.aload_n 0, 1) := by decide +kernel
theorem dX12_asks_205 : decode cX12_asks 205 = .ok (.iconst 0, 1) := by decide +kernel
theorem dX12_asks_206 : decode cX12_asks 206 = .ok (.putfield 82, 3) := by decide +kernel
theorem dX12_asks_209 : decode cX12_asks 209 = .ok (.aload_n 0, 1) := by decide +kernel
theorem dX12_asks_210 : decode cX12_asks 210 = .ok (.iconst 0, 1) := by decide +kernel
theorem dX12_asks_211 : decode cX12_asks 211 = .ok (.putfield 164, 3) := by decide +kernel
theorem dX12_asks_214 : decode cX12_asks 214 = .ok (.aload_n 0, 1) := by decide +kernel
theorem dX12_asks_215 : decode cX12_asks 215 = .ok (.iconst 1, 1) := by decide +kernel
theorem dX12_asks_216 : decode cX12_asks 216 = .ok (.invokevirtual 183, 3) := by decide +kernel
theorem dX12_asks_219 : decode cX12_asks 219 = .ok (.istore 4, 2) := by decide +kernel
theorem dX12_asks_221 : decode cX12_asks 221 = .ok (.aload_n 0, 1) := by decide +kernel
theorem dX12_asks_222 : decode cX12_asks 222 = .ok (.iload_n 3, 1) := by decide +kernel
theorem dX12_asks_223 : decode cX12_asks 223 = .ok (.putfield 25, 3) := by decide +kernel
theorem dX12_asks_226 : decode cX12_asks 226 = .ok (.aload_n 0, 1) := by decide +kernel
theorem dX12_asks_227 : decode cX12_asks 227 = .ok (.aload_n 0, 1) := by decide +kernel
theorem dX12_asks_228 : decode cX12_asks 228 = .ok (.iload_n 1, 1) := by decide +kernel
theorem dX12_asks_229 : decode cX12_asks 229 = .ok (.bipush 9, 2) := by decide +kernel
theorem dX12_asks_231 : decode cX12_asks 231 = .ok (.invokevirtual 66, 3) := by decide +kernel
theorem dX12_asks_234 : decode cX12_asks 234 = .ok (.iconst 2, 1) := by decide +kernel
theorem dX12_asks_235 : decode cX12_asks 235 = .ok (.if_icmp .ne 8, 3) := by decide +kernel
theorem dX12_asks_238 : decode cX12_asks 238 = .ok (.bipush 100, 2) := by decide +kernel
theorem dX12_asks_240 : decode cX12_asks 240 = .ok (.goto 12, 3) := by decide +kernel
theorem dX12_asks_243 : decode cX12_asks 243 = .ok (.bipush 100, 2) := by decide +kernel
theorem dX12_asks_245 : decode cX12_asks 245 = .ok (.aload_n 0, 1) := by decide +kernel
theorem dX12_asks_246 : decode cX12_asks 246 = .ok (.getfield 242, 3) := by decide +kernel
theorem dX12_asks_249 : decode cX12_asks 249 = .ok (.invokestatic 70, 3) := by decide +kernel
theorem dX12_asks_252 : decode cX12_asks 252 = .ok (.putfield 242, 3) := by decide +kernel
theorem dX12_asks_255 : decode cX12_asks 255 = .ok (.return_, 1) := by decide +kernel
set_option maxRecDepth 20000 in
theorem ggX12_heldUp_X12_asks : GoodIn wsX12_heldUp wsX12_asks := goodIn_r _ [6, 1, 7, 8, 9, 10, 11, 12, 13, 14, 15, 16, 17, 18, 19, 5, 20, 21, 22, 23, 24, 25, 26, 27, 28, 29, 30, 31, 32, 33, 34, 35, 36, 37, 38, 39, 40, 41, 42, 43, 44, 45, 46, 47, 48, 49, 50, 51, 52, 53, 54, 55, 56, 57, 58, 59, 60, 61, 62, 63, 64, 65, 66, 67, 68, 69, 70, 71, 72, 73, 74, 75, 76, 77, 78, 79, 80, 81, 82, 83, 84, 85, 86, 87, 88, 89, 90, 91, 92, 93, 94, 95, 96, 97, 98, 99, 100, 101, 102, 103, 104, 105, 106, 107, 108, 109, 110, 111, 112, 113, 114, 115, 116, 117, 118, 119, 120, 121, 122, 123, 124, 125, 126, 127, 128, 129, 130, 131, 132, 133, 134, 135, 136, 137, 138, 139, 140, 141, 142, 143, 144, 145, 146, 147, 148, 149, 150, 151, 152, 153, 154, 155, 156, 157, 158, 159, 160, 161, 162, 163, 164, 165, 166, 167, 168, 169, 170, 171, 172, 173, 174, 175, 176, 177, 178, 179, 180, 181, 182, 183, 184, 185, 186, 187, 188, 189, 190, 191, 192, 193, 194, 195, 196, 197, 198, 199, 200] (by decide +kernel) (by decide +kernel)
set_option maxRecDepth 20000 in
theorem gX12_heldUp_X12_asks : GoodIn wsX12_heldUp (wsV RX12 253 RX12 yX12_asks wsX12_asks) := goodIn_app (goodIn_of _ (by decide +kernel)) ggX12_heldUp_X12_asks
theorem dX12_heldUp_0 : decode cX12_heldUp 0 = .ok (.aload_n 0, 1) := by decide +kernel
theorem dX12_heldUp_1 : decode cX12_heldUp 1 = .ok (.iload_n 1, 1) := by decide +kernel
theorem dX12_heldUp_2 : decode cX12_heldUp 2 = .ok (.invokevirtual 253, 3) := by decide +kernel
theorem dX12_heldUp_5 : decode cX12_heldUp 5 = .ok (.aload_n 0, 1) := by decide +kernel
theorem dX12_heldUp_6 : decode cX12_heldUp 6 = .ok (.getfield 240, 3) := by decide +kernel
theorem dX12_heldUp_9 : decode cX12_heldUp 9 = .ok (.ireturn, 1) := by decide +kernel
set_option maxRecDepth 20000 in
theorem ggX12_sentBy_X12_of : GoodIn wsX12_sentBy wsX12_of := goodIn_r _ [5, 6, 175, 176, 177, 178, 179, 180, 181, 182, 183, 184, 185, 186, 187, 188, 189, 190, 191, 192, 193, 194, 195, 196, 197, 198, 199, 200, 201, 202, 203, 204] (by decide +kernel) (by decide +kernel)
set_option maxRecDepth 20000 in
theorem gX12_sentBy_X12_of : GoodIn wsX12_sentBy (wsV RX12 66 RX12 yX12_of wsX12_of) := goodIn_app (goodIn_of _ (by decide +kernel)) ggX12_sentBy_X12_of
set_option maxRecDepth 20000 in
theorem ggX12_sentBy_X12_heldUp : GoodIn wsX12_sentBy wsX12_heldUp := goodIn_r _ [10, 11, 12, 13, 14, 4, 15, 16, 17, 18, 19, 20, 21, 6, 22, 23, 24, 1, 2, 3, 5, 25, 26, 27, 28, 29, 30, 31, 32, 33, 34, 35, 36, 37, 38, 39, 40, 41, 42, 43, 44, 45, 46, 47, 48, 49, 50, 51, 52, 53, 54, 55, 56, 57, 58, 59, 60, 61, 62, 63, 64, 65, 66, 67, 68, 69, 70, 71, 72, 73, 74, 75, 76, 77, 78, 79, 80, 81, 82, 83, 84, 85, 86, 87, 88, 89, 90, 91, 92, 93, 94, 95, 96, 97, 98, 99, 100, 101, 102, 103, 104, 105, 106, 107, 108, 109, 110, 111, 112, 113, 114, 115, 116, 117, 118, 119, 120, 121, 122, 123, 124, 125, 126, 127, 128, 129, 130, 131, 132, 133, 134, 135, 136, 137, 138, 139, 140, 141, 142, 143, 144, 145, 146, 147, 148, 149, 150, 151, 152, 153, 154, 155, 156, 157, 158, 159, 160, 161, 162, 163, 164, 165, 166, 167, 168, 169, 170, 171, 172, 173, 174, 175, 176, 177, 178, 179, 180, 181, 182, 183, 184, 185, 186, 187, 188, 189, 190, 191, 192, 193, 194, 195, 196, 197, 198, 199, 200, 201, 202, 203, 204] (by decide +kernel) (by decide +kernel)
set_option maxRecDepth 20000 in
theorem gX12_sentBy_X12_heldUp : GoodIn wsX12_sentBy (wsV RX12 256 RX12 yX12_heldUp wsX12_heldUp) := goodIn_app (goodIn_of _ (by decide +kernel)) ggX12_sentBy_X12_heldUp
theorem dX12_sentBy_0 : decode cX12_sentBy 0 = .ok (.aload_n 0, 1) := by decide +kernel
theorem dX12_sentBy_1 : decode cX12_sentBy 1 = .ok (.iload_n 1, 1) := by decide +kernel
theorem dX12_sentBy_2 : decode cX12_sentBy 2 = .ok (.iconst 0, 1) := by decide +kernel
theorem dX12_sentBy_3 : decode cX12_sentBy 3 = .ok (.invokevirtual 66, 3) := by decide +kernel
theorem dX12_sentBy_6 : decode cX12_sentBy 6 = .ok (.aload_n 0, 1) := by decide +kernel
theorem dX12_sentBy_7 : decode cX12_sentBy 7 = .ok (.iload_n 1, 1) := by decide +kernel
theorem dX12_sentBy_8 : decode cX12_sentBy 8 = .ok (.invokevirtual 256, 3) := by decide +kernel
theorem dX12_sentBy_11 : decode cX12_sentBy 11 = .ok (.iadd, 1) := by decide +kernel
theorem dX12_sentBy_12 : decode cX12_sentBy 12 = .ok (.ireturn, 1) := by decide +kernel
set_option maxRecDepth 20000 in
theorem ggX12_shiftOf_X12_sentBy : GoodIn wsX12_shiftOf wsX12_sentBy := goodIn_r _ [5, 6, 7, 8, 4, 9, 10, 11, 12, 13, 14, 15, 16, 17, 18, 19, 20, 21, 22, 23, 24, 25, 26, 27, 28, 29, 30, 31, 32, 33, 34, 35, 36, 37, 38, 39, 40, 41, 42, 43, 44, 45, 46, 47, 48, 49, 50, 51, 52, 53, 54, 55, 56, 57, 58, 59, 60, 61, 62, 63, 64, 65, 66, 67, 68, 69, 70, 71, 72, 73, 74, 75, 76, 77, 78, 79, 80, 81, 82, 83, 84, 85, 86, 87, 88, 89, 90, 91, 92, 93, 94, 95, 96, 97, 98, 99, 100, 101, 102, 103, 104, 105, 106, 107, 108, 109, 110, 111, 112, 113, 114, 115, 116, 117, 118, 119, 120, 121, 122, 123, 124, 125, 126, 127, 128, 129, 130, 131, 132, 133, 134, 135, 136, 137, 138, 139, 140, 141, 142, 143, 144, 145, 146, 147, 148, 149, 150, 151, 152, 153, 154, 155, 156, 157, 158, 159, 160, 161, 162, 163, 164, 165, 166, 167, 168, 169, 170, 171, 172, 173, 174, 175, 176, 177, 178, 179, 180, 181, 182, 183, 184, 185, 186, 187, 188, 189, 190, 191, 192, 193, 194, 195, 196, 197, 198, 199, 200, 201, 202, 203, 204, 205, 206, 207, 208] (by decide +kernel) (by decide +kernel)
set_option maxRecDepth 20000 in
theorem gX12_shiftOf_X12_sentBy : GoodIn wsX12_shiftOf (wsV RX12 259 RX12 yX12_sentBy wsX12_sentBy) := goodIn_app (goodIn_of _ (by decide +kernel)) ggX12_shiftOf_X12_sentBy
set_option maxRecDepth 20000 in
theorem ggX12_shiftOf_X12_of : GoodIn wsX12_shiftOf wsX12_of := goodIn_r _ [9, 10, 179, 180, 181, 182, 183, 184, 185, 186, 187, 188, 189, 190, 191, 192, 193, 194, 195, 196, 197, 198, 199, 200, 201, 202, 203, 204, 205, 206, 207, 208] (by decide +kernel) (by decide +kernel)
set_option maxRecDepth 20000 in
theorem gX12_shiftOf_X12_of : GoodIn wsX12_shiftOf (wsV RX12 66 RX12 yX12_of wsX12_of) := goodIn_app (goodIn_of _ (by decide +kernel)) ggX12_shiftOf_X12_of
theorem dX12_shiftOf_0 : decode cX12_shiftOf 0 = .ok (.aload_n 0, 1) := by decide +kernel
theorem dX12_shiftOf_1 : decode cX12_shiftOf 1 = .ok (.iload_n 1, 1) := by decide +kernel
theorem dX12_shiftOf_2 : decode cX12_shiftOf 2 = .ok (.invokevirtual 259, 3) := by decide +kernel
theorem dX12_shiftOf_5 : decode cX12_shiftOf 5 = .ok (.aload_n 0, 1) := by decide +kernel
theorem dX12_shiftOf_6 : decode cX12_shiftOf 6 = .ok (.iload_n 1, 1) := by decide +kernel
theorem dX12_shiftOf_7 : decode cX12_shiftOf 7 = .ok (.bipush 9, 2) := by decide +kernel
theorem dX12_shiftOf_9 : decode cX12_shiftOf 9 = .ok (.invokevirtual 66, 3) := by decide +kernel
theorem dX12_shiftOf_12 : decode cX12_shiftOf 12 = .ok (.iconst 3, 1) := by decide +kernel
theorem dX12_shiftOf_13 : decode cX12_shiftOf 13 = .ok (.if_icmp .ne 20, 3) := by decide +kernel
theorem dX12_shiftOf_16 : decode cX12_shiftOf 16 = .ok (.iload_n 2, 1) := by decide +kernel
theorem dX12_shiftOf_17 : decode cX12_shiftOf 17 = .ok (.iconst 2, 1) := by decide +kernel
theorem dX12_shiftOf_18 : decode cX12_shiftOf 18 = .ok (.irem, 1) := by decide +kernel
theorem dX12_shiftOf_19 : decode cX12_shiftOf 19 = .ok (.iconst 1, 1) := by decide +kernel
theorem dX12_shiftOf_20 : decode cX12_shiftOf 20 = .ok (.if_icmp .ne 13, 3) := by decide +kernel
theorem dX12_shiftOf_23 : decode cX12_shiftOf 23 = .ok (.aload_n 0, 1) := by decide +kernel
theorem dX12_shiftOf_24 : decode cX12_shiftOf 24 = .ok (.iload_n 1, 1) := by decide +kernel
theorem dX12_shiftOf_25 : decode cX12_shiftOf 25 = .ok (.bipush 10, 2) := by decide +kernel
theorem dX12_shiftOf_27 : decode cX12_shiftOf 27 = .ok (.invokevirtual 66, 3) := by decide +kernel
theorem dX12_shiftOf_30 : decode cX12_shiftOf 30 = .ok (.goto 4, 3) := by decide +kernel
theorem dX12_shiftOf_33 : decode cX12_shiftOf 33 = .ok (.iconst 0, 1) := by decide +kernel
theorem dX12_shiftOf_34 : decode cX12_shiftOf 34 = .ok (.iadd, 1) := by decide +kernel
theorem dX12_shiftOf_35 : decode cX12_shiftOf 35 = .ok (.ireturn, 1) := by decide +kernel
set_option maxRecDepth 20000 in
theorem ggX12_isPassing_X12_isActive : GoodIn wsX12_isPassing wsX12_isActive := goodIn_r _ [6, 7, 8, 9, 5, 10, 1, 183, 184, 185, 186, 187, 188, 189, 190, 191, 192, 193, 194, 195, 196, 197, 198, 199, 200, 201, 202, 203, 204, 205, 206, 207, 208, 209, 210, 211, 212] (by decide +kernel) (by decide +kernel)
set_option maxRecDepth 20000 in
theorem gX12_isPassing_X12_isActive : GoodIn wsX12_isPassing (wsV RX12 262 RX12 yX12_isActive wsX12_isActive) := goodIn_app (goodIn_of _ (by decide +kernel)) ggX12_isPassing_X12_isActive
set_option maxRecDepth 20000 in
theorem ggX12_isPassing_X12_of : GoodIn wsX12_isPassing wsX12_of := goodIn_r _ [10, 1, 183, 184, 185, 186, 187, 188, 189, 190, 191, 192, 193, 194, 195, 196, 197, 198, 199, 200, 201, 202, 203, 204, 205, 206, 207, 208, 209, 210, 211, 212] (by decide +kernel) (by decide +kernel)
set_option maxRecDepth 20000 in
theorem gX12_isPassing_X12_of : GoodIn wsX12_isPassing (wsV RX12 66 RX12 yX12_of wsX12_of) := goodIn_app (goodIn_of _ (by decide +kernel)) ggX12_isPassing_X12_of
set_option maxRecDepth 20000 in
theorem ggX12_isPassing_X12_sentBy : GoodIn wsX12_isPassing wsX12_sentBy := goodIn_r _ [14, 7, 8, 9, 5, 10, 1, 15, 16, 17, 18, 19, 20, 21, 22, 23, 24, 25, 26, 27, 28, 29, 30, 31, 32, 33, 34, 35, 36, 37, 38, 39, 40, 41, 42, 43, 44, 45, 46, 47, 48, 49, 50, 51, 52, 53, 54, 55, 56, 57, 58, 59, 60, 61, 62, 63, 64, 65, 66, 67, 68, 69, 70, 71, 72, 73, 74, 75, 76, 77, 78, 79, 80, 81, 82, 83, 84, 85, 86, 87, 88, 89, 90, 91, 92, 93, 94, 95, 96, 97, 98, 99, 100, 101, 102, 103, 104, 105, 106, 107, 108, 109, 110, 111, 112, 113, 114, 115, 116, 117, 118, 119, 120, 121, 122, 123, 124, 125, 126, 127, 128, 129, 130, 131, 132, 133, 134, 135, 136, 137, 138, 139, 140, 141, 142, 143, 144, 145, 146, 147, 148, 149, 150, 151, 152, 153, 154, 155, 156, 157, 158, 159, 160, 161, 162, 163, 164, 165, 166, 167, 168, 169, 170, 171, 172, 173, 174, 175, 176, 177, 178, 179, 180, 181, 182, 183, 184, 185, 186, 187, 188, 189, 190, 191, 192, 193, 194, 195, 196, 197, 198, 199, 200, 201, 202, 203, 204, 205, 206, 207, 208, 209, 210, 211, 212] (by decide +kernel) (by decide +kernel)
set_option maxRecDepth 20000 in
theorem gX12_isPassing_X12_sentBy : GoodIn wsX12_isPassing (wsV RX12 259 RX12 yX12_sentBy wsX12_sentBy) := goodIn_app (goodIn_of _ (by decide +kernel)) ggX12_isPassing_X12_sentBy
set_option maxRecDepth 20000 in
theorem ggX12_isPassing_X12_isIn : GoodIn wsX12_isPassing wsX12_isIn := goodIn_r _ [70] (by decide +kernel) (by decide +kernel)
set_option maxRecDepth 20000 in
theorem gX12_isPassing_X12_isIn : GoodIn wsX12_isPassing (va_wsS RX12 62 yX12_isIn wsX12_isIn) := goodIn_app (goodIn_of _ (by decide +kernel)) ggX12_isPassing_X12_isIn
theorem dX12_isPassing_0 : decode cX12_isPassing 0 = .ok (.aload_n 0, 1) := by decide +kernel
theorem dX12_isPassing_1 : decode cX12_isPassing 1 = .ok (.iload_n 1, 1) := by decide +kernel
theorem dX12_isPassing_2 : decode cX12_isPassing 2 = .ok (.invokevirtual 262, 3) := by decide +kernel
theorem dX12_isPassing_5 : decode cX12_isPassing 5 = .ok (.ifCond .eq 42, 3) := by decide +kernel
theorem dX12_isPassing_8 : decode cX12_isPassing 8 = .ok (.aload_n 0, 1) := by decide +kernel
theorem dX12_isPassing_9 : decode cX12_isPassing 9 = .ok (.iload_n 1, 1) := by decide +kernel
theorem dX12_isPassing_10 : decode cX12_isPassing 10 = .ok (.bipush 9, 2) := by decide +kernel
theorem dX12_isPassing_12 : decode cX12_isPassing 12 = .ok (.invokevirtual 66, 3) := by decide +kernel
theorem dX12_isPassing_15 : decode cX12_isPassing 15 = .ok (.iconst 2, 1) := by decide +kernel
theorem dX12_isPassing_16 : decode cX12_isPassing 16 = .ok (.if_icmp .eq 31, 3) := by decide +kernel
theorem dX12_isPassing_19 : decode cX12_isPassing 19 = .ok (.aload_n 0, 1) := by decide +kernel
theorem dX12_isPassing_20 : decode cX12_isPassing 20 = .ok (.iload_n 1, 1) := by decide +kernel
theorem dX12_isPassing_21 : decode cX12_isPassing 21 = .ok (.invokevirtual 259, 3) := by decide +kernel
theorem dX12_isPassing_24 : decode cX12_isPassing 24 = .ok (.aload_n 0, 1) := by decide +kernel
theorem dX12_isPassing_25 : decode cX12_isPassing 25 = .ok (.getfield 7, 3) := by decide +kernel
theorem dX12_isPassing_28 : decode cX12_isPassing 28 = .ok (.iconst 4, 1) := by decide +kernel
theorem dX12_isPassing_29 : decode cX12_isPassing 29 = .ok (.iaload, 1) := by decide +kernel
theorem dX12_isPassing_30 : decode cX12_isPassing 30 = .ok (.ineg, 1) := by decide +kernel
theorem dX12_isPassing_31 : decode cX12_isPassing 31 = .ok (.aload_n 0, 1) := by decide +kernel
theorem dX12_isPassing_32 : decode cX12_isPassing 32 = .ok (.getfield 7, 3) := by decide +kernel
theorem dX12_isPassing_35 : decode cX12_isPassing 35 = .ok (.iconst 4, 1) := by decide +kernel
theorem dX12_isPassing_36 : decode cX12_isPassing 36 = .ok (.iaload, 1) := by decide +kernel
theorem dX12_isPassing_37 : decode cX12_isPassing 37 = .ok (.invokestatic 62, 3) := by decide +kernel
theorem dX12_isPassing_40 : decode cX12_isPassing 40 = .ok (.ifCond .eq 7, 3) := by decide +kernel
theorem dX12_isPassing_43 : decode cX12_isPassing 43 = .ok (.iconst 1, 1) := by decide +kernel
theorem dX12_isPassing_44 : decode cX12_isPassing 44 = .ok (.goto 4, 3) := by decide +kernel
theorem dX12_isPassing_47 : decode cX12_isPassing 47 = .ok (.iconst 0, 1) := by decide +kernel
theorem dX12_isPassing_48 : decode cX12_isPassing 48 = .ok (.ireturn, 1) := by decide +kernel
set_option maxRecDepth 20000 in
theorem ggX12_isHeard_X12_shiftOf : GoodIn wsX12_isHeard wsX12_shiftOf := goodIn_r _ [6, 7, 8, 9, 5, 10, 11, 12, 13, 14, 1, 15, 16, 17, 18, 19, 20, 21, 22, 23, 24, 25, 26, 27, 28, 29, 30, 31, 32, 33, 34, 35, 36, 37, 38, 39, 40, 41, 42, 43, 44, 45, 46, 47, 48, 49, 50, 51, 52, 53, 54, 55, 56, 57, 58, 59, 60, 61, 62, 63, 64, 65, 66, 67, 68, 69, 70, 71, 72, 73, 74, 75, 76, 77, 78, 79, 80, 81, 82, 83, 84, 85, 86, 87, 88, 89, 90, 91, 92, 93, 94, 95, 96, 97, 98, 99, 100, 101, 102, 103, 104, 105, 106, 107, 108, 109, 110, 111, 112, 113, 114, 115, 116, 117, 118, 119, 120, 121, 122, 123, 124, 125, 126, 127, 128, 129, 130, 131, 132, 133, 134, 135, 136, 137, 138, 139, 140, 141, 142, 143, 144, 145, 146, 147, 148, 149, 150, 151, 152, 153, 154, 155, 156, 157, 158, 159, 160, 161, 162, 163, 164, 165, 166, 167, 168, 169, 170, 171, 172, 173, 174, 175, 176, 177, 178, 179, 180, 181, 182, 183, 184, 185, 186, 187, 188, 189, 190, 191, 192, 193, 194, 195, 196, 197, 198, 199, 200, 201, 202, 203, 204, 205, 206, 207, 208, 209, 210, 211, 212] (by decide +kernel) (by decide +kernel)
set_option maxRecDepth 20000 in
theorem gX12_isHeard_X12_shiftOf : GoodIn wsX12_isHeard (wsV RX12 265 RX12 yX12_shiftOf wsX12_shiftOf) := goodIn_app (goodIn_of _ (by decide +kernel)) ggX12_isHeard_X12_shiftOf
set_option maxRecDepth 20000 in
theorem ggX12_isHeard_X12_of : GoodIn wsX12_isHeard wsX12_of := goodIn_r _ [14, 1, 183, 184, 185, 186, 187, 188, 189, 190, 191, 192, 193, 194, 195, 196, 197, 198, 199, 200, 201, 202, 203, 204, 205, 206, 207, 208, 209, 210, 211, 212] (by decide +kernel) (by decide +kernel)
set_option maxRecDepth 20000 in
theorem gX12_isHeard_X12_of : GoodIn wsX12_isHeard (wsV RX12 66 RX12 yX12_of wsX12_of) := goodIn_app (goodIn_of _ (by decide +kernel)) ggX12_isHeard_X12_of
set_option maxRecDepth 20000 in
theorem ggX12_isHeard_X12_isIn : GoodIn wsX12_isHeard wsX12_isIn := goodIn_r _ [70] (by decide +kernel) (by decide +kernel)
set_option maxRecDepth 20000 in
theorem gX12_isHeard_X12_isIn : GoodIn wsX12_isHeard (va_wsS RX12 62 yX12_isIn wsX12_isIn) := goodIn_app (goodIn_of _ (by decide +kernel)) ggX12_isHeard_X12_isIn
theorem dX12_isHeard_0 : decode cX12_isHeard 0 = .ok (.aload_n 0, 1) := by decide +kernel
theorem dX12_isHeard_1 : decode cX12_isHeard 1 = .ok (.iload_n 2, 1) := by decide +kernel
theorem dX12_isHeard_2 : decode cX12_isHeard 2 = .ok (.iload_n 1, 1) := by decide +kernel
theorem dX12_isHeard_3 : decode cX12_isHeard 3 = .ok (.invokevirtual 265, 3) := by decide +kernel
theorem dX12_isHeard_6 : decode cX12_isHeard 6 = .ok (.aload_n 0, 1) := by decide +kernel
theorem dX12_isHeard_7 : decode cX12_isHeard 7 = .ok (.iload_n 1, 1) := by decide +kernel
theorem dX12_isHeard_8 : decode cX12_isHeard 8 = .ok (.iconst 0, 1) := by decide +kernel
theorem dX12_isHeard_9 : decode cX12_isHeard 9 = .ok (.invokevirtual 66, 3) := by decide +kernel
theorem dX12_isHeard_12 : decode cX12_isHeard 12 = .ok (.isub, 1) := by decide +kernel
theorem dX12_isHeard_13 : decode cX12_isHeard 13 = .ok (.aload_n 0, 1) := by decide +kernel
theorem dX12_isHeard_14 : decode cX12_isHeard 14 = .ok (.getfield 7, 3) := by decide +kernel
theorem dX12_isHeard_17 : decode cX12_isHeard 17 = .ok (.iconst 5, 1) := by decide +kernel
theorem dX12_isHeard_18 : decode cX12_isHeard 18 = .ok (.iaload, 1) := by decide +kernel
theorem dX12_isHeard_19 : decode cX12_isHeard 19 = .ok (.ineg, 1) := by decide +kernel
theorem dX12_isHeard_20 : decode cX12_isHeard 20 = .ok (.aload_n 0, 1) := by decide +kernel
theorem dX12_isHeard_21 : decode cX12_isHeard 21 = .ok (.getfield 7, 3) := by decide +kernel
theorem dX12_isHeard_24 : decode cX12_isHeard 24 = .ok (.iconst 5, 1) := by decide +kernel
theorem dX12_isHeard_25 : decode cX12_isHeard 25 = .ok (.iaload, 1) := by decide +kernel
theorem dX12_isHeard_26 : decode cX12_isHeard 26 = .ok (.invokestatic 62, 3) := by decide +kernel
theorem dX12_isHeard_29 : decode cX12_isHeard 29 = .ok (.ireturn, 1) := by decide +kernel
set_option maxRecDepth 20000 in
theorem ggX12_allShifts_X12_isPassing : GoodIn wsX12_allShifts wsX12_isPassing := goodIn_r _ [11, 2, 12, 13, 14, 10, 15, 16, 17, 18, 19, 20, 21, 22, 23, 24, 25, 26, 27, 28, 29, 30, 31, 32, 4, 33, 34, 35, 36, 37, 38, 39, 40, 41, 42, 43, 44, 45, 46, 47, 48, 49, 50, 51, 52, 53, 54, 55, 56, 57, 58, 59, 60, 61, 62, 63, 64, 65, 66, 67, 68, 69, 70, 71, 72, 73, 74, 75, 76, 77, 78, 79, 80, 81, 82, 83, 84, 85, 86, 87, 88, 89, 90, 91, 92, 93, 94, 95, 96, 97, 98, 99, 100, 101, 102, 103, 104, 105, 106, 107, 108, 109, 110, 111, 112, 113, 114, 115, 116, 117, 118, 119, 120, 121, 122, 123, 124, 125, 126, 127, 128, 129, 130, 131, 132, 133, 134, 135, 136, 137, 138, 139, 140, 141, 142, 143, 144, 145, 146, 147, 148, 149, 150, 151, 152, 153, 154, 155, 156, 157, 158, 159, 160, 161, 162, 163, 164, 165, 166, 167, 168, 169, 170, 171, 172, 173, 174, 175, 176, 177, 178, 179, 180, 181, 182, 183, 184, 185, 186, 187, 188, 189, 190, 195, 196, 197, 198, 199, 200, 201, 202, 203, 204, 205, 206, 207, 208, 209, 210, 211, 212, 213, 214, 215, 216, 217, 218, 219, 220, 221, 222, 223, 224] (by decide +kernel) (by decide +kernel)
set_option maxRecDepth 20000 in
theorem gX12_allShifts_X12_isPassing : GoodIn wsX12_allShifts (wsV RX12 271 RX12 yX12_isPassing wsX12_isPassing) := goodIn_app (goodIn_of _ (by decide +kernel)) ggX12_allShifts_X12_isPassing
set_option maxRecDepth 20000 in
theorem ggX12_allShifts_X12_asks : GoodIn wsX12_allShifts wsX12_asks := goodIn_r _ [32, 28, 4, 33, 34, 35, 36, 37, 2, 38, 39, 40, 16, 17, 18, 10, 19, 41, 42, 43, 44, 45, 46, 47, 48, 49, 50, 51, 52, 53, 54, 55, 56, 57, 58, 59, 60, 61, 62, 63, 64, 65, 66, 67, 68, 69, 70, 71, 72, 73, 74, 75, 76, 77, 78, 79, 80, 81, 82, 83, 84, 85, 86, 87, 88, 89, 90, 91, 92, 93, 94, 95, 96, 97, 98, 99, 100, 101, 102, 103, 104, 105, 106, 107, 108, 109, 110, 111, 112, 113, 114, 115, 116, 117, 118, 119, 120, 121, 122, 123, 124, 125, 126, 127, 128, 129, 130, 131, 132, 133, 134, 135, 136, 137, 138, 139, 140, 141, 142, 143, 144, 145, 146, 147, 148, 149, 150, 151, 152, 153, 154, 155, 156, 157, 158, 159, 160, 161, 162, 163, 164, 165, 166, 167, 168, 169, 170, 171, 172, 173, 174, 175, 176, 177, 178, 179, 180, 181, 182, 183, 184, 185, 186, 187, 188, 189, 190, 195, 196, 197, 198, 199, 200, 201, 202, 203, 204, 205, 206, 207, 208, 209, 210, 211, 212, 213, 214, 215, 216, 217, 218, 219, 220, 221, 222, 223, 224] (by decide +kernel) (by decide +kernel)
set_option maxRecDepth 20000 in
theorem gX12_allShifts_X12_asks : GoodIn wsX12_allShifts (wsV RX12 253 RX12 yX12_asks wsX12_asks) := goodIn_app (goodIn_of _ (by decide +kernel)) ggX12_allShifts_X12_asks
set_option maxRecDepth 20000 in
theorem ggX12_allShifts_X12_shiftOf : GoodIn wsX12_allShifts wsX12_shiftOf := goodIn_r _ [194, 20, 21, 22, 10, 23, 16, 17, 18, 19, 2, 24, 25, 26, 27, 28, 29, 30, 31, 32, 4, 33, 34, 35, 36, 37, 38, 39, 40, 41, 42, 43, 44, 45, 46, 47, 48, 49, 50, 51, 52, 53, 54, 55, 56, 57, 58, 59, 60, 61, 62, 63, 64, 65, 66, 67, 68, 69, 70, 71, 72, 73, 74, 75, 76, 77, 78, 79, 80, 81, 82, 83, 84, 85, 86, 87, 88, 89, 90, 91, 92, 93, 94, 95, 96, 97, 98, 99, 100, 101, 102, 103, 104, 105, 106, 107, 108, 109, 110, 111, 112, 113, 114, 115, 116, 117, 118, 119, 120, 121, 122, 123, 124, 125, 126, 127, 128, 129, 130, 131, 132, 133, 134, 135, 136, 137, 138, 139, 140, 141, 142, 143, 144, 145, 146, 147, 148, 149, 150, 151, 152, 153, 154, 155, 156, 157, 158, 159, 160, 161, 162, 163, 164, 165, 166, 167, 168, 169, 170, 171, 172, 173, 174, 175, 176, 177, 178, 179, 180, 181, 182, 183, 184, 185, 186, 187, 188, 189, 190, 195, 196, 197, 198, 199, 200, 201, 202, 203, 204, 205, 206, 207, 208, 209, 210, 211, 212, 213, 214, 215, 216, 217, 218, 219, 220, 221, 222, 223, 224] (by decide +kernel) (by decide +kernel)
set_option maxRecDepth 20000 in
theorem gX12_allShifts_X12_shiftOf : GoodIn wsX12_allShifts (wsV RX12 265 RX12 yX12_shiftOf wsX12_shiftOf) := goodIn_app (goodIn_of _ (by decide +kernel)) ggX12_allShifts_X12_shiftOf
set_option maxRecDepth 20000 in
theorem ggX12_allShifts_X12_of : GoodIn wsX12_allShifts wsX12_of := goodIn_r _ [19, 2, 195, 196, 197, 198, 199, 200, 201, 202, 203, 204, 205, 206, 207, 208, 209, 210, 211, 212, 213, 214, 215, 216, 217, 218, 219, 220, 221, 222, 223, 224] (by decide +kernel) (by decide +kernel)
set_option maxRecDepth 20000 in
theorem gX12_allShifts_X12_of : GoodIn wsX12_allShifts (wsV RX12 66 RX12 yX12_of wsX12_of) := goodIn_app (goodIn_of _ (by decide +kernel)) ggX12_allShifts_X12_of
set_option maxRecDepth 20000 in
theorem ggX12_allShifts_X12_isIn : GoodIn wsX12_allShifts wsX12_isIn := goodIn_r _ [78] (by decide +kernel) (by decide +kernel)
set_option maxRecDepth 20000 in
theorem gX12_allShifts_X12_isIn : GoodIn wsX12_allShifts (va_wsS RX12 62 yX12_isIn wsX12_isIn) := goodIn_app (goodIn_of _ (by decide +kernel)) ggX12_allShifts_X12_isIn
theorem dX12_allShifts_0 : decode cX12_allShifts 0 = .ok (.aload_n 0, 1) := by decide +kernel
theorem dX12_allShifts_1 : decode cX12_allShifts 1 = .ok (.iconst 0, 1) := by decide +kernel
theorem dX12_allShifts_2 : decode cX12_allShifts 2 = .ok (.putfield 268, 3) := by decide +kernel
theorem dX12_allShifts_5 : decode cX12_allShifts 5 = .ok (.iconst 0, 1) := by decide +kernel
theorem dX12_allShifts_6 : decode cX12_allShifts 6 = .ok (.istore_n 1, 1) := by decide +kernel
theorem dX12_allShifts_7 : decode cX12_allShifts 7 = .ok (.iload_n 1, 1) := by decide +kernel
theorem dX12_allShifts_8 : decode cX12_allShifts 8 = .ok (.aload_n 0, 1) := by decide +kernel
theorem dX12_allShifts_9 : decode cX12_allShifts 9 = .ok (.getfield 7, 3) := by decide +kernel
theorem dX12_allShifts_12 : decode cX12_allShifts 12 = .ok (.iconst 3, 1) := by decide +kernel
theorem dX12_allShifts_13 : decode cX12_allShifts 13 = .ok (.iaload, 1) := by decide +kernel
theorem dX12_allShifts_14 : decode cX12_allShifts 14 = .ok (.if_icmp .ge 151, 3) := by decide +kernel
theorem dX12_allShifts_17 : decode cX12_allShifts 17 = .ok (.aload_n 0, 1) := by decide +kernel
theorem dX12_allShifts_18 : decode cX12_allShifts 18 = .ok (.dup, 1) := by decide +kernel
theorem dX12_allShifts_19 : decode cX12_allShifts 19 = .ok (.getfield 268, 3) := by decide +kernel
theorem dX12_allShifts_22 : decode cX12_allShifts 22 = .ok (.aload_n 0, 1) := by decide +kernel
theorem dX12_allShifts_23 : decode cX12_allShifts 23 = .ok (.iload_n 1, 1) := by decide +kernel
theorem dX12_allShifts_24 : decode cX12_allShifts 24 = .ok (.invokevirtual 271, 3) := by decide +kernel
theorem dX12_allShifts_27 : decode cX12_allShifts 27 = .ok (.ifCond .eq 9, 3) := by decide +kernel
theorem dX12_allShifts_30 : decode cX12_allShifts 30 = .ok (.iconst 1, 1) := by decide +kernel
theorem dX12_allShifts_31 : decode cX12_allShifts 31 = .ok (.iload_n 1, 1) := by decide +kernel
theorem dX12_allShifts_32 : decode cX12_allShifts 32 = .ok (.ishl, 1) := by decide +kernel
theorem dX12_allShifts_33 : decode cX12_allShifts 33 = .ok (.goto 4, 3) := by decide +kernel
theorem dX12_allShifts_36 : decode cX12_allShifts 36 = .ok (.iconst 0, 1) := by decide +kernel
theorem dX12_allShifts_37 : decode cX12_allShifts 37 = .ok (.ior, 1) := by decide +kernel
theorem dX12_allShifts_38 : decode cX12_allShifts 38 = .ok (.putfield 268, 3) := by decide +kernel
theorem dX12_allShifts_41 : decode cX12_allShifts 41 = .ok (.aload_n 0, 1) := by decide +kernel
theorem dX12_allShifts_42 : decode cX12_allShifts 42 = .ok (.iload_n 1, 1) := by decide +kernel
theorem dX12_allShifts_43 : decode cX12_allShifts 43 = .ok (.invokevirtual 253, 3) := by decide +kernel
theorem dX12_allShifts_46 : decode cX12_allShifts 46 = .ok (.aload_n 0, 1) := by decide +kernel
theorem dX12_allShifts_47 : decode cX12_allShifts 47 = .ok (.getfield 38, 3) := by decide +kernel
theorem dX12_allShifts_50 : decode cX12_allShifts 50 = .ok (.iload_n 1, 1) := by decide +kernel
theorem dX12_allShifts_51 : decode cX12_allShifts 51 = .ok (.aload_n 0, 1) := by decide +kernel
theorem dX12_allShifts_52 : decode cX12_allShifts 52 = .ok (.getfield 242, 3) := by decide +kernel
theorem dX12_allShifts_55 : decode cX12_allShifts 55 = .ok (.iastore, 1) := by decide +kernel
theorem dX12_allShifts_56 : decode cX12_allShifts 56 = .ok (.aload_n 0, 1) := by decide +kernel
theorem dX12_allShifts_57 : decode cX12_allShifts 57 = .ok (.getfield 35, 3) := by decide +kernel
theorem dX12_allShifts_60 : decode cX12_allShifts 60 = .ok (.iload_n 1, 1) := by decide +kernel
theorem dX12_allShifts_61 : decode cX12_allShifts 61 = .ok (.iconst 0, 1) := by decide +kernel
theorem dX12_allShifts_62 : decode cX12_allShifts 62 = .ok (.iastore, 1) := by decide +kernel
theorem dX12_allShifts_63 : decode cX12_allShifts 63 = .ok (.iconst 0, 1) := by decide +kernel
theorem dX12_allShifts_64 : decode cX12_allShifts 64 = .ok (.istore_n 2, 1) := by decide +kernel
theorem dX12_allShifts_65 : decode cX12_allShifts 65 = .ok (.iload_n 2, 1) := by decide +kernel
theorem dX12_allShifts_66 : decode cX12_allShifts 66 = .ok (.aload_n 0, 1) := by decide +kernel
theorem dX12_allShifts_67 : decode cX12_allShifts 67 = .ok (.getfield 7, 3) := by decide +kernel
theorem dX12_allShifts_70 : decode cX12_allShifts 70 = .ok (.iconst 3, 1) := by decide +kernel
theorem dX12_allShifts_71 : decode cX12_allShifts 71 = .ok (.iaload, 1) := by decide +kernel
theorem dX12_allShifts_72 : decode cX12_allShifts 72 = .ok (.if_icmp .ge 87, 3) := by decide +kernel
theorem dX12_allShifts_75 : decode cX12_allShifts 75 = .ok (.iload_n 2, 1) := by decide +kernel
theorem dX12_allShifts_76 : decode cX12_allShifts 76 = .ok (.iload_n 1, 1) := by decide +kernel
theorem dX12_allShifts_77 : decode cX12_allShifts 77 = .ok (.if_icmp .ne 6, 3) := by decide +kernel
theorem dX12_allShifts_80 : decode cX12_allShifts 80 = .ok (.goto 73, 3) := by decide +kernel
theorem dX12_allShifts_83 : decode cX12_allShifts 83 = .ok (.aload_n 0, 1) := by decide +kernel
theorem dX12_allShifts_84 : decode cX12_allShifts 84 = .ok (.getfield 32, 3) := by decide +kernel
theorem dX12_allShifts_87 : decode cX12_allShifts 87 = .ok (.bipush 8, 2) := by decide +kernel
theorem dX12_allShifts_89 : decode cX12_allShifts 89 = .ok (.iload_n 2, 1) := by decide +kernel
theorem dX12_allShifts_90 : decode cX12_allShifts 90 = .ok (.imul, 1) := by decide +kernel
theorem dX12_allShifts_91 : decode cX12_allShifts 91 = .ok (.iload_n 1, 1) := by decide +kernel
theorem dX12_allShifts_92 : decode cX12_allShifts 92 = .ok (.iadd, 1) := by decide +kernel
theorem dX12_allShifts_93 : decode cX12_allShifts 93 = .ok (.aload_n 0, 1) := by decide +kernel
theorem dX12_allShifts_94 : decode cX12_allShifts 94 = .ok (.iload_n 2, 1) := by decide +kernel
theorem dX12_allShifts_95 : decode cX12_allShifts 95 = .ok (.iload_n 1, 1) := by decide +kernel
theorem dX12_allShifts_96 : decode cX12_allShifts 96 = .ok (.invokevirtual 265, 3) := by decide +kernel
theorem dX12_allShifts_99 : decode cX12_allShifts 99 = .ok (.aload_n 0, 1) := by decide +kernel
theorem dX12_allShifts_100 : decode cX12_allShifts 100 = .ok (.iload_n 1, 1) := by decide +kernel
theorem dX12_allShifts_101 : decode cX12_allShifts 101 = .ok (.iconst 0, 1) := by decide +kernel
theorem dX12_allShifts_102 : decode cX12_allShifts 102 = .ok (.invokevirtual 66, 3) := by decide +kernel
theorem dX12_allShifts_105 : decode cX12_allShifts 105 = .ok (.isub, 1) := by decide +kernel
theorem dX12_allShifts_106 : decode cX12_allShifts 106 = .ok (.iastore, 1) := by decide +kernel
theorem dX12_allShifts_107 : decode cX12_allShifts 107 = .ok (.aload_n 0, 1) := by decide +kernel
theorem dX12_allShifts_108 : decode cX12_allShifts 108 = .ok (.getfield 35, 3) := by decide +kernel
theorem dX12_allShifts_111 : decode cX12_allShifts 111 = .ok (.iload_n 1, 1) := by decide +kernel
theorem dX12_allShifts_112 : decode cX12_allShifts 112 = .ok (.dup2, 1) := by decide +kernel
theorem dX12_allShifts_113 : decode cX12_allShifts 113 = .ok (.iaload, 1) := by decide +kernel
theorem dX12_allShifts_114 : decode cX12_allShifts 114 = .ok (.aload_n 0, 1) := by decide +kernel
theorem dX12_allShifts_115 : decode cX12_allShifts 115 = .ok (.getfield 32, 3) := by decide +kernel
theorem dX12_allShifts_118 : decode cX12_allShifts 118 = .ok (.bipush 8, 2) := by decide +kernel
theorem dX12_allShifts_120 : decode cX12_allShifts 120 = .ok (.iload_n 2, 1) := by decide +kernel
theorem dX12_allShifts_121 : decode cX12_allShifts 121 = .ok (.imul, 1) := by decide +kernel
theorem dX12_allShifts_122 : decode cX12_allShifts 122 = .ok (.iload_n 1, 1) := by decide +kernel
theorem dX12_allShifts_123 : decode cX12_allShifts 123 = .ok (.iadd, 1) := by decide +kernel
theorem dX12_allShifts_124 : decode cX12_allShifts 124 = .ok (.iaload, 1) := by decide +kernel
theorem dX12_allShifts_125 : decode cX12_allShifts 125 = .ok (.aload_n 0, 1) := by decide +kernel
theorem dX12_allShifts_126 : decode cX12_allShifts 126 = .ok (.getfield 7, 3) := by decide +kernel
theorem dX12_allShifts_129 : decode cX12_allShifts 129 = .ok (.iconst 5, 1) := by decide +kernel
theorem dX12_allShifts_130 : decode cX12_allShifts 130 = .ok (.iaload, 1) := by decide +kernel
theorem dX12_allShifts_131 : decode cX12_allShifts 131 = .ok (.ineg, 1) := by decide +kernel
theorem dX12_allShifts_132 : decode cX12_allShifts 132 = .ok (.aload_n 0, 1) := by decide +kernel
theorem dX12_allShifts_133 : decode cX12_allShifts 133 = .ok (.getfield 7, 3) := by decide +kernel
theorem dX12_allShifts_136 : decode cX12_allShifts 136 = .ok (.iconst 5, 1) := by decide +kernel
theorem dX12_allShifts_137 : decode cX12_allShifts 137 = .ok (.iaload, 1) := by decide +kernel
theorem dX12_allShifts_138 : decode cX12_allShifts 138 = .ok (.invokestatic 62, 3) := by decide +kernel
theorem dX12_allShifts_141 : decode cX12_allShifts 141 = .ok (.ifCond .eq 9, 3) := by decide +kernel
theorem dX12_allShifts_144 : decode cX12_allShifts 144 = .ok (.iconst 1, 1) := by decide +kernel
theorem dX12_allShifts_145 : decode cX12_allShifts 145 = .ok (.iload_n 2, 1) := by decide +kernel
theorem dX12_allShifts_146 : decode cX12_allShifts 146 = .ok (.ishl, 1) := by decide +kernel
theorem dX12_allShifts_147 : decode cX12_allShifts 147 = .ok (.goto 4, 3) := by decide +kernel
theorem dX12_allShifts_150 : decode cX12_allShifts 150 = .ok (.iconst 0, 1) := by decide +kernel
theorem dX12_allShifts_151 : decode cX12_allShifts 151 = .ok (.ior, 1) := by decide +kernel
theorem dX12_allShifts_152 : decode cX12_allShifts 152 = .ok (.iastore, 1) := by decide +kernel
theorem dX12_allShifts_153 : decode cX12_allShifts 153 = .ok (.iinc 2 1, 3) := by decide +kernel
theorem dX12_allShifts_156 : decode cX12_allShifts 156 = .ok (.goto (-91), 3) := by decide +kernel
theorem dX12_allShifts_159 : decode cX12_allShifts 159 = .ok (.iinc 1 1, 3) := by decide +kernel
theorem dX12_allShifts_162 : decode cX12_allShifts 162 = .ok (.goto (-155), 3) := by decide +kernel
theorem dX12_allShifts_165 : decode cX12_allShifts 165 = .ok (.return_, 1) := by decide +kernel
theorem dX12_middle_0 : decode cX12_middle 0 = .ok (.iload_n 1, 1) := by decide +kernel
theorem dX12_middle_1 : decode cX12_middle 1 = .ok (.ifCond .ne 5, 3) := by decide +kernel
theorem dX12_middle_4 : decode cX12_middle 4 = .ok (.iconst 0, 1) := by decide +kernel
theorem dX12_middle_5 : decode cX12_middle 5 = .ok (.ireturn, 1) := by decide +kernel
theorem dX12_middle_6 : decode cX12_middle 6 = .ok (.iconst 1, 1) := by decide +kernel
theorem dX12_middle_7 : decode cX12_middle 7 = .ok (.istore_n 2, 1) := by decide +kernel
theorem dX12_middle_8 : decode cX12_middle 8 = .ok (.iload_n 2, 1) := by decide +kernel
theorem dX12_middle_9 : decode cX12_middle 9 = .ok (.iload_n 1, 1) := by decide +kernel
theorem dX12_middle_10 : decode cX12_middle 10 = .ok (.if_icmp .ge 67, 3) := by decide +kernel
theorem dX12_middle_13 : decode cX12_middle 13 = .ok (.aload_n 0, 1) := by decide +kernel
theorem dX12_middle_14 : decode cX12_middle 14 = .ok (.getfield 41, 3) := by decide +kernel
theorem dX12_middle_17 : decode cX12_middle 17 = .ok (.iload_n 2, 1) := by decide +kernel
theorem dX12_middle_18 : decode cX12_middle 18 = .ok (.iaload, 1) := by decide +kernel
theorem dX12_middle_19 : decode cX12_middle 19 = .ok (.istore_n 3, 1) := by decide +kernel
theorem dX12_middle_20 : decode cX12_middle 20 = .ok (.iload_n 2, 1) := by decide +kernel
theorem dX12_middle_21 : decode cX12_middle 21 = .ok (.istore 4, 2) := by decide +kernel
theorem dX12_middle_23 : decode cX12_middle 23 = .ok (.iload 4, 2) := by decide +kernel
theorem dX12_middle_25 : decode cX12_middle 25 = .ok (.ifCond .le 38, 3) := by decide +kernel
theorem dX12_middle_28 : decode cX12_middle 28 = .ok (.aload_n 0, 1) := by decide +kernel
theorem dX12_middle_29 : decode cX12_middle 29 = .ok (.getfield 41, 3) := by decide +kernel
theorem dX12_middle_32 : decode cX12_middle 32 = .ok (.iload 4, 2) := by decide +kernel
theorem dX12_middle_34 : decode cX12_middle 34 = .ok (.iconst 1, 1) := by decide +kernel
theorem dX12_middle_35 : decode cX12_middle 35 = .ok (.isub, 1) := by decide +kernel
theorem dX12_middle_36 : decode cX12_middle 36 = .ok (.iaload, 1) := by decide +kernel
theorem dX12_middle_37 : decode cX12_middle 37 = .ok (.iload_n 3, 1) := by decide +kernel
theorem dX12_middle_38 : decode cX12_middle 38 = .ok (.if_icmp .le 25, 3) := by decide +kernel
theorem dX12_middle_41 : decode cX12_middle 41 = .ok (.aload_n 0, 1) := by decide +kernel
theorem dX12_middle_42 : decode cX12_middle 42 = .ok (.getfield 41, 3) := by decide +kernel
theorem dX12_middle_45 : decode cX12_middle 45 = .ok (.iload 4, 2) := by decide +kernel
theorem dX12_middle_47 : decode cX12_middle 47 = .ok (.aload_n 0, 1) := by decide +kernel
theorem dX12_middle_48 : decode cX12_middle 48 = .ok (.getfield 41, 3) := by decide +kernel
theorem dX12_middle_51 : decode cX12_middle 51 = .ok (.iload 4, 2) := by decide +kernel
theorem dX12_middle_53 : decode cX12_middle 53 = .ok (.iconst 1, 1) := by decide +kernel
theorem dX12_middle_54 : decode cX12_middle 54 = .ok (.isub, 1) := by decide +kernel
theorem dX12_middle_55 : decode cX12_middle 55 = .ok (.iaload, 1) := by decide +kernel
theorem dX12_middle_56 : decode cX12_middle 56 = .ok (.iastore, 1) := by decide +kernel
theorem dX12_middle_57 : decode cX12_middle 57 = .ok (.iinc 4 (-1), 3) := by decide +kernel
theorem dX12_middle_60 : decode cX12_middle 60 = .ok (.goto (-37), 3) := by decide +kernel
theorem dX12_middle_63 : decode cX12_middle 63 = .ok (.aload_n 0, 1) := by decide +kernel
theorem dX12_middle_64 : decode cX12_middle 64 = .ok (.getfield 41, 3) := by decide +kernel
theorem dX12_middle_67 : decode cX12_middle 67 = .ok (.iload 4, 2) := by decide +kernel
theorem dX12_middle_69 : decode cX12_middle 69 = .ok (.iload_n 3, 1) := by decide +kernel
theorem dX12_middle_70 : decode cX12_middle 70 = .ok (.iastore, 1) := by decide +kernel
theorem dX12_middle_71 : decode cX12_middle 71 = .ok (.iinc 2 1, 3) := by decide +kernel
theorem dX12_middle_74 : decode cX12_middle 74 = .ok (.goto (-66), 3) := by decide +kernel
theorem dX12_middle_77 : decode cX12_middle 77 = .ok (.iload_n 1, 1) := by decide +kernel
theorem dX12_middle_78 : decode cX12_middle 78 = .ok (.iconst 3, 1) := by decide +kernel
theorem dX12_middle_79 : decode cX12_middle 79 = .ok (.if_icmp .ge 7, 3) := by decide +kernel
theorem dX12_middle_82 : decode cX12_middle 82 = .ok (.iconst 0, 1) := by decide +kernel
theorem dX12_middle_83 : decode cX12_middle 83 = .ok (.goto 14, 3) := by decide +kernel
theorem dX12_middle_86 : decode cX12_middle 86 = .ok (.iload_n 1, 1) := by decide +kernel
theorem dX12_middle_87 : decode cX12_middle 87 = .ok (.bipush 8, 2) := by decide +kernel
theorem dX12_middle_89 : decode cX12_middle 89 = .ok (.if_icmp .ge 7, 3) := by decide +kernel
theorem dX12_middle_92 : decode cX12_middle 92 = .ok (.iconst 1, 1) := by decide +kernel
theorem dX12_middle_93 : decode cX12_middle 93 = .ok (.goto 4, 3) := by decide +kernel
theorem dX12_middle_96 : decode cX12_middle 96 = .ok (.iconst 2, 1) := by decide +kernel
theorem dX12_middle_97 : decode cX12_middle 97 = .ok (.istore_n 2, 1) := by decide +kernel
theorem dX12_middle_98 : decode cX12_middle 98 = .ok (.aload_n 0, 1) := by decide +kernel
theorem dX12_middle_99 : decode cX12_middle 99 = .ok (.getfield 41, 3) := by decide +kernel
theorem dX12_middle_102 : decode cX12_middle 102 = .ok (.iload_n 2, 1) := by decide +kernel
theorem dX12_middle_103 : decode cX12_middle 103 = .ok (.iaload, 1) := by decide +kernel
theorem dX12_middle_104 : decode cX12_middle 104 = .ok (.aload_n 0, 1) := by decide +kernel
theorem dX12_middle_105 : decode cX12_middle 105 = .ok (.getfield 41, 3) := by decide +kernel
theorem dX12_middle_108 : decode cX12_middle 108 = .ok (.iload_n 1, 1) := by decide +kernel
theorem dX12_middle_109 : decode cX12_middle 109 = .ok (.iconst 1, 1) := by decide +kernel
theorem dX12_middle_110 : decode cX12_middle 110 = .ok (.isub, 1) := by decide +kernel
theorem dX12_middle_111 : decode cX12_middle 111 = .ok (.iload_n 2, 1) := by decide +kernel
theorem dX12_middle_112 : decode cX12_middle 112 = .ok (.isub, 1) := by decide +kernel
theorem dX12_middle_113 : decode cX12_middle 113 = .ok (.iaload, 1) := by decide +kernel
theorem dX12_middle_114 : decode cX12_middle 114 = .ok (.iadd, 1) := by decide +kernel
theorem dX12_middle_115 : decode cX12_middle 115 = .ok (.iconst 2, 1) := by decide +kernel
theorem dX12_middle_116 : decode cX12_middle 116 = .ok (.idiv, 1) := by decide +kernel
theorem dX12_middle_117 : decode cX12_middle 117 = .ok (.ireturn, 1) := by decide +kernel
set_option maxRecDepth 20000 in
theorem ggX12_middleOf_X12_isOf : GoodIn wsX12_middleOf wsX12_isOf := goodIn_r _ [8] (by decide +kernel) (by decide +kernel)
set_option maxRecDepth 20000 in
theorem gX12_middleOf_X12_isOf : GoodIn wsX12_middleOf (va_wsS RX12 274 yX12_isOf wsX12_isOf) := goodIn_app (goodIn_of _ (by decide +kernel)) ggX12_middleOf_X12_isOf
set_option maxRecDepth 20000 in
theorem ggX12_middleOf_X12_middle : GoodIn wsX12_middleOf wsX12_middle := goodIn_r _ [12, 1, 13, 14, 15, 16, 17, 18, 19, 20, 21, 22, 23, 24, 25, 26, 27, 28, 29, 30, 31, 32, 33, 34, 35, 36, 37, 38, 39, 40, 41, 42] (by decide +kernel) (by decide +kernel)
set_option maxRecDepth 20000 in
theorem gX12_middleOf_X12_middle : GoodIn wsX12_middleOf (wsV RX12 278 RX12 yX12_middle wsX12_middle) := goodIn_app (goodIn_of _ (by decide +kernel)) ggX12_middleOf_X12_middle
theorem dX12_middleOf_0 : decode cX12_middleOf 0 = .ok (.aload_n 0, 1) := by decide +kernel
theorem dX12_middleOf_1 : decode cX12_middleOf 1 = .ok (.getfield 41, 3) := by decide +kernel
theorem dX12_middleOf_4 : decode cX12_middleOf 4 = .ok (.iconst 0, 1) := by decide +kernel
theorem dX12_middleOf_5 : decode cX12_middleOf 5 = .ok (.iconst 0, 1) := by decide +kernel
theorem dX12_middleOf_6 : decode cX12_middleOf 6 = .ok (.iastore, 1) := by decide +kernel
theorem dX12_middleOf_7 : decode cX12_middleOf 7 = .ok (.iconst 1, 1) := by decide +kernel
theorem dX12_middleOf_8 : decode cX12_middleOf 8 = .ok (.istore_n 3, 1) := by decide +kernel
theorem dX12_middleOf_9 : decode cX12_middleOf 9 = .ok (.iconst 0, 1) := by decide +kernel
theorem dX12_middleOf_10 : decode cX12_middleOf 10 = .ok (.istore 4, 2) := by decide +kernel
theorem dX12_middleOf_12 : decode cX12_middleOf 12 = .ok (.iload 4, 2) := by decide +kernel
theorem dX12_middleOf_14 : decode cX12_middleOf 14 = .ok (.aload_n 0, 1) := by decide +kernel
theorem dX12_middleOf_15 : decode cX12_middleOf 15 = .ok (.getfield 7, 3) := by decide +kernel
theorem dX12_middleOf_18 : decode cX12_middleOf 18 = .ok (.iconst 3, 1) := by decide +kernel
theorem dX12_middleOf_19 : decode cX12_middleOf 19 = .ok (.iaload, 1) := by decide +kernel
theorem dX12_middleOf_20 : decode cX12_middleOf 20 = .ok (.if_icmp .ge 55, 3) := by decide +kernel
theorem dX12_middleOf_23 : decode cX12_middleOf 23 = .ok (.iload 4, 2) := by decide +kernel
theorem dX12_middleOf_25 : decode cX12_middleOf 25 = .ok (.iload_n 1, 1) := by decide +kernel
theorem dX12_middleOf_26 : decode cX12_middleOf 26 = .ok (.if_icmp .eq 43, 3) := by decide +kernel
theorem dX12_middleOf_29 : decode cX12_middleOf 29 = .ok (.iload_n 2, 1) := by decide +kernel
theorem dX12_middleOf_30 : decode cX12_middleOf 30 = .ok (.aload_n 0, 1) := by decide +kernel
theorem dX12_middleOf_31 : decode cX12_middleOf 31 = .ok (.getfield 35, 3) := by decide +kernel
theorem dX12_middleOf_34 : decode cX12_middleOf 34 = .ok (.iload_n 1, 1) := by decide +kernel
theorem dX12_middleOf_35 : decode cX12_middleOf 35 = .ok (.iaload, 1) := by decide +kernel
theorem dX12_middleOf_36 : decode cX12_middleOf 36 = .ok (.iand, 1) := by decide +kernel
theorem dX12_middleOf_37 : decode cX12_middleOf 37 = .ok (.iload 4, 2) := by decide +kernel
theorem dX12_middleOf_39 : decode cX12_middleOf 39 = .ok (.invokestatic 274, 3) := by decide +kernel
theorem dX12_middleOf_42 : decode cX12_middleOf 42 = .ok (.ifCond .ne 6, 3) := by decide +kernel
theorem dX12_middleOf_45 : decode cX12_middleOf 45 = .ok (.goto 24, 3) := by decide +kernel
theorem dX12_middleOf_48 : decode cX12_middleOf 48 = .ok (.aload_n 0, 1) := by decide +kernel
theorem dX12_middleOf_49 : decode cX12_middleOf 49 = .ok (.getfield 41, 3) := by decide +kernel
theorem dX12_middleOf_52 : decode cX12_middleOf 52 = .ok (.iload_n 3, 1) := by decide +kernel
theorem dX12_middleOf_53 : decode cX12_middleOf 53 = .ok (.aload_n 0, 1) := by decide +kernel
theorem dX12_middleOf_54 : decode cX12_middleOf 54 = .ok (.getfield 32, 3) := by decide +kernel
theorem dX12_middleOf_57 : decode cX12_middleOf 57 = .ok (.bipush 8, 2) := by decide +kernel
theorem dX12_middleOf_59 : decode cX12_middleOf 59 = .ok (.iload 4, 2) := by decide +kernel
theorem dX12_middleOf_61 : decode cX12_middleOf 61 = .ok (.imul, 1) := by decide +kernel
theorem dX12_middleOf_62 : decode cX12_middleOf 62 = .ok (.iload_n 1, 1) := by decide +kernel
theorem dX12_middleOf_63 : decode cX12_middleOf 63 = .ok (.iadd, 1) := by decide +kernel
theorem dX12_middleOf_64 : decode cX12_middleOf 64 = .ok (.iaload, 1) := by decide +kernel
theorem dX12_middleOf_65 : decode cX12_middleOf 65 = .ok (.iastore, 1) := by decide +kernel
theorem dX12_middleOf_66 : decode cX12_middleOf 66 = .ok (.iinc 3 1, 3) := by decide +kernel
theorem dX12_middleOf_69 : decode cX12_middleOf 69 = .ok (.iinc 4 1, 3) := by decide +kernel
theorem dX12_middleOf_72 : decode cX12_middleOf 72 = .ok (.goto (-60), 3) := by decide +kernel
theorem dX12_middleOf_75 : decode cX12_middleOf 75 = .ok (.aload_n 0, 1) := by decide +kernel
theorem dX12_middleOf_76 : decode cX12_middleOf 76 = .ok (.iload_n 3, 1) := by decide +kernel
theorem dX12_middleOf_77 : decode cX12_middleOf 77 = .ok (.invokevirtual 278, 3) := by decide +kernel
theorem dX12_middleOf_80 : decode cX12_middleOf 80 = .ok (.ireturn, 1) := by decide +kernel
theorem dX12_draw_0 : decode cX12_draw 0 = .ok (.aload_n 0, 1) := by decide +kernel
theorem dX12_draw_1 : decode cX12_draw 1 = .ok (.getfield 7, 3) := by decide +kernel
theorem dX12_draw_4 : decode cX12_draw 4 = .ok (.bipush 8, 2) := by decide +kernel
theorem dX12_draw_6 : decode cX12_draw 6 = .ok (.ldc_w 281, 3) := by decide +kernel
theorem dX12_draw_9 : decode cX12_draw 9 = .ok (.aload_n 0, 1) := by decide +kernel
theorem dX12_draw_10 : decode cX12_draw 10 = .ok (.getfield 7, 3) := by decide +kernel
theorem dX12_draw_13 : decode cX12_draw 13 = .ok (.bipush 8, 2) := by decide +kernel
theorem dX12_draw_15 : decode cX12_draw 15 = .ok (.iaload, 1) := by decide +kernel
theorem dX12_draw_16 : decode cX12_draw 16 = .ok (.imul, 1) := by decide +kernel
theorem dX12_draw_17 : decode cX12_draw 17 = .ok (.sipush 12345, 3) := by decide +kernel
theorem dX12_draw_20 : decode cX12_draw 20 = .ok (.iadd, 1) := by decide +kernel
theorem dX12_draw_21 : decode cX12_draw 21 = .ok (.iastore, 1) := by decide +kernel
theorem dX12_draw_22 : decode cX12_draw 22 = .ok (.aload_n 0, 1) := by decide +kernel
theorem dX12_draw_23 : decode cX12_draw 23 = .ok (.getfield 7, 3) := by decide +kernel
theorem dX12_draw_26 : decode cX12_draw 26 = .ok (.bipush 8, 2) := by decide +kernel
theorem dX12_draw_28 : decode cX12_draw 28 = .ok (.iaload, 1) := by decide +kernel
theorem dX12_draw_29 : decode cX12_draw 29 = .ok (.bipush 16, 2) := by decide +kernel
theorem dX12_draw_31 : decode cX12_draw 31 = .ok (.iushr, 1) := by decide +kernel
theorem dX12_draw_32 : decode cX12_draw 32 = .ok (.sipush 32767, 3) := by decide +kernel
theorem dX12_draw_35 : decode cX12_draw 35 = .ok (.iand, 1) := by decide +kernel
theorem dX12_draw_36 : decode cX12_draw 36 = .ok (.iload_n 1, 1) := by decide +kernel
theorem dX12_draw_37 : decode cX12_draw 37 = .ok (.irem, 1) := by decide +kernel
theorem dX12_draw_38 : decode cX12_draw 38 = .ok (.ireturn, 1) := by decide +kernel
set_option maxRecDepth 20000 in
theorem ggX12_logs_X12_lesser : GoodIn wsX12_logs wsX12_lesser := goodIn_r _ [5] (by decide +kernel) (by decide +kernel)
set_option maxRecDepth 20000 in
theorem gX12_logs_X12_lesser : GoodIn wsX12_logs (va_wsS RX12 70 yX12_lesser wsX12_lesser) := goodIn_app (goodIn_of _ (by decide +kernel)) ggX12_logs_X12_lesser
theorem dX12_logs_0 : decode cX12_logs 0 = .ok (.sipush 239, 3) := by decide +kernel
theorem dX12_logs_3 : decode cX12_logs 3 = .ok (.istore 4, 2) := by decide +kernel
theorem dX12_logs_5 : decode cX12_logs 5 = .ok (.iload 4, 2) := by decide +kernel
theorem dX12_logs_7 : decode cX12_logs 7 = .ok (.iconst 4, 1) := by decide +kernel
theorem dX12_logs_8 : decode cX12_logs 8 = .ok (.if_icmp .lt 31, 3) := by decide +kernel
theorem dX12_logs_11 : decode cX12_logs 11 = .ok (.aload_n 0, 1) := by decide +kernel
theorem dX12_logs_12 : decode cX12_logs 12 = .ok (.getfield 7, 3) := by decide +kernel
theorem dX12_logs_15 : decode cX12_logs 15 = .ok (.bipush 97, 2) := by decide +kernel
theorem dX12_logs_17 : decode cX12_logs 17 = .ok (.iload 4, 2) := by decide +kernel
theorem dX12_logs_19 : decode cX12_logs 19 = .ok (.iadd, 1) := by decide +kernel
theorem dX12_logs_20 : decode cX12_logs 20 = .ok (.aload_n 0, 1) := by decide +kernel
theorem dX12_logs_21 : decode cX12_logs 21 = .ok (.getfield 7, 3) := by decide +kernel
theorem dX12_logs_24 : decode cX12_logs 24 = .ok (.bipush 97, 2) := by decide +kernel
theorem dX12_logs_26 : decode cX12_logs 26 = .ok (.iload 4, 2) := by decide +kernel
theorem dX12_logs_28 : decode cX12_logs 28 = .ok (.iadd, 1) := by decide +kernel
theorem dX12_logs_29 : decode cX12_logs 29 = .ok (.iconst 4, 1) := by decide +kernel
theorem dX12_logs_30 : decode cX12_logs 30 = .ok (.isub, 1) := by decide +kernel
theorem dX12_logs_31 : decode cX12_logs 31 = .ok (.iaload, 1) := by decide +kernel
theorem dX12_logs_32 : decode cX12_logs 32 = .ok (.iastore, 1) := by decide +kernel
theorem dX12_logs_33 : decode cX12_logs 33 = .ok (.iinc 4 (-1), 3) := by decide +kernel
theorem dX12_logs_36 : decode cX12_logs 36 = .ok (.goto (-31), 3) := by decide +kernel
theorem dX12_logs_39 : decode cX12_logs 39 = .ok (.aload_n 0, 1) := by decide +kernel
theorem dX12_logs_40 : decode cX12_logs 40 = .ok (.getfield 7, 3) := by decide +kernel
theorem dX12_logs_43 : decode cX12_logs 43 = .ok (.bipush 97, 2) := by decide +kernel
theorem dX12_logs_45 : decode cX12_logs 45 = .ok (.aload_n 0, 1) := by decide +kernel
theorem dX12_logs_46 : decode cX12_logs 46 = .ok (.getfield 7, 3) := by decide +kernel
theorem dX12_logs_49 : decode cX12_logs 49 = .ok (.bipush 6, 2) := by decide +kernel
theorem dX12_logs_51 : decode cX12_logs 51 = .ok (.iaload, 1) := by decide +kernel
theorem dX12_logs_52 : decode cX12_logs 52 = .ok (.iastore, 1) := by decide +kernel
theorem dX12_logs_53 : decode cX12_logs 53 = .ok (.aload_n 0, 1) := by decide +kernel
theorem dX12_logs_54 : decode cX12_logs 54 = .ok (.getfield 7, 3) := by decide +kernel
theorem dX12_logs_57 : decode cX12_logs 57 = .ok (.bipush 98, 2) := by decide +kernel
theorem dX12_logs_59 : decode cX12_logs 59 = .ok (.iload_n 1, 1) := by decide +kernel
theorem dX12_logs_60 : decode cX12_logs 60 = .ok (.iastore, 1) := by decide +kernel
theorem dX12_logs_61 : decode cX12_logs 61 = .ok (.aload_n 0, 1) := by decide +kernel
theorem dX12_logs_62 : decode cX12_logs 62 = .ok (.getfield 7, 3) := by decide +kernel
theorem dX12_logs_65 : decode cX12_logs 65 = .ok (.bipush 99, 2) := by decide +kernel
theorem dX12_logs_67 : decode cX12_logs 67 = .ok (.iload_n 2, 1) := by decide +kernel
theorem dX12_logs_68 : decode cX12_logs 68 = .ok (.iastore, 1) := by decide +kernel
theorem dX12_logs_69 : decode cX12_logs 69 = .ok (.aload_n 0, 1) := by decide +kernel
theorem dX12_logs_70 : decode cX12_logs 70 = .ok (.getfield 7, 3) := by decide +kernel
theorem dX12_logs_73 : decode cX12_logs 73 = .ok (.bipush 100, 2) := by decide +kernel
theorem dX12_logs_75 : decode cX12_logs 75 = .ok (.iload_n 3, 1) := by decide +kernel
theorem dX12_logs_76 : decode cX12_logs 76 = .ok (.iastore, 1) := by decide +kernel
theorem dX12_logs_77 : decode cX12_logs 77 = .ok (.aload_n 0, 1) := by decide +kernel
theorem dX12_logs_78 : decode cX12_logs 78 = .ok (.getfield 7, 3) := by decide +kernel
theorem dX12_logs_81 : decode cX12_logs 81 = .ok (.bipush 7, 2) := by decide +kernel
theorem dX12_logs_83 : decode cX12_logs 83 = .ok (.bipush 60, 2) := by decide +kernel
theorem dX12_logs_85 : decode cX12_logs 85 = .ok (.aload_n 0, 1) := by decide +kernel
theorem dX12_logs_86 : decode cX12_logs 86 = .ok (.getfield 7, 3) := by decide +kernel
theorem dX12_logs_89 : decode cX12_logs 89 = .ok (.bipush 7, 2) := by decide +kernel
theorem dX12_logs_91 : decode cX12_logs 91 = .ok (.iaload, 1) := by decide +kernel
theorem dX12_logs_92 : decode cX12_logs 92 = .ok (.iconst 1, 1) := by decide +kernel
theorem dX12_logs_93 : decode cX12_logs 93 = .ok (.iadd, 1) := by decide +kernel
theorem dX12_logs_94 : decode cX12_logs 94 = .ok (.invokestatic 70, 3) := by decide +kernel
theorem dX12_logs_97 : decode cX12_logs 97 = .ok (.iastore, 1) := by decide +kernel
theorem dX12_logs_98 : decode cX12_logs 98 = .ok (.return_, 1) := by decide +kernel
set_option maxRecDepth 20000 in
theorem ggX12_calls_X12_of : GoodIn wsX12_calls wsX12_of := goodIn_r _ [6, 1, 187, 188, 189, 190, 191, 192, 193, 194, 195, 196, 197, 198, 199, 200, 201, 202, 203, 204, 205, 206, 207, 208, 209, 210, 211, 212, 213, 214, 215, 216] (by decide +kernel) (by decide +kernel)
set_option maxRecDepth 20000 in
theorem gX12_calls_X12_of : GoodIn wsX12_calls (wsV RX12 66 RX12 yX12_of wsX12_of) := goodIn_app (goodIn_of _ (by decide +kernel)) ggX12_calls_X12_of
set_option maxRecDepth 20000 in
theorem ggX12_calls_X12_greater : GoodIn wsX12_calls wsX12_greater := goodIn_r _ [9] (by decide +kernel) (by decide +kernel)
set_option maxRecDepth 20000 in
theorem gX12_calls_X12_greater : GoodIn wsX12_calls (va_wsS RX12 73 yX12_greater wsX12_greater) := goodIn_app (goodIn_of _ (by decide +kernel)) ggX12_calls_X12_greater
set_option maxRecDepth 20000 in
theorem ggX12_calls_X12_lays : GoodIn wsX12_calls wsX12_lays := goodIn_r _ [13, 1, 187, 188, 189, 190, 191, 192, 193, 194, 195, 196, 197, 198, 199, 200, 201, 202, 203, 204, 205, 206, 207, 208, 209, 210, 211, 212, 213, 214, 215, 216] (by decide +kernel) (by decide +kernel)
set_option maxRecDepth 20000 in
theorem gX12_calls_X12_lays : GoodIn wsX12_calls (wsV RX12 146 RX12 yX12_lays wsX12_lays) := goodIn_app (goodIn_of _ (by decide +kernel)) ggX12_calls_X12_lays
set_option maxRecDepth 20000 in
theorem ggX12_calls_X12_bits : GoodIn wsX12_calls wsX12_bits := goodIn_r _ [16] (by decide +kernel) (by decide +kernel)
set_option maxRecDepth 20000 in
theorem gX12_calls_X12_bits : GoodIn wsX12_calls (va_wsS RX12 247 yX12_bits wsX12_bits) := goodIn_app (goodIn_of _ (by decide +kernel)) ggX12_calls_X12_bits
set_option maxRecDepth 20000 in
theorem ggX12_calls_X12_starts : GoodIn wsX12_calls wsX12_starts := goodIn_r _ [20, 21, 22, 5, 23, 10, 11, 12, 13, 1, 24, 25, 26, 27, 28, 29, 30, 187, 188, 189, 190, 191, 192, 193, 194, 195, 196, 197, 198, 199, 200, 201, 202, 203, 204, 205, 206, 207, 208, 209, 210, 211, 212, 213, 214, 215, 216] (by decide +kernel) (by decide +kernel)
set_option maxRecDepth 20000 in
theorem gX12_calls_X12_starts : GoodIn wsX12_calls (wsV RX12 282 RX12 yX12_starts wsX12_starts) := goodIn_app (goodIn_of _ (by decide +kernel)) ggX12_calls_X12_starts
set_option maxRecDepth 20000 in
theorem ggX12_calls_X12_collides : GoodIn wsX12_calls wsX12_collides := goodIn_r _ [34, 1, 35, 36, 21, 22, 5, 23, 37, 38, 39, 40, 41, 42, 43, 44, 45, 46, 47, 48, 49, 2, 3, 4, 6, 7, 8, 9, 14, 15, 16, 50, 51, 52, 53, 54, 55, 56, 57, 58, 59, 60, 61, 62, 63, 64, 65, 66, 67, 68, 69, 70, 71, 72, 73, 74, 75, 76, 77, 78, 79, 80, 81, 82, 83, 84, 85, 86, 87, 88, 89, 90, 91, 92, 93, 94, 95, 96, 97, 98, 99, 100, 101, 102, 103, 104, 105, 106, 107, 108, 109, 110, 111, 112, 113, 114, 115, 116, 117, 118, 119, 120, 121, 122, 123, 124, 125, 126, 127, 128, 129, 130, 131, 132, 133, 134, 135, 136, 137, 138, 139, 140, 141, 142, 143, 144, 145, 146, 147, 148, 149, 150, 151, 152, 153, 154, 155, 156, 157, 158, 159, 160, 161, 162, 163, 164, 165, 166, 167, 168, 169, 170, 171, 172, 173, 174, 175, 176, 177, 178, 179, 180, 181, 182, 10, 11, 12, 13, 183, 184, 185, 186, 28, 29, 30, 24, 25, 26, 27, 187, 188, 189, 190, 191, 192, 193, 194, 195, 196, 197, 198, 199, 200, 201, 202, 203, 204, 205, 206, 207, 208, 209, 210, 211, 212, 213, 214, 215, 216] (by decide +kernel) (by decide +kernel)
set_option maxRecDepth 20000 in
theorem gX12_calls_X12_collides : GoodIn wsX12_calls (wsV RX12 285 RX12 yX12_collides wsX12_collides) := goodIn_app (goodIn_of _ (by decide +kernel)) ggX12_calls_X12_collides
theorem dX12_calls_0 : decode cX12_calls 0 = .ok (.iconst 0, 1) := by decide +kernel
theorem dX12_calls_1 : decode cX12_calls 1 = .ok (.istore_n 1, 1) := by decide +kernel
theorem dX12_calls_2 : decode cX12_calls 2 = .ok (.iconst 0, 1) := by decide +kernel
theorem dX12_calls_3 : decode cX12_calls 3 = .ok (.istore_n 2, 1) := by decide +kernel
theorem dX12_calls_4 : decode cX12_calls 4 = .ok (.iload_n 2, 1) := by decide +kernel
theorem dX12_calls_5 : decode cX12_calls 5 = .ok (.aload_n 0, 1) := by decide +kernel
theorem dX12_calls_6 : decode cX12_calls 6 = .ok (.getfield 7, 3) := by decide +kernel
theorem dX12_calls_9 : decode cX12_calls 9 = .ok (.iconst 3, 1) := by decide +kernel
theorem dX12_calls_10 : decode cX12_calls 10 = .ok (.iaload, 1) := by decide +kernel
theorem dX12_calls_11 : decode cX12_calls 11 = .ok (.if_icmp .ge 59, 3) := by decide +kernel
theorem dX12_calls_14 : decode cX12_calls 14 = .ok (.aload_n 0, 1) := by decide +kernel
theorem dX12_calls_15 : decode cX12_calls 15 = .ok (.iload_n 2, 1) := by decide +kernel
theorem dX12_calls_16 : decode cX12_calls 16 = .ok (.iconst 3, 1) := by decide +kernel
theorem dX12_calls_17 : decode cX12_calls 17 = .ok (.invokevirtual 66, 3) := by decide +kernel
theorem dX12_calls_20 : decode cX12_calls 20 = .ok (.iconst 1, 1) := by decide +kernel
theorem dX12_calls_21 : decode cX12_calls 21 = .ok (.if_icmp .eq 6, 3) := by decide +kernel
theorem dX12_calls_24 : decode cX12_calls 24 = .ok (.goto 40, 3) := by decide +kernel
theorem dX12_calls_27 : decode cX12_calls 27 = .ok (.aload_n 0, 1) := by decide +kernel
theorem dX12_calls_28 : decode cX12_calls 28 = .ok (.iload_n 2, 1) := by decide +kernel
theorem dX12_calls_29 : decode cX12_calls 29 = .ok (.iconst 4, 1) := by decide +kernel
theorem dX12_calls_30 : decode cX12_calls 30 = .ok (.iconst 0, 1) := by decide +kernel
theorem dX12_calls_31 : decode cX12_calls 31 = .ok (.aload_n 0, 1) := by decide +kernel
theorem dX12_calls_32 : decode cX12_calls 32 = .ok (.iload_n 2, 1) := by decide +kernel
theorem dX12_calls_33 : decode cX12_calls 33 = .ok (.iconst 4, 1) := by decide +kernel
theorem dX12_calls_34 : decode cX12_calls 34 = .ok (.invokevirtual 66, 3) := by decide +kernel
theorem dX12_calls_37 : decode cX12_calls 37 = .ok (.iconst 1, 1) := by decide +kernel
theorem dX12_calls_38 : decode cX12_calls 38 = .ok (.isub, 1) := by decide +kernel
theorem dX12_calls_39 : decode cX12_calls 39 = .ok (.invokestatic 73, 3) := by decide +kernel
theorem dX12_calls_42 : decode cX12_calls 42 = .ok (.invokevirtual 146, 3) := by decide +kernel
theorem dX12_calls_45 : decode cX12_calls 45 = .ok (.iload_n 1, 1) := by decide +kernel
theorem dX12_calls_46 : decode cX12_calls 46 = .ok (.aload_n 0, 1) := by decide +kernel
theorem dX12_calls_47 : decode cX12_calls 47 = .ok (.iload_n 2, 1) := by decide +kernel
theorem dX12_calls_48 : decode cX12_calls 48 = .ok (.iconst 4, 1) := by decide +kernel
theorem dX12_calls_49 : decode cX12_calls 49 = .ok (.invokevirtual 66, 3) := by decide +kernel
theorem dX12_calls_52 : decode cX12_calls 52 = .ok (.ifCond .ne 9, 3) := by decide +kernel
theorem dX12_calls_55 : decode cX12_calls 55 = .ok (.iconst 1, 1) := by decide +kernel
theorem dX12_calls_56 : decode cX12_calls 56 = .ok (.iload_n 2, 1) := by decide +kernel
theorem dX12_calls_57 : decode cX12_calls 57 = .ok (.ishl, 1) := by decide +kernel
theorem dX12_calls_58 : decode cX12_calls 58 = .ok (.goto 4, 3) := by decide +kernel
theorem dX12_calls_61 : decode cX12_calls 61 = .ok (.iconst 0, 1) := by decide +kernel
theorem dX12_calls_62 : decode cX12_calls 62 = .ok (.ior, 1) := by decide +kernel
theorem dX12_calls_63 : decode cX12_calls 63 = .ok (.istore_n 1, 1) := by decide +kernel
theorem dX12_calls_64 : decode cX12_calls 64 = .ok (.iinc 2 1, 3) := by decide +kernel
theorem dX12_calls_67 : decode cX12_calls 67 = .ok (.goto (-63), 3) := by decide +kernel
theorem dX12_calls_70 : decode cX12_calls 70 = .ok (.iload_n 1, 1) := by decide +kernel
theorem dX12_calls_71 : decode cX12_calls 71 = .ok (.invokestatic 247, 3) := by decide +kernel
theorem dX12_calls_74 : decode cX12_calls 74 = .ok (.iconst 1, 1) := by decide +kernel
theorem dX12_calls_75 : decode cX12_calls 75 = .ok (.if_icmp .ne 11, 3) := by decide +kernel
theorem dX12_calls_78 : decode cX12_calls 78 = .ok (.aload_n 0, 1) := by decide +kernel
theorem dX12_calls_79 : decode cX12_calls 79 = .ok (.iload_n 1, 1) := by decide +kernel
theorem dX12_calls_80 : decode cX12_calls 80 = .ok (.invokevirtual 282, 3) := by decide +kernel
theorem dX12_calls_83 : decode cX12_calls 83 = .ok (.goto 8, 3) := by decide +kernel
theorem dX12_calls_86 : decode cX12_calls 86 = .ok (.aload_n 0, 1) := by decide +kernel
theorem dX12_calls_87 : decode cX12_calls 87 = .ok (.iload_n 1, 1) := by decide +kernel
theorem dX12_calls_88 : decode cX12_calls 88 = .ok (.invokevirtual 285, 3) := by decide +kernel
theorem dX12_calls_91 : decode cX12_calls 91 = .ok (.return_, 1) := by decide +kernel
set_option maxRecDepth 20000 in
theorem ggX12_starts_X12_isOf : GoodIn wsX12_starts wsX12_isOf := goodIn_r _ [4] (by decide +kernel) (by decide +kernel)
set_option maxRecDepth 20000 in
theorem gX12_starts_X12_isOf : GoodIn wsX12_starts (va_wsS RX12 274 yX12_isOf wsX12_isOf) := goodIn_app (goodIn_of _ (by decide +kernel)) ggX12_starts_X12_isOf
set_option maxRecDepth 20000 in
theorem ggX12_starts_X12_lays : GoodIn wsX12_starts wsX12_lays := goodIn_r _ [8, 9, 17, 18, 19, 20, 21, 22, 23, 24, 25, 26, 27, 28, 29, 30, 31, 32, 33, 34, 35, 36, 37, 38, 39, 40, 41, 42, 43, 44, 45, 46] (by decide +kernel) (by decide +kernel)
set_option maxRecDepth 20000 in
theorem gX12_starts_X12_lays : GoodIn wsX12_starts (wsV RX12 146 RX12 yX12_lays wsX12_lays) := goodIn_app (goodIn_of _ (by decide +kernel)) ggX12_starts_X12_lays
set_option maxRecDepth 20000 in
theorem ggX12_starts_X12_logs : GoodIn wsX12_starts wsX12_logs := goodIn_r _ [13, 9, 14, 15, 3, 16, 17, 18, 19, 20, 21, 22, 23, 24, 25, 26, 27, 28, 29, 30, 31, 32, 33, 34, 35, 36, 37, 38, 39, 40, 41, 42, 43, 44, 45, 46] (by decide +kernel) (by decide +kernel)
set_option maxRecDepth 20000 in
theorem gX12_starts_X12_logs : GoodIn wsX12_starts (wsV RX12 288 RX12 yX12_logs wsX12_logs) := goodIn_app (goodIn_of _ (by decide +kernel)) ggX12_starts_X12_logs
theorem dX12_starts_0 : decode cX12_starts 0 = .ok (.iconst 0, 1) := by decide +kernel
theorem dX12_starts_1 : decode cX12_starts 1 = .ok (.istore_n 2, 1) := by decide +kernel
theorem dX12_starts_2 : decode cX12_starts 2 = .ok (.iload_n 1, 1) := by decide +kernel
theorem dX12_starts_3 : decode cX12_starts 3 = .ok (.iload_n 2, 1) := by decide +kernel
theorem dX12_starts_4 : decode cX12_starts 4 = .ok (.invokestatic 274, 3) := by decide +kernel
theorem dX12_starts_7 : decode cX12_starts 7 = .ok (.ifCond .ne 9, 3) := by decide +kernel
theorem dX12_starts_10 : decode cX12_starts 10 = .ok (.iinc 2 1, 3) := by decide +kernel
theorem dX12_starts_13 : decode cX12_starts 13 = .ok (.goto (-11), 3) := by decide +kernel
theorem dX12_starts_16 : decode cX12_starts 16 = .ok (.aload_n 0, 1) := by decide +kernel
theorem dX12_starts_17 : decode cX12_starts 17 = .ok (.iload_n 2, 1) := by decide +kernel
theorem dX12_starts_18 : decode cX12_starts 18 = .ok (.iconst 3, 1) := by decide +kernel
theorem dX12_starts_19 : decode cX12_starts 19 = .ok (.iconst 2, 1) := by decide +kernel
theorem dX12_starts_20 : decode cX12_starts 20 = .ok (.invokevirtual 146, 3) := by decide +kernel
theorem dX12_starts_23 : decode cX12_starts 23 = .ok (.aload_n 0, 1) := by decide +kernel
theorem dX12_starts_24 : decode cX12_starts 24 = .ok (.iload_n 2, 1) := by decide +kernel
theorem dX12_starts_25 : decode cX12_starts 25 = .ok (.iconst 5, 1) := by decide +kernel
theorem dX12_starts_26 : decode cX12_starts 26 = .ok (.iload_n 1, 1) := by decide +kernel
theorem dX12_starts_27 : decode cX12_starts 27 = .ok (.invokevirtual 146, 3) := by decide +kernel
theorem dX12_starts_30 : decode cX12_starts 30 = .ok (.aload_n 0, 1) := by decide +kernel
theorem dX12_starts_31 : decode cX12_starts 31 = .ok (.iload_n 2, 1) := by decide +kernel
theorem dX12_starts_32 : decode cX12_starts 32 = .ok (.iconst 2, 1) := by decide +kernel
theorem dX12_starts_33 : decode cX12_starts 33 = .ok (.iconst 0, 1) := by decide +kernel
theorem dX12_starts_34 : decode cX12_starts 34 = .ok (.invokevirtual 146, 3) := by decide +kernel
theorem dX12_starts_37 : decode cX12_starts 37 = .ok (.aload_n 0, 1) := by decide +kernel
theorem dX12_starts_38 : decode cX12_starts 38 = .ok (.iload_n 2, 1) := by decide +kernel
theorem dX12_starts_39 : decode cX12_starts 39 = .ok (.iconst 0, 1) := by decide +kernel
theorem dX12_starts_40 : decode cX12_starts 40 = .ok (.iconst 0, 1) := by decide +kernel
theorem dX12_starts_41 : decode cX12_starts 41 = .ok (.invokevirtual 288, 3) := by decide +kernel
theorem dX12_starts_44 : decode cX12_starts 44 = .ok (.return_, 1) := by decide +kernel
set_option maxRecDepth 20000 in
theorem ggX12_collides_X12_isOf : GoodIn wsX12_collides wsX12_isOf := goodIn_r _ [7] (by decide +kernel) (by decide +kernel)
set_option maxRecDepth 20000 in
theorem gX12_collides_X12_isOf : GoodIn wsX12_collides (va_wsS RX12 274 yX12_isOf wsX12_isOf) := goodIn_app (goodIn_of _ (by decide +kernel)) ggX12_collides_X12_isOf
set_option maxRecDepth 20000 in
theorem ggX12_collides_X12_asks : GoodIn wsX12_collides wsX12_asks := goodIn_r _ [11, 12, 13, 3, 14, 15, 16, 17, 1, 18, 19, 20, 21, 22, 23, 6, 24, 25, 26, 27, 28, 29, 30, 31, 32, 33, 34, 35, 36, 37, 38, 39, 40, 41, 42, 43, 44, 45, 46, 47, 48, 49, 50, 51, 52, 53, 54, 55, 56, 57, 58, 59, 60, 61, 62, 63, 64, 65, 66, 67, 68, 69, 70, 71, 72, 73, 74, 75, 76, 77, 78, 79, 80, 81, 82, 83, 84, 85, 86, 87, 88, 89, 90, 91, 92, 93, 94, 95, 96, 97, 98, 99, 100, 101, 102, 103, 104, 105, 106, 107, 108, 109, 110, 111, 112, 113, 114, 115, 116, 117, 118, 119, 120, 121, 122, 123, 124, 125, 126, 127, 128, 129, 130, 131, 132, 133, 134, 135, 136, 137, 138, 139, 140, 141, 142, 143, 144, 145, 146, 147, 148, 149, 150, 151, 152, 153, 154, 155, 156, 157, 158, 159, 160, 161, 162, 163, 164, 165, 166, 167, 168, 169, 170, 171, 172, 173, 174, 179, 180, 181, 182, 183, 184, 185, 186, 187, 188, 189, 190, 191, 192, 193, 194, 195, 196, 197, 198, 199, 200, 201, 202, 203, 204, 205, 206, 207, 208] (by decide +kernel) (by decide +kernel)
set_option maxRecDepth 20000 in
theorem gX12_collides_X12_asks : GoodIn wsX12_collides (wsV RX12 253 RX12 yX12_asks wsX12_asks) := goodIn_app (goodIn_of _ (by decide +kernel)) ggX12_collides_X12_asks
set_option maxRecDepth 20000 in
theorem ggX12_collides_X12_lesser : GoodIn wsX12_collides wsX12_lesser := goodIn_r _ [174] (by decide +kernel) (by decide +kernel)
set_option maxRecDepth 20000 in
theorem gX12_collides_X12_lesser : GoodIn wsX12_collides (va_wsS RX12 70 yX12_lesser wsX12_lesser) := goodIn_app (goodIn_of _ (by decide +kernel)) ggX12_collides_X12_lesser
set_option maxRecDepth 20000 in
theorem ggX12_collides_X12_lays : GoodIn wsX12_collides wsX12_lays := goodIn_r _ [167, 1, 179, 180, 181, 182, 183, 184, 185, 186, 187, 188, 189, 190, 191, 192, 193, 194, 195, 196, 197, 198, 199, 200, 201, 202, 203, 204, 205, 206, 207, 208] (by decide +kernel) (by decide +kernel)
set_option maxRecDepth 20000 in
theorem gX12_collides_X12_lays : GoodIn wsX12_collides (wsV RX12 146 RX12 yX12_lays wsX12_lays) := goodIn_app (goodIn_of _ (by decide +kernel)) ggX12_collides_X12_lays
set_option maxRecDepth 20000 in
theorem ggX12_collides_X12_logs : GoodIn wsX12_collides wsX12_logs := goodIn_r _ [178, 1, 172, 173, 6, 174, 179, 180, 181, 182, 183, 184, 185, 186, 187, 188, 189, 190, 191, 192, 193, 194, 195, 196, 197, 198, 199, 200, 201, 202, 203, 204, 205, 206, 207, 208] (by decide +kernel) (by decide +kernel)
set_option maxRecDepth 20000 in
theorem gX12_collides_X12_logs : GoodIn wsX12_collides (wsV RX12 288 RX12 yX12_logs wsX12_logs) := goodIn_app (goodIn_of _ (by decide +kernel)) ggX12_collides_X12_logs
theorem dX12_collides_0 : decode cX12_collides 0 = .ok (.iconst 0, 1) := by decide +kernel
theorem dX12_collides_1 : decode cX12_collides 1 = .ok (.istore_n 2, 1) := by decide +kernel
theorem dX12_collides_2 : decode cX12_collides 2 = .ok (.iload_n 2, 1) := by decide +kernel
theorem dX12_collides_3 : decode cX12_collides 3 = .ok (.aload_n 0, 1) := by decide +kernel
theorem dX12_collides_4 : decode cX12_collides 4 = .ok (.getfield 7, 3) := by decide +kernel
theorem dX12_collides_7 : decode cX12_collides 7 = .ok (.iconst 3, 1) := by decide +kernel
theorem dX12_collides_8 : decode cX12_collides 8 = .ok (.iaload, 1) := by decide +kernel
theorem dX12_collides_9 : decode cX12_collides 9 = .ok (.if_icmp .ge 44, 3) := by decide +kernel
theorem dX12_collides_12 : decode cX12_collides 12 = .ok (.iload_n 1, 1) := by decide +kernel
theorem dX12_collides_13 : decode cX12_collides 13 = .ok (.iload_n 2, 1) := by decide +kernel
theorem dX12_collides_14 : decode cX12_collides 14 = .ok (.invokestatic 274, 3) := by decide +kernel
theorem dX12_collides_17 : decode cX12_collides 17 = .ok (.ifCond .ne 6, 3) := by decide +kernel
theorem dX12_collides_20 : decode cX12_collides 20 = .ok (.goto 27, 3) := by decide +kernel
theorem dX12_collides_23 : decode cX12_collides 23 = .ok (.aload_n 0, 1) := by decide +kernel
theorem dX12_collides_24 : decode cX12_collides 24 = .ok (.iload_n 2, 1) := by decide +kernel
theorem dX12_collides_25 : decode cX12_collides 25 = .ok (.invokevirtual 253, 3) := by decide +kernel
theorem dX12_collides_28 : decode cX12_collides 28 = .ok (.aload_n 0, 1) := by decide +kernel
theorem dX12_collides_29 : decode cX12_collides 29 = .ok (.getfield 44, 3) := by decide +kernel
theorem dX12_collides_32 : decode cX12_collides 32 = .ok (.iload_n 2, 1) := by decide +kernel
theorem dX12_collides_33 : decode cX12_collides 33 = .ok (.bipush 99, 2) := by decide +kernel
theorem dX12_collides_35 : decode cX12_collides 35 = .ok (.iconst 3, 1) := by decide +kernel
theorem dX12_collides_36 : decode cX12_collides 36 = .ok (.iload_n 2, 1) := by decide +kernel
theorem dX12_collides_37 : decode cX12_collides 37 = .ok (.iadd, 1) := by decide +kernel
theorem dX12_collides_38 : decode cX12_collides 38 = .ok (.aload_n 0, 1) := by decide +kernel
theorem dX12_collides_39 : decode cX12_collides 39 = .ok (.getfield 245, 3) := by decide +kernel
theorem dX12_collides_42 : decode cX12_collides 42 = .ok (.iadd, 1) := by decide +kernel
theorem dX12_collides_43 : decode cX12_collides 43 = .ok (.invokestatic 70, 3) := by decide +kernel
theorem dX12_collides_46 : decode cX12_collides 46 = .ok (.iastore, 1) := by decide +kernel
theorem dX12_collides_47 : decode cX12_collides 47 = .ok (.iinc 2 1, 3) := by decide +kernel
theorem dX12_collides_50 : decode cX12_collides 50 = .ok (.goto (-48), 3) := by decide +kernel
theorem dX12_collides_53 : decode cX12_collides 53 = .ok (.iconst 0, 1) := by decide +kernel
theorem dX12_collides_54 : decode cX12_collides 54 = .ok (.istore_n 2, 1) := by decide +kernel
theorem dX12_collides_55 : decode cX12_collides 55 = .ok (.iload_n 2, 1) := by decide +kernel
theorem dX12_collides_56 : decode cX12_collides 56 = .ok (.aload_n 0, 1) := by decide +kernel
theorem dX12_collides_57 : decode cX12_collides 57 = .ok (.getfield 7, 3) := by decide +kernel
theorem dX12_collides_60 : decode cX12_collides 60 = .ok (.iconst 3, 1) := by decide +kernel
theorem dX12_collides_61 : decode cX12_collides 61 = .ok (.iaload, 1) := by decide +kernel
theorem dX12_collides_62 : decode cX12_collides 62 = .ok (.if_icmp .ge 44, 3) := by decide +kernel
theorem dX12_collides_65 : decode cX12_collides 65 = .ok (.iload_n 1, 1) := by decide +kernel
theorem dX12_collides_66 : decode cX12_collides 66 = .ok (.iload_n 2, 1) := by decide +kernel
theorem dX12_collides_67 : decode cX12_collides 67 = .ok (.invokestatic 274, 3) := by decide +kernel
theorem dX12_collides_70 : decode cX12_collides 70 = .ok (.ifCond .ne 6, 3) := by decide +kernel
theorem dX12_collides_73 : decode cX12_collides 73 = .ok (.goto 27, 3) := by decide +kernel
theorem dX12_collides_76 : decode cX12_collides 76 = .ok (.aload_n 0, 1) := by decide +kernel
theorem dX12_collides_77 : decode cX12_collides 77 = .ok (.iload_n 2, 1) := by decide +kernel
theorem dX12_collides_78 : decode cX12_collides 78 = .ok (.iconst 4, 1) := by decide +kernel
theorem dX12_collides_79 : decode cX12_collides 79 = .ok (.aload_n 0, 1) := by decide +kernel
theorem dX12_collides_80 : decode cX12_collides 80 = .ok (.getfield 44, 3) := by decide +kernel
theorem dX12_collides_83 : decode cX12_collides 83 = .ok (.iload_n 2, 1) := by decide +kernel
theorem dX12_collides_84 : decode cX12_collides 84 = .ok (.iaload, 1) := by decide +kernel
theorem dX12_collides_85 : decode cX12_collides 85 = .ok (.invokevirtual 146, 3) := by decide +kernel
theorem dX12_collides_88 : decode cX12_collides 88 = .ok (.aload_n 0, 1) := by decide +kernel
theorem dX12_collides_89 : decode cX12_collides 89 = .ok (.iload_n 2, 1) := by decide +kernel
theorem dX12_collides_90 : decode cX12_collides 90 = .ok (.iconst 1, 1) := by decide +kernel
theorem dX12_collides_91 : decode cX12_collides 91 = .ok (.aload_n 0, 1) := by decide +kernel
theorem dX12_collides_92 : decode cX12_collides 92 = .ok (.getfield 44, 3) := by decide +kernel
theorem dX12_collides_95 : decode cX12_collides 95 = .ok (.iload_n 2, 1) := by decide +kernel
theorem dX12_collides_96 : decode cX12_collides 96 = .ok (.iaload, 1) := by decide +kernel
theorem dX12_collides_97 : decode cX12_collides 97 = .ok (.invokevirtual 288, 3) := by decide +kernel
theorem dX12_collides_100 : decode cX12_collides 100 = .ok (.iinc 2 1, 3) := by decide +kernel
theorem dX12_collides_103 : decode cX12_collides 103 = .ok (.goto (-48), 3) := by decide +kernel
theorem dX12_collides_106 : decode cX12_collides 106 = .ok (.return_, 1) := by decide +kernel
set_option maxRecDepth 20000 in
theorem ggX12_follow_X12_isOf : GoodIn wsX12_follow wsX12_isOf := goodIn_r _ [6] (by decide +kernel) (by decide +kernel)
set_option maxRecDepth 20000 in
theorem gX12_follow_X12_isOf : GoodIn wsX12_follow (va_wsS RX12 274 yX12_isOf wsX12_isOf) := goodIn_app (goodIn_of _ (by decide +kernel)) ggX12_follow_X12_isOf
set_option maxRecDepth 20000 in
theorem ggX12_follow_X12_of : GoodIn wsX12_follow wsX12_of := goodIn_r _ [10, 1, 28, 29, 30, 31, 32, 33, 34, 35, 36, 37, 38, 39, 40, 41, 42, 43, 44, 45, 46, 47, 48, 49, 50, 51, 52, 53, 54, 55, 56, 57] (by decide +kernel) (by decide +kernel)
set_option maxRecDepth 20000 in
theorem gX12_follow_X12_of : GoodIn wsX12_follow (wsV RX12 66 RX12 yX12_of wsX12_of) := goodIn_app (goodIn_of _ (by decide +kernel)) ggX12_follow_X12_of
set_option maxRecDepth 20000 in
theorem ggX12_follow_X12_held : GoodIn wsX12_follow wsX12_held := goodIn_r _ [13, 14, 15, 5, 16, 17, 18, 19] (by decide +kernel) (by decide +kernel)
set_option maxRecDepth 20000 in
theorem gX12_follow_X12_held : GoodIn wsX12_follow (va_wsS RX12 291 yX12_held wsX12_held) := goodIn_app (goodIn_of _ (by decide +kernel)) ggX12_follow_X12_held
set_option maxRecDepth 20000 in
theorem ggX12_follow_X12_lays : GoodIn wsX12_follow wsX12_lays := goodIn_r _ [23, 1, 28, 29, 30, 31, 32, 33, 34, 35, 36, 37, 38, 39, 40, 41, 42, 43, 44, 45, 46, 47, 48, 49, 50, 51, 52, 53, 54, 55, 56, 57] (by decide +kernel) (by decide +kernel)
set_option maxRecDepth 20000 in
theorem gX12_follow_X12_lays : GoodIn wsX12_follow (wsV RX12 146 RX12 yX12_lays wsX12_lays) := goodIn_app (goodIn_of _ (by decide +kernel)) ggX12_follow_X12_lays
set_option maxRecDepth 20000 in
theorem ggX12_follow_X12_logs : GoodIn wsX12_follow wsX12_logs := goodIn_r _ [27, 1, 14, 15, 5, 16, 28, 29, 30, 31, 32, 33, 34, 35, 36, 37, 38, 39, 40, 41, 42, 43, 44, 45, 46, 47, 48, 49, 50, 51, 52, 53, 54, 55, 56, 57] (by decide +kernel) (by decide +kernel)
set_option maxRecDepth 20000 in
theorem gX12_follow_X12_logs : GoodIn wsX12_follow (wsV RX12 288 RX12 yX12_logs wsX12_logs) := goodIn_app (goodIn_of _ (by decide +kernel)) ggX12_follow_X12_logs
theorem dX12_follow_0 : decode cX12_follow 0 = .ok (.iconst 0, 1) := by decide +kernel
theorem dX12_follow_1 : decode cX12_follow 1 = .ok (.istore_n 2, 1) := by decide +kernel
theorem dX12_follow_2 : decode cX12_follow 2 = .ok (.iload_n 1, 1) := by decide +kernel
theorem dX12_follow_3 : decode cX12_follow 3 = .ok (.iload_n 2, 1) := by decide +kernel
theorem dX12_follow_4 : decode cX12_follow 4 = .ok (.invokestatic 274, 3) := by decide +kernel
theorem dX12_follow_7 : decode cX12_follow 7 = .ok (.ifCond .ne 9, 3) := by decide +kernel
theorem dX12_follow_10 : decode cX12_follow 10 = .ok (.iinc 2 1, 3) := by decide +kernel
theorem dX12_follow_13 : decode cX12_follow 13 = .ok (.goto (-11), 3) := by decide +kernel
theorem dX12_follow_16 : decode cX12_follow 16 = .ok (.iconst 0, 1) := by decide +kernel
theorem dX12_follow_17 : decode cX12_follow 17 = .ok (.istore_n 3, 1) := by decide +kernel
theorem dX12_follow_18 : decode cX12_follow 18 = .ok (.iload_n 3, 1) := by decide +kernel
theorem dX12_follow_19 : decode cX12_follow 19 = .ok (.aload_n 0, 1) := by decide +kernel
theorem dX12_follow_20 : decode cX12_follow 20 = .ok (.getfield 7, 3) := by decide +kernel
theorem dX12_follow_23 : decode cX12_follow 23 = .ok (.iconst 3, 1) := by decide +kernel
theorem dX12_follow_24 : decode cX12_follow 24 = .ok (.iaload, 1) := by decide +kernel
theorem dX12_follow_25 : decode cX12_follow 25 = .ok (.if_icmp .ge 82, 3) := by decide +kernel
theorem dX12_follow_28 : decode cX12_follow 28 = .ok (.aload_n 0, 1) := by decide +kernel
theorem dX12_follow_29 : decode cX12_follow 29 = .ok (.iload_n 3, 1) := by decide +kernel
theorem dX12_follow_30 : decode cX12_follow 30 = .ok (.iconst 3, 1) := by decide +kernel
theorem dX12_follow_31 : decode cX12_follow 31 = .ok (.invokevirtual 66, 3) := by decide +kernel
theorem dX12_follow_34 : decode cX12_follow 34 = .ok (.iconst 1, 1) := by decide +kernel
theorem dX12_follow_35 : decode cX12_follow 35 = .ok (.if_icmp .eq 6, 3) := by decide +kernel
theorem dX12_follow_38 : decode cX12_follow 38 = .ok (.goto 63, 3) := by decide +kernel
theorem dX12_follow_41 : decode cX12_follow 41 = .ok (.aload_n 0, 1) := by decide +kernel
theorem dX12_follow_42 : decode cX12_follow 42 = .ok (.iload_n 3, 1) := by decide +kernel
theorem dX12_follow_43 : decode cX12_follow 43 = .ok (.iconst 0, 1) := by decide +kernel
theorem dX12_follow_44 : decode cX12_follow 44 = .ok (.aload_n 0, 1) := by decide +kernel
theorem dX12_follow_45 : decode cX12_follow 45 = .ok (.getfield 32, 3) := by decide +kernel
theorem dX12_follow_48 : decode cX12_follow 48 = .ok (.bipush 8, 2) := by decide +kernel
theorem dX12_follow_50 : decode cX12_follow 50 = .ok (.iload_n 2, 1) := by decide +kernel
theorem dX12_follow_51 : decode cX12_follow 51 = .ok (.imul, 1) := by decide +kernel
theorem dX12_follow_52 : decode cX12_follow 52 = .ok (.iload_n 3, 1) := by decide +kernel
theorem dX12_follow_53 : decode cX12_follow 53 = .ok (.iadd, 1) := by decide +kernel
theorem dX12_follow_54 : decode cX12_follow 54 = .ok (.iaload, 1) := by decide +kernel
theorem dX12_follow_55 : decode cX12_follow 55 = .ok (.aload_n 0, 1) := by decide +kernel
theorem dX12_follow_56 : decode cX12_follow 56 = .ok (.iload_n 3, 1) := by decide +kernel
theorem dX12_follow_57 : decode cX12_follow 57 = .ok (.iconst 0, 1) := by decide +kernel
theorem dX12_follow_58 : decode cX12_follow 58 = .ok (.invokevirtual 66, 3) := by decide +kernel
theorem dX12_follow_61 : decode cX12_follow 61 = .ok (.iadd, 1) := by decide +kernel
theorem dX12_follow_62 : decode cX12_follow 62 = .ok (.sipush 999, 3) := by decide +kernel
theorem dX12_follow_65 : decode cX12_follow 65 = .ok (.invokestatic 291, 3) := by decide +kernel
theorem dX12_follow_68 : decode cX12_follow 68 = .ok (.invokevirtual 146, 3) := by decide +kernel
theorem dX12_follow_71 : decode cX12_follow 71 = .ok (.aload_n 0, 1) := by decide +kernel
theorem dX12_follow_72 : decode cX12_follow 72 = .ok (.iload_n 3, 1) := by decide +kernel
theorem dX12_follow_73 : decode cX12_follow 73 = .ok (.iconst 5, 1) := by decide +kernel
theorem dX12_follow_74 : decode cX12_follow 74 = .ok (.aload_n 0, 1) := by decide +kernel
theorem dX12_follow_75 : decode cX12_follow 75 = .ok (.iload_n 2, 1) := by decide +kernel
theorem dX12_follow_76 : decode cX12_follow 76 = .ok (.iconst 5, 1) := by decide +kernel
theorem dX12_follow_77 : decode cX12_follow 77 = .ok (.invokevirtual 66, 3) := by decide +kernel
theorem dX12_follow_80 : decode cX12_follow 80 = .ok (.iconst 1, 1) := by decide +kernel
theorem dX12_follow_81 : decode cX12_follow 81 = .ok (.iload_n 3, 1) := by decide +kernel
theorem dX12_follow_82 : decode cX12_follow 82 = .ok (.ishl, 1) := by decide +kernel
theorem dX12_follow_83 : decode cX12_follow 83 = .ok (.ior, 1) := by decide +kernel
theorem dX12_follow_84 : decode cX12_follow 84 = .ok (.invokevirtual 146, 3) := by decide +kernel
theorem dX12_follow_87 : decode cX12_follow 87 = .ok (.aload_n 0, 1) := by decide +kernel
theorem dX12_follow_88 : decode cX12_follow 88 = .ok (.iload_n 3, 1) := by decide +kernel
theorem dX12_follow_89 : decode cX12_follow 89 = .ok (.iconst 3, 1) := by decide +kernel
theorem dX12_follow_90 : decode cX12_follow 90 = .ok (.iconst 2, 1) := by decide +kernel
theorem dX12_follow_91 : decode cX12_follow 91 = .ok (.invokevirtual 146, 3) := by decide +kernel
theorem dX12_follow_94 : decode cX12_follow 94 = .ok (.aload_n 0, 1) := by decide +kernel
theorem dX12_follow_95 : decode cX12_follow 95 = .ok (.iload_n 3, 1) := by decide +kernel
theorem dX12_follow_96 : decode cX12_follow 96 = .ok (.iconst 2, 1) := by decide +kernel
theorem dX12_follow_97 : decode cX12_follow 97 = .ok (.iload_n 2, 1) := by decide +kernel
theorem dX12_follow_98 : decode cX12_follow 98 = .ok (.invokevirtual 288, 3) := by decide +kernel
theorem dX12_follow_101 : decode cX12_follow 101 = .ok (.iinc 3 1, 3) := by decide +kernel
theorem dX12_follow_104 : decode cX12_follow 104 = .ok (.goto (-86), 3) := by decide +kernel
theorem dX12_follow_107 : decode cX12_follow 107 = .ok (.return_, 1) := by decide +kernel
set_option maxRecDepth 20000 in
theorem ggX12_counts_X12_bits : GoodIn wsX12_counts wsX12_bits := goodIn_r _ [5] (by decide +kernel) (by decide +kernel)
set_option maxRecDepth 20000 in
theorem gX12_counts_X12_bits : GoodIn wsX12_counts (va_wsS RX12 247 yX12_bits wsX12_bits) := goodIn_app (goodIn_of _ (by decide +kernel)) ggX12_counts_X12_bits
set_option maxRecDepth 20000 in
theorem ggX12_counts_X12_lays : GoodIn wsX12_counts wsX12_lays := goodIn_r _ [9, 10, 11, 12, 13, 14, 15, 16, 17, 18, 19, 20, 21, 22, 23, 24, 25, 26, 27, 28, 29, 30, 31, 32, 33, 34, 35, 36, 37, 38, 39, 40] (by decide +kernel) (by decide +kernel)
set_option maxRecDepth 20000 in
theorem gX12_counts_X12_lays : GoodIn wsX12_counts (wsV RX12 146 RX12 yX12_lays wsX12_lays) := goodIn_app (goodIn_of _ (by decide +kernel)) ggX12_counts_X12_lays
theorem dX12_counts_0 : decode cX12_counts 0 = .ok (.iload_n 2, 1) := by decide +kernel
theorem dX12_counts_1 : decode cX12_counts 1 = .ok (.iconst 1, 1) := by decide +kernel
theorem dX12_counts_2 : decode cX12_counts 2 = .ok (.iload_n 1, 1) := by decide +kernel
theorem dX12_counts_3 : decode cX12_counts 3 = .ok (.ishl, 1) := by decide +kernel
theorem dX12_counts_4 : decode cX12_counts 4 = .ok (.iconst (-1), 1) := by decide +kernel
theorem dX12_counts_5 : decode cX12_counts 5 = .ok (.ixor, 1) := by decide +kernel
theorem dX12_counts_6 : decode cX12_counts 6 = .ok (.iand, 1) := by decide +kernel
theorem dX12_counts_7 : decode cX12_counts 7 = .ok (.istore_n 3, 1) := by decide +kernel
theorem dX12_counts_8 : decode cX12_counts 8 = .ok (.iload_n 2, 1) := by decide +kernel
theorem dX12_counts_9 : decode cX12_counts 9 = .ok (.iconst 1, 1) := by decide +kernel
theorem dX12_counts_10 : decode cX12_counts 10 = .ok (.iload_n 1, 1) := by decide +kernel
theorem dX12_counts_11 : decode cX12_counts 11 = .ok (.ishl, 1) := by decide +kernel
theorem dX12_counts_12 : decode cX12_counts 12 = .ok (.iand, 1) := by decide +kernel
theorem dX12_counts_13 : decode cX12_counts 13 = .ok (.istore 4, 2) := by decide +kernel
theorem dX12_counts_15 : decode cX12_counts 15 = .ok (.aload_n 0, 1) := by decide +kernel
theorem dX12_counts_16 : decode cX12_counts 16 = .ok (.iload_n 1, 1) := by decide +kernel
theorem dX12_counts_17 : decode cX12_counts 17 = .ok (.bipush 6, 2) := by decide +kernel
theorem dX12_counts_19 : decode cX12_counts 19 = .ok (.iload_n 3, 1) := by decide +kernel
theorem dX12_counts_20 : decode cX12_counts 20 = .ok (.aload_n 0, 1) := by decide +kernel
theorem dX12_counts_21 : decode cX12_counts 21 = .ok (.getfield 35, 3) := by decide +kernel
theorem dX12_counts_24 : decode cX12_counts 24 = .ok (.iload_n 1, 1) := by decide +kernel
theorem dX12_counts_25 : decode cX12_counts 25 = .ok (.iaload, 1) := by decide +kernel
theorem dX12_counts_26 : decode cX12_counts 26 = .ok (.iand, 1) := by decide +kernel
theorem dX12_counts_27 : decode cX12_counts 27 = .ok (.invokestatic 247, 3) := by decide +kernel
theorem dX12_counts_30 : decode cX12_counts 30 = .ok (.iload 4, 2) := by decide +kernel
theorem dX12_counts_32 : decode cX12_counts 32 = .ok (.invokestatic 247, 3) := by decide +kernel
theorem dX12_counts_35 : decode cX12_counts 35 = .ok (.iadd, 1) := by decide +kernel
theorem dX12_counts_36 : decode cX12_counts 36 = .ok (.invokevirtual 146, 3) := by decide +kernel
theorem dX12_counts_39 : decode cX12_counts 39 = .ok (.aload_n 0, 1) := by decide +kernel
theorem dX12_counts_40 : decode cX12_counts 40 = .ok (.iload_n 1, 1) := by decide +kernel
theorem dX12_counts_41 : decode cX12_counts 41 = .ok (.bipush 7, 2) := by decide +kernel
theorem dX12_counts_43 : decode cX12_counts 43 = .ok (.iload_n 3, 1) := by decide +kernel
theorem dX12_counts_44 : decode cX12_counts 44 = .ok (.aload_n 0, 1) := by decide +kernel
theorem dX12_counts_45 : decode cX12_counts 45 = .ok (.getfield 35, 3) := by decide +kernel
theorem dX12_counts_48 : decode cX12_counts 48 = .ok (.iload_n 1, 1) := by decide +kernel
theorem dX12_counts_49 : decode cX12_counts 49 = .ok (.iaload, 1) := by decide +kernel
theorem dX12_counts_50 : decode cX12_counts 50 = .ok (.iconst (-1), 1) := by decide +kernel
theorem dX12_counts_51 : decode cX12_counts 51 = .ok (.ixor, 1) := by decide +kernel
theorem dX12_counts_52 : decode cX12_counts 52 = .ok (.iand, 1) := by decide +kernel
theorem dX12_counts_53 : decode cX12_counts 53 = .ok (.invokestatic 247, 3) := by decide +kernel
theorem dX12_counts_56 : decode cX12_counts 56 = .ok (.invokevirtual 146, 3) := by decide +kernel
theorem dX12_counts_59 : decode cX12_counts 59 = .ok (.aload_n 0, 1) := by decide +kernel
theorem dX12_counts_60 : decode cX12_counts 60 = .ok (.iload_n 1, 1) := by decide +kernel
theorem dX12_counts_61 : decode cX12_counts 61 = .ok (.iconst 5, 1) := by decide +kernel
theorem dX12_counts_62 : decode cX12_counts 62 = .ok (.iload_n 3, 1) := by decide +kernel
theorem dX12_counts_63 : decode cX12_counts 63 = .ok (.aload_n 0, 1) := by decide +kernel
theorem dX12_counts_64 : decode cX12_counts 64 = .ok (.getfield 35, 3) := by decide +kernel
theorem dX12_counts_67 : decode cX12_counts 67 = .ok (.iload_n 1, 1) := by decide +kernel
theorem dX12_counts_68 : decode cX12_counts 68 = .ok (.iaload, 1) := by decide +kernel
theorem dX12_counts_69 : decode cX12_counts 69 = .ok (.iand, 1) := by decide +kernel
theorem dX12_counts_70 : decode cX12_counts 70 = .ok (.iload 4, 2) := by decide +kernel
theorem dX12_counts_72 : decode cX12_counts 72 = .ok (.ior, 1) := by decide +kernel
theorem dX12_counts_73 : decode cX12_counts 73 = .ok (.invokevirtual 146, 3) := by decide +kernel
theorem dX12_counts_76 : decode cX12_counts 76 = .ok (.return_, 1) := by decide +kernel
set_option maxRecDepth 20000 in
theorem ggX12_nextOf_X12_isOf : GoodIn wsX12_nextOf wsX12_isOf := goodIn_r _ [4] (by decide +kernel) (by decide +kernel)
set_option maxRecDepth 20000 in
theorem gX12_nextOf_X12_isOf : GoodIn wsX12_nextOf (va_wsS RX12 274 yX12_isOf wsX12_isOf) := goodIn_app (goodIn_of _ (by decide +kernel)) ggX12_nextOf_X12_isOf
theorem dX12_nextOf_0 : decode cX12_nextOf 0 = .ok (.iload_n 2, 1) := by decide +kernel
theorem dX12_nextOf_1 : decode cX12_nextOf 1 = .ok (.iconst 1, 1) := by decide +kernel
theorem dX12_nextOf_2 : decode cX12_nextOf 2 = .ok (.iadd, 1) := by decide +kernel
theorem dX12_nextOf_3 : decode cX12_nextOf 3 = .ok (.bipush 8, 2) := by decide +kernel
theorem dX12_nextOf_5 : decode cX12_nextOf 5 = .ok (.irem, 1) := by decide +kernel
theorem dX12_nextOf_6 : decode cX12_nextOf 6 = .ok (.istore_n 3, 1) := by decide +kernel
theorem dX12_nextOf_7 : decode cX12_nextOf 7 = .ok (.iload_n 1, 1) := by decide +kernel
theorem dX12_nextOf_8 : decode cX12_nextOf 8 = .ok (.iload_n 3, 1) := by decide +kernel
theorem dX12_nextOf_9 : decode cX12_nextOf 9 = .ok (.invokestatic 274, 3) := by decide +kernel
theorem dX12_nextOf_12 : decode cX12_nextOf 12 = .ok (.ifCond .ne 13, 3) := by decide +kernel
theorem dX12_nextOf_15 : decode cX12_nextOf 15 = .ok (.iload_n 3, 1) := by decide +kernel
theorem dX12_nextOf_16 : decode cX12_nextOf 16 = .ok (.iconst 1, 1) := by decide +kernel
theorem dX12_nextOf_17 : decode cX12_nextOf 17 = .ok (.iadd, 1) := by decide +kernel
theorem dX12_nextOf_18 : decode cX12_nextOf 18 = .ok (.bipush 8, 2) := by decide +kernel
theorem dX12_nextOf_20 : decode cX12_nextOf 20 = .ok (.irem, 1) := by decide +kernel
theorem dX12_nextOf_21 : decode cX12_nextOf 21 = .ok (.istore_n 3, 1) := by decide +kernel
theorem dX12_nextOf_22 : decode cX12_nextOf 22 = .ok (.goto (-15), 3) := by decide +kernel
theorem dX12_nextOf_25 : decode cX12_nextOf 25 = .ok (.iload_n 3, 1) := by decide +kernel
theorem dX12_nextOf_26 : decode cX12_nextOf 26 = .ok (.ireturn, 1) := by decide +kernel
set_option maxRecDepth 20000 in
theorem ggX12_isDenied_X12_nextOf : GoodIn wsX12_isDenied wsX12_nextOf := goodIn_r _ [6, 7, 8, 5, 9] (by decide +kernel) (by decide +kernel)
set_option maxRecDepth 20000 in
theorem gX12_isDenied_X12_nextOf : GoodIn wsX12_isDenied (wsV RX12 294 RX12 yX12_nextOf wsX12_nextOf) := goodIn_app (goodIn_of _ (by decide +kernel)) ggX12_isDenied_X12_nextOf
set_option maxRecDepth 20000 in
theorem ggX12_isDenied_X12_isOf : GoodIn wsX12_isDenied wsX12_isOf := goodIn_r _ [9] (by decide +kernel) (by decide +kernel)
set_option maxRecDepth 20000 in
theorem gX12_isDenied_X12_isOf : GoodIn wsX12_isDenied (va_wsS RX12 274 yX12_isOf wsX12_isOf) := goodIn_app (goodIn_of _ (by decide +kernel)) ggX12_isDenied_X12_isOf
set_option maxRecDepth 20000 in
theorem ggX12_isDenied_X12_of : GoodIn wsX12_isDenied wsX12_of := goodIn_r _ [13, 14, 19, 20, 21, 22, 23, 24, 25, 26, 27, 28, 29, 30, 31, 32, 33, 34, 35, 36, 37, 38, 39, 40, 41, 42, 43, 44, 45, 46, 47, 48] (by decide +kernel) (by decide +kernel)
set_option maxRecDepth 20000 in
theorem gX12_isDenied_X12_of : GoodIn wsX12_isDenied (wsV RX12 66 RX12 yX12_of wsX12_of) := goodIn_app (goodIn_of _ (by decide +kernel)) ggX12_isDenied_X12_of
set_option maxRecDepth 20000 in
theorem ggX12_isDenied_X12_lays : GoodIn wsX12_isDenied wsX12_lays := goodIn_r _ [18, 14, 19, 20, 21, 22, 23, 24, 25, 26, 27, 28, 29, 30, 31, 32, 33, 34, 35, 36, 37, 38, 39, 40, 41, 42, 43, 44, 45, 46, 47, 48] (by decide +kernel) (by decide +kernel)
set_option maxRecDepth 20000 in
theorem gX12_isDenied_X12_lays : GoodIn wsX12_isDenied (wsV RX12 146 RX12 yX12_lays wsX12_lays) := goodIn_app (goodIn_of _ (by decide +kernel)) ggX12_isDenied_X12_lays
theorem dX12_isDenied_0 : decode cX12_isDenied 0 = .ok (.aload_n 0, 1) := by decide +kernel
theorem dX12_isDenied_1 : decode cX12_isDenied 1 = .ok (.iload_n 2, 1) := by decide +kernel
theorem dX12_isDenied_2 : decode cX12_isDenied 2 = .ok (.iload_n 1, 1) := by decide +kernel
theorem dX12_isDenied_3 : decode cX12_isDenied 3 = .ok (.invokevirtual 294, 3) := by decide +kernel
theorem dX12_isDenied_6 : decode cX12_isDenied 6 = .ok (.istore_n 3, 1) := by decide +kernel
theorem dX12_isDenied_7 : decode cX12_isDenied 7 = .ok (.iload_n 3, 1) := by decide +kernel
theorem dX12_isDenied_8 : decode cX12_isDenied 8 = .ok (.iload_n 1, 1) := by decide +kernel
theorem dX12_isDenied_9 : decode cX12_isDenied 9 = .ok (.if_icmp .eq 16, 3) := by decide +kernel
theorem dX12_isDenied_12 : decode cX12_isDenied 12 = .ok (.aload_n 0, 1) := by decide +kernel
theorem dX12_isDenied_13 : decode cX12_isDenied 13 = .ok (.getfield 44, 3) := by decide +kernel
theorem dX12_isDenied_16 : decode cX12_isDenied 16 = .ok (.iload_n 3, 1) := by decide +kernel
theorem dX12_isDenied_17 : decode cX12_isDenied 17 = .ok (.iaload, 1) := by decide +kernel
theorem dX12_isDenied_18 : decode cX12_isDenied 18 = .ok (.iload_n 1, 1) := by decide +kernel
theorem dX12_isDenied_19 : decode cX12_isDenied 19 = .ok (.invokestatic 274, 3) := by decide +kernel
theorem dX12_isDenied_22 : decode cX12_isDenied 22 = .ok (.ifCond .eq 5, 3) := by decide +kernel
theorem dX12_isDenied_25 : decode cX12_isDenied 25 = .ok (.iconst 0, 1) := by decide +kernel
theorem dX12_isDenied_26 : decode cX12_isDenied 26 = .ok (.ireturn, 1) := by decide +kernel
theorem dX12_isDenied_27 : decode cX12_isDenied 27 = .ok (.aload_n 0, 1) := by decide +kernel
theorem dX12_isDenied_28 : decode cX12_isDenied 28 = .ok (.iload_n 2, 1) := by decide +kernel
theorem dX12_isDenied_29 : decode cX12_isDenied 29 = .ok (.iload_n 3, 1) := by decide +kernel
theorem dX12_isDenied_30 : decode cX12_isDenied 30 = .ok (.invokevirtual 294, 3) := by decide +kernel
theorem dX12_isDenied_33 : decode cX12_isDenied 33 = .ok (.istore 4, 2) := by decide +kernel
theorem dX12_isDenied_35 : decode cX12_isDenied 35 = .ok (.iload 4, 2) := by decide +kernel
theorem dX12_isDenied_37 : decode cX12_isDenied 37 = .ok (.iload_n 1, 1) := by decide +kernel
theorem dX12_isDenied_38 : decode cX12_isDenied 38 = .ok (.if_icmp .eq 17, 3) := by decide +kernel
theorem dX12_isDenied_41 : decode cX12_isDenied 41 = .ok (.aload_n 0, 1) := by decide +kernel
theorem dX12_isDenied_42 : decode cX12_isDenied 42 = .ok (.getfield 44, 3) := by decide +kernel
theorem dX12_isDenied_45 : decode cX12_isDenied 45 = .ok (.iload 4, 2) := by decide +kernel
theorem dX12_isDenied_47 : decode cX12_isDenied 47 = .ok (.iaload, 1) := by decide +kernel
theorem dX12_isDenied_48 : decode cX12_isDenied 48 = .ok (.iload_n 1, 1) := by decide +kernel
theorem dX12_isDenied_49 : decode cX12_isDenied 49 = .ok (.invokestatic 274, 3) := by decide +kernel
theorem dX12_isDenied_52 : decode cX12_isDenied 52 = .ok (.ifCond .ne 5, 3) := by decide +kernel
theorem dX12_isDenied_55 : decode cX12_isDenied 55 = .ok (.iconst 1, 1) := by decide +kernel
theorem dX12_isDenied_56 : decode cX12_isDenied 56 = .ok (.ireturn, 1) := by decide +kernel
theorem dX12_isDenied_57 : decode cX12_isDenied 57 = .ok (.aload_n 0, 1) := by decide +kernel
theorem dX12_isDenied_58 : decode cX12_isDenied 58 = .ok (.iload_n 1, 1) := by decide +kernel
theorem dX12_isDenied_59 : decode cX12_isDenied 59 = .ok (.iconst 5, 1) := by decide +kernel
theorem dX12_isDenied_60 : decode cX12_isDenied 60 = .ok (.aload_n 0, 1) := by decide +kernel
theorem dX12_isDenied_61 : decode cX12_isDenied 61 = .ok (.iload_n 1, 1) := by decide +kernel
theorem dX12_isDenied_62 : decode cX12_isDenied 62 = .ok (.iconst 5, 1) := by decide +kernel
theorem dX12_isDenied_63 : decode cX12_isDenied 63 = .ok (.invokevirtual 66, 3) := by decide +kernel
theorem dX12_isDenied_66 : decode cX12_isDenied 66 = .ok (.iconst 1, 1) := by decide +kernel
theorem dX12_isDenied_67 : decode cX12_isDenied 67 = .ok (.iload_n 3, 1) := by decide +kernel
theorem dX12_isDenied_68 : decode cX12_isDenied 68 = .ok (.ishl, 1) := by decide +kernel
theorem dX12_isDenied_69 : decode cX12_isDenied 69 = .ok (.iconst (-1), 1) := by decide +kernel
theorem dX12_isDenied_70 : decode cX12_isDenied 70 = .ok (.ixor, 1) := by decide +kernel
theorem dX12_isDenied_71 : decode cX12_isDenied 71 = .ok (.iand, 1) := by decide +kernel
theorem dX12_isDenied_72 : decode cX12_isDenied 72 = .ok (.invokevirtual 146, 3) := by decide +kernel
theorem dX12_isDenied_75 : decode cX12_isDenied 75 = .ok (.iconst 0, 1) := by decide +kernel
theorem dX12_isDenied_76 : decode cX12_isDenied 76 = .ok (.ireturn, 1) := by decide +kernel
set_option maxRecDepth 20000 in
theorem ggX12_freezes_X12_lays : GoodIn wsX12_freezes wsX12_lays := goodIn_r _ [6, 7, 19, 20, 21, 22, 23, 24, 25, 26, 27, 28, 29, 30, 31, 32, 33, 34, 35, 36, 37, 38, 39, 40, 41, 42, 43, 44, 45, 46, 47, 48] (by decide +kernel) (by decide +kernel)
set_option maxRecDepth 20000 in
theorem gX12_freezes_X12_lays : GoodIn wsX12_freezes (wsV RX12 146 RX12 yX12_lays wsX12_lays) := goodIn_app (goodIn_of _ (by decide +kernel)) ggX12_freezes_X12_lays
set_option maxRecDepth 20000 in
theorem ggX12_freezes_X12_of : GoodIn wsX12_freezes wsX12_of := goodIn_r _ [11, 7, 19, 20, 21, 22, 23, 24, 25, 26, 27, 28, 29, 30, 31, 32, 33, 34, 35, 36, 37, 38, 39, 40, 41, 42, 43, 44, 45, 46, 47, 48] (by decide +kernel) (by decide +kernel)
set_option maxRecDepth 20000 in
theorem gX12_freezes_X12_of : GoodIn wsX12_freezes (wsV RX12 66 RX12 yX12_of wsX12_of) := goodIn_app (goodIn_of _ (by decide +kernel)) ggX12_freezes_X12_of
set_option maxRecDepth 20000 in
theorem ggX12_freezes_X12_logs : GoodIn wsX12_freezes wsX12_logs := goodIn_r _ [15, 7, 16, 17, 5, 18, 19, 20, 21, 22, 23, 24, 25, 26, 27, 28, 29, 30, 31, 32, 33, 34, 35, 36, 37, 38, 39, 40, 41, 42, 43, 44, 45, 46, 47, 48] (by decide +kernel) (by decide +kernel)
set_option maxRecDepth 20000 in
theorem gX12_freezes_X12_logs : GoodIn wsX12_freezes (wsV RX12 288 RX12 yX12_logs wsX12_logs) := goodIn_app (goodIn_of _ (by decide +kernel)) ggX12_freezes_X12_logs
theorem dX12_freezes_0 : decode cX12_freezes 0 = .ok (.aload_n 0, 1) := by decide +kernel
theorem dX12_freezes_1 : decode cX12_freezes 1 = .ok (.iload_n 1, 1) := by decide +kernel
theorem dX12_freezes_2 : decode cX12_freezes 2 = .ok (.iconst 3, 1) := by decide +kernel
theorem dX12_freezes_3 : decode cX12_freezes 3 = .ok (.iconst 3, 1) := by decide +kernel
theorem dX12_freezes_4 : decode cX12_freezes 4 = .ok (.invokevirtual 146, 3) := by decide +kernel
theorem dX12_freezes_7 : decode cX12_freezes 7 = .ok (.aload_n 0, 1) := by decide +kernel
theorem dX12_freezes_8 : decode cX12_freezes 8 = .ok (.iload_n 1, 1) := by decide +kernel
theorem dX12_freezes_9 : decode cX12_freezes 9 = .ok (.iload_n 2, 1) := by decide +kernel
theorem dX12_freezes_10 : decode cX12_freezes 10 = .ok (.aload_n 0, 1) := by decide +kernel
theorem dX12_freezes_11 : decode cX12_freezes 11 = .ok (.iload_n 1, 1) := by decide +kernel
theorem dX12_freezes_12 : decode cX12_freezes 12 = .ok (.bipush 7, 2) := by decide +kernel
theorem dX12_freezes_14 : decode cX12_freezes 14 = .ok (.invokevirtual 66, 3) := by decide +kernel
theorem dX12_freezes_17 : decode cX12_freezes 17 = .ok (.invokevirtual 288, 3) := by decide +kernel
theorem dX12_freezes_20 : decode cX12_freezes 20 = .ok (.aload_n 0, 1) := by decide +kernel
theorem dX12_freezes_21 : decode cX12_freezes 21 = .ok (.dup, 1) := by decide +kernel
theorem dX12_freezes_22 : decode cX12_freezes 22 = .ok (.getfield 297, 3) := by decide +kernel
theorem dX12_freezes_25 : decode cX12_freezes 25 = .ok (.iconst 1, 1) := by decide +kernel
theorem dX12_freezes_26 : decode cX12_freezes 26 = .ok (.iadd, 1) := by decide +kernel
theorem dX12_freezes_27 : decode cX12_freezes 27 = .ok (.putfield 297, 3) := by decide +kernel
theorem dX12_freezes_30 : decode cX12_freezes 30 = .ok (.return_, 1) := by decide +kernel
set_option maxRecDepth 20000 in
theorem ggX12_judges_X12_of : GoodIn wsX12_judges wsX12_of := goodIn_r _ [7, 1, 39, 40, 41, 42, 43, 44, 45, 46, 47, 48, 49, 50, 51, 52, 53, 54, 55, 56, 57, 58, 59, 60, 61, 62, 63, 64, 65, 66, 67, 68] (by decide +kernel) (by decide +kernel)
set_option maxRecDepth 20000 in
theorem gX12_judges_X12_of : GoodIn wsX12_judges (wsV RX12 66 RX12 yX12_of wsX12_of) := goodIn_app (goodIn_of _ (by decide +kernel)) ggX12_judges_X12_of
set_option maxRecDepth 20000 in
theorem ggX12_judges_X12_isOf : GoodIn wsX12_judges wsX12_isOf := goodIn_r _ [10] (by decide +kernel) (by decide +kernel)
set_option maxRecDepth 20000 in
theorem gX12_judges_X12_isOf : GoodIn wsX12_judges (va_wsS RX12 274 yX12_isOf wsX12_isOf) := goodIn_app (goodIn_of _ (by decide +kernel)) ggX12_judges_X12_isOf
set_option maxRecDepth 20000 in
theorem ggX12_judges_X12_isDenied : GoodIn wsX12_judges wsX12_isDenied := goodIn_r _ [14, 2, 15, 16, 17, 6, 18, 8, 9, 10, 3, 4, 5, 7, 1, 19, 20, 21, 22, 39, 40, 41, 42, 43, 44, 45, 46, 47, 48, 49, 50, 51, 52, 53, 54, 55, 56, 57, 58, 59, 60, 61, 62, 63, 64, 65, 66, 67, 68] (by decide +kernel) (by decide +kernel)
set_option maxRecDepth 20000 in
theorem gX12_judges_X12_isDenied : GoodIn wsX12_judges (wsV RX12 300 RX12 yX12_isDenied wsX12_isDenied) := goodIn_app (goodIn_of _ (by decide +kernel)) ggX12_judges_X12_isDenied
set_option maxRecDepth 20000 in
theorem ggX12_judges_X12_freezes : GoodIn wsX12_judges wsX12_freezes := goodIn_r _ [26, 27, 19, 20, 21, 6, 22, 1, 3, 4, 5, 7, 28, 29, 30, 31, 32, 33, 34, 39, 40, 41, 42, 43, 44, 45, 46, 47, 48, 49, 50, 51, 52, 53, 54, 55, 56, 57, 58, 59, 60, 61, 62, 63, 64, 65, 66, 67, 68] (by decide +kernel) (by decide +kernel)
set_option maxRecDepth 20000 in
theorem gX12_judges_X12_freezes : GoodIn wsX12_judges (wsV RX12 303 RX12 yX12_freezes wsX12_freezes) := goodIn_app (goodIn_of _ (by decide +kernel)) ggX12_judges_X12_freezes
set_option maxRecDepth 20000 in
theorem ggX12_judges_X12_isActive : GoodIn wsX12_judges wsX12_isActive := goodIn_r _ [38, 3, 4, 5, 6, 7, 1, 39, 40, 41, 42, 43, 44, 45, 46, 47, 48, 49, 50, 51, 52, 53, 54, 55, 56, 57, 58, 59, 60, 61, 62, 63, 64, 65, 66, 67, 68] (by decide +kernel) (by decide +kernel)
set_option maxRecDepth 20000 in
theorem gX12_judges_X12_isActive : GoodIn wsX12_judges (wsV RX12 262 RX12 yX12_isActive wsX12_isActive) := goodIn_app (goodIn_of _ (by decide +kernel)) ggX12_judges_X12_isActive
theorem dX12_judges_0 : decode cX12_judges 0 = .ok (.iconst 0, 1) := by decide +kernel
theorem dX12_judges_1 : decode cX12_judges 1 = .ok (.istore_n 3, 1) := by decide +kernel
theorem dX12_judges_2 : decode cX12_judges 2 = .ok (.iload_n 3, 1) := by decide +kernel
theorem dX12_judges_3 : decode cX12_judges 3 = .ok (.aload_n 0, 1) := by decide +kernel
theorem dX12_judges_4 : decode cX12_judges 4 = .ok (.getfield 7, 3) := by decide +kernel
theorem dX12_judges_7 : decode cX12_judges 7 = .ok (.iconst 3, 1) := by decide +kernel
theorem dX12_judges_8 : decode cX12_judges 8 = .ok (.iaload, 1) := by decide +kernel
theorem dX12_judges_9 : decode cX12_judges 9 = .ok (.if_icmp .ge 21, 3) := by decide +kernel
theorem dX12_judges_12 : decode cX12_judges 12 = .ok (.aload_n 0, 1) := by decide +kernel
theorem dX12_judges_13 : decode cX12_judges 13 = .ok (.getfield 44, 3) := by decide +kernel
theorem dX12_judges_16 : decode cX12_judges 16 = .ok (.iload_n 3, 1) := by decide +kernel
theorem dX12_judges_17 : decode cX12_judges 17 = .ok (.aload_n 0, 1) := by decide +kernel
theorem dX12_judges_18 : decode cX12_judges 18 = .ok (.iload_n 3, 1) := by decide +kernel
theorem dX12_judges_19 : decode cX12_judges 19 = .ok (.iconst 5, 1) := by decide +kernel
theorem dX12_judges_20 : decode cX12_judges 20 = .ok (.invokevirtual 66, 3) := by decide +kernel
theorem dX12_judges_23 : decode cX12_judges 23 = .ok (.iastore, 1) := by decide +kernel
theorem dX12_judges_24 : decode cX12_judges 24 = .ok (.iinc 3 1, 3) := by decide +kernel
theorem dX12_judges_27 : decode cX12_judges 27 = .ok (.goto (-25), 3) := by decide +kernel
theorem dX12_judges_30 : decode cX12_judges 30 = .ok (.iconst 0, 1) := by decide +kernel
theorem dX12_judges_31 : decode cX12_judges 31 = .ok (.istore_n 3, 1) := by decide +kernel
theorem dX12_judges_32 : decode cX12_judges 32 = .ok (.iload_n 3, 1) := by decide +kernel
theorem dX12_judges_33 : decode cX12_judges 33 = .ok (.aload_n 0, 1) := by decide +kernel
theorem dX12_judges_34 : decode cX12_judges 34 = .ok (.getfield 7, 3) := by decide +kernel
theorem dX12_judges_37 : decode cX12_judges 37 = .ok (.iconst 3, 1) := by decide +kernel
theorem dX12_judges_38 : decode cX12_judges 38 = .ok (.iaload, 1) := by decide +kernel
theorem dX12_judges_39 : decode cX12_judges 39 = .ok (.if_icmp .ge 32, 3) := by decide +kernel
theorem dX12_judges_42 : decode cX12_judges 42 = .ok (.iload_n 2, 1) := by decide +kernel
theorem dX12_judges_43 : decode cX12_judges 43 = .ok (.iload_n 3, 1) := by decide +kernel
theorem dX12_judges_44 : decode cX12_judges 44 = .ok (.invokestatic 274, 3) := by decide +kernel
theorem dX12_judges_47 : decode cX12_judges 47 = .ok (.ifCond .eq 18, 3) := by decide +kernel
theorem dX12_judges_50 : decode cX12_judges 50 = .ok (.aload_n 0, 1) := by decide +kernel
theorem dX12_judges_51 : decode cX12_judges 51 = .ok (.iload_n 3, 1) := by decide +kernel
theorem dX12_judges_52 : decode cX12_judges 52 = .ok (.iload_n 2, 1) := by decide +kernel
theorem dX12_judges_53 : decode cX12_judges 53 = .ok (.invokevirtual 300, 3) := by decide +kernel
theorem dX12_judges_56 : decode cX12_judges 56 = .ok (.ifCond .eq 9, 3) := by decide +kernel
theorem dX12_judges_59 : decode cX12_judges 59 = .ok (.aload_n 0, 1) := by decide +kernel
theorem dX12_judges_60 : decode cX12_judges 60 = .ok (.iload_n 3, 1) := by decide +kernel
theorem dX12_judges_61 : decode cX12_judges 61 = .ok (.iconst 3, 1) := by decide +kernel
theorem dX12_judges_62 : decode cX12_judges 62 = .ok (.invokevirtual 303, 3) := by decide +kernel
theorem dX12_judges_65 : decode cX12_judges 65 = .ok (.iinc 3 1, 3) := by decide +kernel
theorem dX12_judges_68 : decode cX12_judges 68 = .ok (.goto (-36), 3) := by decide +kernel
theorem dX12_judges_71 : decode cX12_judges 71 = .ok (.iconst 0, 1) := by decide +kernel
theorem dX12_judges_72 : decode cX12_judges 72 = .ok (.istore_n 3, 1) := by decide +kernel
theorem dX12_judges_73 : decode cX12_judges 73 = .ok (.iload_n 3, 1) := by decide +kernel
theorem dX12_judges_74 : decode cX12_judges 74 = .ok (.aload_n 0, 1) := by decide +kernel
theorem dX12_judges_75 : decode cX12_judges 75 = .ok (.getfield 7, 3) := by decide +kernel
theorem dX12_judges_78 : decode cX12_judges 78 = .ok (.iconst 3, 1) := by decide +kernel
theorem dX12_judges_79 : decode cX12_judges 79 = .ok (.iaload, 1) := by decide +kernel
theorem dX12_judges_80 : decode cX12_judges 80 = .ok (.if_icmp .ge 58, 3) := by decide +kernel
theorem dX12_judges_83 : decode cX12_judges 83 = .ok (.iload_n 1, 1) := by decide +kernel
theorem dX12_judges_84 : decode cX12_judges 84 = .ok (.iload_n 3, 1) := by decide +kernel
theorem dX12_judges_85 : decode cX12_judges 85 = .ok (.invokestatic 274, 3) := by decide +kernel
theorem dX12_judges_88 : decode cX12_judges 88 = .ok (.ifCond .eq 44, 3) := by decide +kernel
theorem dX12_judges_91 : decode cX12_judges 91 = .ok (.aload_n 0, 1) := by decide +kernel
theorem dX12_judges_92 : decode cX12_judges 92 = .ok (.iload_n 3, 1) := by decide +kernel
theorem dX12_judges_93 : decode cX12_judges 93 = .ok (.invokevirtual 262, 3) := by decide +kernel
theorem dX12_judges_96 : decode cX12_judges 96 = .ok (.ifCond .eq 36, 3) := by decide +kernel
theorem dX12_judges_99 : decode cX12_judges 99 = .ok (.aload_n 0, 1) := by decide +kernel
theorem dX12_judges_100 : decode cX12_judges 100 = .ok (.iload_n 3, 1) := by decide +kernel
theorem dX12_judges_101 : decode cX12_judges 101 = .ok (.bipush 7, 2) := by decide +kernel
theorem dX12_judges_103 : decode cX12_judges 103 = .ok (.invokevirtual 66, 3) := by decide +kernel
theorem dX12_judges_106 : decode cX12_judges 106 = .ok (.ifCond .le 26, 3) := by decide +kernel
theorem dX12_judges_109 : decode cX12_judges 109 = .ok (.aload_n 0, 1) := by decide +kernel
theorem dX12_judges_110 : decode cX12_judges 110 = .ok (.iload_n 3, 1) := by decide +kernel
theorem dX12_judges_111 : decode cX12_judges 111 = .ok (.bipush 6, 2) := by decide +kernel
theorem dX12_judges_113 : decode cX12_judges 113 = .ok (.invokevirtual 66, 3) := by decide +kernel
theorem dX12_judges_116 : decode cX12_judges 116 = .ok (.aload_n 0, 1) := by decide +kernel
theorem dX12_judges_117 : decode cX12_judges 117 = .ok (.iload_n 3, 1) := by decide +kernel
theorem dX12_judges_118 : decode cX12_judges 118 = .ok (.bipush 7, 2) := by decide +kernel
theorem dX12_judges_120 : decode cX12_judges 120 = .ok (.invokevirtual 66, 3) := by decide +kernel
theorem dX12_judges_123 : decode cX12_judges 123 = .ok (.if_icmp .gt 9, 3) := by decide +kernel
theorem dX12_judges_126 : decode cX12_judges 126 = .ok (.aload_n 0, 1) := by decide +kernel
theorem dX12_judges_127 : decode cX12_judges 127 = .ok (.iload_n 3, 1) := by decide +kernel
theorem dX12_judges_128 : decode cX12_judges 128 = .ok (.iconst 4, 1) := by decide +kernel
theorem dX12_judges_129 : decode cX12_judges 129 = .ok (.invokevirtual 303, 3) := by decide +kernel
theorem dX12_judges_132 : decode cX12_judges 132 = .ok (.iinc 3 1, 3) := by decide +kernel
theorem dX12_judges_135 : decode cX12_judges 135 = .ok (.goto (-62), 3) := by decide +kernel
theorem dX12_judges_138 : decode cX12_judges 138 = .ok (.return_, 1) := by decide +kernel
set_option maxRecDepth 20000 in
theorem ggX12_corrects_X12_middleOf : GoodIn wsX12_corrects wsX12_middleOf := goodIn_r _ [6, 7, 1, 8, 9, 10, 11, 5, 12, 13, 14, 15, 16, 34, 35, 36, 37, 38, 39, 40, 41, 42, 43, 44, 45, 46, 47, 48, 49, 50, 51, 52, 53, 54, 55, 56, 57, 58, 59, 60, 61, 62, 63] (by decide +kernel) (by decide +kernel)
set_option maxRecDepth 20000 in
theorem gX12_corrects_X12_middleOf : GoodIn wsX12_corrects (wsV RX12 307 RX12 yX12_middleOf wsX12_middleOf) := goodIn_app (goodIn_of _ (by decide +kernel)) ggX12_corrects_X12_middleOf
set_option maxRecDepth 20000 in
theorem ggX12_corrects_X12_of : GoodIn wsX12_corrects wsX12_of := goodIn_r _ [20, 1, 34, 35, 36, 37, 38, 39, 40, 41, 42, 43, 44, 45, 46, 47, 48, 49, 50, 51, 52, 53, 54, 55, 56, 57, 58, 59, 60, 61, 62, 63] (by decide +kernel) (by decide +kernel)
set_option maxRecDepth 20000 in
theorem gX12_corrects_X12_of : GoodIn wsX12_corrects (wsV RX12 66 RX12 yX12_of wsX12_of) := goodIn_app (goodIn_of _ (by decide +kernel)) ggX12_corrects_X12_of
set_option maxRecDepth 20000 in
theorem ggX12_corrects_X12_lays : GoodIn wsX12_corrects wsX12_lays := goodIn_r _ [24, 1, 34, 35, 36, 37, 38, 39, 40, 41, 42, 43, 44, 45, 46, 47, 48, 49, 50, 51, 52, 53, 54, 55, 56, 57, 58, 59, 60, 61, 62, 63] (by decide +kernel) (by decide +kernel)
set_option maxRecDepth 20000 in
theorem gX12_corrects_X12_lays : GoodIn wsX12_corrects (wsV RX12 146 RX12 yX12_lays wsX12_lays) := goodIn_app (goodIn_of _ (by decide +kernel)) ggX12_corrects_X12_lays
set_option maxRecDepth 20000 in
theorem ggX12_corrects_X12_held : GoodIn wsX12_corrects wsX12_held := goodIn_r _ [27, 28, 29, 5, 30, 31, 32, 33] (by decide +kernel) (by decide +kernel)
set_option maxRecDepth 20000 in
theorem gX12_corrects_X12_held : GoodIn wsX12_corrects (va_wsS RX12 291 yX12_held wsX12_held) := goodIn_app (goodIn_of _ (by decide +kernel)) ggX12_corrects_X12_held
theorem dX12_corrects_0 : decode cX12_corrects 0 = .ok (.aload_n 0, 1) := by decide +kernel
theorem dX12_corrects_1 : decode cX12_corrects 1 = .ok (.iload_n 1, 1) := by decide +kernel
theorem dX12_corrects_2 : decode cX12_corrects 2 = .ok (.iload_n 2, 1) := by decide +kernel
theorem dX12_corrects_3 : decode cX12_corrects 3 = .ok (.invokevirtual 307, 3) := by decide +kernel
theorem dX12_corrects_6 : decode cX12_corrects 6 = .ok (.istore_n 3, 1) := by decide +kernel
theorem dX12_corrects_7 : decode cX12_corrects 7 = .ok (.aload_n 0, 1) := by decide +kernel
theorem dX12_corrects_8 : decode cX12_corrects 8 = .ok (.getfield 7, 3) := by decide +kernel
theorem dX12_corrects_11 : decode cX12_corrects 11 = .ok (.bipush 6, 2) := by decide +kernel
theorem dX12_corrects_13 : decode cX12_corrects 13 = .ok (.iaload, 1) := by decide +kernel
theorem dX12_corrects_14 : decode cX12_corrects 14 = .ok (.iconst 2, 1) := by decide +kernel
theorem dX12_corrects_15 : decode cX12_corrects 15 = .ok (.irem, 1) := by decide +kernel
theorem dX12_corrects_16 : decode cX12_corrects 16 = .ok (.ifCond .ne 20, 3) := by decide +kernel
theorem dX12_corrects_19 : decode cX12_corrects 19 = .ok (.aload_n 0, 1) := by decide +kernel
theorem dX12_corrects_20 : decode cX12_corrects 20 = .ok (.iload_n 1, 1) := by decide +kernel
theorem dX12_corrects_21 : decode cX12_corrects 21 = .ok (.iconst 0, 1) := by decide +kernel
theorem dX12_corrects_22 : decode cX12_corrects 22 = .ok (.aload_n 0, 1) := by decide +kernel
theorem dX12_corrects_23 : decode cX12_corrects 23 = .ok (.iload_n 1, 1) := by decide +kernel
theorem dX12_corrects_24 : decode cX12_corrects 24 = .ok (.iconst 0, 1) := by decide +kernel
theorem dX12_corrects_25 : decode cX12_corrects 25 = .ok (.invokevirtual 66, 3) := by decide +kernel
theorem dX12_corrects_28 : decode cX12_corrects 28 = .ok (.iload_n 3, 1) := by decide +kernel
theorem dX12_corrects_29 : decode cX12_corrects 29 = .ok (.iadd, 1) := by decide +kernel
theorem dX12_corrects_30 : decode cX12_corrects 30 = .ok (.invokevirtual 146, 3) := by decide +kernel
theorem dX12_corrects_33 : decode cX12_corrects 33 = .ok (.goto 24, 3) := by decide +kernel
theorem dX12_corrects_36 : decode cX12_corrects 36 = .ok (.aload_n 0, 1) := by decide +kernel
theorem dX12_corrects_37 : decode cX12_corrects 37 = .ok (.iload_n 1, 1) := by decide +kernel
theorem dX12_corrects_38 : decode cX12_corrects 38 = .ok (.iconst 2, 1) := by decide +kernel
theorem dX12_corrects_39 : decode cX12_corrects 39 = .ok (.aload_n 0, 1) := by decide +kernel
theorem dX12_corrects_40 : decode cX12_corrects 40 = .ok (.iload_n 1, 1) := by decide +kernel
theorem dX12_corrects_41 : decode cX12_corrects 41 = .ok (.iconst 2, 1) := by decide +kernel
theorem dX12_corrects_42 : decode cX12_corrects 42 = .ok (.invokevirtual 66, 3) := by decide +kernel
theorem dX12_corrects_45 : decode cX12_corrects 45 = .ok (.iload_n 3, 1) := by decide +kernel
theorem dX12_corrects_46 : decode cX12_corrects 46 = .ok (.iconst 4, 1) := by decide +kernel
theorem dX12_corrects_47 : decode cX12_corrects 47 = .ok (.idiv, 1) := by decide +kernel
theorem dX12_corrects_48 : decode cX12_corrects 48 = .ok (.iadd, 1) := by decide +kernel
theorem dX12_corrects_49 : decode cX12_corrects 49 = .ok (.bipush 9, 2) := by decide +kernel
theorem dX12_corrects_51 : decode cX12_corrects 51 = .ok (.invokestatic 291, 3) := by decide +kernel
theorem dX12_corrects_54 : decode cX12_corrects 54 = .ok (.invokevirtual 146, 3) := by decide +kernel
theorem dX12_corrects_57 : decode cX12_corrects 57 = .ok (.return_, 1) := by decide +kernel
set_option maxRecDepth 20000 in
theorem ggX12_sendersOf_X12_isOf : GoodIn wsX12_sendersOf wsX12_isOf := goodIn_r _ [7] (by decide +kernel) (by decide +kernel)
set_option maxRecDepth 20000 in
theorem gX12_sendersOf_X12_isOf : GoodIn wsX12_sendersOf (va_wsS RX12 274 yX12_isOf wsX12_isOf) := goodIn_app (goodIn_of _ (by decide +kernel)) ggX12_sendersOf_X12_isOf
set_option maxRecDepth 20000 in
theorem ggX12_sendersOf_X12_draw : GoodIn wsX12_sendersOf wsX12_draw := goodIn_r _ [11, 1, 12, 13, 14, 15, 16, 17, 18, 19, 20, 21, 22, 23, 24, 25, 26, 27, 28, 29, 30, 31, 32, 33, 34, 35, 36, 37, 38, 39, 40, 41, 42] (by decide +kernel) (by decide +kernel)
set_option maxRecDepth 20000 in
theorem gX12_sendersOf_X12_draw : GoodIn wsX12_sendersOf (wsV RX12 310 RX12 yX12_draw wsX12_draw) := goodIn_app (goodIn_of _ (by decide +kernel)) ggX12_sendersOf_X12_draw
theorem dX12_sendersOf_0 : decode cX12_sendersOf 0 = .ok (.iconst 0, 1) := by decide +kernel
theorem dX12_sendersOf_1 : decode cX12_sendersOf 1 = .ok (.istore_n 3, 1) := by decide +kernel
theorem dX12_sendersOf_2 : decode cX12_sendersOf 2 = .ok (.iconst 0, 1) := by decide +kernel
theorem dX12_sendersOf_3 : decode cX12_sendersOf 3 = .ok (.istore 4, 2) := by decide +kernel
theorem dX12_sendersOf_5 : decode cX12_sendersOf 5 = .ok (.iload 4, 2) := by decide +kernel
theorem dX12_sendersOf_7 : decode cX12_sendersOf 7 = .ok (.aload_n 0, 1) := by decide +kernel
theorem dX12_sendersOf_8 : decode cX12_sendersOf 8 = .ok (.getfield 7, 3) := by decide +kernel
theorem dX12_sendersOf_11 : decode cX12_sendersOf 11 = .ok (.iconst 3, 1) := by decide +kernel
theorem dX12_sendersOf_12 : decode cX12_sendersOf 12 = .ok (.iaload, 1) := by decide +kernel
theorem dX12_sendersOf_13 : decode cX12_sendersOf 13 = .ok (.if_icmp .ge 96, 3) := by decide +kernel
theorem dX12_sendersOf_16 : decode cX12_sendersOf 16 = .ok (.iload_n 1, 1) := by decide +kernel
theorem dX12_sendersOf_17 : decode cX12_sendersOf 17 = .ok (.iload 4, 2) := by decide +kernel
theorem dX12_sendersOf_19 : decode cX12_sendersOf 19 = .ok (.invokestatic 274, 3) := by decide +kernel
theorem dX12_sendersOf_22 : decode cX12_sendersOf 22 = .ok (.ifCond .ne 6, 3) := by decide +kernel
theorem dX12_sendersOf_25 : decode cX12_sendersOf 25 = .ok (.goto 78, 3) := by decide +kernel
theorem dX12_sendersOf_28 : decode cX12_sendersOf 28 = .ok (.iload_n 2, 1) := by decide +kernel
theorem dX12_sendersOf_29 : decode cX12_sendersOf 29 = .ok (.ifCond .eq 27, 3) := by decide +kernel
theorem dX12_sendersOf_32 : decode cX12_sendersOf 32 = .ok (.aload_n 0, 1) := by decide +kernel
theorem dX12_sendersOf_33 : decode cX12_sendersOf 33 = .ok (.bipush 100, 2) := by decide +kernel
theorem dX12_sendersOf_35 : decode cX12_sendersOf 35 = .ok (.invokevirtual 310, 3) := by decide +kernel
theorem dX12_sendersOf_38 : decode cX12_sendersOf 38 = .ok (.aload_n 0, 1) := by decide +kernel
theorem dX12_sendersOf_39 : decode cX12_sendersOf 39 = .ok (.getfield 38, 3) := by decide +kernel
theorem dX12_sendersOf_42 : decode cX12_sendersOf 42 = .ok (.iload 4, 2) := by decide +kernel
theorem dX12_sendersOf_44 : decode cX12_sendersOf 44 = .ok (.iaload, 1) := by decide +kernel
theorem dX12_sendersOf_45 : decode cX12_sendersOf 45 = .ok (.if_icmp .ge 7, 3) := by decide +kernel
theorem dX12_sendersOf_48 : decode cX12_sendersOf 48 = .ok (.iconst 1, 1) := by decide +kernel
theorem dX12_sendersOf_49 : decode cX12_sendersOf 49 = .ok (.goto 24, 3) := by decide +kernel
theorem dX12_sendersOf_52 : decode cX12_sendersOf 52 = .ok (.iconst 0, 1) := by decide +kernel
theorem dX12_sendersOf_53 : decode cX12_sendersOf 53 = .ok (.goto 20, 3) := by decide +kernel
theorem dX12_sendersOf_56 : decode cX12_sendersOf 56 = .ok (.aload_n 0, 1) := by decide +kernel
theorem dX12_sendersOf_57 : decode cX12_sendersOf 57 = .ok (.getfield 38, 3) := by decide +kernel
theorem dX12_sendersOf_60 : decode cX12_sendersOf 60 = .ok (.iload 4, 2) := by decide +kernel
theorem dX12_sendersOf_62 : decode cX12_sendersOf 62 = .ok (.iaload, 1) := by decide +kernel
theorem dX12_sendersOf_63 : decode cX12_sendersOf 63 = .ok (.bipush 100, 2) := by decide +kernel
theorem dX12_sendersOf_65 : decode cX12_sendersOf 65 = .ok (.if_icmp .ne 7, 3) := by decide +kernel
theorem dX12_sendersOf_68 : decode cX12_sendersOf 68 = .ok (.iconst 1, 1) := by decide +kernel
theorem dX12_sendersOf_69 : decode cX12_sendersOf 69 = .ok (.goto 4, 3) := by decide +kernel
theorem dX12_sendersOf_72 : decode cX12_sendersOf 72 = .ok (.iconst 0, 1) := by decide +kernel
theorem dX12_sendersOf_73 : decode cX12_sendersOf 73 = .ok (.istore 5, 2) := by decide +kernel
theorem dX12_sendersOf_75 : decode cX12_sendersOf 75 = .ok (.iload_n 3, 1) := by decide +kernel
theorem dX12_sendersOf_76 : decode cX12_sendersOf 76 = .ok (.aload_n 0, 1) := by decide +kernel
theorem dX12_sendersOf_77 : decode cX12_sendersOf 77 = .ok (.getfield 268, 3) := by decide +kernel
theorem dX12_sendersOf_80 : decode cX12_sendersOf 80 = .ok (.iload 4, 2) := by decide +kernel
theorem dX12_sendersOf_82 : decode cX12_sendersOf 82 = .ok (.invokestatic 274, 3) := by decide +kernel
theorem dX12_sendersOf_85 : decode cX12_sendersOf 85 = .ok (.ifCond .eq 15, 3) := by decide +kernel
theorem dX12_sendersOf_88 : decode cX12_sendersOf 88 = .ok (.iload 5, 2) := by decide +kernel
theorem dX12_sendersOf_90 : decode cX12_sendersOf 90 = .ok (.ifCond .ne 10, 3) := by decide +kernel
theorem dX12_sendersOf_93 : decode cX12_sendersOf 93 = .ok (.iconst 1, 1) := by decide +kernel
theorem dX12_sendersOf_94 : decode cX12_sendersOf 94 = .ok (.iload 4, 2) := by decide +kernel
theorem dX12_sendersOf_96 : decode cX12_sendersOf 96 = .ok (.ishl, 1) := by decide +kernel
theorem dX12_sendersOf_97 : decode cX12_sendersOf 97 = .ok (.goto 4, 3) := by decide +kernel
theorem dX12_sendersOf_100 : decode cX12_sendersOf 100 = .ok (.iconst 0, 1) := by decide +kernel
theorem dX12_sendersOf_101 : decode cX12_sendersOf 101 = .ok (.ior, 1) := by decide +kernel
theorem dX12_sendersOf_102 : decode cX12_sendersOf 102 = .ok (.istore_n 3, 1) := by decide +kernel
theorem dX12_sendersOf_103 : decode cX12_sendersOf 103 = .ok (.iinc 4 1, 3) := by decide +kernel
theorem dX12_sendersOf_106 : decode cX12_sendersOf 106 = .ok (.goto (-101), 3) := by decide +kernel
theorem dX12_sendersOf_109 : decode cX12_sendersOf 109 = .ok (.iload_n 3, 1) := by decide +kernel
theorem dX12_sendersOf_110 : decode cX12_sendersOf 110 = .ok (.ireturn, 1) := by decide +kernel
set_option maxRecDepth 20000 in
theorem ggX12_passes_X12_inState : GoodIn wsX12_passes wsX12_inState := goodIn_r _ [6, 1, 7, 8, 9, 5, 10, 269, 270, 271, 272, 273, 274, 275, 276, 277, 278, 279, 280, 281, 282, 283, 284, 285, 286, 287, 288, 289, 290, 291, 292, 293, 294, 295, 296, 297, 298] (by decide +kernel) (by decide +kernel)
set_option maxRecDepth 20000 in
theorem gX12_passes_X12_inState : GoodIn wsX12_passes (wsV RX12 250 RX12 yX12_inState wsX12_inState) := goodIn_app (goodIn_of _ (by decide +kernel)) ggX12_passes_X12_inState
set_option maxRecDepth 20000 in
theorem ggX12_passes_X12_allShifts : GoodIn wsX12_passes wsX12_allShifts := goodIn_r _ [14, 15, 1, 16, 17, 18, 19, 20, 21, 22, 5, 23, 24, 25, 26, 27, 7, 8, 9, 10, 28, 29, 30, 31, 32, 33, 34, 35, 36, 37, 38, 39, 40, 41, 42, 43, 44, 45, 46, 47, 48, 49, 50, 51, 52, 53, 54, 2, 3, 4, 6, 55, 56, 57, 58, 59, 60, 61, 62, 63, 64, 65, 66, 67, 68, 69, 70, 71, 72, 73, 74, 75, 76, 77, 78, 79, 80, 81, 82, 83, 84, 85, 86, 87, 88, 89, 90, 91, 92, 93, 94, 95, 96, 97, 98, 99, 100, 101, 102, 103, 104, 105, 106, 107, 108, 109, 110, 111, 112, 113, 114, 115, 116, 117, 118, 119, 120, 121, 122, 123, 124, 125, 126, 127, 128, 129, 130, 131, 132, 133, 134, 135, 136, 137, 138, 139, 140, 141, 142, 143, 144, 145, 146, 147, 148, 149, 150, 151, 152, 153, 154, 155, 156, 157, 158, 159, 160, 161, 162, 163, 164, 165, 166, 167, 168, 169, 170, 171, 172, 173, 174, 175, 176, 177, 178, 179, 180, 181, 182, 183, 184, 185, 186, 187, 188, 189, 190, 191, 192, 193, 194, 195, 196, 197, 198, 269, 270, 271, 272, 273, 274, 275, 276, 277, 278, 279, 280, 281, 282, 283, 284, 285, 286, 287, 288, 289, 290, 291, 292, 293, 294, 295, 296, 297, 298] (by decide +kernel) (by decide +kernel)
set_option maxRecDepth 20000 in
theorem gX12_passes_X12_allShifts : GoodIn wsX12_passes (wsV RX12 313 RX12 yX12_allShifts wsX12_allShifts) := goodIn_app (goodIn_of _ (by decide +kernel)) ggX12_passes_X12_allShifts
set_option maxRecDepth 20000 in
theorem ggX12_passes_X12_sendersOf : GoodIn wsX12_passes wsX12_sendersOf := goodIn_r _ [202, 1, 16, 15, 203, 204, 5, 205, 206, 207, 208, 209, 210, 269, 270, 271, 272, 273, 274, 275, 276, 277, 278, 279, 280, 281, 282, 283, 284, 285, 286, 287, 288, 289, 290, 291, 292, 293, 294, 295, 296, 297, 298] (by decide +kernel) (by decide +kernel)
set_option maxRecDepth 20000 in
theorem gX12_passes_X12_sendersOf : GoodIn wsX12_passes (wsV RX12 316 RX12 yX12_sendersOf wsX12_sendersOf) := goodIn_app (goodIn_of _ (by decide +kernel)) ggX12_passes_X12_sendersOf
set_option maxRecDepth 20000 in
theorem ggX12_passes_X12_calls : GoodIn wsX12_passes wsX12_calls := goodIn_r _ [214, 1, 7, 8, 9, 5, 10, 49, 50, 51, 184, 185, 186, 187, 52, 53, 54, 215, 216, 217, 218, 203, 204, 205, 219, 220, 221, 222, 192, 193, 194, 223, 224, 225, 226, 227, 41, 37, 38, 39, 40, 36, 17, 42, 43, 44, 45, 46, 47, 48, 2, 3, 4, 6, 55, 56, 57, 58, 59, 60, 61, 62, 63, 64, 65, 66, 67, 68, 69, 70, 71, 72, 73, 74, 75, 76, 77, 78, 79, 80, 81, 82, 83, 84, 85, 86, 87, 88, 89, 90, 91, 92, 93, 94, 95, 96, 97, 98, 99, 100, 101, 102, 103, 104, 105, 106, 107, 108, 109, 110, 111, 112, 113, 114, 115, 116, 117, 118, 119, 120, 121, 122, 123, 124, 125, 126, 127, 128, 129, 130, 131, 132, 133, 134, 135, 136, 137, 138, 139, 140, 141, 142, 143, 144, 145, 146, 147, 148, 149, 150, 151, 152, 153, 154, 155, 156, 157, 158, 159, 160, 161, 162, 163, 164, 165, 166, 167, 168, 169, 170, 171, 172, 173, 174, 175, 176, 177, 178, 179, 180, 181, 182, 183, 188, 189, 190, 191, 269, 270, 271, 272, 273, 274, 275, 276, 277, 278, 279, 280, 281, 282, 283, 284, 285, 286, 287, 288, 289, 290, 291, 292, 293, 294, 295, 296, 297, 298] (by decide +kernel) (by decide +kernel)
set_option maxRecDepth 20000 in
theorem gX12_passes_X12_calls : GoodIn wsX12_passes (wsV RX12 320 RX12 yX12_calls wsX12_calls) := goodIn_app (goodIn_of _ (by decide +kernel)) ggX12_passes_X12_calls
set_option maxRecDepth 20000 in
theorem ggX12_passes_X12_follow : GoodIn wsX12_passes wsX12_follow := goodIn_r _ [231, 1, 19, 203, 204, 5, 205, 7, 8, 9, 10, 232, 233, 234, 192, 193, 194, 49, 50, 51, 184, 185, 186, 187, 219, 220, 221, 222, 269, 270, 271, 272, 273, 274, 275, 276, 277, 278, 279, 280, 281, 282, 283, 284, 285, 286, 287, 288, 289, 290, 291, 292, 293, 294, 295, 296, 297, 298] (by decide +kernel) (by decide +kernel)
set_option maxRecDepth 20000 in
theorem gX12_passes_X12_follow : GoodIn wsX12_passes (wsV RX12 323 RX12 yX12_follow wsX12_follow) := goodIn_app (goodIn_of _ (by decide +kernel)) ggX12_passes_X12_follow
set_option maxRecDepth 20000 in
theorem ggX12_passes_X12_isOf : GoodIn wsX12_passes wsX12_isOf := goodIn_r _ [205] (by decide +kernel) (by decide +kernel)
set_option maxRecDepth 20000 in
theorem gX12_passes_X12_isOf : GoodIn wsX12_passes (va_wsS RX12 274 yX12_isOf wsX12_isOf) := goodIn_app (goodIn_of _ (by decide +kernel)) ggX12_passes_X12_isOf
set_option maxRecDepth 20000 in
theorem ggX12_passes_X12_counts : GoodIn wsX12_passes wsX12_counts := goodIn_r _ [238, 18, 52, 53, 5, 54, 184, 185, 186, 187, 1, 269, 270, 271, 272, 273, 274, 275, 276, 277, 278, 279, 280, 281, 282, 283, 284, 285, 286, 287, 288, 289, 290, 291, 292, 293, 294, 295, 296, 297, 298] (by decide +kernel) (by decide +kernel)
set_option maxRecDepth 20000 in
theorem gX12_passes_X12_counts : GoodIn wsX12_passes (wsV RX12 326 RX12 yX12_counts wsX12_counts) := goodIn_app (goodIn_of _ (by decide +kernel)) ggX12_passes_X12_counts
set_option maxRecDepth 20000 in
theorem ggX12_passes_X12_judges : GoodIn wsX12_passes wsX12_judges := goodIn_r _ [242, 1, 227, 7, 8, 9, 5, 10, 203, 204, 205, 243, 244, 245, 246, 247, 248, 249, 250, 184, 185, 186, 187, 251, 252, 253, 254, 255, 219, 220, 221, 222, 192, 193, 194, 24, 25, 26, 27, 269, 270, 271, 272, 273, 274, 275, 276, 277, 278, 279, 280, 281, 282, 283, 284, 285, 286, 287, 288, 289, 290, 291, 292, 293, 294, 295, 296, 297, 298] (by decide +kernel) (by decide +kernel)
set_option maxRecDepth 20000 in
theorem gX12_passes_X12_judges : GoodIn wsX12_passes (wsV RX12 329 RX12 yX12_judges wsX12_judges) := goodIn_app (goodIn_of _ (by decide +kernel)) ggX12_passes_X12_judges
set_option maxRecDepth 20000 in
theorem ggX12_passes_X12_isActive : GoodIn wsX12_passes wsX12_isActive := goodIn_r _ [27, 7, 8, 9, 5, 10, 1, 269, 270, 271, 272, 273, 274, 275, 276, 277, 278, 279, 280, 281, 282, 283, 284, 285, 286, 287, 288, 289, 290, 291, 292, 293, 294, 295, 296, 297, 298] (by decide +kernel) (by decide +kernel)
set_option maxRecDepth 20000 in
theorem gX12_passes_X12_isActive : GoodIn wsX12_passes (wsV RX12 262 RX12 yX12_isActive wsX12_isActive) := goodIn_app (goodIn_of _ (by decide +kernel)) ggX12_passes_X12_isActive
set_option maxRecDepth 20000 in
theorem ggX12_passes_X12_corrects : GoodIn wsX12_passes wsX12_corrects := goodIn_r _ [259, 1, 260, 261, 262, 5, 263, 264, 18, 19, 203, 204, 205, 265, 266, 267, 268, 7, 8, 9, 10, 184, 185, 186, 187, 232, 233, 234, 192, 193, 194, 49, 50, 51, 269, 270, 271, 272, 273, 274, 275, 276, 277, 278, 279, 280, 281, 282, 283, 284, 285, 286, 287, 288, 289, 290, 291, 292, 293, 294, 295, 296, 297, 298] (by decide +kernel) (by decide +kernel)
set_option maxRecDepth 20000 in
theorem gX12_passes_X12_corrects : GoodIn wsX12_passes (wsV RX12 332 RX12 yX12_corrects wsX12_corrects) := goodIn_app (goodIn_of _ (by decide +kernel)) ggX12_passes_X12_corrects
set_option maxRecDepth 20000 in
theorem ggX12_passes_X12_of : GoodIn wsX12_passes wsX12_of := goodIn_r _ [10, 1, 269, 270, 271, 272, 273, 274, 275, 276, 277, 278, 279, 280, 281, 282, 283, 284, 285, 286, 287, 288, 289, 290, 291, 292, 293, 294, 295, 296, 297, 298] (by decide +kernel) (by decide +kernel)
set_option maxRecDepth 20000 in
theorem gX12_passes_X12_of : GoodIn wsX12_passes (wsV RX12 66 RX12 yX12_of wsX12_of) := goodIn_app (goodIn_of _ (by decide +kernel)) ggX12_passes_X12_of
set_option maxRecDepth 20000 in
theorem ggX12_passes_X12_held : GoodIn wsX12_passes wsX12_held := goodIn_r _ [234, 192, 193, 5, 194, 49, 50, 51] (by decide +kernel) (by decide +kernel)
set_option maxRecDepth 20000 in
theorem gX12_passes_X12_held : GoodIn wsX12_passes (va_wsS RX12 291 yX12_held wsX12_held) := goodIn_app (goodIn_of _ (by decide +kernel)) ggX12_passes_X12_held
set_option maxRecDepth 20000 in
theorem ggX12_passes_X12_lays : GoodIn wsX12_passes wsX12_lays := goodIn_r _ [187, 1, 269, 270, 271, 272, 273, 274, 275, 276, 277, 278, 279, 280, 281, 282, 283, 284, 285, 286, 287, 288, 289, 290, 291, 292, 293, 294, 295, 296, 297, 298] (by decide +kernel) (by decide +kernel)
set_option maxRecDepth 20000 in
theorem gX12_passes_X12_lays : GoodIn wsX12_passes (wsV RX12 146 RX12 yX12_lays wsX12_lays) := goodIn_app (goodIn_of _ (by decide +kernel)) ggX12_passes_X12_lays
set_option maxRecDepth 20000 in
theorem ggX12_passes_X12_lesser : GoodIn wsX12_passes wsX12_lesser := goodIn_r _ [194] (by decide +kernel) (by decide +kernel)
set_option maxRecDepth 20000 in
theorem gX12_passes_X12_lesser : GoodIn wsX12_passes (va_wsS RX12 70 yX12_lesser wsX12_lesser) := goodIn_app (goodIn_of _ (by decide +kernel)) ggX12_passes_X12_lesser
theorem dX12_passes_0 : decode cX12_passes 0 = .ok (.aload_n 0, 1) := by decide +kernel
theorem dX12_passes_1 : decode cX12_passes 1 = .ok (.iconst 2, 1) := by decide +kernel
theorem dX12_passes_2 : decode cX12_passes 2 = .ok (.invokevirtual 250, 3) := by decide +kernel
theorem dX12_passes_5 : decode cX12_passes 5 = .ok (.istore_n 2, 1) := by decide +kernel
theorem dX12_passes_6 : decode cX12_passes 6 = .ok (.aload_n 0, 1) := by decide +kernel
theorem dX12_passes_7 : decode cX12_passes 7 = .ok (.invokevirtual 313, 3) := by decide +kernel
theorem dX12_passes_10 : decode cX12_passes 10 = .ok (.aload_n 0, 1) := by decide +kernel
theorem dX12_passes_11 : decode cX12_passes 11 = .ok (.iload_n 2, 1) := by decide +kernel
theorem dX12_passes_12 : decode cX12_passes 12 = .ok (.iload_n 1, 1) := by decide +kernel
theorem dX12_passes_13 : decode cX12_passes 13 = .ok (.invokevirtual 316, 3) := by decide +kernel
theorem dX12_passes_16 : decode cX12_passes 16 = .ok (.istore_n 3, 1) := by decide +kernel
theorem dX12_passes_17 : decode cX12_passes 17 = .ok (.iload_n 3, 1) := by decide +kernel
theorem dX12_passes_18 : decode cX12_passes 18 = .ok (.ifCond .ne 10, 3) := by decide +kernel
theorem dX12_passes_21 : decode cX12_passes 21 = .ok (.aload_n 0, 1) := by decide +kernel
theorem dX12_passes_22 : decode cX12_passes 22 = .ok (.invokevirtual 320, 3) := by decide +kernel
theorem dX12_passes_25 : decode cX12_passes 25 = .ok (.goto 8, 3) := by decide +kernel
theorem dX12_passes_28 : decode cX12_passes 28 = .ok (.aload_n 0, 1) := by decide +kernel
theorem dX12_passes_29 : decode cX12_passes 29 = .ok (.iload_n 3, 1) := by decide +kernel
theorem dX12_passes_30 : decode cX12_passes 30 = .ok (.invokevirtual 323, 3) := by decide +kernel
theorem dX12_passes_33 : decode cX12_passes 33 = .ok (.iconst 0, 1) := by decide +kernel
theorem dX12_passes_34 : decode cX12_passes 34 = .ok (.istore 4, 2) := by decide +kernel
theorem dX12_passes_36 : decode cX12_passes 36 = .ok (.iload 4, 2) := by decide +kernel
theorem dX12_passes_38 : decode cX12_passes 38 = .ok (.aload_n 0, 1) := by decide +kernel
theorem dX12_passes_39 : decode cX12_passes 39 = .ok (.getfield 7, 3) := by decide +kernel
theorem dX12_passes_42 : decode cX12_passes 42 = .ok (.iconst 3, 1) := by decide +kernel
theorem dX12_passes_43 : decode cX12_passes 43 = .ok (.iaload, 1) := by decide +kernel
theorem dX12_passes_44 : decode cX12_passes 44 = .ok (.if_icmp .ge 25, 3) := by decide +kernel
theorem dX12_passes_47 : decode cX12_passes 47 = .ok (.iload_n 2, 1) := by decide +kernel
theorem dX12_passes_48 : decode cX12_passes 48 = .ok (.iload 4, 2) := by decide +kernel
theorem dX12_passes_50 : decode cX12_passes 50 = .ok (.invokestatic 274, 3) := by decide +kernel
theorem dX12_passes_53 : decode cX12_passes 53 = .ok (.ifCond .eq 10, 3) := by decide +kernel
theorem dX12_passes_56 : decode cX12_passes 56 = .ok (.aload_n 0, 1) := by decide +kernel
theorem dX12_passes_57 : decode cX12_passes 57 = .ok (.iload 4, 2) := by decide +kernel
theorem dX12_passes_59 : decode cX12_passes 59 = .ok (.iload_n 3, 1) := by decide +kernel
theorem dX12_passes_60 : decode cX12_passes 60 = .ok (.invokevirtual 326, 3) := by decide +kernel
theorem dX12_passes_63 : decode cX12_passes 63 = .ok (.iinc 4 1, 3) := by decide +kernel
theorem dX12_passes_66 : decode cX12_passes 66 = .ok (.goto (-30), 3) := by decide +kernel
theorem dX12_passes_69 : decode cX12_passes 69 = .ok (.aload_n 0, 1) := by decide +kernel
theorem dX12_passes_70 : decode cX12_passes 70 = .ok (.iload_n 2, 1) := by decide +kernel
theorem dX12_passes_71 : decode cX12_passes 71 = .ok (.iload_n 3, 1) := by decide +kernel
theorem dX12_passes_72 : decode cX12_passes 72 = .ok (.invokevirtual 329, 3) := by decide +kernel
theorem dX12_passes_75 : decode cX12_passes 75 = .ok (.iconst 0, 1) := by decide +kernel
theorem dX12_passes_76 : decode cX12_passes 76 = .ok (.istore 4, 2) := by decide +kernel
theorem dX12_passes_78 : decode cX12_passes 78 = .ok (.iload 4, 2) := by decide +kernel
theorem dX12_passes_80 : decode cX12_passes 80 = .ok (.aload_n 0, 1) := by decide +kernel
theorem dX12_passes_81 : decode cX12_passes 81 = .ok (.getfield 7, 3) := by decide +kernel
theorem dX12_passes_84 : decode cX12_passes 84 = .ok (.iconst 3, 1) := by decide +kernel
theorem dX12_passes_85 : decode cX12_passes 85 = .ok (.iaload, 1) := by decide +kernel
theorem dX12_passes_86 : decode cX12_passes 86 = .ok (.if_icmp .ge 34, 3) := by decide +kernel
theorem dX12_passes_89 : decode cX12_passes 89 = .ok (.iload_n 2, 1) := by decide +kernel
theorem dX12_passes_90 : decode cX12_passes 90 = .ok (.iload 4, 2) := by decide +kernel
theorem dX12_passes_92 : decode cX12_passes 92 = .ok (.invokestatic 274, 3) := by decide +kernel
theorem dX12_passes_95 : decode cX12_passes 95 = .ok (.ifCond .eq 19, 3) := by decide +kernel
theorem dX12_passes_98 : decode cX12_passes 98 = .ok (.aload_n 0, 1) := by decide +kernel
theorem dX12_passes_99 : decode cX12_passes 99 = .ok (.iload 4, 2) := by decide +kernel
theorem dX12_passes_101 : decode cX12_passes 101 = .ok (.invokevirtual 262, 3) := by decide +kernel
theorem dX12_passes_104 : decode cX12_passes 104 = .ok (.ifCond .eq 10, 3) := by decide +kernel
theorem dX12_passes_107 : decode cX12_passes 107 = .ok (.aload_n 0, 1) := by decide +kernel
theorem dX12_passes_108 : decode cX12_passes 108 = .ok (.iload 4, 2) := by decide +kernel
theorem dX12_passes_110 : decode cX12_passes 110 = .ok (.iload_n 3, 1) := by decide +kernel
theorem dX12_passes_111 : decode cX12_passes 111 = .ok (.invokevirtual 332, 3) := by decide +kernel
theorem dX12_passes_114 : decode cX12_passes 114 = .ok (.iinc 4 1, 3) := by decide +kernel
theorem dX12_passes_117 : decode cX12_passes 117 = .ok (.goto (-39), 3) := by decide +kernel
theorem dX12_passes_120 : decode cX12_passes 120 = .ok (.iconst 0, 1) := by decide +kernel
theorem dX12_passes_121 : decode cX12_passes 121 = .ok (.istore 4, 2) := by decide +kernel
theorem dX12_passes_123 : decode cX12_passes 123 = .ok (.iload 4, 2) := by decide +kernel
theorem dX12_passes_125 : decode cX12_passes 125 = .ok (.aload_n 0, 1) := by decide +kernel
theorem dX12_passes_126 : decode cX12_passes 126 = .ok (.getfield 7, 3) := by decide +kernel
theorem dX12_passes_129 : decode cX12_passes 129 = .ok (.iconst 3, 1) := by decide +kernel
theorem dX12_passes_130 : decode cX12_passes 130 = .ok (.iaload, 1) := by decide +kernel
theorem dX12_passes_131 : decode cX12_passes 131 = .ok (.if_icmp .ge 55, 3) := by decide +kernel
theorem dX12_passes_134 : decode cX12_passes 134 = .ok (.aload_n 0, 1) := by decide +kernel
theorem dX12_passes_135 : decode cX12_passes 135 = .ok (.iload 4, 2) := by decide +kernel
theorem dX12_passes_137 : decode cX12_passes 137 = .ok (.iconst 3, 1) := by decide +kernel
theorem dX12_passes_138 : decode cX12_passes 138 = .ok (.invokevirtual 66, 3) := by decide +kernel
theorem dX12_passes_141 : decode cX12_passes 141 = .ok (.ifCond .eq 39, 3) := by decide +kernel
theorem dX12_passes_144 : decode cX12_passes 144 = .ok (.aload_n 0, 1) := by decide +kernel
theorem dX12_passes_145 : decode cX12_passes 145 = .ok (.iload 4, 2) := by decide +kernel
theorem dX12_passes_147 : decode cX12_passes 147 = .ok (.iconst 0, 1) := by decide +kernel
theorem dX12_passes_148 : decode cX12_passes 148 = .ok (.aload_n 0, 1) := by decide +kernel
theorem dX12_passes_149 : decode cX12_passes 149 = .ok (.iload 4, 2) := by decide +kernel
theorem dX12_passes_151 : decode cX12_passes 151 = .ok (.iconst 0, 1) := by decide +kernel
theorem dX12_passes_152 : decode cX12_passes 152 = .ok (.invokevirtual 66, 3) := by decide +kernel
theorem dX12_passes_155 : decode cX12_passes 155 = .ok (.aload_n 0, 1) := by decide +kernel
theorem dX12_passes_156 : decode cX12_passes 156 = .ok (.iload 4, 2) := by decide +kernel
theorem dX12_passes_158 : decode cX12_passes 158 = .ok (.iconst 1, 1) := by decide +kernel
theorem dX12_passes_159 : decode cX12_passes 159 = .ok (.invokevirtual 66, 3) := by decide +kernel
theorem dX12_passes_162 : decode cX12_passes 162 = .ok (.iadd, 1) := by decide +kernel
theorem dX12_passes_163 : decode cX12_passes 163 = .ok (.aload_n 0, 1) := by decide +kernel
theorem dX12_passes_164 : decode cX12_passes 164 = .ok (.iload 4, 2) := by decide +kernel
theorem dX12_passes_166 : decode cX12_passes 166 = .ok (.iconst 2, 1) := by decide +kernel
theorem dX12_passes_167 : decode cX12_passes 167 = .ok (.invokevirtual 66, 3) := by decide +kernel
theorem dX12_passes_170 : decode cX12_passes 170 = .ok (.iadd, 1) := by decide +kernel
theorem dX12_passes_171 : decode cX12_passes 171 = .ok (.sipush 999, 3) := by decide +kernel
theorem dX12_passes_174 : decode cX12_passes 174 = .ok (.invokestatic 291, 3) := by decide +kernel
theorem dX12_passes_177 : decode cX12_passes 177 = .ok (.invokevirtual 146, 3) := by decide +kernel
theorem dX12_passes_180 : decode cX12_passes 180 = .ok (.iinc 4 1, 3) := by decide +kernel
theorem dX12_passes_183 : decode cX12_passes 183 = .ok (.goto (-60), 3) := by decide +kernel
theorem dX12_passes_186 : decode cX12_passes 186 = .ok (.aload_n 0, 1) := by decide +kernel
theorem dX12_passes_187 : decode cX12_passes 187 = .ok (.getfield 7, 3) := by decide +kernel
theorem dX12_passes_190 : decode cX12_passes 190 = .ok (.bipush 6, 2) := by decide +kernel
theorem dX12_passes_192 : decode cX12_passes 192 = .ok (.sipush 9999, 3) := by decide +kernel
theorem dX12_passes_195 : decode cX12_passes 195 = .ok (.aload_n 0, 1) := by decide +kernel
theorem dX12_passes_196 : decode cX12_passes 196 = .ok (.getfield 7, 3) := by decide +kernel
theorem dX12_passes_199 : decode cX12_passes 199 = .ok (.bipush 6, 2) := by decide +kernel
theorem dX12_passes_201 : decode cX12_passes 201 = .ok (.iaload, 1) := by decide +kernel
theorem dX12_passes_202 : decode cX12_passes 202 = .ok (.iconst 1, 1) := by decide +kernel
theorem dX12_passes_203 : decode cX12_passes 203 = .ok (.iadd, 1) := by decide +kernel
theorem dX12_passes_204 : decode cX12_passes 204 = .ok (.invokestatic 70, 3) := by decide +kernel
theorem dX12_passes_207 : decode cX12_passes 207 = .ok (.iastore, 1) := by decide +kernel
theorem dX12_passes_208 : decode cX12_passes 208 = .ok (.return_, 1) := by decide +kernel
set_option maxRecDepth 20000 in
theorem ggX12_goes_X12_passes : GoodIn wsX12_goes wsX12_passes := goodIn_r _ [6, 7, 8, 9, 10, 5, 11, 12, 13, 14, 15, 16, 17, 18, 19, 20, 21, 22, 23, 24, 25, 26, 27, 28, 29, 30, 31, 32, 33, 34, 35, 36, 37, 38, 39, 40, 41, 42, 43, 44, 45, 46, 47, 48, 49, 50, 51, 52, 53, 54, 55, 56, 57, 58, 59, 60, 61, 62, 63, 64, 65, 66, 67, 68, 69, 70, 71, 72, 73, 74, 75, 76, 77, 78, 79, 80, 81, 82, 83, 84, 85, 86, 87, 88, 89, 90, 91, 92, 93, 94, 95, 96, 97, 98, 99, 100, 101, 102, 103, 104, 105, 106, 107, 108, 109, 110, 111, 112, 113, 114, 115, 116, 117, 118, 119, 120, 121, 122, 123, 124, 125, 126, 127, 128, 129, 130, 131, 132, 133, 134, 135, 136, 137, 138, 139, 140, 141, 142, 143, 144, 145, 146, 147, 148, 149, 150, 151, 152, 153, 154, 155, 156, 157, 158, 159, 160, 161, 162, 163, 164, 165, 166, 167, 168, 169, 170, 171, 172, 173, 174, 175, 176, 177, 178, 179, 180, 181, 182, 183, 184, 185, 186, 187, 188, 189, 190, 191, 192, 193, 194, 195, 196, 197, 198, 199, 200, 201, 202, 203, 204, 205, 206, 207, 208, 209, 210, 211, 212, 213, 214, 215, 216, 217, 218, 219, 220, 221, 222, 223, 224, 225, 226, 227, 228, 229, 230, 231, 232, 233, 234, 235, 236, 237, 238, 239, 240, 241, 242, 243, 244, 245, 246, 247, 248, 249, 250, 251, 252, 253, 254, 255, 256, 257, 258, 259, 1, 260, 261, 262, 263, 264, 265, 266, 267, 268, 269, 270, 271, 272, 273, 274, 275, 276, 277, 278, 279, 280, 281, 282, 283, 284, 285, 286, 287, 288, 289, 290, 291, 292, 293, 294, 295, 296, 297, 298, 299, 300, 301, 302] (by decide +kernel) (by decide +kernel)
set_option maxRecDepth 20000 in
theorem gX12_goes_X12_passes : GoodIn wsX12_goes (wsV RX12 335 RX12 yX12_passes wsX12_passes) := goodIn_app (goodIn_of _ (by decide +kernel)) ggX12_goes_X12_passes
theorem dX12_goes_0 : decode cX12_goes 0 = .ok (.aload_n 0, 1) := by decide +kernel
theorem dX12_goes_1 : decode cX12_goes 1 = .ok (.iconst 0, 1) := by decide +kernel
theorem dX12_goes_2 : decode cX12_goes 2 = .ok (.putfield 297, 3) := by decide +kernel
theorem dX12_goes_5 : decode cX12_goes 5 = .ok (.iconst 0, 1) := by decide +kernel
theorem dX12_goes_6 : decode cX12_goes 6 = .ok (.istore_n 3, 1) := by decide +kernel
theorem dX12_goes_7 : decode cX12_goes 7 = .ok (.iload_n 3, 1) := by decide +kernel
theorem dX12_goes_8 : decode cX12_goes 8 = .ok (.iload_n 1, 1) := by decide +kernel
theorem dX12_goes_9 : decode cX12_goes 9 = .ok (.if_icmp .ge 14, 3) := by decide +kernel
theorem dX12_goes_12 : decode cX12_goes 12 = .ok (.aload_n 0, 1) := by decide +kernel
theorem dX12_goes_13 : decode cX12_goes 13 = .ok (.iload_n 2, 1) := by decide +kernel
theorem dX12_goes_14 : decode cX12_goes 14 = .ok (.invokevirtual 335, 3) := by decide +kernel
theorem dX12_goes_17 : decode cX12_goes 17 = .ok (.iinc 3 1, 3) := by decide +kernel
theorem dX12_goes_20 : decode cX12_goes 20 = .ok (.goto (-13), 3) := by decide +kernel
theorem dX12_goes_23 : decode cX12_goes 23 = .ok (.aload_n 0, 1) := by decide +kernel
theorem dX12_goes_24 : decode cX12_goes 24 = .ok (.getfield 297, 3) := by decide +kernel
theorem dX12_goes_27 : decode cX12_goes 27 = .ok (.ireturn, 1) := by decide +kernel
set_option maxRecDepth 20000 in
theorem ggX12_spreadNow_X12_isActive : GoodIn wsX12_spreadNow wsX12_isActive := goodIn_r _ [8, 9, 10, 11, 7, 12, 3, 26, 27, 28, 29, 30, 31, 32, 33, 34, 35, 36, 37, 38, 39, 40, 41, 42, 43, 44, 45, 46, 47, 48, 49, 50, 51, 52, 53, 54, 55] (by decide +kernel) (by decide +kernel)
set_option maxRecDepth 20000 in
theorem gX12_spreadNow_X12_isActive : GoodIn wsX12_spreadNow (wsV RX12 262 RX12 yX12_isActive wsX12_isActive) := goodIn_app (goodIn_of _ (by decide +kernel)) ggX12_spreadNow_X12_isActive
set_option maxRecDepth 20000 in
theorem ggX12_spreadNow_X12_of : GoodIn wsX12_spreadNow wsX12_of := goodIn_r _ [12, 3, 26, 27, 28, 29, 30, 31, 32, 33, 34, 35, 36, 37, 38, 39, 40, 41, 42, 43, 44, 45, 46, 47, 48, 49, 50, 51, 52, 53, 54, 55] (by decide +kernel) (by decide +kernel)
set_option maxRecDepth 20000 in
theorem gX12_spreadNow_X12_of : GoodIn wsX12_spreadNow (wsV RX12 66 RX12 yX12_of wsX12_of) := goodIn_app (goodIn_of _ (by decide +kernel)) ggX12_spreadNow_X12_of
set_option maxRecDepth 20000 in
theorem ggX12_spreadNow_X12_lesser : GoodIn wsX12_spreadNow wsX12_lesser := goodIn_r _ [15] (by decide +kernel) (by decide +kernel)
set_option maxRecDepth 20000 in
theorem gX12_spreadNow_X12_lesser : GoodIn wsX12_spreadNow (va_wsS RX12 70 yX12_lesser wsX12_lesser) := goodIn_app (goodIn_of _ (by decide +kernel)) ggX12_spreadNow_X12_lesser
set_option maxRecDepth 20000 in
theorem ggX12_spreadNow_X12_greater : GoodIn wsX12_spreadNow wsX12_greater := goodIn_r _ [18] (by decide +kernel) (by decide +kernel)
set_option maxRecDepth 20000 in
theorem gX12_spreadNow_X12_greater : GoodIn wsX12_spreadNow (va_wsS RX12 73 yX12_greater wsX12_greater) := goodIn_app (goodIn_of _ (by decide +kernel)) ggX12_spreadNow_X12_greater
set_option maxRecDepth 20000 in
theorem ggX12_spreadNow_X12_inState : GoodIn wsX12_spreadNow wsX12_inState := goodIn_r _ [22, 3, 9, 10, 11, 7, 12, 26, 27, 28, 29, 30, 31, 32, 33, 34, 35, 36, 37, 38, 39, 40, 41, 42, 43, 44, 45, 46, 47, 48, 49, 50, 51, 52, 53, 54, 55] (by decide +kernel) (by decide +kernel)
set_option maxRecDepth 20000 in
theorem gX12_spreadNow_X12_inState : GoodIn wsX12_spreadNow (wsV RX12 250 RX12 yX12_inState wsX12_inState) := goodIn_app (goodIn_of _ (by decide +kernel)) ggX12_spreadNow_X12_inState
set_option maxRecDepth 20000 in
theorem ggX12_spreadNow_X12_bits : GoodIn wsX12_spreadNow wsX12_bits := goodIn_r _ [25] (by decide +kernel) (by decide +kernel)
set_option maxRecDepth 20000 in
theorem gX12_spreadNow_X12_bits : GoodIn wsX12_spreadNow (va_wsS RX12 247 yX12_bits wsX12_bits) := goodIn_app (goodIn_of _ (by decide +kernel)) ggX12_spreadNow_X12_bits
theorem dX12_spreadNow_0 : decode cX12_spreadNow 0 = .ok (.ldc_w 339, 3) := by decide +kernel
theorem dX12_spreadNow_3 : decode cX12_spreadNow 3 = .ok (.istore_n 1, 1) := by decide +kernel
theorem dX12_spreadNow_4 : decode cX12_spreadNow 4 = .ok (.ldc_w 340, 3) := by decide +kernel
theorem dX12_spreadNow_7 : decode cX12_spreadNow 7 = .ok (.istore_n 2, 1) := by decide +kernel
theorem dX12_spreadNow_8 : decode cX12_spreadNow 8 = .ok (.iconst 0, 1) := by decide +kernel
theorem dX12_spreadNow_9 : decode cX12_spreadNow 9 = .ok (.istore_n 3, 1) := by decide +kernel
theorem dX12_spreadNow_10 : decode cX12_spreadNow 10 = .ok (.iload_n 3, 1) := by decide +kernel
theorem dX12_spreadNow_11 : decode cX12_spreadNow 11 = .ok (.aload_n 0, 1) := by decide +kernel
theorem dX12_spreadNow_12 : decode cX12_spreadNow 12 = .ok (.getfield 7, 3) := by decide +kernel
theorem dX12_spreadNow_15 : decode cX12_spreadNow 15 = .ok (.iconst 3, 1) := by decide +kernel
theorem dX12_spreadNow_16 : decode cX12_spreadNow 16 = .ok (.iaload, 1) := by decide +kernel
theorem dX12_spreadNow_17 : decode cX12_spreadNow 17 = .ok (.if_icmp .ge 42, 3) := by decide +kernel
theorem dX12_spreadNow_20 : decode cX12_spreadNow 20 = .ok (.aload_n 0, 1) := by decide +kernel
theorem dX12_spreadNow_21 : decode cX12_spreadNow 21 = .ok (.iload_n 3, 1) := by decide +kernel
theorem dX12_spreadNow_22 : decode cX12_spreadNow 22 = .ok (.invokevirtual 262, 3) := by decide +kernel
theorem dX12_spreadNow_25 : decode cX12_spreadNow 25 = .ok (.ifCond .ne 6, 3) := by decide +kernel
theorem dX12_spreadNow_28 : decode cX12_spreadNow 28 = .ok (.goto 25, 3) := by decide +kernel
theorem dX12_spreadNow_31 : decode cX12_spreadNow 31 = .ok (.iload_n 1, 1) := by decide +kernel
theorem dX12_spreadNow_32 : decode cX12_spreadNow 32 = .ok (.aload_n 0, 1) := by decide +kernel
theorem dX12_spreadNow_33 : decode cX12_spreadNow 33 = .ok (.iload_n 3, 1) := by decide +kernel
theorem dX12_spreadNow_34 : decode cX12_spreadNow 34 = .ok (.iconst 0, 1) := by decide +kernel
theorem dX12_spreadNow_35 : decode cX12_spreadNow 35 = .ok (.invokevirtual 66, 3) := by decide +kernel
theorem dX12_spreadNow_38 : decode cX12_spreadNow 38 = .ok (.invokestatic 70, 3) := by decide +kernel
theorem dX12_spreadNow_41 : decode cX12_spreadNow 41 = .ok (.istore_n 1, 1) := by decide +kernel
theorem dX12_spreadNow_42 : decode cX12_spreadNow 42 = .ok (.iload_n 2, 1) := by decide +kernel
theorem dX12_spreadNow_43 : decode cX12_spreadNow 43 = .ok (.aload_n 0, 1) := by decide +kernel
theorem dX12_spreadNow_44 : decode cX12_spreadNow 44 = .ok (.iload_n 3, 1) := by decide +kernel
theorem dX12_spreadNow_45 : decode cX12_spreadNow 45 = .ok (.iconst 0, 1) := by decide +kernel
theorem dX12_spreadNow_46 : decode cX12_spreadNow 46 = .ok (.invokevirtual 66, 3) := by decide +kernel
theorem dX12_spreadNow_49 : decode cX12_spreadNow 49 = .ok (.invokestatic 73, 3) := by decide +kernel
theorem dX12_spreadNow_52 : decode cX12_spreadNow 52 = .ok (.istore_n 2, 1) := by decide +kernel
theorem dX12_spreadNow_53 : decode cX12_spreadNow 53 = .ok (.iinc 3 1, 3) := by decide +kernel
theorem dX12_spreadNow_56 : decode cX12_spreadNow 56 = .ok (.goto (-46), 3) := by decide +kernel
theorem dX12_spreadNow_59 : decode cX12_spreadNow 59 = .ok (.aload_n 0, 1) := by decide +kernel
theorem dX12_spreadNow_60 : decode cX12_spreadNow 60 = .ok (.iconst 2, 1) := by decide +kernel
theorem dX12_spreadNow_61 : decode cX12_spreadNow 61 = .ok (.invokevirtual 250, 3) := by decide +kernel
theorem dX12_spreadNow_64 : decode cX12_spreadNow 64 = .ok (.invokestatic 247, 3) := by decide +kernel
theorem dX12_spreadNow_67 : decode cX12_spreadNow 67 = .ok (.iconst 2, 1) := by decide +kernel
theorem dX12_spreadNow_68 : decode cX12_spreadNow 68 = .ok (.if_icmp .ge 7, 3) := by decide +kernel
theorem dX12_spreadNow_71 : decode cX12_spreadNow 71 = .ok (.iconst 0, 1) := by decide +kernel
theorem dX12_spreadNow_72 : decode cX12_spreadNow 72 = .ok (.goto 6, 3) := by decide +kernel
theorem dX12_spreadNow_75 : decode cX12_spreadNow 75 = .ok (.iload_n 2, 1) := by decide +kernel
theorem dX12_spreadNow_76 : decode cX12_spreadNow 76 = .ok (.iload_n 1, 1) := by decide +kernel
theorem dX12_spreadNow_77 : decode cX12_spreadNow 77 = .ok (.isub, 1) := by decide +kernel
theorem dX12_spreadNow_78 : decode cX12_spreadNow 78 = .ok (.ireturn, 1) := by decide +kernel
set_option maxRecDepth 20000 in
theorem ggX12_areFriends_X12_isActive : GoodIn wsX12_areFriends wsX12_isActive := goodIn_r _ [5, 6, 7, 8, 4, 9, 10, 191, 192, 193, 194, 195, 196, 197, 198, 199, 200, 201, 202, 203, 204, 205, 206, 207, 208, 209, 210, 211, 212, 213, 214, 215, 216, 217, 218, 219, 220] (by decide +kernel) (by decide +kernel)
set_option maxRecDepth 20000 in
theorem gX12_areFriends_X12_isActive : GoodIn wsX12_areFriends (wsV RX12 262 RX12 yX12_isActive wsX12_isActive) := goodIn_app (goodIn_of _ (by decide +kernel)) ggX12_areFriends_X12_isActive
set_option maxRecDepth 20000 in
theorem ggX12_areFriends_X12_isHeard : GoodIn wsX12_areFriends wsX12_isHeard := goodIn_r _ [14, 10, 15, 16, 17, 4, 18, 19, 20, 21, 22, 6, 7, 8, 9, 23, 24, 25, 26, 27, 28, 29, 30, 31, 32, 33, 34, 35, 36, 37, 38, 39, 40, 41, 42, 43, 44, 45, 46, 47, 48, 49, 50, 51, 52, 53, 54, 55, 56, 57, 58, 59, 60, 61, 62, 63, 64, 65, 66, 67, 68, 69, 70, 71, 72, 73, 74, 75, 76, 77, 78, 79, 80, 81, 82, 83, 84, 85, 86, 87, 88, 89, 90, 91, 92, 93, 94, 95, 96, 97, 98, 99, 100, 101, 102, 103, 104, 105, 106, 107, 108, 109, 110, 111, 112, 113, 114, 115, 116, 117, 118, 119, 120, 121, 122, 123, 124, 125, 126, 127, 128, 129, 130, 131, 132, 133, 134, 135, 136, 137, 138, 139, 140, 141, 142, 143, 144, 145, 146, 147, 148, 149, 150, 151, 152, 153, 154, 155, 156, 157, 158, 159, 160, 161, 162, 163, 164, 165, 166, 167, 168, 169, 170, 171, 172, 173, 174, 175, 176, 177, 178, 179, 180, 181, 182, 183, 184, 185, 186, 187, 188, 189, 190, 191, 192, 193, 194, 195, 196, 197, 198, 199, 200, 201, 202, 203, 204, 205, 206, 207, 208, 209, 210, 211, 212, 213, 214, 215, 216, 217, 218, 219, 220] (by decide +kernel) (by decide +kernel)
set_option maxRecDepth 20000 in
theorem gX12_areFriends_X12_isHeard : GoodIn wsX12_areFriends (wsV RX12 341 RX12 yX12_isHeard wsX12_isHeard) := goodIn_app (goodIn_of _ (by decide +kernel)) ggX12_areFriends_X12_isHeard
theorem dX12_areFriends_0 : decode cX12_areFriends 0 = .ok (.iload_n 1, 1) := by decide +kernel
theorem dX12_areFriends_1 : decode cX12_areFriends 1 = .ok (.iload_n 2, 1) := by decide +kernel
theorem dX12_areFriends_2 : decode cX12_areFriends 2 = .ok (.if_icmp .eq 41, 3) := by decide +kernel
theorem dX12_areFriends_5 : decode cX12_areFriends 5 = .ok (.aload_n 0, 1) := by decide +kernel
theorem dX12_areFriends_6 : decode cX12_areFriends 6 = .ok (.iload_n 1, 1) := by decide +kernel
theorem dX12_areFriends_7 : decode cX12_areFriends 7 = .ok (.invokevirtual 262, 3) := by decide +kernel
theorem dX12_areFriends_10 : decode cX12_areFriends 10 = .ok (.ifCond .eq 33, 3) := by decide +kernel
theorem dX12_areFriends_13 : decode cX12_areFriends 13 = .ok (.aload_n 0, 1) := by decide +kernel
theorem dX12_areFriends_14 : decode cX12_areFriends 14 = .ok (.iload_n 2, 1) := by decide +kernel
theorem dX12_areFriends_15 : decode cX12_areFriends 15 = .ok (.invokevirtual 262, 3) := by decide +kernel
theorem dX12_areFriends_18 : decode cX12_areFriends 18 = .ok (.ifCond .eq 25, 3) := by decide +kernel
theorem dX12_areFriends_21 : decode cX12_areFriends 21 = .ok (.aload_n 0, 1) := by decide +kernel
theorem dX12_areFriends_22 : decode cX12_areFriends 22 = .ok (.iload_n 1, 1) := by decide +kernel
theorem dX12_areFriends_23 : decode cX12_areFriends 23 = .ok (.iload_n 2, 1) := by decide +kernel
theorem dX12_areFriends_24 : decode cX12_areFriends 24 = .ok (.invokevirtual 341, 3) := by decide +kernel
theorem dX12_areFriends_27 : decode cX12_areFriends 27 = .ok (.ifCond .eq 16, 3) := by decide +kernel
theorem dX12_areFriends_30 : decode cX12_areFriends 30 = .ok (.aload_n 0, 1) := by decide +kernel
theorem dX12_areFriends_31 : decode cX12_areFriends 31 = .ok (.iload_n 2, 1) := by decide +kernel
theorem dX12_areFriends_32 : decode cX12_areFriends 32 = .ok (.iload_n 1, 1) := by decide +kernel
theorem dX12_areFriends_33 : decode cX12_areFriends 33 = .ok (.invokevirtual 341, 3) := by decide +kernel
theorem dX12_areFriends_36 : decode cX12_areFriends 36 = .ok (.ifCond .eq 7, 3) := by decide +kernel
theorem dX12_areFriends_39 : decode cX12_areFriends 39 = .ok (.iconst 1, 1) := by decide +kernel
theorem dX12_areFriends_40 : decode cX12_areFriends 40 = .ok (.goto 4, 3) := by decide +kernel
theorem dX12_areFriends_43 : decode cX12_areFriends 43 = .ok (.iconst 0, 1) := by decide +kernel
theorem dX12_areFriends_44 : decode cX12_areFriends 44 = .ok (.ireturn, 1) := by decide +kernel
set_option maxRecDepth 20000 in
theorem ggX12_cliqueOf_X12_isActive : GoodIn wsX12_cliqueOf wsX12_isActive := goodIn_r _ [6, 7, 8, 9, 5, 10, 1, 198, 199, 200, 201, 202, 203, 204, 205, 206, 207, 208, 209, 210, 211, 212, 213, 214, 215, 216, 217, 218, 219, 220, 221, 222, 223, 224, 225, 226, 227] (by decide +kernel) (by decide +kernel)
set_option maxRecDepth 20000 in
theorem gX12_cliqueOf_X12_isActive : GoodIn wsX12_cliqueOf (wsV RX12 262 RX12 yX12_isActive wsX12_isActive) := goodIn_app (goodIn_of _ (by decide +kernel)) ggX12_cliqueOf_X12_isActive
set_option maxRecDepth 20000 in
theorem ggX12_cliqueOf_X12_isOf : GoodIn wsX12_cliqueOf wsX12_isOf := goodIn_r _ [13] (by decide +kernel) (by decide +kernel)
set_option maxRecDepth 20000 in
theorem gX12_cliqueOf_X12_isOf : GoodIn wsX12_cliqueOf (va_wsS RX12 274 yX12_isOf wsX12_isOf) := goodIn_app (goodIn_of _ (by decide +kernel)) ggX12_cliqueOf_X12_isOf
set_option maxRecDepth 20000 in
theorem ggX12_cliqueOf_X12_areFriends : GoodIn wsX12_cliqueOf wsX12_areFriends := goodIn_r _ [17, 2, 3, 4, 5, 6, 7, 8, 9, 10, 1, 18, 19, 20, 21, 22, 23, 24, 25, 26, 27, 28, 29, 30, 31, 32, 33, 34, 35, 36, 37, 38, 39, 40, 41, 42, 43, 44, 45, 46, 47, 48, 49, 50, 51, 52, 53, 54, 55, 56, 57, 58, 59, 60, 61, 62, 63, 64, 65, 66, 67, 68, 69, 70, 71, 72, 73, 74, 75, 76, 77, 78, 79, 80, 81, 82, 83, 84, 85, 86, 87, 88, 89, 90, 91, 92, 93, 94, 95, 96, 97, 98, 99, 100, 101, 102, 103, 104, 105, 106, 107, 108, 109, 110, 111, 112, 113, 114, 115, 116, 117, 118, 119, 120, 121, 122, 123, 124, 125, 126, 127, 128, 129, 130, 131, 132, 133, 134, 135, 136, 137, 138, 139, 140, 141, 142, 143, 144, 145, 146, 147, 148, 149, 150, 151, 152, 153, 154, 155, 156, 157, 158, 159, 160, 161, 162, 163, 164, 165, 166, 167, 168, 169, 170, 171, 172, 173, 174, 175, 176, 177, 178, 179, 180, 181, 182, 183, 184, 185, 186, 187, 188, 189, 190, 191, 192, 193, 194, 195, 196, 197, 198, 199, 200, 201, 202, 203, 204, 205, 206, 207, 208, 209, 210, 211, 212, 213, 214, 215, 216, 217, 218, 219, 220, 221, 222, 223, 224, 225, 226, 227] (by decide +kernel) (by decide +kernel)
set_option maxRecDepth 20000 in
theorem gX12_cliqueOf_X12_areFriends : GoodIn wsX12_cliqueOf (wsV RX12 344 RX12 yX12_areFriends wsX12_areFriends) := goodIn_app (goodIn_of _ (by decide +kernel)) ggX12_cliqueOf_X12_areFriends
theorem dX12_cliqueOf_0 : decode cX12_cliqueOf 0 = .ok (.aload_n 0, 1) := by decide +kernel
theorem dX12_cliqueOf_1 : decode cX12_cliqueOf 1 = .ok (.iload_n 1, 1) := by decide +kernel
theorem dX12_cliqueOf_2 : decode cX12_cliqueOf 2 = .ok (.invokevirtual 262, 3) := by decide +kernel
theorem dX12_cliqueOf_5 : decode cX12_cliqueOf 5 = .ok (.ifCond .ne 5, 3) := by decide +kernel
theorem dX12_cliqueOf_8 : decode cX12_cliqueOf 8 = .ok (.iconst 0, 1) := by decide +kernel
theorem dX12_cliqueOf_9 : decode cX12_cliqueOf 9 = .ok (.ireturn, 1) := by decide +kernel
theorem dX12_cliqueOf_10 : decode cX12_cliqueOf 10 = .ok (.iconst 1, 1) := by decide +kernel
theorem dX12_cliqueOf_11 : decode cX12_cliqueOf 11 = .ok (.iload_n 1, 1) := by decide +kernel
theorem dX12_cliqueOf_12 : decode cX12_cliqueOf 12 = .ok (.ishl, 1) := by decide +kernel
theorem dX12_cliqueOf_13 : decode cX12_cliqueOf 13 = .ok (.istore_n 2, 1) := by decide +kernel
theorem dX12_cliqueOf_14 : decode cX12_cliqueOf 14 = .ok (.iconst 1, 1) := by decide +kernel
theorem dX12_cliqueOf_15 : decode cX12_cliqueOf 15 = .ok (.istore_n 3, 1) := by decide +kernel
theorem dX12_cliqueOf_16 : decode cX12_cliqueOf 16 = .ok (.iload_n 3, 1) := by decide +kernel
theorem dX12_cliqueOf_17 : decode cX12_cliqueOf 17 = .ok (.ifCond .eq 97, 3) := by decide +kernel
theorem dX12_cliqueOf_20 : decode cX12_cliqueOf 20 = .ok (.iload_n 2, 1) := by decide +kernel
theorem dX12_cliqueOf_21 : decode cX12_cliqueOf 21 = .ok (.istore 4, 2) := by decide +kernel
theorem dX12_cliqueOf_23 : decode cX12_cliqueOf 23 = .ok (.iconst 0, 1) := by decide +kernel
theorem dX12_cliqueOf_24 : decode cX12_cliqueOf 24 = .ok (.istore 5, 2) := by decide +kernel
theorem dX12_cliqueOf_26 : decode cX12_cliqueOf 26 = .ok (.iload 5, 2) := by decide +kernel
theorem dX12_cliqueOf_28 : decode cX12_cliqueOf 28 = .ok (.aload_n 0, 1) := by decide +kernel
theorem dX12_cliqueOf_29 : decode cX12_cliqueOf 29 = .ok (.getfield 7, 3) := by decide +kernel
theorem dX12_cliqueOf_32 : decode cX12_cliqueOf 32 = .ok (.iconst 3, 1) := by decide +kernel
theorem dX12_cliqueOf_33 : decode cX12_cliqueOf 33 = .ok (.iaload, 1) := by decide +kernel
theorem dX12_cliqueOf_34 : decode cX12_cliqueOf 34 = .ok (.if_icmp .ge 65, 3) := by decide +kernel
theorem dX12_cliqueOf_37 : decode cX12_cliqueOf 37 = .ok (.iconst 0, 1) := by decide +kernel
theorem dX12_cliqueOf_38 : decode cX12_cliqueOf 38 = .ok (.istore 6, 2) := by decide +kernel
theorem dX12_cliqueOf_40 : decode cX12_cliqueOf 40 = .ok (.iload 6, 2) := by decide +kernel
theorem dX12_cliqueOf_42 : decode cX12_cliqueOf 42 = .ok (.aload_n 0, 1) := by decide +kernel
theorem dX12_cliqueOf_43 : decode cX12_cliqueOf 43 = .ok (.getfield 7, 3) := by decide +kernel
theorem dX12_cliqueOf_46 : decode cX12_cliqueOf 46 = .ok (.iconst 3, 1) := by decide +kernel
theorem dX12_cliqueOf_47 : decode cX12_cliqueOf 47 = .ok (.iaload, 1) := by decide +kernel
theorem dX12_cliqueOf_48 : decode cX12_cliqueOf 48 = .ok (.if_icmp .ge 45, 3) := by decide +kernel
theorem dX12_cliqueOf_51 : decode cX12_cliqueOf 51 = .ok (.iload_n 2, 1) := by decide +kernel
theorem dX12_cliqueOf_52 : decode cX12_cliqueOf 52 = .ok (.iload 5, 2) := by decide +kernel
theorem dX12_cliqueOf_54 : decode cX12_cliqueOf 54 = .ok (.invokestatic 274, 3) := by decide +kernel
theorem dX12_cliqueOf_57 : decode cX12_cliqueOf 57 = .ok (.ifCond .eq 30, 3) := by decide +kernel
theorem dX12_cliqueOf_60 : decode cX12_cliqueOf 60 = .ok (.iload_n 2, 1) := by decide +kernel
theorem dX12_cliqueOf_61 : decode cX12_cliqueOf 61 = .ok (.iload 6, 2) := by decide +kernel
theorem dX12_cliqueOf_63 : decode cX12_cliqueOf 63 = .ok (.invokestatic 274, 3) := by decide +kernel
theorem dX12_cliqueOf_66 : decode cX12_cliqueOf 66 = .ok (.ifCond .ne 21, 3) := by decide +kernel
theorem dX12_cliqueOf_69 : decode cX12_cliqueOf 69 = .ok (.aload_n 0, 1) := by decide +kernel
theorem dX12_cliqueOf_70 : decode cX12_cliqueOf 70 = .ok (.iload 5, 2) := by decide +kernel
theorem dX12_cliqueOf_72 : decode cX12_cliqueOf 72 = .ok (.iload 6, 2) := by decide +kernel
theorem dX12_cliqueOf_74 : decode cX12_cliqueOf 74 = .ok (.invokevirtual 344, 3) := by decide +kernel
theorem dX12_cliqueOf_77 : decode cX12_cliqueOf 77 = .ok (.ifCond .eq 10, 3) := by decide +kernel
theorem dX12_cliqueOf_80 : decode cX12_cliqueOf 80 = .ok (.iload_n 2, 1) := by decide +kernel
theorem dX12_cliqueOf_81 : decode cX12_cliqueOf 81 = .ok (.iconst 1, 1) := by decide +kernel
theorem dX12_cliqueOf_82 : decode cX12_cliqueOf 82 = .ok (.iload 6, 2) := by decide +kernel
theorem dX12_cliqueOf_84 : decode cX12_cliqueOf 84 = .ok (.ishl, 1) := by decide +kernel
theorem dX12_cliqueOf_85 : decode cX12_cliqueOf 85 = .ok (.ior, 1) := by decide +kernel
theorem dX12_cliqueOf_86 : decode cX12_cliqueOf 86 = .ok (.istore_n 2, 1) := by decide +kernel
theorem dX12_cliqueOf_87 : decode cX12_cliqueOf 87 = .ok (.iinc 6 1, 3) := by decide +kernel
theorem dX12_cliqueOf_90 : decode cX12_cliqueOf 90 = .ok (.goto (-50), 3) := by decide +kernel
theorem dX12_cliqueOf_93 : decode cX12_cliqueOf 93 = .ok (.iinc 5 1, 3) := by decide +kernel
theorem dX12_cliqueOf_96 : decode cX12_cliqueOf 96 = .ok (.goto (-70), 3) := by decide +kernel
theorem dX12_cliqueOf_99 : decode cX12_cliqueOf 99 = .ok (.iload_n 2, 1) := by decide +kernel
theorem dX12_cliqueOf_100 : decode cX12_cliqueOf 100 = .ok (.iload 4, 2) := by decide +kernel
theorem dX12_cliqueOf_102 : decode cX12_cliqueOf 102 = .ok (.if_icmp .eq 7, 3) := by decide +kernel
theorem dX12_cliqueOf_105 : decode cX12_cliqueOf 105 = .ok (.iconst 1, 1) := by decide +kernel
theorem dX12_cliqueOf_106 : decode cX12_cliqueOf 106 = .ok (.goto 4, 3) := by decide +kernel
theorem dX12_cliqueOf_109 : decode cX12_cliqueOf 109 = .ok (.iconst 0, 1) := by decide +kernel
theorem dX12_cliqueOf_110 : decode cX12_cliqueOf 110 = .ok (.istore_n 3, 1) := by decide +kernel
theorem dX12_cliqueOf_111 : decode cX12_cliqueOf 111 = .ok (.goto (-95), 3) := by decide +kernel
theorem dX12_cliqueOf_114 : decode cX12_cliqueOf 114 = .ok (.iload_n 2, 1) := by decide +kernel
theorem dX12_cliqueOf_115 : decode cX12_cliqueOf 115 = .ok (.ireturn, 1) := by decide +kernel
set_option maxRecDepth 20000 in
theorem ggX12_middleNow_X12_isActive : GoodIn wsX12_middleNow wsX12_isActive := goodIn_r _ [6, 7, 8, 9, 5, 10, 11, 211, 212, 213, 214, 215, 216, 217, 218, 219, 220, 221, 222, 223, 224, 225, 226, 227, 228, 229, 230, 231, 232, 233, 234, 235, 236, 237, 238, 239, 240] (by decide +kernel) (by decide +kernel)
set_option maxRecDepth 20000 in
theorem gX12_middleNow_X12_isActive : GoodIn wsX12_middleNow (wsV RX12 262 RX12 yX12_isActive wsX12_isActive) := goodIn_app (goodIn_of _ (by decide +kernel)) ggX12_middleNow_X12_isActive
set_option maxRecDepth 20000 in
theorem ggX12_middleNow_X12_allShifts : GoodIn wsX12_middleNow wsX12_allShifts := goodIn_r _ [15, 1, 11, 16, 17, 18, 19, 20, 21, 22, 5, 23, 2, 3, 4, 6, 7, 8, 9, 10, 24, 25, 26, 27, 28, 29, 30, 31, 32, 33, 34, 35, 36, 37, 38, 39, 40, 41, 42, 43, 44, 45, 46, 47, 48, 49, 50, 51, 52, 53, 54, 55, 56, 57, 58, 59, 60, 61, 62, 63, 64, 65, 66, 67, 68, 69, 70, 71, 72, 73, 74, 75, 76, 77, 78, 79, 80, 81, 82, 83, 84, 85, 86, 87, 88, 89, 90, 91, 92, 93, 94, 95, 96, 97, 98, 99, 100, 101, 102, 103, 104, 105, 106, 107, 108, 109, 110, 111, 112, 113, 114, 115, 116, 117, 118, 119, 120, 121, 122, 123, 124, 125, 126, 127, 128, 129, 130, 131, 132, 133, 134, 135, 136, 137, 138, 139, 140, 141, 142, 143, 144, 145, 146, 147, 148, 149, 150, 151, 152, 153, 154, 155, 156, 157, 158, 159, 160, 161, 162, 163, 164, 165, 166, 167, 168, 169, 170, 171, 172, 173, 174, 175, 176, 177, 178, 179, 180, 181, 182, 183, 184, 185, 186, 187, 188, 189, 190, 191, 192, 193, 194, 195, 196, 197, 198, 211, 212, 213, 214, 215, 216, 217, 218, 219, 220, 221, 222, 223, 224, 225, 226, 227, 228, 229, 230, 231, 232, 233, 234, 235, 236, 237, 238, 239, 240] (by decide +kernel) (by decide +kernel)
set_option maxRecDepth 20000 in
theorem gX12_middleNow_X12_allShifts : GoodIn wsX12_middleNow (wsV RX12 313 RX12 yX12_allShifts wsX12_allShifts) := goodIn_app (goodIn_of _ (by decide +kernel)) ggX12_middleNow_X12_allShifts
set_option maxRecDepth 20000 in
theorem ggX12_middleNow_X12_middleOf : GoodIn wsX12_middleNow wsX12_middleOf := goodIn_r _ [202, 203, 11, 18, 19, 204, 205, 5, 206, 207, 208, 209, 210, 211, 212, 213, 214, 215, 216, 217, 218, 219, 220, 221, 222, 223, 224, 225, 226, 227, 228, 229, 230, 231, 232, 233, 234, 235, 236, 237, 238, 239, 240] (by decide +kernel) (by decide +kernel)
set_option maxRecDepth 20000 in
theorem gX12_middleNow_X12_middleOf : GoodIn wsX12_middleNow (wsV RX12 307 RX12 yX12_middleOf wsX12_middleOf) := goodIn_app (goodIn_of _ (by decide +kernel)) ggX12_middleNow_X12_middleOf
theorem dX12_middleNow_0 : decode cX12_middleNow 0 = .ok (.aload_n 0, 1) := by decide +kernel
theorem dX12_middleNow_1 : decode cX12_middleNow 1 = .ok (.iload_n 1, 1) := by decide +kernel
theorem dX12_middleNow_2 : decode cX12_middleNow 2 = .ok (.invokevirtual 262, 3) := by decide +kernel
theorem dX12_middleNow_5 : decode cX12_middleNow 5 = .ok (.ifCond .ne 5, 3) := by decide +kernel
theorem dX12_middleNow_8 : decode cX12_middleNow 8 = .ok (.iconst 0, 1) := by decide +kernel
theorem dX12_middleNow_9 : decode cX12_middleNow 9 = .ok (.ireturn, 1) := by decide +kernel
theorem dX12_middleNow_10 : decode cX12_middleNow 10 = .ok (.aload_n 0, 1) := by decide +kernel
theorem dX12_middleNow_11 : decode cX12_middleNow 11 = .ok (.invokevirtual 313, 3) := by decide +kernel
theorem dX12_middleNow_14 : decode cX12_middleNow 14 = .ok (.aload_n 0, 1) := by decide +kernel
theorem dX12_middleNow_15 : decode cX12_middleNow 15 = .ok (.iload_n 1, 1) := by decide +kernel
theorem dX12_middleNow_16 : decode cX12_middleNow 16 = .ok (.aload_n 0, 1) := by decide +kernel
theorem dX12_middleNow_17 : decode cX12_middleNow 17 = .ok (.getfield 268, 3) := by decide +kernel
theorem dX12_middleNow_20 : decode cX12_middleNow 20 = .ok (.invokevirtual 307, 3) := by decide +kernel
theorem dX12_middleNow_23 : decode cX12_middleNow 23 = .ok (.ireturn, 1) := by decide +kernel
set_option maxRecDepth 20000 in
theorem ggX12_knownOf_X12_of : GoodIn wsX12_knownOf wsX12_of := goodIn_r _ [6, 1, 10, 11, 12, 13, 14, 15, 16, 17, 18, 19, 20, 21, 22, 23, 24, 25, 26, 27, 28, 29, 30, 31, 32, 33, 34, 35, 36, 37, 38, 39] (by decide +kernel) (by decide +kernel)
set_option maxRecDepth 20000 in
theorem gX12_knownOf_X12_of : GoodIn wsX12_knownOf (wsV RX12 66 RX12 yX12_of wsX12_of) := goodIn_app (goodIn_of _ (by decide +kernel)) ggX12_knownOf_X12_of
set_option maxRecDepth 20000 in
theorem ggX12_knownOf_X12_isOf : GoodIn wsX12_knownOf wsX12_isOf := goodIn_r _ [9] (by decide +kernel) (by decide +kernel)
set_option maxRecDepth 20000 in
theorem gX12_knownOf_X12_isOf : GoodIn wsX12_knownOf (va_wsS RX12 274 yX12_isOf wsX12_isOf) := goodIn_app (goodIn_of _ (by decide +kernel)) ggX12_knownOf_X12_isOf
theorem dX12_knownOf_0 : decode cX12_knownOf 0 = .ok (.iconst 0, 1) := by decide +kernel
theorem dX12_knownOf_1 : decode cX12_knownOf 1 = .ok (.istore_n 2, 1) := by decide +kernel
theorem dX12_knownOf_2 : decode cX12_knownOf 2 = .ok (.iconst 0, 1) := by decide +kernel
theorem dX12_knownOf_3 : decode cX12_knownOf 3 = .ok (.istore_n 3, 1) := by decide +kernel
theorem dX12_knownOf_4 : decode cX12_knownOf 4 = .ok (.iload_n 3, 1) := by decide +kernel
theorem dX12_knownOf_5 : decode cX12_knownOf 5 = .ok (.aload_n 0, 1) := by decide +kernel
theorem dX12_knownOf_6 : decode cX12_knownOf 6 = .ok (.getfield 7, 3) := by decide +kernel
theorem dX12_knownOf_9 : decode cX12_knownOf 9 = .ok (.iconst 3, 1) := by decide +kernel
theorem dX12_knownOf_10 : decode cX12_knownOf 10 = .ok (.iaload, 1) := by decide +kernel
theorem dX12_knownOf_11 : decode cX12_knownOf 11 = .ok (.if_icmp .ge 32, 3) := by decide +kernel
theorem dX12_knownOf_14 : decode cX12_knownOf 14 = .ok (.iload_n 2, 1) := by decide +kernel
theorem dX12_knownOf_15 : decode cX12_knownOf 15 = .ok (.aload_n 0, 1) := by decide +kernel
theorem dX12_knownOf_16 : decode cX12_knownOf 16 = .ok (.iload_n 3, 1) := by decide +kernel
theorem dX12_knownOf_17 : decode cX12_knownOf 17 = .ok (.iconst 5, 1) := by decide +kernel
theorem dX12_knownOf_18 : decode cX12_knownOf 18 = .ok (.invokevirtual 66, 3) := by decide +kernel
theorem dX12_knownOf_21 : decode cX12_knownOf 21 = .ok (.iload_n 1, 1) := by decide +kernel
theorem dX12_knownOf_22 : decode cX12_knownOf 22 = .ok (.invokestatic 274, 3) := by decide +kernel
theorem dX12_knownOf_25 : decode cX12_knownOf 25 = .ok (.ifCond .eq 9, 3) := by decide +kernel
theorem dX12_knownOf_28 : decode cX12_knownOf 28 = .ok (.iconst 1, 1) := by decide +kernel
theorem dX12_knownOf_29 : decode cX12_knownOf 29 = .ok (.iload_n 3, 1) := by decide +kernel
theorem dX12_knownOf_30 : decode cX12_knownOf 30 = .ok (.ishl, 1) := by decide +kernel
theorem dX12_knownOf_31 : decode cX12_knownOf 31 = .ok (.goto 4, 3) := by decide +kernel
theorem dX12_knownOf_34 : decode cX12_knownOf 34 = .ok (.iconst 0, 1) := by decide +kernel
theorem dX12_knownOf_35 : decode cX12_knownOf 35 = .ok (.ior, 1) := by decide +kernel
theorem dX12_knownOf_36 : decode cX12_knownOf 36 = .ok (.istore_n 2, 1) := by decide +kernel
theorem dX12_knownOf_37 : decode cX12_knownOf 37 = .ok (.iinc 3 1, 3) := by decide +kernel
theorem dX12_knownOf_40 : decode cX12_knownOf 40 = .ok (.goto (-36), 3) := by decide +kernel
theorem dX12_knownOf_43 : decode cX12_knownOf 43 = .ok (.iload_n 2, 1) := by decide +kernel
theorem dX12_knownOf_44 : decode cX12_knownOf 44 = .ok (.ireturn, 1) := by decide +kernel
set_option maxRecDepth 20000 in
theorem ggX12_node_X12_isNode : GoodIn wsX12_node wsX12_isNode := goodIn_r _ [9, 10, 11, 12, 8, 13, 236, 237, 238, 239, 240, 241, 242, 243, 244, 245, 246, 247, 248, 249, 250, 251, 252, 253, 254, 255, 256, 257, 258, 259, 260, 261, 262, 263, 264, 265] (by decide +kernel) (by decide +kernel)
set_option maxRecDepth 20000 in
theorem gX12_node_X12_isNode : GoodIn wsX12_node (wsV RX12 347 RX12 yX12_isNode wsX12_isNode) := goodIn_app (goodIn_of _ (by decide +kernel)) ggX12_node_X12_isNode
set_option maxRecDepth 20000 in
theorem ggX12_node_X12_isIn : GoodIn wsX12_node wsX12_isIn := goodIn_r _ [13] (by decide +kernel) (by decide +kernel)
set_option maxRecDepth 20000 in
theorem gX12_node_X12_isIn : GoodIn wsX12_node (va_wsS RX12 62 yX12_isIn wsX12_isIn) := goodIn_app (goodIn_of _ (by decide +kernel)) ggX12_node_X12_isIn
set_option maxRecDepth 20000 in
theorem ggX12_node_X12_of : GoodIn wsX12_node wsX12_of := goodIn_r _ [17, 10, 236, 237, 238, 239, 240, 241, 242, 243, 244, 245, 246, 247, 248, 249, 250, 251, 252, 253, 254, 255, 256, 257, 258, 259, 260, 261, 262, 263, 264, 265] (by decide +kernel) (by decide +kernel)
set_option maxRecDepth 20000 in
theorem gX12_node_X12_of : GoodIn wsX12_node (wsV RX12 66 RX12 yX12_of wsX12_of) := goodIn_app (goodIn_of _ (by decide +kernel)) ggX12_node_X12_of
set_option maxRecDepth 20000 in
theorem ggX12_node_X12_isPassing : GoodIn wsX12_node wsX12_isPassing := goodIn_r _ [21, 10, 22, 23, 24, 8, 25, 14, 15, 16, 17, 26, 27, 28, 29, 30, 31, 32, 33, 2, 34, 35, 36, 37, 3, 4, 38, 39, 40, 41, 42, 43, 44, 45, 46, 47, 48, 49, 50, 51, 52, 53, 54, 55, 56, 57, 58, 59, 60, 61, 62, 63, 64, 65, 66, 67, 68, 69, 70, 71, 72, 73, 74, 75, 76, 77, 78, 79, 11, 12, 13, 80, 81, 82, 83, 84, 85, 86, 87, 88, 89, 90, 91, 92, 93, 94, 95, 96, 97, 98, 99, 100, 101, 102, 103, 104, 105, 106, 107, 108, 109, 110, 111, 112, 113, 114, 115, 116, 117, 118, 119, 120, 121, 122, 123, 124, 125, 126, 127, 128, 129, 130, 131, 132, 133, 134, 135, 136, 137, 138, 139, 140, 141, 142, 143, 144, 145, 146, 147, 148, 149, 150, 151, 152, 153, 154, 155, 156, 157, 158, 159, 160, 161, 162, 163, 164, 165, 166, 167, 168, 169, 170, 171, 172, 173, 174, 175, 176, 177, 178, 179, 180, 181, 182, 183, 184, 185, 186, 187, 188, 189, 190, 191, 236, 237, 238, 239, 240, 241, 242, 243, 244, 245, 246, 247, 248, 249, 250, 251, 252, 253, 254, 255, 256, 257, 258, 259, 260, 261, 262, 263, 264, 265] (by decide +kernel) (by decide +kernel)
set_option maxRecDepth 20000 in
theorem gX12_node_X12_isPassing : GoodIn wsX12_node (wsV RX12 271 RX12 yX12_isPassing wsX12_isPassing) := goodIn_app (goodIn_of _ (by decide +kernel)) ggX12_node_X12_isPassing
set_option maxRecDepth 20000 in
theorem ggX12_node_X12_cliqueOf : GoodIn wsX12_node wsX12_cliqueOf := goodIn_r _ [195, 10, 22, 23, 24, 8, 25, 14, 15, 16, 17, 196, 197, 198, 199, 200, 201, 202, 203, 204, 205, 206, 207, 208, 209, 210, 26, 27, 28, 29, 30, 31, 32, 33, 2, 34, 35, 36, 37, 3, 4, 38, 39, 40, 41, 42, 43, 44, 45, 46, 47, 48, 49, 50, 51, 52, 53, 54, 55, 56, 57, 58, 59, 60, 61, 62, 63, 64, 65, 66, 67, 68, 69, 70, 71, 72, 73, 74, 75, 76, 77, 78, 79, 11, 12, 13, 80, 81, 82, 83, 84, 85, 86, 87, 88, 89, 90, 91, 92, 93, 94, 95, 96, 97, 98, 99, 100, 101, 102, 103, 104, 105, 106, 107, 108, 109, 110, 111, 112, 113, 114, 115, 116, 117, 118, 119, 120, 121, 122, 123, 124, 125, 126, 127, 128, 129, 130, 131, 132, 133, 134, 135, 136, 137, 138, 139, 140, 141, 142, 143, 144, 145, 146, 147, 148, 149, 150, 151, 152, 153, 154, 155, 156, 157, 158, 159, 160, 161, 162, 163, 164, 165, 166, 167, 168, 169, 170, 171, 172, 173, 174, 175, 176, 177, 178, 179, 180, 181, 182, 183, 184, 185, 186, 187, 188, 189, 190, 191, 236, 237, 238, 239, 240, 241, 242, 243, 244, 245, 246, 247, 248, 249, 250, 251, 252, 253, 254, 255, 256, 257, 258, 259, 260, 261, 262, 263, 264, 265] (by decide +kernel) (by decide +kernel)
set_option maxRecDepth 20000 in
theorem gX12_node_X12_cliqueOf : GoodIn wsX12_node (wsV RX12 350 RX12 yX12_cliqueOf wsX12_cliqueOf) := goodIn_app (goodIn_of _ (by decide +kernel)) ggX12_node_X12_cliqueOf
set_option maxRecDepth 20000 in
theorem ggX12_node_X12_middleNow : GoodIn wsX12_node wsX12_middleNow := goodIn_r _ [214, 215, 22, 23, 24, 8, 25, 14, 15, 16, 17, 10, 216, 217, 218, 219, 220, 3, 221, 222, 18, 19, 20, 21, 26, 27, 28, 29, 30, 31, 32, 33, 2, 34, 35, 36, 37, 4, 38, 39, 40, 41, 42, 43, 44, 45, 46, 47, 48, 49, 50, 51, 52, 53, 54, 55, 56, 57, 58, 59, 60, 61, 62, 63, 64, 65, 66, 67, 68, 69, 70, 71, 72, 73, 74, 75, 76, 77, 78, 79, 11, 12, 13, 80, 81, 82, 83, 84, 85, 86, 87, 88, 89, 90, 91, 92, 93, 94, 95, 96, 97, 98, 99, 100, 101, 102, 103, 104, 105, 106, 107, 108, 109, 110, 111, 112, 113, 114, 115, 116, 117, 118, 119, 120, 121, 122, 123, 124, 125, 126, 127, 128, 129, 130, 131, 132, 133, 134, 135, 136, 137, 138, 139, 140, 141, 142, 143, 144, 145, 146, 147, 148, 149, 150, 151, 152, 153, 154, 155, 156, 157, 158, 159, 160, 161, 162, 163, 164, 165, 166, 167, 168, 169, 170, 171, 172, 173, 174, 175, 176, 177, 178, 179, 180, 181, 182, 183, 184, 185, 186, 187, 188, 189, 190, 191, 207, 208, 209, 210, 223, 224, 225, 226, 227, 196, 197, 198, 228, 229, 230, 231, 236, 237, 238, 239, 240, 241, 242, 243, 244, 245, 246, 247, 248, 249, 250, 251, 252, 253, 254, 255, 256, 257, 258, 259, 260, 261, 262, 263, 264, 265] (by decide +kernel) (by decide +kernel)
set_option maxRecDepth 20000 in
theorem gX12_node_X12_middleNow : GoodIn wsX12_node (wsV RX12 353 RX12 yX12_middleNow wsX12_middleNow) := goodIn_app (goodIn_of _ (by decide +kernel)) ggX12_node_X12_middleNow
set_option maxRecDepth 20000 in
theorem ggX12_node_X12_knownOf : GoodIn wsX12_node wsX12_knownOf := goodIn_r _ [235, 10, 14, 15, 16, 8, 17, 196, 197, 198, 236, 237, 238, 239, 240, 241, 242, 243, 244, 245, 246, 247, 248, 249, 250, 251, 252, 253, 254, 255, 256, 257, 258, 259, 260, 261, 262, 263, 264, 265] (by decide +kernel) (by decide +kernel)
set_option maxRecDepth 20000 in
theorem gX12_node_X12_knownOf : GoodIn wsX12_node (wsV RX12 356 RX12 yX12_knownOf wsX12_knownOf) := goodIn_app (goodIn_of _ (by decide +kernel)) ggX12_node_X12_knownOf
set_option maxRecDepth 20000 in
theorem ggX12_node_X12_asks : GoodIn wsX12_node wsX12_asks := goodIn_r _ [37, 2, 3, 4, 38, 39, 40, 41, 10, 42, 43, 44, 14, 15, 16, 8, 17, 45, 46, 47, 48, 49, 50, 51, 52, 53, 54, 55, 56, 57, 58, 59, 60, 61, 62, 63, 64, 65, 66, 67, 68, 69, 70, 71, 72, 73, 74, 75, 76, 77, 78, 79, 11, 12, 13, 80, 81, 82, 83, 84, 85, 86, 87, 88, 89, 90, 91, 92, 93, 94, 95, 96, 97, 98, 99, 100, 101, 102, 103, 104, 105, 106, 107, 108, 109, 110, 111, 112, 113, 114, 115, 116, 117, 118, 119, 120, 121, 122, 123, 124, 125, 126, 127, 128, 129, 130, 131, 132, 133, 134, 135, 136, 137, 138, 139, 140, 141, 142, 143, 144, 145, 146, 147, 148, 149, 150, 151, 152, 153, 154, 155, 156, 157, 158, 159, 160, 161, 162, 163, 164, 165, 166, 167, 168, 169, 170, 171, 172, 173, 174, 175, 176, 177, 178, 179, 180, 181, 182, 183, 184, 185, 186, 187, 188, 189, 190, 191, 236, 237, 238, 239, 240, 241, 242, 243, 244, 245, 246, 247, 248, 249, 250, 251, 252, 253, 254, 255, 256, 257, 258, 259, 260, 261, 262, 263, 264, 265] (by decide +kernel) (by decide +kernel)
set_option maxRecDepth 20000 in
theorem gX12_node_X12_asks : GoodIn wsX12_node (wsV RX12 253 RX12 yX12_asks wsX12_asks) := goodIn_app (goodIn_of _ (by decide +kernel)) ggX12_node_X12_asks
theorem dX12_node_0 : decode cX12_node 0 = .ok (.aload_n 0, 1) := by decide +kernel
theorem dX12_node_1 : decode cX12_node 1 = .ok (.aload_n 0, 1) := by decide +kernel
theorem dX12_node_2 : decode cX12_node 2 = .ok (.iload_n 1, 1) := by decide +kernel
theorem dX12_node_3 : decode cX12_node 3 = .ok (.invokevirtual 347, 3) := by decide +kernel
theorem dX12_node_6 : decode cX12_node 6 = .ok (.ifCond .ne 7, 3) := by decide +kernel
theorem dX12_node_9 : decode cX12_node 9 = .ok (.iconst 1, 1) := by decide +kernel
theorem dX12_node_10 : decode cX12_node 10 = .ok (.goto 18, 3) := by decide +kernel
theorem dX12_node_13 : decode cX12_node 13 = .ok (.iload_n 2, 1) := by decide +kernel
theorem dX12_node_14 : decode cX12_node 14 = .ok (.iconst 0, 1) := by decide +kernel
theorem dX12_node_15 : decode cX12_node 15 = .ok (.bipush 17, 2) := by decide +kernel
theorem dX12_node_17 : decode cX12_node 17 = .ok (.invokestatic 62, 3) := by decide +kernel
theorem dX12_node_20 : decode cX12_node 20 = .ok (.ifCond .ne 7, 3) := by decide +kernel
theorem dX12_node_23 : decode cX12_node 23 = .ok (.iconst 2, 1) := by decide +kernel
theorem dX12_node_24 : decode cX12_node 24 = .ok (.goto 4, 3) := by decide +kernel
theorem dX12_node_27 : decode cX12_node 27 = .ok (.iconst 0, 1) := by decide +kernel
theorem dX12_node_28 : decode cX12_node 28 = .ok (.putfield 59, 3) := by decide +kernel
theorem dX12_node_31 : decode cX12_node 31 = .ok (.aload_n 0, 1) := by decide +kernel
theorem dX12_node_32 : decode cX12_node 32 = .ok (.getfield 59, 3) := by decide +kernel
theorem dX12_node_35 : decode cX12_node 35 = .ok (.ifCond .le 5, 3) := by decide +kernel
theorem dX12_node_38 : decode cX12_node 38 = .ok (.iconst 0, 1) := by decide +kernel
theorem dX12_node_39 : decode cX12_node 39 = .ok (.ireturn, 1) := by decide +kernel
theorem dX12_node_40 : decode cX12_node 40 = .ok (.iload_n 2, 1) := by decide +kernel
theorem dX12_node_41 : decode cX12_node 41 = .ok (.bipush 11, 2) := by decide +kernel
theorem dX12_node_43 : decode cX12_node 43 = .ok (.if_icmp .ge 10, 3) := by decide +kernel
theorem dX12_node_46 : decode cX12_node 46 = .ok (.aload_n 0, 1) := by decide +kernel
theorem dX12_node_47 : decode cX12_node 47 = .ok (.iload_n 1, 1) := by decide +kernel
theorem dX12_node_48 : decode cX12_node 48 = .ok (.iload_n 2, 1) := by decide +kernel
theorem dX12_node_49 : decode cX12_node 49 = .ok (.invokevirtual 66, 3) := by decide +kernel
theorem dX12_node_52 : decode cX12_node 52 = .ok (.ireturn, 1) := by decide +kernel
theorem dX12_node_53 : decode cX12_node 53 = .ok (.iload_n 2, 1) := by decide +kernel
theorem dX12_node_54 : decode cX12_node 54 = .ok (.bipush 14, 2) := by decide +kernel
theorem dX12_node_56 : decode cX12_node 56 = .ok (.if_icmp .ne 17, 3) := by decide +kernel
theorem dX12_node_59 : decode cX12_node 59 = .ok (.aload_n 0, 1) := by decide +kernel
theorem dX12_node_60 : decode cX12_node 60 = .ok (.iload_n 1, 1) := by decide +kernel
theorem dX12_node_61 : decode cX12_node 61 = .ok (.invokevirtual 271, 3) := by decide +kernel
theorem dX12_node_64 : decode cX12_node 64 = .ok (.ifCond .eq 7, 3) := by decide +kernel
theorem dX12_node_67 : decode cX12_node 67 = .ok (.iconst 1, 1) := by decide +kernel
theorem dX12_node_68 : decode cX12_node 68 = .ok (.goto 4, 3) := by decide +kernel
theorem dX12_node_71 : decode cX12_node 71 = .ok (.iconst 0, 1) := by decide +kernel
theorem dX12_node_72 : decode cX12_node 72 = .ok (.ireturn, 1) := by decide +kernel
theorem dX12_node_73 : decode cX12_node 73 = .ok (.iload_n 2, 1) := by decide +kernel
theorem dX12_node_74 : decode cX12_node 74 = .ok (.bipush 15, 2) := by decide +kernel
theorem dX12_node_76 : decode cX12_node 76 = .ok (.if_icmp .ne 9, 3) := by decide +kernel
theorem dX12_node_79 : decode cX12_node 79 = .ok (.aload_n 0, 1) := by decide +kernel
theorem dX12_node_80 : decode cX12_node 80 = .ok (.iload_n 1, 1) := by decide +kernel
theorem dX12_node_81 : decode cX12_node 81 = .ok (.invokevirtual 350, 3) := by decide +kernel
theorem dX12_node_84 : decode cX12_node 84 = .ok (.ireturn, 1) := by decide +kernel
theorem dX12_node_85 : decode cX12_node 85 = .ok (.iload_n 2, 1) := by decide +kernel
theorem dX12_node_86 : decode cX12_node 86 = .ok (.bipush 16, 2) := by decide +kernel
theorem dX12_node_88 : decode cX12_node 88 = .ok (.if_icmp .ne 9, 3) := by decide +kernel
theorem dX12_node_91 : decode cX12_node 91 = .ok (.aload_n 0, 1) := by decide +kernel
theorem dX12_node_92 : decode cX12_node 92 = .ok (.iload_n 1, 1) := by decide +kernel
theorem dX12_node_93 : decode cX12_node 93 = .ok (.invokevirtual 353, 3) := by decide +kernel
theorem dX12_node_96 : decode cX12_node 96 = .ok (.ireturn, 1) := by decide +kernel
theorem dX12_node_97 : decode cX12_node 97 = .ok (.iload_n 2, 1) := by decide +kernel
theorem dX12_node_98 : decode cX12_node 98 = .ok (.bipush 17, 2) := by decide +kernel
theorem dX12_node_100 : decode cX12_node 100 = .ok (.if_icmp .ne 9, 3) := by decide +kernel
theorem dX12_node_103 : decode cX12_node 103 = .ok (.aload_n 0, 1) := by decide +kernel
theorem dX12_node_104 : decode cX12_node 104 = .ok (.iload_n 1, 1) := by decide +kernel
theorem dX12_node_105 : decode cX12_node 105 = .ok (.invokevirtual 356, 3) := by decide +kernel
theorem dX12_node_108 : decode cX12_node 108 = .ok (.ireturn, 1) := by decide +kernel
theorem dX12_node_109 : decode cX12_node 109 = .ok (.aload_n 0, 1) := by decide +kernel
theorem dX12_node_110 : decode cX12_node 110 = .ok (.iload_n 1, 1) := by decide +kernel
theorem dX12_node_111 : decode cX12_node 111 = .ok (.invokevirtual 253, 3) := by decide +kernel
theorem dX12_node_114 : decode cX12_node 114 = .ok (.iload_n 2, 1) := by decide +kernel
theorem dX12_node_115 : decode cX12_node 115 = .ok (.bipush 11, 2) := by decide +kernel
theorem dX12_node_117 : decode cX12_node 117 = .ok (.if_icmp .ne 10, 3) := by decide +kernel
theorem dX12_node_120 : decode cX12_node 120 = .ok (.aload_n 0, 1) := by decide +kernel
theorem dX12_node_121 : decode cX12_node 121 = .ok (.getfield 240, 3) := by decide +kernel
theorem dX12_node_124 : decode cX12_node 124 = .ok (.goto 20, 3) := by decide +kernel
theorem dX12_node_127 : decode cX12_node 127 = .ok (.iload_n 2, 1) := by decide +kernel
theorem dX12_node_128 : decode cX12_node 128 = .ok (.bipush 12, 2) := by decide +kernel
theorem dX12_node_130 : decode cX12_node 130 = .ok (.if_icmp .ne 10, 3) := by decide +kernel
theorem dX12_node_133 : decode cX12_node 133 = .ok (.aload_n 0, 1) := by decide +kernel
theorem dX12_node_134 : decode cX12_node 134 = .ok (.getfield 242, 3) := by decide +kernel
theorem dX12_node_137 : decode cX12_node 137 = .ok (.goto 7, 3) := by decide +kernel
theorem dX12_node_140 : decode cX12_node 140 = .ok (.aload_n 0, 1) := by decide +kernel
theorem dX12_node_141 : decode cX12_node 141 = .ok (.getfield 245, 3) := by decide +kernel
theorem dX12_node_144 : decode cX12_node 144 = .ok (.ireturn, 1) := by decide +kernel
set_option maxRecDepth 20000 in
theorem ggX12_areTwo_X12_isNode : GoodIn wsX12_areTwo wsX12_isNode := goodIn_r _ [6, 7, 8, 9, 5, 10, 11, 12, 13, 14, 15, 16, 17, 18, 19, 20, 21, 22, 23, 24, 25, 26, 27, 28, 29, 30, 31, 32, 33, 34, 35, 36, 37, 38, 39, 40] (by decide +kernel) (by decide +kernel)
set_option maxRecDepth 20000 in
theorem gX12_areTwo_X12_isNode : GoodIn wsX12_areTwo (wsV RX12 347 RX12 yX12_isNode wsX12_isNode) := goodIn_app (goodIn_of _ (by decide +kernel)) ggX12_areTwo_X12_isNode
theorem dX12_areTwo_0 : decode cX12_areTwo 0 = .ok (.aload_n 0, 1) := by decide +kernel
theorem dX12_areTwo_1 : decode cX12_areTwo 1 = .ok (.aload_n 0, 1) := by decide +kernel
theorem dX12_areTwo_2 : decode cX12_areTwo 2 = .ok (.iload_n 1, 1) := by decide +kernel
theorem dX12_areTwo_3 : decode cX12_areTwo 3 = .ok (.invokevirtual 347, 3) := by decide +kernel
theorem dX12_areTwo_6 : decode cX12_areTwo 6 = .ok (.ifCond .eq 11, 3) := by decide +kernel
theorem dX12_areTwo_9 : decode cX12_areTwo 9 = .ok (.aload_n 0, 1) := by decide +kernel
theorem dX12_areTwo_10 : decode cX12_areTwo 10 = .ok (.iload_n 2, 1) := by decide +kernel
theorem dX12_areTwo_11 : decode cX12_areTwo 11 = .ok (.invokevirtual 347, 3) := by decide +kernel
theorem dX12_areTwo_14 : decode cX12_areTwo 14 = .ok (.ifCond .ne 7, 3) := by decide +kernel
theorem dX12_areTwo_17 : decode cX12_areTwo 17 = .ok (.iconst 1, 1) := by decide +kernel
theorem dX12_areTwo_18 : decode cX12_areTwo 18 = .ok (.goto 13, 3) := by decide +kernel
theorem dX12_areTwo_21 : decode cX12_areTwo 21 = .ok (.iload_n 1, 1) := by decide +kernel
theorem dX12_areTwo_22 : decode cX12_areTwo 22 = .ok (.iload_n 2, 1) := by decide +kernel
theorem dX12_areTwo_23 : decode cX12_areTwo 23 = .ok (.if_icmp .ne 7, 3) := by decide +kernel
theorem dX12_areTwo_26 : decode cX12_areTwo 26 = .ok (.iconst 2, 1) := by decide +kernel
theorem dX12_areTwo_27 : decode cX12_areTwo 27 = .ok (.goto 4, 3) := by decide +kernel
theorem dX12_areTwo_30 : decode cX12_areTwo 30 = .ok (.iconst 0, 1) := by decide +kernel
theorem dX12_areTwo_31 : decode cX12_areTwo 31 = .ok (.putfield 59, 3) := by decide +kernel
theorem dX12_areTwo_34 : decode cX12_areTwo 34 = .ok (.return_, 1) := by decide +kernel
set_option maxRecDepth 20000 in
theorem ggX12_shift_X12_areTwo : GoodIn wsX12_shift wsX12_areTwo := goodIn_r _ [6, 1, 7, 8, 9, 5, 10, 11, 12, 13, 14, 192, 193, 194, 195, 196, 197, 198, 199, 200, 201, 202, 203, 204, 205, 206, 207, 208, 209, 210, 211, 212, 213, 214, 215, 216, 217, 218, 219, 220, 221] (by decide +kernel) (by decide +kernel)
set_option maxRecDepth 20000 in
theorem gX12_shift_X12_areTwo : GoodIn wsX12_shift (wsV RX12 359 RX12 yX12_areTwo wsX12_areTwo) := goodIn_app (goodIn_of _ (by decide +kernel)) ggX12_shift_X12_areTwo
set_option maxRecDepth 20000 in
theorem ggX12_shift_X12_shiftOf : GoodIn wsX12_shift wsX12_shiftOf := goodIn_r _ [18, 19, 20, 21, 5, 22, 23, 24, 25, 26, 11, 27, 28, 29, 30, 31, 32, 33, 34, 35, 36, 37, 38, 39, 40, 41, 42, 43, 44, 45, 46, 47, 48, 49, 50, 51, 52, 53, 54, 55, 56, 57, 58, 59, 60, 61, 62, 63, 64, 65, 66, 67, 68, 69, 70, 71, 72, 73, 74, 75, 76, 77, 78, 79, 12, 13, 14, 80, 81, 82, 83, 84, 85, 86, 87, 88, 89, 90, 91, 92, 93, 94, 95, 96, 97, 98, 99, 100, 101, 102, 103, 104, 105, 106, 107, 108, 109, 110, 111, 112, 113, 114, 115, 116, 117, 118, 119, 120, 121, 122, 123, 124, 125, 126, 127, 128, 129, 130, 131, 132, 133, 134, 135, 136, 137, 138, 139, 140, 141, 142, 143, 144, 145, 146, 147, 148, 149, 150, 151, 152, 153, 154, 155, 156, 157, 158, 159, 160, 161, 162, 163, 164, 165, 166, 167, 168, 169, 170, 171, 172, 173, 174, 175, 176, 177, 178, 179, 180, 181, 182, 183, 184, 185, 186, 187, 188, 189, 190, 191, 192, 193, 194, 195, 196, 197, 198, 199, 200, 201, 202, 203, 204, 205, 206, 207, 208, 209, 210, 211, 212, 213, 214, 215, 216, 217, 218, 219, 220, 221] (by decide +kernel) (by decide +kernel)
set_option maxRecDepth 20000 in
theorem gX12_shift_X12_shiftOf : GoodIn wsX12_shift (wsV RX12 265 RX12 yX12_shiftOf wsX12_shiftOf) := goodIn_app (goodIn_of _ (by decide +kernel)) ggX12_shift_X12_shiftOf
theorem dX12_shift_0 : decode cX12_shift 0 = .ok (.aload_n 0, 1) := by decide +kernel
theorem dX12_shift_1 : decode cX12_shift 1 = .ok (.iload_n 1, 1) := by decide +kernel
theorem dX12_shift_2 : decode cX12_shift 2 = .ok (.iload_n 2, 1) := by decide +kernel
theorem dX12_shift_3 : decode cX12_shift 3 = .ok (.invokevirtual 359, 3) := by decide +kernel
