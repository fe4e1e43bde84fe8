theorem dX7_rowOf_29 : decode cX7_rowOf 29 = .ok (.iadd, 1) := by decide +kernel
theorem dX7_rowOf_30 : decode cX7_rowOf 30 = .ok (.iconst 1, 1) := by decide +kernel
theorem dX7_rowOf_31 : decode cX7_rowOf 31 = .ok (.isub, 1) := by decide +kernel
theorem dX7_rowOf_32 : decode cX7_rowOf 32 = .ok (.iload_n 1, 1) := by decide +kernel
theorem dX7_rowOf_33 : decode cX7_rowOf 33 = .ok (.isub, 1) := by decide +kernel
theorem dX7_rowOf_34 : decode cX7_rowOf 34 = .ok (.bipush 60, 2) := by decide +kernel
theorem dX7_rowOf_36 : decode cX7_rowOf 36 = .ok (.irem, 1) := by decide +kernel
theorem dX7_rowOf_37 : decode cX7_rowOf 37 = .ok (.istore_n 3, 1) := by decide +kernel
theorem dX7_rowOf_38 : decode cX7_rowOf 38 = .ok (.iconst 4, 1) := by decide +kernel
theorem dX7_rowOf_39 : decode cX7_rowOf 39 = .ok (.iload_n 3, 1) := by decide +kernel
theorem dX7_rowOf_40 : decode cX7_rowOf 40 = .ok (.imul, 1) := by decide +kernel
theorem dX7_rowOf_41 : decode cX7_rowOf 41 = .ok (.iload_n 2, 1) := by decide +kernel
theorem dX7_rowOf_42 : decode cX7_rowOf 42 = .ok (.iadd, 1) := by decide +kernel
theorem dX7_rowOf_43 : decode cX7_rowOf 43 = .ok (.istore 4, 2) := by decide +kernel
theorem dX7_rowOf_45 : decode cX7_rowOf 45 = .ok (.iload 4, 2) := by decide +kernel
theorem dX7_rowOf_47 : decode cX7_rowOf 47 = .ok (.ifCond .lt 23, 3) := by decide +kernel
theorem dX7_rowOf_50 : decode cX7_rowOf 50 = .ok (.iload 4, 2) := by decide +kernel
theorem dX7_rowOf_52 : decode cX7_rowOf 52 = .ok (.aload_n 0, 1) := by decide +kernel
theorem dX7_rowOf_53 : decode cX7_rowOf 53 = .ok (.getfield 17, 3) := by decide +kernel
theorem dX7_rowOf_56 : decode cX7_rowOf 56 = .ok (.arraylength, 1) := by decide +kernel
theorem dX7_rowOf_57 : decode cX7_rowOf 57 = .ok (.if_icmp .ge 13, 3) := by decide +kernel
theorem dX7_rowOf_60 : decode cX7_rowOf 60 = .ok (.aload_n 0, 1) := by decide +kernel
theorem dX7_rowOf_61 : decode cX7_rowOf 61 = .ok (.getfield 17, 3) := by decide +kernel
theorem dX7_rowOf_64 : decode cX7_rowOf 64 = .ok (.iload 4, 2) := by decide +kernel
theorem dX7_rowOf_66 : decode cX7_rowOf 66 = .ok (.iaload, 1) := by decide +kernel
theorem dX7_rowOf_67 : decode cX7_rowOf 67 = .ok (.goto 4, 3) := by decide +kernel
theorem dX7_rowOf_70 : decode cX7_rowOf 70 = .ok (.iconst (-1), 1) := by decide +kernel
theorem dX7_rowOf_71 : decode cX7_rowOf 71 = .ok (.ireturn, 1) := by decide +kernel
theorem dX8_init_0 : decode cX8_init 0 = .ok (.aload_n 0, 1) := by decide +kernel
theorem dX8_init_1 : decode cX8_init 1 = .ok (.invokespecial 3, 3) := by decide +kernel
theorem dX8_init_4 : decode cX8_init 4 = .ok (.aload_n 0, 1) := by decide +kernel
theorem dX8_init_5 : decode cX8_init 5 = .ok (.iconst (-1), 1) := by decide +kernel
theorem dX8_init_6 : decode cX8_init 6 = .ok (.putfield 9, 3) := by decide +kernel
theorem dX8_init_9 : decode cX8_init 9 = .ok (.aload_n 0, 1) := by decide +kernel
theorem dX8_init_10 : decode cX8_init 10 = .ok (.sipush 401, 3) := by decide +kernel
theorem dX8_init_13 : decode cX8_init 13 = .ok (.newarray .int, 2) := by decide +kernel
theorem dX8_init_15 : decode cX8_init 15 = .ok (.putfield 15, 3) := by decide +kernel
theorem dX8_init_18 : decode cX8_init 18 = .ok (.aload_n 0, 1) := by decide +kernel
theorem dX8_init_19 : decode cX8_init 19 = .ok (.sipush 401, 3) := by decide +kernel
theorem dX8_init_22 : decode cX8_init 22 = .ok (.newarray .int, 2) := by decide +kernel
theorem dX8_init_24 : decode cX8_init 24 = .ok (.putfield 19, 3) := by decide +kernel
theorem dX8_init_27 : decode cX8_init 27 = .ok (.return_, 1) := by decide +kernel
set_option maxRecDepth 20000 in
theorem ggX8_load_X8_isLetter : GoodIn wsX8_load wsX8_isLetter := goodIn_r _ [11] (by decide +kernel) (by decide +kernel)
set_option maxRecDepth 20000 in
theorem gX8_load_X8_isLetter : GoodIn wsX8_load (va_wsS RX8 34 yX8_isLetter wsX8_isLetter) := goodIn_app (goodIn_of _ (by decide +kernel)) ggX8_load_X8_isLetter
set_option maxRecDepth 20000 in
theorem ggX8_load_X8_isDigit : GoodIn wsX8_load wsX8_isDigit := goodIn_r _ [14] (by decide +kernel) (by decide +kernel)
set_option maxRecDepth 20000 in
theorem gX8_load_X8_isDigit : GoodIn wsX8_load (va_wsS RX8 38 yX8_isDigit wsX8_isDigit) := goodIn_app (goodIn_of _ (by decide +kernel)) ggX8_load_X8_isDigit
set_option maxRecDepth 20000 in
theorem ggX8_load_X8_wordAt : GoodIn wsX8_load wsX8_wordAt := goodIn_r _ [17, 18, 19, 20, 21, 22, 23, 24, 25, 26, 27, 28, 29, 30, 31, 32, 33, 34, 35, 36, 37, 38, 39, 40, 41, 42, 43, 44, 45, 46, 47, 48, 49, 50, 51, 52, 53, 54, 55, 56, 57, 58, 59, 60, 61, 62, 63, 64, 65, 66, 8, 9, 10, 11] (by decide +kernel) (by decide +kernel)
set_option maxRecDepth 20000 in
theorem gX8_load_X8_wordAt : GoodIn wsX8_load (va_wsS RX8 41 yX8_wordAt wsX8_wordAt) := goodIn_app (goodIn_of _ (by decide +kernel)) ggX8_load_X8_wordAt
set_option maxRecDepth 20000 in
theorem ggX8_load_X8_numberAt : GoodIn wsX8_load wsX8_numberAt := goodIn_r _ [69, 12, 13, 10, 14] (by decide +kernel) (by decide +kernel)
set_option maxRecDepth 20000 in
theorem gX8_load_X8_numberAt : GoodIn wsX8_load (va_wsS RX8 45 yX8_numberAt wsX8_numberAt) := goodIn_app (goodIn_of _ (by decide +kernel)) ggX8_load_X8_numberAt
set_option maxRecDepth 20000 in
theorem ggX8_load_X8_put : GoodIn wsX8_load wsX8_put := goodIn_r _ [73, 1, 74, 75, 76, 77, 78, 79, 80] (by decide +kernel) (by decide +kernel)
set_option maxRecDepth 20000 in
theorem gX8_load_X8_put : GoodIn wsX8_load (wsV RX8 48 RX8 yX8_put wsX8_put) := goodIn_app (goodIn_of _ (by decide +kernel)) ggX8_load_X8_put
theorem dX8_load_0 : decode cX8_load 0 = .ok (.aload_n 0, 1) := by decide +kernel
theorem dX8_load_1 : decode cX8_load 1 = .ok (.iconst 0, 1) := by decide +kernel
theorem dX8_load_2 : decode cX8_load 2 = .ok (.putfield 22, 3) := by decide +kernel
theorem dX8_load_5 : decode cX8_load 5 = .ok (.aload_n 0, 1) := by decide +kernel
theorem dX8_load_6 : decode cX8_load 6 = .ok (.iconst 0, 1) := by decide +kernel
theorem dX8_load_7 : decode cX8_load 7 = .ok (.putfield 25, 3) := by decide +kernel
theorem dX8_load_10 : decode cX8_load 10 = .ok (.aload_n 0, 1) := by decide +kernel
theorem dX8_load_11 : decode cX8_load 11 = .ok (.iconst (-1), 1) := by decide +kernel
theorem dX8_load_12 : decode cX8_load 12 = .ok (.putfield 9, 3) := by decide +kernel
theorem dX8_load_15 : decode cX8_load 15 = .ok (.iload_n 2, 1) := by decide +kernel
theorem dX8_load_16 : decode cX8_load 16 = .ok (.aload_n 1, 1) := by decide +kernel
theorem dX8_load_17 : decode cX8_load 17 = .ok (.arraylength, 1) := by decide +kernel
theorem dX8_load_18 : decode cX8_load 18 = .ok (.invokestatic 28, 3) := by decide +kernel
theorem dX8_load_21 : decode cX8_load 21 = .ok (.istore_n 3, 1) := by decide +kernel
theorem dX8_load_22 : decode cX8_load 22 = .ok (.bipush 32, 2) := by decide +kernel
theorem dX8_load_24 : decode cX8_load 24 = .ok (.istore 4, 2) := by decide +kernel
theorem dX8_load_26 : decode cX8_load 26 = .ok (.iconst 0, 1) := by decide +kernel
theorem dX8_load_27 : decode cX8_load 27 = .ok (.istore 5, 2) := by decide +kernel
theorem dX8_load_29 : decode cX8_load 29 = .ok (.iload 5, 2) := by decide +kernel
theorem dX8_load_31 : decode cX8_load 31 = .ok (.iload_n 3, 1) := by decide +kernel
theorem dX8_load_32 : decode cX8_load 32 = .ok (.if_icmp .ge 118, 3) := by decide +kernel
theorem dX8_load_35 : decode cX8_load 35 = .ok (.aload_n 1, 1) := by decide +kernel
theorem dX8_load_36 : decode cX8_load 36 = .ok (.iload 5, 2) := by decide +kernel
theorem dX8_load_38 : decode cX8_load 38 = .ok (.iaload, 1) := by decide +kernel
theorem dX8_load_39 : decode cX8_load 39 = .ok (.istore 6, 2) := by decide +kernel
theorem dX8_load_41 : decode cX8_load 41 = .ok (.iload 6, 2) := by decide +kernel
theorem dX8_load_43 : decode cX8_load 43 = .ok (.invokestatic 34, 3) := by decide +kernel
theorem dX8_load_46 : decode cX8_load 46 = .ok (.ifCond .eq 11, 3) := by decide +kernel
theorem dX8_load_49 : decode cX8_load 49 = .ok (.iload 4, 2) := by decide +kernel
theorem dX8_load_51 : decode cX8_load 51 = .ok (.invokestatic 34, 3) := by decide +kernel
theorem dX8_load_54 : decode cX8_load 54 = .ok (.ifCond .ne 19, 3) := by decide +kernel
theorem dX8_load_57 : decode cX8_load 57 = .ok (.iload 6, 2) := by decide +kernel
theorem dX8_load_59 : decode cX8_load 59 = .ok (.invokestatic 38, 3) := by decide +kernel
theorem dX8_load_62 : decode cX8_load 62 = .ok (.ifCond .eq 15, 3) := by decide +kernel
theorem dX8_load_65 : decode cX8_load 65 = .ok (.iload 4, 2) := by decide +kernel
theorem dX8_load_67 : decode cX8_load 67 = .ok (.invokestatic 38, 3) := by decide +kernel
theorem dX8_load_70 : decode cX8_load 70 = .ok (.ifCond .eq 7, 3) := by decide +kernel
theorem dX8_load_73 : decode cX8_load 73 = .ok (.iconst 1, 1) := by decide +kernel
theorem dX8_load_74 : decode cX8_load 74 = .ok (.goto 4, 3) := by decide +kernel
theorem dX8_load_77 : decode cX8_load 77 = .ok (.iconst 0, 1) := by decide +kernel
theorem dX8_load_78 : decode cX8_load 78 = .ok (.istore 7, 2) := by decide +kernel
theorem dX8_load_80 : decode cX8_load 80 = .ok (.iload 6, 2) := by decide +kernel
theorem dX8_load_82 : decode cX8_load 82 = .ok (.bipush 32, 2) := by decide +kernel
theorem dX8_load_84 : decode cX8_load 84 = .ok (.if_icmp .eq 56, 3) := by decide +kernel
theorem dX8_load_87 : decode cX8_load 87 = .ok (.iload 7, 2) := by decide +kernel
theorem dX8_load_89 : decode cX8_load 89 = .ok (.ifCond .ne 51, 3) := by decide +kernel
theorem dX8_load_92 : decode cX8_load 92 = .ok (.aload_n 0, 1) := by decide +kernel
theorem dX8_load_93 : decode cX8_load 93 = .ok (.iload 5, 2) := by decide +kernel
theorem dX8_load_95 : decode cX8_load 95 = .ok (.iload 6, 2) := by decide +kernel
theorem dX8_load_97 : decode cX8_load 97 = .ok (.invokestatic 34, 3) := by decide +kernel
theorem dX8_load_100 : decode cX8_load 100 = .ok (.ifCond .eq 13, 3) := by decide +kernel
theorem dX8_load_103 : decode cX8_load 103 = .ok (.aload_n 1, 1) := by decide +kernel
theorem dX8_load_104 : decode cX8_load 104 = .ok (.iload 5, 2) := by decide +kernel
theorem dX8_load_106 : decode cX8_load 106 = .ok (.iload_n 3, 1) := by decide +kernel
theorem dX8_load_107 : decode cX8_load 107 = .ok (.invokestatic 41, 3) := by decide +kernel
theorem dX8_load_110 : decode cX8_load 110 = .ok (.goto 27, 3) := by decide +kernel
theorem dX8_load_113 : decode cX8_load 113 = .ok (.iload 6, 2) := by decide +kernel
theorem dX8_load_115 : decode cX8_load 115 = .ok (.invokestatic 38, 3) := by decide +kernel
theorem dX8_load_118 : decode cX8_load 118 = .ok (.ifCond .eq 13, 3) := by decide +kernel
theorem dX8_load_121 : decode cX8_load 121 = .ok (.aload_n 1, 1) := by decide +kernel
theorem dX8_load_122 : decode cX8_load 122 = .ok (.iload 5, 2) := by decide +kernel
theorem dX8_load_124 : decode cX8_load 124 = .ok (.iload_n 3, 1) := by decide +kernel
theorem dX8_load_125 : decode cX8_load 125 = .ok (.invokestatic 45, 3) := by decide +kernel
theorem dX8_load_128 : decode cX8_load 128 = .ok (.goto 9, 3) := by decide +kernel
theorem dX8_load_131 : decode cX8_load 131 = .ok (.sipush 2000, 3) := by decide +kernel
theorem dX8_load_134 : decode cX8_load 134 = .ok (.iload 6, 2) := by decide +kernel
theorem dX8_load_136 : decode cX8_load 136 = .ok (.iadd, 1) := by decide +kernel
theorem dX8_load_137 : decode cX8_load 137 = .ok (.invokevirtual 48, 3) := by decide +kernel
theorem dX8_load_140 : decode cX8_load 140 = .ok (.iload 6, 2) := by decide +kernel
theorem dX8_load_142 : decode cX8_load 142 = .ok (.istore 4, 2) := by decide +kernel
theorem dX8_load_144 : decode cX8_load 144 = .ok (.iinc 5 1, 3) := by decide +kernel
theorem dX8_load_147 : decode cX8_load 147 = .ok (.goto (-118), 3) := by decide +kernel
theorem dX8_load_150 : decode cX8_load 150 = .ok (.aload_n 0, 1) := by decide +kernel
theorem dX8_load_151 : decode cX8_load 151 = .ok (.iload_n 3, 1) := by decide +kernel
theorem dX8_load_152 : decode cX8_load 152 = .ok (.sipush 3001, 3) := by decide +kernel
theorem dX8_load_155 : decode cX8_load 155 = .ok (.invokevirtual 48, 3) := by decide +kernel
theorem dX8_load_158 : decode cX8_load 158 = .ok (.return_, 1) := by decide +kernel
theorem dX8_isLetter_0 : decode cX8_isLetter 0 = .ok (.iload_n 0, 1) := by decide +kernel
theorem dX8_isLetter_1 : decode cX8_isLetter 1 = .ok (.bipush 97, 2) := by decide +kernel
theorem dX8_isLetter_3 : decode cX8_isLetter 3 = .ok (.if_icmp .lt 13, 3) := by decide +kernel
theorem dX8_isLetter_6 : decode cX8_isLetter 6 = .ok (.iload_n 0, 1) := by decide +kernel
theorem dX8_isLetter_7 : decode cX8_isLetter 7 = .ok (.bipush 122, 2) := by decide +kernel
theorem dX8_isLetter_9 : decode cX8_isLetter 9 = .ok (.if_icmp .gt 7, 3) := by decide +kernel
theorem dX8_isLetter_12 : decode cX8_isLetter 12 = .ok (.iconst 1, 1) := by decide +kernel
theorem dX8_isLetter_13 : decode cX8_isLetter 13 = .ok (.goto 4, 3) := by decide +kernel
theorem dX8_isLetter_16 : decode cX8_isLetter 16 = .ok (.iconst 0, 1) := by decide +kernel
theorem dX8_isLetter_17 : decode cX8_isLetter 17 = .ok (.ireturn, 1) := by decide +kernel
theorem dX8_isDigit_0 : decode cX8_isDigit 0 = .ok (.iload_n 0, 1) := by decide +kernel
theorem dX8_isDigit_1 : decode cX8_isDigit 1 = .ok (.bipush 48, 2) := by decide +kernel
theorem dX8_isDigit_3 : decode cX8_isDigit 3 = .ok (.if_icmp .lt 13, 3) := by decide +kernel
theorem dX8_isDigit_6 : decode cX8_isDigit 6 = .ok (.iload_n 0, 1) := by decide +kernel
theorem dX8_isDigit_7 : decode cX8_isDigit 7 = .ok (.bipush 57, 2) := by decide +kernel
theorem dX8_isDigit_9 : decode cX8_isDigit 9 = .ok (.if_icmp .gt 7, 3) := by decide +kernel
theorem dX8_isDigit_12 : decode cX8_isDigit 12 = .ok (.iconst 1, 1) := by decide +kernel
theorem dX8_isDigit_13 : decode cX8_isDigit 13 = .ok (.goto 4, 3) := by decide +kernel
theorem dX8_isDigit_16 : decode cX8_isDigit 16 = .ok (.iconst 0, 1) := by decide +kernel
theorem dX8_isDigit_17 : decode cX8_isDigit 17 = .ok (.ireturn, 1) := by decide +kernel
theorem dX8_put_0 : decode cX8_put 0 = .ok (.aload_n 0, 1) := by decide +kernel
theorem dX8_put_1 : decode cX8_put 1 = .ok (.getfield 22, 3) := by decide +kernel
theorem dX8_put_4 : decode cX8_put 4 = .ok (.aload_n 0, 1) := by decide +kernel
theorem dX8_put_5 : decode cX8_put 5 = .ok (.getfield 15, 3) := by decide +kernel
theorem dX8_put_8 : decode cX8_put 8 = .ok (.arraylength, 1) := by decide +kernel
theorem dX8_put_9 : decode cX8_put 9 = .ok (.if_icmp .ge 33, 3) := by decide +kernel
theorem dX8_put_12 : decode cX8_put 12 = .ok (.aload_n 0, 1) := by decide +kernel
theorem dX8_put_13 : decode cX8_put 13 = .ok (.getfield 15, 3) := by decide +kernel
theorem dX8_put_16 : decode cX8_put 16 = .ok (.aload_n 0, 1) := by decide +kernel
theorem dX8_put_17 : decode cX8_put 17 = .ok (.getfield 22, 3) := by decide +kernel
theorem dX8_put_20 : decode cX8_put 20 = .ok (.iload_n 2, 1) := by decide +kernel
theorem dX8_put_21 : decode cX8_put 21 = .ok (.iastore, 1) := by decide +kernel
theorem dX8_put_22 : decode cX8_put 22 = .ok (.aload_n 0, 1) := by decide +kernel
theorem dX8_put_23 : decode cX8_put 23 = .ok (.getfield 19, 3) := by decide +kernel
theorem dX8_put_26 : decode cX8_put 26 = .ok (.aload_n 0, 1) := by decide +kernel
theorem dX8_put_27 : decode cX8_put 27 = .ok (.getfield 22, 3) := by decide +kernel
theorem dX8_put_30 : decode cX8_put 30 = .ok (.iload_n 1, 1) := by decide +kernel
theorem dX8_put_31 : decode cX8_put 31 = .ok (.iastore, 1) := by decide +kernel
theorem dX8_put_32 : decode cX8_put 32 = .ok (.aload_n 0, 1) := by decide +kernel
theorem dX8_put_33 : decode cX8_put 33 = .ok (.dup, 1) := by decide +kernel
theorem dX8_put_34 : decode cX8_put 34 = .ok (.getfield 22, 3) := by decide +kernel
theorem dX8_put_37 : decode cX8_put 37 = .ok (.iconst 1, 1) := by decide +kernel
theorem dX8_put_38 : decode cX8_put 38 = .ok (.iadd, 1) := by decide +kernel
theorem dX8_put_39 : decode cX8_put 39 = .ok (.putfield 22, 3) := by decide +kernel
theorem dX8_put_42 : decode cX8_put 42 = .ok (.return_, 1) := by decide +kernel
set_option maxRecDepth 20000 in
theorem ggX8_wordAt_J0_length_8abf5 : GoodIn wsX8_wordAt wsJ0_length_8abf5 := goodIn_r _ [5, 6, 7, 8, 9, 4, 10, 11, 12] (by decide +kernel) (by decide +kernel)
set_option maxRecDepth 20000 in
theorem gX8_wordAt_J0_length_8abf5 : GoodIn wsX8_wordAt (wsV RX8 54 RJ0 yJ0_length_8abf5 wsJ0_length_8abf5) := goodIn_app (goodIn_of _ (by decide +kernel)) ggX8_wordAt_J0_length_8abf5
set_option maxRecDepth 20000 in
theorem ggX8_wordAt_J0_charAt_5068e : GoodIn wsX8_wordAt wsJ0_charAt_5068e := goodIn_r _ [16, 6, 17, 18, 19, 4, 20, 11, 12, 21, 22, 23, 24, 25, 26, 27, 28, 29, 30, 31, 32, 33, 34, 35, 36, 37, 38, 39, 40, 41, 42, 43, 44, 45, 46, 47, 48, 49] (by decide +kernel) (by decide +kernel)
set_option maxRecDepth 20000 in
theorem gX8_wordAt_J0_charAt_5068e : GoodIn wsX8_wordAt (wsV RX8 60 RJ0 yJ0_charAt_5068e wsJ0_charAt_5068e) := goodIn_app (goodIn_of _ (by decide +kernel)) ggX8_wordAt_J0_charAt_5068e
set_option maxRecDepth 20000 in
theorem ggX8_wordAt_X8_isLetter : GoodIn wsX8_wordAt wsX8_isLetter := goodIn_r _ [53] (by decide +kernel) (by decide +kernel)
set_option maxRecDepth 20000 in
theorem gX8_wordAt_X8_isLetter : GoodIn wsX8_wordAt (va_wsS RX8 34 yX8_isLetter wsX8_isLetter) := goodIn_app (goodIn_of _ (by decide +kernel)) ggX8_wordAt_X8_isLetter
theorem dX8_wordAt_0 : decode cX8_wordAt 0 = .ok (.iload_n 1, 1) := by decide +kernel
theorem dX8_wordAt_1 : decode cX8_wordAt 1 = .ok (.istore_n 3, 1) := by decide +kernel
theorem dX8_wordAt_2 : decode cX8_wordAt 2 = .ok (.iconst 1, 1) := by decide +kernel
theorem dX8_wordAt_3 : decode cX8_wordAt 3 = .ok (.istore 4, 2) := by decide +kernel
theorem dX8_wordAt_5 : decode cX8_wordAt 5 = .ok (.sipush 1000, 3) := by decide +kernel
theorem dX8_wordAt_8 : decode cX8_wordAt 8 = .ok (.istore 5, 2) := by decide +kernel
theorem dX8_wordAt_10 : decode cX8_wordAt 10 = .ok (.iconst 0, 1) := by decide +kernel
theorem dX8_wordAt_11 : decode cX8_wordAt 11 = .ok (.istore 6, 2) := by decide +kernel
theorem dX8_wordAt_13 : decode cX8_wordAt 13 = .ok (.iload 6, 2) := by decide +kernel
theorem dX8_wordAt_15 : decode cX8_wordAt 15 = .ok (.ldc 52, 2) := by decide +kernel
theorem dX8_wordAt_17 : decode cX8_wordAt 17 = .ok (.invokevirtual 54, 3) := by decide +kernel
theorem dX8_wordAt_20 : decode cX8_wordAt 20 = .ok (.if_icmp .ge 86, 3) := by decide +kernel
theorem dX8_wordAt_23 : decode cX8_wordAt 23 = .ok (.ldc 52, 2) := by decide +kernel
theorem dX8_wordAt_25 : decode cX8_wordAt 25 = .ok (.iload 6, 2) := by decide +kernel
theorem dX8_wordAt_27 : decode cX8_wordAt 27 = .ok (.invokevirtual 60, 3) := by decide +kernel
theorem dX8_wordAt_30 : decode cX8_wordAt 30 = .ok (.istore 7, 2) := by decide +kernel
theorem dX8_wordAt_32 : decode cX8_wordAt 32 = .ok (.iload 7, 2) := by decide +kernel
theorem dX8_wordAt_34 : decode cX8_wordAt 34 = .ok (.bipush 32, 2) := by decide +kernel
theorem dX8_wordAt_36 : decode cX8_wordAt 36 = .ok (.if_icmp .eq 34, 3) := by decide +kernel
theorem dX8_wordAt_39 : decode cX8_wordAt 39 = .ok (.iload 4, 2) := by decide +kernel
theorem dX8_wordAt_41 : decode cX8_wordAt 41 = .ok (.ifCond .eq 20, 3) := by decide +kernel
theorem dX8_wordAt_44 : decode cX8_wordAt 44 = .ok (.iload_n 3, 1) := by decide +kernel
theorem dX8_wordAt_45 : decode cX8_wordAt 45 = .ok (.iload_n 2, 1) := by decide +kernel
theorem dX8_wordAt_46 : decode cX8_wordAt 46 = .ok (.if_icmp .ge 15, 3) := by decide +kernel
theorem dX8_wordAt_49 : decode cX8_wordAt 49 = .ok (.aload_n 0, 1) := by decide +kernel
theorem dX8_wordAt_50 : decode cX8_wordAt 50 = .ok (.iload_n 3, 1) := by decide +kernel
theorem dX8_wordAt_51 : decode cX8_wordAt 51 = .ok (.iaload, 1) := by decide +kernel
theorem dX8_wordAt_52 : decode cX8_wordAt 52 = .ok (.iload 7, 2) := by decide +kernel
theorem dX8_wordAt_54 : decode cX8_wordAt 54 = .ok (.if_icmp .ne 7, 3) := by decide +kernel
theorem dX8_wordAt_57 : decode cX8_wordAt 57 = .ok (.iconst 1, 1) := by decide +kernel
theorem dX8_wordAt_58 : decode cX8_wordAt 58 = .ok (.goto 4, 3) := by decide +kernel
theorem dX8_wordAt_61 : decode cX8_wordAt 61 = .ok (.iconst 0, 1) := by decide +kernel
theorem dX8_wordAt_62 : decode cX8_wordAt 62 = .ok (.istore 4, 2) := by decide +kernel
theorem dX8_wordAt_64 : decode cX8_wordAt 64 = .ok (.iinc 3 1, 3) := by decide +kernel
theorem dX8_wordAt_67 : decode cX8_wordAt 67 = .ok (.goto 33, 3) := by decide +kernel
theorem dX8_wordAt_70 : decode cX8_wordAt 70 = .ok (.iload 4, 2) := by decide +kernel
theorem dX8_wordAt_72 : decode cX8_wordAt 72 = .ok (.ifCond .eq 20, 3) := by decide +kernel
theorem dX8_wordAt_75 : decode cX8_wordAt 75 = .ok (.iload_n 3, 1) := by decide +kernel
theorem dX8_wordAt_76 : decode cX8_wordAt 76 = .ok (.iload_n 2, 1) := by decide +kernel
theorem dX8_wordAt_77 : decode cX8_wordAt 77 = .ok (.if_icmp .ge 12, 3) := by decide +kernel
theorem dX8_wordAt_80 : decode cX8_wordAt 80 = .ok (.aload_n 0, 1) := by decide +kernel
theorem dX8_wordAt_81 : decode cX8_wordAt 81 = .ok (.iload_n 3, 1) := by decide +kernel
theorem dX8_wordAt_82 : decode cX8_wordAt 82 = .ok (.iaload, 1) := by decide +kernel
theorem dX8_wordAt_83 : decode cX8_wordAt 83 = .ok (.invokestatic 34, 3) := by decide +kernel
theorem dX8_wordAt_86 : decode cX8_wordAt 86 = .ok (.ifCond .ne 6, 3) := by decide +kernel
theorem dX8_wordAt_89 : decode cX8_wordAt 89 = .ok (.iload 5, 2) := by decide +kernel
theorem dX8_wordAt_91 : decode cX8_wordAt 91 = .ok (.ireturn, 1) := by decide +kernel
theorem dX8_wordAt_92 : decode cX8_wordAt 92 = .ok (.iinc 5 1, 3) := by decide +kernel
theorem dX8_wordAt_95 : decode cX8_wordAt 95 = .ok (.iload_n 1, 1) := by decide +kernel
theorem dX8_wordAt_96 : decode cX8_wordAt 96 = .ok (.istore_n 3, 1) := by decide +kernel
theorem dX8_wordAt_97 : decode cX8_wordAt 97 = .ok (.iconst 1, 1) := by decide +kernel
theorem dX8_wordAt_98 : decode cX8_wordAt 98 = .ok (.istore 4, 2) := by decide +kernel
theorem dX8_wordAt_100 : decode cX8_wordAt 100 = .ok (.iinc 6 1, 3) := by decide +kernel
theorem dX8_wordAt_103 : decode cX8_wordAt 103 = .ok (.goto (-90), 3) := by decide +kernel
theorem dX8_wordAt_106 : decode cX8_wordAt 106 = .ok (.sipush 3000, 3) := by decide +kernel
theorem dX8_wordAt_109 : decode cX8_wordAt 109 = .ok (.ireturn, 1) := by decide +kernel
set_option maxRecDepth 20000 in
theorem ggX8_numberAt_X8_isDigit : GoodIn wsX8_numberAt wsX8_isDigit := goodIn_r _ [4] (by decide +kernel) (by decide +kernel)
set_option maxRecDepth 20000 in
theorem gX8_numberAt_X8_isDigit : GoodIn wsX8_numberAt (va_wsS RX8 38 yX8_isDigit wsX8_isDigit) := goodIn_app (goodIn_of _ (by decide +kernel)) ggX8_numberAt_X8_isDigit
theorem dX8_numberAt_0 : decode cX8_numberAt 0 = .ok (.iconst 0, 1) := by decide +kernel
theorem dX8_numberAt_1 : decode cX8_numberAt 1 = .ok (.istore_n 3, 1) := by decide +kernel
theorem dX8_numberAt_2 : decode cX8_numberAt 2 = .ok (.iconst 0, 1) := by decide +kernel
theorem dX8_numberAt_3 : decode cX8_numberAt 3 = .ok (.istore 4, 2) := by decide +kernel
theorem dX8_numberAt_5 : decode cX8_numberAt 5 = .ok (.iload_n 1, 1) := by decide +kernel
theorem dX8_numberAt_6 : decode cX8_numberAt 6 = .ok (.istore 5, 2) := by decide +kernel
theorem dX8_numberAt_8 : decode cX8_numberAt 8 = .ok (.iload 5, 2) := by decide +kernel
theorem dX8_numberAt_10 : decode cX8_numberAt 10 = .ok (.iload_n 2, 1) := by decide +kernel
theorem dX8_numberAt_11 : decode cX8_numberAt 11 = .ok (.if_icmp .ge 45, 3) := by decide +kernel
theorem dX8_numberAt_14 : decode cX8_numberAt 14 = .ok (.aload_n 0, 1) := by decide +kernel
theorem dX8_numberAt_15 : decode cX8_numberAt 15 = .ok (.iload 5, 2) := by decide +kernel
theorem dX8_numberAt_17 : decode cX8_numberAt 17 = .ok (.iaload, 1) := by decide +kernel
theorem dX8_numberAt_18 : decode cX8_numberAt 18 = .ok (.invokestatic 38, 3) := by decide +kernel
theorem dX8_numberAt_21 : decode cX8_numberAt 21 = .ok (.ifCond .eq 35, 3) := by decide +kernel
theorem dX8_numberAt_24 : decode cX8_numberAt 24 = .ok (.iload 4, 2) := by decide +kernel
theorem dX8_numberAt_26 : decode cX8_numberAt 26 = .ok (.iconst 3, 1) := by decide +kernel
theorem dX8_numberAt_27 : decode cX8_numberAt 27 = .ok (.if_icmp .ge 18, 3) := by decide +kernel
theorem dX8_numberAt_30 : decode cX8_numberAt 30 = .ok (.bipush 10, 2) := by decide +kernel
theorem dX8_numberAt_32 : decode cX8_numberAt 32 = .ok (.iload_n 3, 1) := by decide +kernel
theorem dX8_numberAt_33 : decode cX8_numberAt 33 = .ok (.imul, 1) := by decide +kernel
theorem dX8_numberAt_34 : decode cX8_numberAt 34 = .ok (.aload_n 0, 1) := by decide +kernel
theorem dX8_numberAt_35 : decode cX8_numberAt 35 = .ok (.iload 5, 2) := by decide +kernel
theorem dX8_numberAt_37 : decode cX8_numberAt 37 = .ok (.iaload, 1) := by decide +kernel
theorem dX8_numberAt_38 : decode cX8_numberAt 38 = .ok (.iadd, 1) := by decide +kernel
theorem dX8_numberAt_39 : decode cX8_numberAt 39 = .ok (.bipush 48, 2) := by decide +kernel
theorem dX8_numberAt_41 : decode cX8_numberAt 41 = .ok (.isub, 1) := by decide +kernel
theorem dX8_numberAt_42 : decode cX8_numberAt 42 = .ok (.goto 4, 3) := by decide +kernel
theorem dX8_numberAt_45 : decode cX8_numberAt 45 = .ok (.iload_n 3, 1) := by decide +kernel
theorem dX8_numberAt_46 : decode cX8_numberAt 46 = .ok (.istore_n 3, 1) := by decide +kernel
theorem dX8_numberAt_47 : decode cX8_numberAt 47 = .ok (.iinc 4 1, 3) := by decide +kernel
theorem dX8_numberAt_50 : decode cX8_numberAt 50 = .ok (.iinc 5 1, 3) := by decide +kernel
theorem dX8_numberAt_53 : decode cX8_numberAt 53 = .ok (.goto (-45), 3) := by decide +kernel
theorem dX8_numberAt_56 : decode cX8_numberAt 56 = .ok (.iload 4, 2) := by decide +kernel
theorem dX8_numberAt_58 : decode cX8_numberAt 58 = .ok (.iconst 3, 1) := by decide +kernel
theorem dX8_numberAt_59 : decode cX8_numberAt 59 = .ok (.if_icmp .le 9, 3) := by decide +kernel
theorem dX8_numberAt_62 : decode cX8_numberAt 62 = .ok (.sipush 3000, 3) := by decide +kernel
theorem dX8_numberAt_65 : decode cX8_numberAt 65 = .ok (.goto 4, 3) := by decide +kernel
theorem dX8_numberAt_68 : decode cX8_numberAt 68 = .ok (.iload_n 3, 1) := by decide +kernel
theorem dX8_numberAt_69 : decode cX8_numberAt 69 = .ok (.ireturn, 1) := by decide +kernel
theorem dX8_isAt_0 : decode cX8_isAt 0 = .ok (.aload_n 0, 1) := by decide +kernel
theorem dX8_isAt_1 : decode cX8_isAt 1 = .ok (.getfield 9, 3) := by decide +kernel
theorem dX8_isAt_4 : decode cX8_isAt 4 = .ok (.iconst (-1), 1) := by decide +kernel
theorem dX8_isAt_5 : decode cX8_isAt 5 = .ok (.if_icmp .ne 31, 3) := by decide +kernel
theorem dX8_isAt_8 : decode cX8_isAt 8 = .ok (.aload_n 0, 1) := by decide +kernel
theorem dX8_isAt_9 : decode cX8_isAt 9 = .ok (.getfield 25, 3) := by decide +kernel
theorem dX8_isAt_12 : decode cX8_isAt 12 = .ok (.aload_n 0, 1) := by decide +kernel
theorem dX8_isAt_13 : decode cX8_isAt 13 = .ok (.getfield 22, 3) := by decide +kernel
theorem dX8_isAt_16 : decode cX8_isAt 16 = .ok (.if_icmp .ge 20, 3) := by decide +kernel
theorem dX8_isAt_19 : decode cX8_isAt 19 = .ok (.aload_n 0, 1) := by decide +kernel
theorem dX8_isAt_20 : decode cX8_isAt 20 = .ok (.getfield 15, 3) := by decide +kernel
theorem dX8_isAt_23 : decode cX8_isAt 23 = .ok (.aload_n 0, 1) := by decide +kernel
theorem dX8_isAt_24 : decode cX8_isAt 24 = .ok (.getfield 25, 3) := by decide +kernel
theorem dX8_isAt_27 : decode cX8_isAt 27 = .ok (.iaload, 1) := by decide +kernel
theorem dX8_isAt_28 : decode cX8_isAt 28 = .ok (.iload_n 1, 1) := by decide +kernel
theorem dX8_isAt_29 : decode cX8_isAt 29 = .ok (.if_icmp .ne 7, 3) := by decide +kernel
theorem dX8_isAt_32 : decode cX8_isAt 32 = .ok (.iconst 1, 1) := by decide +kernel
theorem dX8_isAt_33 : decode cX8_isAt 33 = .ok (.goto 4, 3) := by decide +kernel
theorem dX8_isAt_36 : decode cX8_isAt 36 = .ok (.iconst 0, 1) := by decide +kernel
theorem dX8_isAt_37 : decode cX8_isAt 37 = .ok (.ireturn, 1) := by decide +kernel
theorem dX8_takes_0 : decode cX8_takes 0 = .ok (.aload_n 0, 1) := by decide +kernel
theorem dX8_takes_1 : decode cX8_takes 1 = .ok (.getfield 9, 3) := by decide +kernel
theorem dX8_takes_4 : decode cX8_takes 4 = .ok (.iconst (-1), 1) := by decide +kernel
theorem dX8_takes_5 : decode cX8_takes 5 = .ok (.if_icmp .ne 31, 3) := by decide +kernel
theorem dX8_takes_8 : decode cX8_takes 8 = .ok (.aload_n 0, 1) := by decide +kernel
theorem dX8_takes_9 : decode cX8_takes 9 = .ok (.getfield 25, 3) := by decide +kernel
theorem dX8_takes_12 : decode cX8_takes 12 = .ok (.aload_n 0, 1) := by decide +kernel
theorem dX8_takes_13 : decode cX8_takes 13 = .ok (.getfield 22, 3) := by decide +kernel
theorem dX8_takes_16 : decode cX8_takes 16 = .ok (.if_icmp .ge 20, 3) := by decide +kernel
theorem dX8_takes_19 : decode cX8_takes 19 = .ok (.aload_n 0, 1) := by decide +kernel
theorem dX8_takes_20 : decode cX8_takes 20 = .ok (.getfield 15, 3) := by decide +kernel
theorem dX8_takes_23 : decode cX8_takes 23 = .ok (.aload_n 0, 1) := by decide +kernel
theorem dX8_takes_24 : decode cX8_takes 24 = .ok (.getfield 25, 3) := by decide +kernel
theorem dX8_takes_27 : decode cX8_takes 27 = .ok (.iaload, 1) := by decide +kernel
theorem dX8_takes_28 : decode cX8_takes 28 = .ok (.iload_n 1, 1) := by decide +kernel
theorem dX8_takes_29 : decode cX8_takes 29 = .ok (.if_icmp .ne 7, 3) := by decide +kernel
theorem dX8_takes_32 : decode cX8_takes 32 = .ok (.iconst 1, 1) := by decide +kernel
theorem dX8_takes_33 : decode cX8_takes 33 = .ok (.goto 4, 3) := by decide +kernel
theorem dX8_takes_36 : decode cX8_takes 36 = .ok (.iconst 0, 1) := by decide +kernel
theorem dX8_takes_37 : decode cX8_takes 37 = .ok (.istore_n 2, 1) := by decide +kernel
theorem dX8_takes_38 : decode cX8_takes 38 = .ok (.aload_n 0, 1) := by decide +kernel
theorem dX8_takes_39 : decode cX8_takes 39 = .ok (.dup, 1) := by decide +kernel
theorem dX8_takes_40 : decode cX8_takes 40 = .ok (.getfield 25, 3) := by decide +kernel
theorem dX8_takes_43 : decode cX8_takes 43 = .ok (.iload_n 2, 1) := by decide +kernel
theorem dX8_takes_44 : decode cX8_takes 44 = .ok (.ifCond .eq 20, 3) := by decide +kernel
theorem dX8_takes_47 : decode cX8_takes 47 = .ok (.aload_n 0, 1) := by decide +kernel
theorem dX8_takes_48 : decode cX8_takes 48 = .ok (.getfield 25, 3) := by decide +kernel
theorem dX8_takes_51 : decode cX8_takes 51 = .ok (.iconst 1, 1) := by decide +kernel
theorem dX8_takes_52 : decode cX8_takes 52 = .ok (.iadd, 1) := by decide +kernel
theorem dX8_takes_53 : decode cX8_takes 53 = .ok (.aload_n 0, 1) := by decide +kernel
theorem dX8_takes_54 : decode cX8_takes 54 = .ok (.getfield 22, 3) := by decide +kernel
theorem dX8_takes_57 : decode cX8_takes 57 = .ok (.if_icmp .ge 7, 3) := by decide +kernel
theorem dX8_takes_60 : decode cX8_takes 60 = .ok (.iconst 1, 1) := by decide +kernel
theorem dX8_takes_61 : decode cX8_takes 61 = .ok (.goto 4, 3) := by decide +kernel
theorem dX8_takes_64 : decode cX8_takes 64 = .ok (.iconst 0, 1) := by decide +kernel
theorem dX8_takes_65 : decode cX8_takes 65 = .ok (.iadd, 1) := by decide +kernel
theorem dX8_takes_66 : decode cX8_takes 66 = .ok (.putfield 25, 3) := by decide +kernel
theorem dX8_takes_69 : decode cX8_takes 69 = .ok (.iload_n 2, 1) := by decide +kernel
theorem dX8_takes_70 : decode cX8_takes 70 = .ok (.ireturn, 1) := by decide +kernel
set_option maxRecDepth 20000 in
theorem ggX8_takeNumber_X8_fail : GoodIn wsX8_takeNumber wsX8_fail := goodIn_r _ [9, 1, 2, 3, 10, 11, 12, 13, 14, 15] (by decide +kernel) (by decide +kernel)
set_option maxRecDepth 20000 in
theorem gX8_takeNumber_X8_fail : GoodIn wsX8_takeNumber (wsV RX8 64 RX8 yX8_fail wsX8_fail) := goodIn_app (goodIn_of _ (by decide +kernel)) ggX8_takeNumber_X8_fail
theorem dX8_takeNumber_0 : decode cX8_takeNumber 0 = .ok (.aload_n 0, 1) := by decide +kernel
theorem dX8_takeNumber_1 : decode cX8_takeNumber 1 = .ok (.getfield 9, 3) := by decide +kernel
theorem dX8_takeNumber_4 : decode cX8_takeNumber 4 = .ok (.iconst (-1), 1) := by decide +kernel
theorem dX8_takeNumber_5 : decode cX8_takeNumber 5 = .ok (.if_icmp .ne 26, 3) := by decide +kernel
theorem dX8_takeNumber_8 : decode cX8_takeNumber 8 = .ok (.aload_n 0, 1) := by decide +kernel
theorem dX8_takeNumber_9 : decode cX8_takeNumber 9 = .ok (.getfield 25, 3) := by decide +kernel
theorem dX8_takeNumber_12 : decode cX8_takeNumber 12 = .ok (.aload_n 0, 1) := by decide +kernel
theorem dX8_takeNumber_13 : decode cX8_takeNumber 13 = .ok (.getfield 22, 3) := by decide +kernel
theorem dX8_takeNumber_16 : decode cX8_takeNumber 16 = .ok (.if_icmp .ge 15, 3) := by decide +kernel
theorem dX8_takeNumber_19 : decode cX8_takeNumber 19 = .ok (.aload_n 0, 1) := by decide +kernel
theorem dX8_takeNumber_20 : decode cX8_takeNumber 20 = .ok (.getfield 15, 3) := by decide +kernel
theorem dX8_takeNumber_23 : decode cX8_takeNumber 23 = .ok (.aload_n 0, 1) := by decide +kernel
theorem dX8_takeNumber_24 : decode cX8_takeNumber 24 = .ok (.getfield 25, 3) := by decide +kernel
theorem dX8_takeNumber_27 : decode cX8_takeNumber 27 = .ok (.iaload, 1) := by decide +kernel
theorem dX8_takeNumber_28 : decode cX8_takeNumber 28 = .ok (.goto 4, 3) := by decide +kernel
theorem dX8_takeNumber_31 : decode cX8_takeNumber 31 = .ok (.iconst (-1), 1) := by decide +kernel
theorem dX8_takeNumber_32 : decode cX8_takeNumber 32 = .ok (.istore_n 3, 1) := by decide +kernel
theorem dX8_takeNumber_33 : decode cX8_takeNumber 33 = .ok (.iload_n 3, 1) := by decide +kernel
theorem dX8_takeNumber_34 : decode cX8_takeNumber 34 = .ok (.iload_n 1, 1) := by decide +kernel
theorem dX8_takeNumber_35 : decode cX8_takeNumber 35 = .ok (.if_icmp .lt 8, 3) := by decide +kernel
theorem dX8_takeNumber_38 : decode cX8_takeNumber 38 = .ok (.iload_n 3, 1) := by decide +kernel
theorem dX8_takeNumber_39 : decode cX8_takeNumber 39 = .ok (.iload_n 2, 1) := by decide +kernel
theorem dX8_takeNumber_40 : decode cX8_takeNumber 40 = .ok (.if_icmp .le 9, 3) := by decide +kernel
theorem dX8_takeNumber_43 : decode cX8_takeNumber 43 = .ok (.aload_n 0, 1) := by decide +kernel
theorem dX8_takeNumber_44 : decode cX8_takeNumber 44 = .ok (.invokevirtual 64, 3) := by decide +kernel
theorem dX8_takeNumber_47 : decode cX8_takeNumber 47 = .ok (.iconst (-1), 1) := by decide +kernel
theorem dX8_takeNumber_48 : decode cX8_takeNumber 48 = .ok (.ireturn, 1) := by decide +kernel
theorem dX8_takeNumber_49 : decode cX8_takeNumber 49 = .ok (.aload_n 0, 1) := by decide +kernel
theorem dX8_takeNumber_50 : decode cX8_takeNumber 50 = .ok (.dup, 1) := by decide +kernel
theorem dX8_takeNumber_51 : decode cX8_takeNumber 51 = .ok (.getfield 25, 3) := by decide +kernel
theorem dX8_takeNumber_54 : decode cX8_takeNumber 54 = .ok (.aload_n 0, 1) := by decide +kernel
theorem dX8_takeNumber_55 : decode cX8_takeNumber 55 = .ok (.getfield 25, 3) := by decide +kernel
theorem dX8_takeNumber_58 : decode cX8_takeNumber 58 = .ok (.iconst 1, 1) := by decide +kernel
theorem dX8_takeNumber_59 : decode cX8_takeNumber 59 = .ok (.iadd, 1) := by decide +kernel
theorem dX8_takeNumber_60 : decode cX8_takeNumber 60 = .ok (.aload_n 0, 1) := by decide +kernel
theorem dX8_takeNumber_61 : decode cX8_takeNumber 61 = .ok (.getfield 22, 3) := by decide +kernel
theorem dX8_takeNumber_64 : decode cX8_takeNumber 64 = .ok (.if_icmp .ge 7, 3) := by decide +kernel
theorem dX8_takeNumber_67 : decode cX8_takeNumber 67 = .ok (.iconst 1, 1) := by decide +kernel
theorem dX8_takeNumber_68 : decode cX8_takeNumber 68 = .ok (.goto 4, 3) := by decide +kernel
theorem dX8_takeNumber_71 : decode cX8_takeNumber 71 = .ok (.iconst 0, 1) := by decide +kernel
theorem dX8_takeNumber_72 : decode cX8_takeNumber 72 = .ok (.iadd, 1) := by decide +kernel
theorem dX8_takeNumber_73 : decode cX8_takeNumber 73 = .ok (.putfield 25, 3) := by decide +kernel
theorem dX8_takeNumber_76 : decode cX8_takeNumber 76 = .ok (.iload_n 3, 1) := by decide +kernel
theorem dX8_takeNumber_77 : decode cX8_takeNumber 77 = .ok (.ireturn, 1) := by decide +kernel
theorem dX8_takeAny_0 : decode cX8_takeAny 0 = .ok (.aload_n 0, 1) := by decide +kernel
theorem dX8_takeAny_1 : decode cX8_takeAny 1 = .ok (.getfield 9, 3) := by decide +kernel
theorem dX8_takeAny_4 : decode cX8_takeAny 4 = .ok (.iconst (-1), 1) := by decide +kernel
theorem dX8_takeAny_5 : decode cX8_takeAny 5 = .ok (.if_icmp .ne 26, 3) := by decide +kernel
theorem dX8_takeAny_8 : decode cX8_takeAny 8 = .ok (.aload_n 0, 1) := by decide +kernel
theorem dX8_takeAny_9 : decode cX8_takeAny 9 = .ok (.getfield 25, 3) := by decide +kernel
theorem dX8_takeAny_12 : decode cX8_takeAny 12 = .ok (.aload_n 0, 1) := by decide +kernel
theorem dX8_takeAny_13 : decode cX8_takeAny 13 = .ok (.getfield 22, 3) := by decide +kernel
theorem dX8_takeAny_16 : decode cX8_takeAny 16 = .ok (.if_icmp .ge 15, 3) := by decide +kernel
theorem dX8_takeAny_19 : decode cX8_takeAny 19 = .ok (.aload_n 0, 1) := by decide +kernel
theorem dX8_takeAny_20 : decode cX8_takeAny 20 = .ok (.getfield 15, 3) := by decide +kernel
theorem dX8_takeAny_23 : decode cX8_takeAny 23 = .ok (.aload_n 0, 1) := by decide +kernel
theorem dX8_takeAny_24 : decode cX8_takeAny 24 = .ok (.getfield 25, 3) := by decide +kernel
theorem dX8_takeAny_27 : decode cX8_takeAny 27 = .ok (.iaload, 1) := by decide +kernel
theorem dX8_takeAny_28 : decode cX8_takeAny 28 = .ok (.goto 4, 3) := by decide +kernel
theorem dX8_takeAny_31 : decode cX8_takeAny 31 = .ok (.iconst (-1), 1) := by decide +kernel
theorem dX8_takeAny_32 : decode cX8_takeAny 32 = .ok (.istore_n 3, 1) := by decide +kernel
theorem dX8_takeAny_33 : decode cX8_takeAny 33 = .ok (.iload_n 3, 1) := by decide +kernel
theorem dX8_takeAny_34 : decode cX8_takeAny 34 = .ok (.iload_n 1, 1) := by decide +kernel
theorem dX8_takeAny_35 : decode cX8_takeAny 35 = .ok (.if_icmp .lt 8, 3) := by decide +kernel
theorem dX8_takeAny_38 : decode cX8_takeAny 38 = .ok (.iload_n 3, 1) := by decide +kernel
theorem dX8_takeAny_39 : decode cX8_takeAny 39 = .ok (.iload_n 2, 1) := by decide +kernel
theorem dX8_takeAny_40 : decode cX8_takeAny 40 = .ok (.if_icmp .le 5, 3) := by decide +kernel
theorem dX8_takeAny_43 : decode cX8_takeAny 43 = .ok (.iconst (-1), 1) := by decide +kernel
theorem dX8_takeAny_44 : decode cX8_takeAny 44 = .ok (.ireturn, 1) := by decide +kernel
theorem dX8_takeAny_45 : decode cX8_takeAny 45 = .ok (.aload_n 0, 1) := by decide +kernel
theorem dX8_takeAny_46 : decode cX8_takeAny 46 = .ok (.dup, 1) := by decide +kernel
theorem dX8_takeAny_47 : decode cX8_takeAny 47 = .ok (.getfield 25, 3) := by decide +kernel
theorem dX8_takeAny_50 : decode cX8_takeAny 50 = .ok (.aload_n 0, 1) := by decide +kernel
theorem dX8_takeAny_51 : decode cX8_takeAny 51 = .ok (.getfield 25, 3) := by decide +kernel
theorem dX8_takeAny_54 : decode cX8_takeAny 54 = .ok (.iconst 1, 1) := by decide +kernel
theorem dX8_takeAny_55 : decode cX8_takeAny 55 = .ok (.iadd, 1) := by decide +kernel
theorem dX8_takeAny_56 : decode cX8_takeAny 56 = .ok (.aload_n 0, 1) := by decide +kernel
theorem dX8_takeAny_57 : decode cX8_takeAny 57 = .ok (.getfield 22, 3) := by decide +kernel
theorem dX8_takeAny_60 : decode cX8_takeAny 60 = .ok (.if_icmp .ge 7, 3) := by decide +kernel
theorem dX8_takeAny_63 : decode cX8_takeAny 63 = .ok (.iconst 1, 1) := by decide +kernel
theorem dX8_takeAny_64 : decode cX8_takeAny 64 = .ok (.goto 4, 3) := by decide +kernel
theorem dX8_takeAny_67 : decode cX8_takeAny 67 = .ok (.iconst 0, 1) := by decide +kernel
theorem dX8_takeAny_68 : decode cX8_takeAny 68 = .ok (.iadd, 1) := by decide +kernel
theorem dX8_takeAny_69 : decode cX8_takeAny 69 = .ok (.putfield 25, 3) := by decide +kernel
theorem dX8_takeAny_72 : decode cX8_takeAny 72 = .ok (.iload_n 3, 1) := by decide +kernel
theorem dX8_takeAny_73 : decode cX8_takeAny 73 = .ok (.ireturn, 1) := by decide +kernel
theorem dX8_fail_0 : decode cX8_fail 0 = .ok (.aload_n 0, 1) := by decide +kernel
theorem dX8_fail_1 : decode cX8_fail 1 = .ok (.getfield 9, 3) := by decide +kernel
theorem dX8_fail_4 : decode cX8_fail 4 = .ok (.iconst (-1), 1) := by decide +kernel
theorem dX8_fail_5 : decode cX8_fail 5 = .ok (.if_icmp .ne 27, 3) := by decide +kernel
theorem dX8_fail_8 : decode cX8_fail 8 = .ok (.aload_n 0, 1) := by decide +kernel
theorem dX8_fail_9 : decode cX8_fail 9 = .ok (.getfield 25, 3) := by decide +kernel
theorem dX8_fail_12 : decode cX8_fail 12 = .ok (.aload_n 0, 1) := by decide +kernel
theorem dX8_fail_13 : decode cX8_fail 13 = .ok (.getfield 22, 3) := by decide +kernel
theorem dX8_fail_16 : decode cX8_fail 16 = .ok (.if_icmp .ge 16, 3) := by decide +kernel
theorem dX8_fail_19 : decode cX8_fail 19 = .ok (.aload_n 0, 1) := by decide +kernel
theorem dX8_fail_20 : decode cX8_fail 20 = .ok (.aload_n 0, 1) := by decide +kernel
theorem dX8_fail_21 : decode cX8_fail 21 = .ok (.getfield 19, 3) := by decide +kernel
theorem dX8_fail_24 : decode cX8_fail 24 = .ok (.aload_n 0, 1) := by decide +kernel
theorem dX8_fail_25 : decode cX8_fail 25 = .ok (.getfield 25, 3) := by decide +kernel
theorem dX8_fail_28 : decode cX8_fail 28 = .ok (.iaload, 1) := by decide +kernel
theorem dX8_fail_29 : decode cX8_fail 29 = .ok (.putfield 9, 3) := by decide +kernel
theorem dX8_fail_32 : decode cX8_fail 32 = .ok (.return_, 1) := by decide +kernel
set_option maxRecDepth 20000 in
theorem ggX9_init_X10_init : GoodIn wsX9_init wsX10_init := goodIn_r _ [11, 12, 2, 3, 13, 8, 14, 15, 16, 17, 18, 19, 20, 21, 22, 23, 24, 25] (by decide +kernel) (by decide +kernel)
set_option maxRecDepth 20000 in
theorem gX9_init_X10_init_n11 : GoodIn wsX9_init (wsX10_init) := ggX9_init_X10_init
theorem dX9_init_0 : decode cX9_init 0 = .ok (.aload_n 0, 1) := by decide +kernel
theorem dX9_init_1 : decode cX9_init 1 = .ok (.invokespecial 3, 3) := by decide +kernel
theorem dX9_init_4 : decode cX9_init 4 = .ok (.aload_n 0, 1) := by decide +kernel
theorem dX9_init_5 : decode cX9_init 5 = .ok (.new 9, 3) := by decide +kernel
theorem dX9_init_8 : decode cX9_init 8 = .ok (.dup, 1) := by decide +kernel
theorem dX9_init_9 : decode cX9_init 9 = .ok (.invokespecial 11, 3) := by decide +kernel
theorem dX9_init_12 : decode cX9_init 12 = .ok (.putfield 12, 3) := by decide +kernel
theorem dX9_init_15 : decode cX9_init 15 = .ok (.aload_n 0, 1) := by decide +kernel
theorem dX9_init_16 : decode cX9_init 16 = .ok (.bipush 8, 2) := by decide +kernel
theorem dX9_init_18 : decode cX9_init 18 = .ok (.newarray .int, 2) := by decide +kernel
theorem dX9_init_20 : decode cX9_init 20 = .ok (.putfield 18, 3) := by decide +kernel
theorem dX9_init_23 : decode cX9_init 23 = .ok (.return_, 1) := by decide +kernel
set_option maxRecDepth 20000 in
theorem ggX9_play_X10_look : GoodIn wsX9_play wsX10_look := goodIn_r _ [12, 13, 14, 15, 16, 17, 18, 19, 20, 21, 22, 23, 5, 6, 7, 24, 25, 26, 27, 28, 29, 30, 31, 32, 33, 34, 35, 36, 37, 38, 39, 40, 41, 42, 43, 44, 45, 46, 47, 48, 49, 50, 51, 52, 53, 54, 55, 56, 57, 58, 59, 60, 61, 62, 63, 64, 65, 66, 67, 68, 69, 70, 71, 72, 73, 74, 75, 76, 77, 78, 79, 80, 81, 82, 83, 84, 85, 177, 178, 179, 180, 181, 182, 183, 184, 185, 186, 187, 188, 189, 190, 191, 192, 193, 194, 195, 196, 197, 198, 199, 200, 201, 202, 203, 204, 205, 206, 207, 208, 209, 210, 211] (by decide +kernel) (by decide +kernel)
set_option maxRecDepth 20000 in
theorem gX9_play_X10_look : GoodIn wsX9_play (wsV RX9 22 RX10 yX10_look wsX10_look) := goodIn_app (goodIn_of _ (by decide +kernel)) ggX9_play_X10_look
set_option maxRecDepth 20000 in
theorem ggX9_play_X9_sendersOf : GoodIn wsX9_play wsX9_sendersOf := goodIn_r _ [90, 91, 1, 92, 93, 94, 42, 95, 96, 97, 98, 36, 99, 100, 101, 41, 43, 184, 185, 186, 187, 188, 189, 190, 191, 192, 193, 194, 175, 176, 177, 178, 179, 180, 181, 182, 183] (by decide +kernel) (by decide +kernel)
set_option maxRecDepth 20000 in
theorem gX9_play_X9_sendersOf : GoodIn wsX9_play (wsV RX9 30 RX9 yX9_sendersOf wsX9_sendersOf) := goodIn_app (goodIn_of _ (by decide +kernel)) ggX9_play_X9_sendersOf
set_option maxRecDepth 20000 in
theorem ggX9_play_X9_callOrWait : GoodIn wsX9_play wsX9_callOrWait := goodIn_r _ [104, 91, 105, 106, 107, 108, 59, 6, 60, 109, 4, 5, 7, 110, 111, 41, 42, 43, 112, 77, 78, 79, 80, 81, 82, 94, 95, 113, 45, 46, 47, 48, 49, 50, 51, 52, 34, 35, 36, 37, 38, 39, 40, 53, 54, 55, 56, 57, 58, 61, 62, 63, 64, 65, 66, 67, 68, 69, 70, 71, 72, 73, 74, 75, 76, 83, 84, 85, 114, 115, 116, 117, 118, 119, 120, 121, 122, 184, 185, 186, 187, 188, 189, 190, 191, 192, 193, 194, 195, 196, 197, 198, 199, 200, 201, 202, 203, 204, 205, 206, 207, 208, 209, 210, 211] (by decide +kernel) (by decide +kernel)
set_option maxRecDepth 20000 in
theorem gX9_play_X9_callOrWait : GoodIn wsX9_play (va_wsS RX9 34 yX9_callOrWait wsX9_callOrWait) := goodIn_app (goodIn_of _ (by decide +kernel)) ggX9_play_X9_callOrWait
set_option maxRecDepth 20000 in
theorem ggX9_play_X9_joinAll : GoodIn wsX9_play wsX9_joinAll := goodIn_r _ [126, 91, 105, 106, 1, 127, 128, 110, 129, 42, 130, 131, 94, 95, 132, 133, 134, 5, 6, 7, 135, 59, 60, 41, 43, 114, 115, 116, 36, 117, 118, 119, 120, 121, 122, 184, 185, 186, 187, 188, 189, 190, 191, 192, 193, 194, 195, 196, 197, 198, 199, 200, 201, 202, 203, 204, 205, 175, 176, 177, 178, 179, 180, 181, 182, 183] (by decide +kernel) (by decide +kernel)
set_option maxRecDepth 20000 in
theorem gX9_play_X9_joinAll : GoodIn wsX9_play (wsV RX9 37 RX9 yX9_joinAll wsX9_joinAll) := goodIn_app (goodIn_of _ (by decide +kernel)) ggX9_play_X9_joinAll
set_option maxRecDepth 20000 in
theorem ggX9_play_X9_judge : GoodIn wsX9_play wsX9_judge := goodIn_r _ [139, 91, 105, 1, 140, 110, 141, 142, 94, 42, 95, 41, 43, 112, 77, 78, 79, 80, 81, 82, 184, 185, 186, 187, 188, 189, 190, 191, 192, 193, 194, 175, 176, 177, 178, 179, 180, 181, 182, 183, 195, 196, 197, 198, 199, 200, 201, 202, 203, 204, 205] (by decide +kernel) (by decide +kernel)
set_option maxRecDepth 20000 in
theorem gX9_play_X9_judge : GoodIn wsX9_play (wsV RX9 41 RX9 yX9_judge wsX9_judge) := goodIn_app (goodIn_of _ (by decide +kernel)) ggX9_play_X9_judge
set_option maxRecDepth 20000 in
theorem ggX9_play_X9_acknowledge : GoodIn wsX9_play wsX9_acknowledge := goodIn_r _ [146, 91, 147, 105, 110, 148, 149, 89, 150, 94, 42, 95, 41, 43, 151, 152, 153, 106, 142, 114, 115, 116, 36, 117, 118, 119, 120, 121, 122, 5, 6, 7, 184, 185, 186, 187, 188, 189, 190, 191, 192, 193, 194, 175, 176, 195, 196, 197, 198, 199, 200, 201, 202, 203, 204, 205] (by decide +kernel) (by decide +kernel)
set_option maxRecDepth 20000 in
theorem gX9_play_X9_acknowledge : GoodIn wsX9_play (wsV RX9 45 RX9 yX9_acknowledge wsX9_acknowledge) := goodIn_app (goodIn_of _ (by decide +kernel)) ggX9_play_X9_acknowledge
set_option maxRecDepth 20000 in
theorem ggX9_play_X9_outvote : GoodIn wsX9_play wsX9_outvote := goodIn_r _ [156, 91, 105, 142, 141, 94, 42, 95, 151, 152, 89, 153, 106, 114, 115, 116, 36, 117, 118, 119, 120, 121, 122, 5, 6, 7, 41, 43, 184, 185, 186, 187, 188, 189, 190, 191, 192, 193, 194, 195, 196, 197, 198, 199, 200, 201, 202, 203, 204, 205] (by decide +kernel) (by decide +kernel)
set_option maxRecDepth 20000 in
theorem gX9_play_X9_outvote : GoodIn wsX9_play (va_wsS RX9 49 yX9_outvote wsX9_outvote) := goodIn_app (goodIn_of _ (by decide +kernel)) ggX9_play_X9_outvote
set_option maxRecDepth 20000 in
theorem ggX9_play_X9_correct : GoodIn wsX9_play wsX9_correct := goodIn_r _ [160, 91, 105, 1, 3, 128, 111, 94, 42, 95, 161, 162, 163, 11, 164, 15, 165, 31, 25, 16, 24, 166, 167, 168, 169, 170, 132, 133, 134, 5, 6, 7, 135, 59, 60, 184, 185, 186, 187, 188, 189, 190, 191, 192, 193, 194, 175, 176, 195, 196, 197, 198, 199, 200, 201, 202, 203, 204, 205, 177, 178, 179, 180, 181, 182, 183] (by decide +kernel) (by decide +kernel)
set_option maxRecDepth 20000 in
theorem gX9_play_X9_correct : GoodIn wsX9_play (wsV RX9 52 RX9 yX9_correct wsX9_correct) := goodIn_app (goodIn_of _ (by decide +kernel)) ggX9_play_X9_correct
set_option maxRecDepth 20000 in
theorem ggX9_play_X9_runClocks : GoodIn wsX9_play wsX9_runClocks := goodIn_r _ [173, 91, 105, 106, 128, 174, 111, 132, 42, 133, 134, 5, 6, 7, 135, 59, 60, 184, 185, 186, 187, 188, 189, 190, 191, 192, 193, 194, 195, 196, 197, 198, 199, 200, 201, 202, 203, 204, 205] (by decide +kernel) (by decide +kernel)
set_option maxRecDepth 20000 in
theorem gX9_play_X9_runClocks : GoodIn wsX9_play (va_wsS RX9 55 yX9_runClocks wsX9_runClocks) := goodIn_app (goodIn_of _ (by decide +kernel)) ggX9_play_X9_runClocks
set_option maxRecDepth 20000 in
theorem ggX9_play_J6_bitCount_0f7a4 : GoodIn wsX9_play wsJ6_bitCount_0f7a4 := goodIn_r _ [79, 80, 81, 82] (by decide +kernel) (by decide +kernel)
set_option maxRecDepth 20000 in
theorem gX9_play_J6_bitCount_0f7a4 : GoodIn wsX9_play (va_wsS RX9 69 yJ6_bitCount_0f7a4 wsJ6_bitCount_0f7a4) := goodIn_app (goodIn_of _ (by decide +kernel)) ggX9_play_J6_bitCount_0f7a4
theorem dX9_play_0 : decode cX9_play 0 = .ok (.aload_n 0, 1) := by decide +kernel
theorem dX9_play_1 : decode cX9_play 1 = .ok (.getfield 12, 3) := by decide +kernel
theorem dX9_play_4 : decode cX9_play 4 = .ok (.aload_n 1, 1) := by decide +kernel
theorem dX9_play_5 : decode cX9_play 5 = .ok (.invokevirtual 22, 3) := by decide +kernel
theorem dX9_play_8 : decode cX9_play 8 = .ok (.aload_n 0, 1) := by decide +kernel
theorem dX9_play_9 : decode cX9_play 9 = .ok (.getfield 12, 3) := by decide +kernel
theorem dX9_play_12 : decode cX9_play 12 = .ok (.getfield 26, 3) := by decide +kernel
theorem dX9_play_15 : decode cX9_play 15 = .ok (.istore_n 3, 1) := by decide +kernel
theorem dX9_play_16 : decode cX9_play 16 = .ok (.aload_n 0, 1) := by decide +kernel
theorem dX9_play_17 : decode cX9_play 17 = .ok (.aload_n 1, 1) := by decide +kernel
theorem dX9_play_18 : decode cX9_play 18 = .ok (.iload_n 3, 1) := by decide +kernel
theorem dX9_play_19 : decode cX9_play 19 = .ok (.iload_n 2, 1) := by decide +kernel
theorem dX9_play_20 : decode cX9_play 20 = .ok (.invokevirtual 30, 3) := by decide +kernel
theorem dX9_play_23 : decode cX9_play 23 = .ok (.istore 4, 2) := by decide +kernel
theorem dX9_play_25 : decode cX9_play 25 = .ok (.iload 4, 2) := by decide +kernel
theorem dX9_play_27 : decode cX9_play 27 = .ok (.ifCond .ne 10, 3) := by decide +kernel
theorem dX9_play_30 : decode cX9_play 30 = .ok (.aload_n 1, 1) := by decide +kernel
theorem dX9_play_31 : decode cX9_play 31 = .ok (.invokestatic 34, 3) := by decide +kernel
theorem dX9_play_34 : decode cX9_play 34 = .ok (.goto 10, 3) := by decide +kernel
theorem dX9_play_37 : decode cX9_play 37 = .ok (.aload_n 0, 1) := by decide +kernel
theorem dX9_play_38 : decode cX9_play 38 = .ok (.aload_n 1, 1) := by decide +kernel
theorem dX9_play_39 : decode cX9_play 39 = .ok (.iload 4, 2) := by decide +kernel
theorem dX9_play_41 : decode cX9_play 41 = .ok (.invokevirtual 37, 3) := by decide +kernel
theorem dX9_play_44 : decode cX9_play 44 = .ok (.aload_n 0, 1) := by decide +kernel
theorem dX9_play_45 : decode cX9_play 45 = .ok (.aload_n 1, 1) := by decide +kernel
theorem dX9_play_46 : decode cX9_play 46 = .ok (.iload_n 3, 1) := by decide +kernel
theorem dX9_play_47 : decode cX9_play 47 = .ok (.iload 4, 2) := by decide +kernel
theorem dX9_play_49 : decode cX9_play 49 = .ok (.invokevirtual 41, 3) := by decide +kernel
theorem dX9_play_52 : decode cX9_play 52 = .ok (.aload_n 0, 1) := by decide +kernel
theorem dX9_play_53 : decode cX9_play 53 = .ok (.aload_n 1, 1) := by decide +kernel
theorem dX9_play_54 : decode cX9_play 54 = .ok (.iload 4, 2) := by decide +kernel
theorem dX9_play_56 : decode cX9_play 56 = .ok (.invokevirtual 45, 3) := by decide +kernel
theorem dX9_play_59 : decode cX9_play 59 = .ok (.istore 5, 2) := by decide +kernel
theorem dX9_play_61 : decode cX9_play 61 = .ok (.iload 5, 2) := by decide +kernel
theorem dX9_play_63 : decode cX9_play 63 = .ok (.aload_n 1, 1) := by decide +kernel
theorem dX9_play_64 : decode cX9_play 64 = .ok (.iload_n 3, 1) := by decide +kernel
theorem dX9_play_65 : decode cX9_play 65 = .ok (.iload 5, 2) := by decide +kernel
theorem dX9_play_67 : decode cX9_play 67 = .ok (.iconst (-1), 1) := by decide +kernel
theorem dX9_play_68 : decode cX9_play 68 = .ok (.ixor, 1) := by decide +kernel
theorem dX9_play_69 : decode cX9_play 69 = .ok (.iand, 1) := by decide +kernel
theorem dX9_play_70 : decode cX9_play 70 = .ok (.invokestatic 49, 3) := by decide +kernel
theorem dX9_play_73 : decode cX9_play 73 = .ok (.ior, 1) := by decide +kernel
theorem dX9_play_74 : decode cX9_play 74 = .ok (.istore 5, 2) := by decide +kernel
theorem dX9_play_76 : decode cX9_play 76 = .ok (.aload_n 0, 1) := by decide +kernel
theorem dX9_play_77 : decode cX9_play 77 = .ok (.aload_n 1, 1) := by decide +kernel
theorem dX9_play_78 : decode cX9_play 78 = .ok (.iload_n 3, 1) := by decide +kernel
theorem dX9_play_79 : decode cX9_play 79 = .ok (.iload 5, 2) := by decide +kernel
theorem dX9_play_81 : decode cX9_play 81 = .ok (.iconst (-1), 1) := by decide +kernel
theorem dX9_play_82 : decode cX9_play 82 = .ok (.ixor, 1) := by decide +kernel
theorem dX9_play_83 : decode cX9_play 83 = .ok (.iand, 1) := by decide +kernel
theorem dX9_play_84 : decode cX9_play 84 = .ok (.iload 4, 2) := by decide +kernel
theorem dX9_play_86 : decode cX9_play 86 = .ok (.invokevirtual 52, 3) := by decide +kernel
theorem dX9_play_89 : decode cX9_play 89 = .ok (.aload_n 1, 1) := by decide +kernel
theorem dX9_play_90 : decode cX9_play 90 = .ok (.invokestatic 55, 3) := by decide +kernel
theorem dX9_play_93 : decode cX9_play 93 = .ok (.aload_n 1, 1) := by decide +kernel
theorem dX9_play_94 : decode cX9_play 94 = .ok (.sipush 9999, 3) := by decide +kernel
theorem dX9_play_97 : decode cX9_play 97 = .ok (.aload_n 1, 1) := by decide +kernel
theorem dX9_play_98 : decode cX9_play 98 = .ok (.getfield 58, 3) := by decide +kernel
theorem dX9_play_101 : decode cX9_play 101 = .ok (.iconst 1, 1) := by decide +kernel
theorem dX9_play_102 : decode cX9_play 102 = .ok (.iadd, 1) := by decide +kernel
theorem dX9_play_103 : decode cX9_play 103 = .ok (.invokestatic 63, 3) := by decide +kernel
theorem dX9_play_106 : decode cX9_play 106 = .ok (.putfield 58, 3) := by decide +kernel
theorem dX9_play_109 : decode cX9_play 109 = .ok (.iload 5, 2) := by decide +kernel
theorem dX9_play_111 : decode cX9_play 111 = .ok (.invokestatic 69, 3) := by decide +kernel
theorem dX9_play_114 : decode cX9_play 114 = .ok (.ireturn, 1) := by decide +kernel
set_option maxRecDepth 20000 in
theorem ggX9_sendersOf_X11_isIn : GoodIn wsX9_sendersOf wsX11_isIn := goodIn_r _ [7] (by decide +kernel) (by decide +kernel)
set_option maxRecDepth 20000 in
theorem gX9_sendersOf_X11_isIn_n78 : GoodIn wsX9_sendersOf (wsX11_isIn) := ggX9_sendersOf_X11_isIn
set_option maxRecDepth 20000 in
theorem ggX9_sendersOf_X7_draw : GoodIn wsX9_sendersOf wsX7_draw := goodIn_r _ [12, 13, 14, 17, 18, 19, 20, 21, 22, 23, 24, 25, 26, 27] (by decide +kernel) (by decide +kernel)
set_option maxRecDepth 20000 in
theorem gX9_sendersOf_X7_draw : GoodIn wsX9_sendersOf (wsV RX9 82 RX7 yX7_draw wsX7_draw) := goodIn_app (goodIn_of _ (by decide +kernel)) ggX9_sendersOf_X7_draw
set_option maxRecDepth 20000 in
theorem ggX9_sendersOf_X11_bit : GoodIn wsX9_sendersOf wsX11_bit := goodIn_r _ [16] (by decide +kernel) (by decide +kernel)
set_option maxRecDepth 20000 in
theorem gX9_sendersOf_X11_bit_n92 : GoodIn wsX9_sendersOf (wsX11_bit) := ggX9_sendersOf_X11_bit
theorem dX9_sendersOf_0 : decode cX9_sendersOf 0 = .ok (.iconst 0, 1) := by decide +kernel
theorem dX9_sendersOf_1 : decode cX9_sendersOf 1 = .ok (.istore 4, 2) := by decide +kernel
theorem dX9_sendersOf_3 : decode cX9_sendersOf 3 = .ok (.iconst 0, 1) := by decide +kernel
theorem dX9_sendersOf_4 : decode cX9_sendersOf 4 = .ok (.istore 5, 2) := by decide +kernel
theorem dX9_sendersOf_6 : decode cX9_sendersOf 6 = .ok (.iload 5, 2) := by decide +kernel
theorem dX9_sendersOf_8 : decode cX9_sendersOf 8 = .ok (.aload_n 1, 1) := by decide +kernel
theorem dX9_sendersOf_9 : decode cX9_sendersOf 9 = .ok (.getfield 75, 3) := by decide +kernel
theorem dX9_sendersOf_12 : decode cX9_sendersOf 12 = .ok (.if_icmp .ge 102, 3) := by decide +kernel
theorem dX9_sendersOf_15 : decode cX9_sendersOf 15 = .ok (.iload_n 2, 1) := by decide +kernel
theorem dX9_sendersOf_16 : decode cX9_sendersOf 16 = .ok (.iload 5, 2) := by decide +kernel
theorem dX9_sendersOf_18 : decode cX9_sendersOf 18 = .ok (.invokestatic 78, 3) := by decide +kernel
theorem dX9_sendersOf_21 : decode cX9_sendersOf 21 = .ok (.ifCond .eq 87, 3) := by decide +kernel
theorem dX9_sendersOf_24 : decode cX9_sendersOf 24 = .ok (.iload_n 3, 1) := by decide +kernel
theorem dX9_sendersOf_25 : decode cX9_sendersOf 25 = .ok (.ifCond .eq 31, 3) := by decide +kernel
theorem dX9_sendersOf_28 : decode cX9_sendersOf 28 = .ok (.aload_n 1, 1) := by decide +kernel
theorem dX9_sendersOf_29 : decode cX9_sendersOf 29 = .ok (.invokevirtual 82, 3) := by decide +kernel
theorem dX9_sendersOf_32 : decode cX9_sendersOf 32 = .ok (.bipush 100, 2) := by decide +kernel
theorem dX9_sendersOf_34 : decode cX9_sendersOf 34 = .ok (.irem, 1) := by decide +kernel
theorem dX9_sendersOf_35 : decode cX9_sendersOf 35 = .ok (.aload_n 0, 1) := by decide +kernel
theorem dX9_sendersOf_36 : decode cX9_sendersOf 36 = .ok (.getfield 12, 3) := by decide +kernel
theorem dX9_sendersOf_39 : decode cX9_sendersOf 39 = .ok (.getfield 86, 3) := by decide +kernel
theorem dX9_sendersOf_42 : decode cX9_sendersOf 42 = .ok (.iload 5, 2) := by decide +kernel
theorem dX9_sendersOf_44 : decode cX9_sendersOf 44 = .ok (.iaload, 1) := by decide +kernel
theorem dX9_sendersOf_45 : decode cX9_sendersOf 45 = .ok (.if_icmp .ge 7, 3) := by decide +kernel
theorem dX9_sendersOf_48 : decode cX9_sendersOf 48 = .ok (.iconst 1, 1) := by decide +kernel
theorem dX9_sendersOf_49 : decode cX9_sendersOf 49 = .ok (.goto 27, 3) := by decide +kernel
theorem dX9_sendersOf_52 : decode cX9_sendersOf 52 = .ok (.iconst 0, 1) := by decide +kernel
theorem dX9_sendersOf_53 : decode cX9_sendersOf 53 = .ok (.goto 23, 3) := by decide +kernel
theorem dX9_sendersOf_56 : decode cX9_sendersOf 56 = .ok (.aload_n 0, 1) := by decide +kernel
theorem dX9_sendersOf_57 : decode cX9_sendersOf 57 = .ok (.getfield 12, 3) := by decide +kernel
theorem dX9_sendersOf_60 : decode cX9_sendersOf 60 = .ok (.getfield 86, 3) := by decide +kernel
theorem dX9_sendersOf_63 : decode cX9_sendersOf 63 = .ok (.iload 5, 2) := by decide +kernel
theorem dX9_sendersOf_65 : decode cX9_sendersOf 65 = .ok (.iaload, 1) := by decide +kernel
theorem dX9_sendersOf_66 : decode cX9_sendersOf 66 = .ok (.bipush 100, 2) := by decide +kernel
theorem dX9_sendersOf_68 : decode cX9_sendersOf 68 = .ok (.if_icmp .lt 7, 3) := by decide +kernel
theorem dX9_sendersOf_71 : decode cX9_sendersOf 71 = .ok (.iconst 1, 1) := by decide +kernel
theorem dX9_sendersOf_72 : decode cX9_sendersOf 72 = .ok (.goto 4, 3) := by decide +kernel
theorem dX9_sendersOf_75 : decode cX9_sendersOf 75 = .ok (.iconst 0, 1) := by decide +kernel
theorem dX9_sendersOf_76 : decode cX9_sendersOf 76 = .ok (.istore 6, 2) := by decide +kernel
theorem dX9_sendersOf_78 : decode cX9_sendersOf 78 = .ok (.iload 6, 2) := by decide +kernel
theorem dX9_sendersOf_80 : decode cX9_sendersOf 80 = .ok (.ifCond .ne 28, 3) := by decide +kernel
theorem dX9_sendersOf_83 : decode cX9_sendersOf 83 = .ok (.aload_n 0, 1) := by decide +kernel
theorem dX9_sendersOf_84 : decode cX9_sendersOf 84 = .ok (.getfield 12, 3) := by decide +kernel
theorem dX9_sendersOf_87 : decode cX9_sendersOf 87 = .ok (.getfield 89, 3) := by decide +kernel
theorem dX9_sendersOf_90 : decode cX9_sendersOf 90 = .ok (.iload 5, 2) := by decide +kernel
theorem dX9_sendersOf_92 : decode cX9_sendersOf 92 = .ok (.invokestatic 78, 3) := by decide +kernel
theorem dX9_sendersOf_95 : decode cX9_sendersOf 95 = .ok (.ifCond .eq 13, 3) := by decide +kernel
theorem dX9_sendersOf_98 : decode cX9_sendersOf 98 = .ok (.iload 4, 2) := by decide +kernel
theorem dX9_sendersOf_100 : decode cX9_sendersOf 100 = .ok (.iload 5, 2) := by decide +kernel
theorem dX9_sendersOf_102 : decode cX9_sendersOf 102 = .ok (.invokestatic 92, 3) := by decide +kernel
theorem dX9_sendersOf_105 : decode cX9_sendersOf 105 = .ok (.ior, 1) := by decide +kernel
theorem dX9_sendersOf_106 : decode cX9_sendersOf 106 = .ok (.istore 4, 2) := by decide +kernel
theorem dX9_sendersOf_108 : decode cX9_sendersOf 108 = .ok (.iinc 5 1, 3) := by decide +kernel
theorem dX9_sendersOf_111 : decode cX9_sendersOf 111 = .ok (.goto (-105), 3) := by decide +kernel
theorem dX9_sendersOf_114 : decode cX9_sendersOf 114 = .ok (.iload 4, 2) := by decide +kernel
theorem dX9_sendersOf_116 : decode cX9_sendersOf 116 = .ok (.ireturn, 1) := by decide +kernel
set_option maxRecDepth 20000 in
theorem ggX9_callOrWait_X11_bit : GoodIn wsX9_callOrWait wsX11_bit := goodIn_r _ [17] (by decide +kernel) (by decide +kernel)
set_option maxRecDepth 20000 in
theorem gX9_callOrWait_X11_bit_n92 : GoodIn wsX9_callOrWait (wsX11_bit) := ggX9_callOrWait_X11_bit
set_option maxRecDepth 20000 in
theorem ggX9_callOrWait_J6_bitCount_0f7a4 : GoodIn wsX9_callOrWait wsJ6_bitCount_0f7a4 := goodIn_r _ [21, 22, 23, 24] (by decide +kernel) (by decide +kernel)
set_option maxRecDepth 20000 in
theorem gX9_callOrWait_J6_bitCount_0f7a4 : GoodIn wsX9_callOrWait (va_wsS RX9 69 yJ6_bitCount_0f7a4 wsJ6_bitCount_0f7a4) := goodIn_app (goodIn_of _ (by decide +kernel)) ggX9_callOrWait_J6_bitCount_0f7a4
set_option maxRecDepth 20000 in
theorem ggX9_callOrWait_X11_isIn : GoodIn wsX9_callOrWait wsX11_isIn := goodIn_r _ [26] (by decide +kernel) (by decide +kernel)
set_option maxRecDepth 20000 in
theorem gX9_callOrWait_X11_isIn_n78 : GoodIn wsX9_callOrWait (wsX11_isIn) := ggX9_callOrWait_X11_isIn
set_option maxRecDepth 20000 in
theorem ggX9_callOrWait_X3_sum : GoodIn wsX9_callOrWait wsX3_sum := goodIn_r _ [31, 32, 33, 34, 35, 36, 37, 38, 39, 40, 41, 42, 15, 16, 17, 43, 44, 45, 30, 46, 47, 48, 6, 7, 8, 49, 50, 51, 52, 53, 54, 55, 56, 57, 58, 59, 60, 61, 62, 63, 64, 19, 20, 21, 22, 23, 24, 65, 66, 67, 99, 100, 101, 102, 103, 104, 77, 78, 79, 80, 81, 82, 83, 84, 85, 86, 87, 88, 89, 90, 91, 92, 93, 94, 95, 96, 97, 98] (by decide +kernel) (by decide +kernel)
set_option maxRecDepth 20000 in
theorem gX9_callOrWait_X3_sum : GoodIn wsX9_callOrWait (wsV RX9 114 RX3 yX3_sum wsX3_sum) := goodIn_app (goodIn_of _ (by decide +kernel)) ggX9_callOrWait_X3_sum
set_option maxRecDepth 20000 in
theorem ggX9_callOrWait_X7_note : GoodIn wsX9_callOrWait wsX7_note := goodIn_r _ [71, 72, 73, 74, 75, 76, 11, 7, 12, 77, 78, 79, 80, 81, 82, 83, 84, 85, 86, 87] (by decide +kernel) (by decide +kernel)
set_option maxRecDepth 20000 in
theorem gX9_callOrWait_X7_note : GoodIn wsX9_callOrWait (wsV RX9 120 RX7 yX7_note wsX7_note) := goodIn_app (goodIn_of _ (by decide +kernel)) ggX9_callOrWait_X7_note
theorem dX9_callOrWait_0 : decode cX9_callOrWait 0 = .ok (.iconst 0, 1) := by decide +kernel
theorem dX9_callOrWait_1 : decode cX9_callOrWait 1 = .ok (.istore_n 1, 1) := by decide +kernel
theorem dX9_callOrWait_2 : decode cX9_callOrWait 2 = .ok (.iconst 0, 1) := by decide +kernel
theorem dX9_callOrWait_3 : decode cX9_callOrWait 3 = .ok (.istore_n 2, 1) := by decide +kernel
theorem dX9_callOrWait_4 : decode cX9_callOrWait 4 = .ok (.iload_n 2, 1) := by decide +kernel
theorem dX9_callOrWait_5 : decode cX9_callOrWait 5 = .ok (.aload_n 0, 1) := by decide +kernel
theorem dX9_callOrWait_6 : decode cX9_callOrWait 6 = .ok (.getfield 75, 3) := by decide +kernel
theorem dX9_callOrWait_9 : decode cX9_callOrWait 9 = .ok (.if_icmp .ge 56, 3) := by decide +kernel
theorem dX9_callOrWait_12 : decode cX9_callOrWait 12 = .ok (.aload_n 0, 1) := by decide +kernel
theorem dX9_callOrWait_13 : decode cX9_callOrWait 13 = .ok (.getfield 95, 3) := by decide +kernel
theorem dX9_callOrWait_16 : decode cX9_callOrWait 16 = .ok (.iload_n 2, 1) := by decide +kernel
theorem dX9_callOrWait_17 : decode cX9_callOrWait 17 = .ok (.aaload, 1) := by decide +kernel
theorem dX9_callOrWait_18 : decode cX9_callOrWait 18 = .ok (.astore_n 3, 1) := by decide +kernel
theorem dX9_callOrWait_19 : decode cX9_callOrWait 19 = .ok (.aload_n 3, 1) := by decide +kernel
theorem dX9_callOrWait_20 : decode cX9_callOrWait 20 = .ok (.getfield 99, 3) := by decide +kernel
theorem dX9_callOrWait_23 : decode cX9_callOrWait 23 = .ok (.iconst 1, 1) := by decide +kernel
theorem dX9_callOrWait_24 : decode cX9_callOrWait 24 = .ok (.if_icmp .ne 35, 3) := by decide +kernel
theorem dX9_callOrWait_27 : decode cX9_callOrWait 27 = .ok (.aload_n 3, 1) := by decide +kernel
theorem dX9_callOrWait_28 : decode cX9_callOrWait 28 = .ok (.iconst 0, 1) := by decide +kernel
theorem dX9_callOrWait_29 : decode cX9_callOrWait 29 = .ok (.aload_n 3, 1) := by decide +kernel
theorem dX9_callOrWait_30 : decode cX9_callOrWait 30 = .ok (.getfield 104, 3) := by decide +kernel
theorem dX9_callOrWait_33 : decode cX9_callOrWait 33 = .ok (.iconst 1, 1) := by decide +kernel
theorem dX9_callOrWait_34 : decode cX9_callOrWait 34 = .ok (.isub, 1) := by decide +kernel
theorem dX9_callOrWait_35 : decode cX9_callOrWait 35 = .ok (.invokestatic 107, 3) := by decide +kernel
theorem dX9_callOrWait_38 : decode cX9_callOrWait 38 = .ok (.putfield 104, 3) := by decide +kernel
theorem dX9_callOrWait_41 : decode cX9_callOrWait 41 = .ok (.iload_n 1, 1) := by decide +kernel
theorem dX9_callOrWait_42 : decode cX9_callOrWait 42 = .ok (.aload_n 3, 1) := by decide +kernel
theorem dX9_callOrWait_43 : decode cX9_callOrWait 43 = .ok (.getfield 104, 3) := by decide +kernel
theorem dX9_callOrWait_46 : decode cX9_callOrWait 46 = .ok (.ifCond .ne 10, 3) := by decide +kernel
theorem dX9_callOrWait_49 : decode cX9_callOrWait 49 = .ok (.iload_n 2, 1) := by decide +kernel
theorem dX9_callOrWait_50 : decode cX9_callOrWait 50 = .ok (.invokestatic 92, 3) := by decide +kernel
theorem dX9_callOrWait_53 : decode cX9_callOrWait 53 = .ok (.goto 4, 3) := by decide +kernel
theorem dX9_callOrWait_56 : decode cX9_callOrWait 56 = .ok (.iconst 0, 1) := by decide +kernel
theorem dX9_callOrWait_57 : decode cX9_callOrWait 57 = .ok (.ior, 1) := by decide +kernel
theorem dX9_callOrWait_58 : decode cX9_callOrWait 58 = .ok (.istore_n 1, 1) := by decide +kernel
theorem dX9_callOrWait_59 : decode cX9_callOrWait 59 = .ok (.iinc 2 1, 3) := by decide +kernel
theorem dX9_callOrWait_62 : decode cX9_callOrWait 62 = .ok (.goto (-58), 3) := by decide +kernel
theorem dX9_callOrWait_65 : decode cX9_callOrWait 65 = .ok (.iload_n 1, 1) := by decide +kernel
theorem dX9_callOrWait_66 : decode cX9_callOrWait 66 = .ok (.invokestatic 69, 3) := by decide +kernel
theorem dX9_callOrWait_69 : decode cX9_callOrWait 69 = .ok (.iconst 1, 1) := by decide +kernel
theorem dX9_callOrWait_70 : decode cX9_callOrWait 70 = .ok (.if_icmp .le 7, 3) := by decide +kernel
theorem dX9_callOrWait_73 : decode cX9_callOrWait 73 = .ok (.iconst 1, 1) := by decide +kernel
theorem dX9_callOrWait_74 : decode cX9_callOrWait 74 = .ok (.goto 4, 3) := by decide +kernel
theorem dX9_callOrWait_77 : decode cX9_callOrWait 77 = .ok (.iconst 0, 1) := by decide +kernel
theorem dX9_callOrWait_78 : decode cX9_callOrWait 78 = .ok (.istore_n 2, 1) := by decide +kernel
theorem dX9_callOrWait_79 : decode cX9_callOrWait 79 = .ok (.iconst 0, 1) := by decide +kernel
theorem dX9_callOrWait_80 : decode cX9_callOrWait 80 = .ok (.istore_n 3, 1) := by decide +kernel
theorem dX9_callOrWait_81 : decode cX9_callOrWait 81 = .ok (.iload_n 3, 1) := by decide +kernel
theorem dX9_callOrWait_82 : decode cX9_callOrWait 82 = .ok (.aload_n 0, 1) := by decide +kernel
theorem dX9_callOrWait_83 : decode cX9_callOrWait 83 = .ok (.getfield 75, 3) := by decide +kernel
theorem dX9_callOrWait_86 : decode cX9_callOrWait 86 = .ok (.if_icmp .ge 105, 3) := by decide +kernel
theorem dX9_callOrWait_89 : decode cX9_callOrWait 89 = .ok (.aload_n 0, 1) := by decide +kernel
theorem dX9_callOrWait_90 : decode cX9_callOrWait 90 = .ok (.getfield 95, 3) := by decide +kernel
theorem dX9_callOrWait_93 : decode cX9_callOrWait 93 = .ok (.iload_n 3, 1) := by decide +kernel
theorem dX9_callOrWait_94 : decode cX9_callOrWait 94 = .ok (.aaload, 1) := by decide +kernel
theorem dX9_callOrWait_95 : decode cX9_callOrWait 95 = .ok (.astore 4, 2) := by decide +kernel
theorem dX9_callOrWait_97 : decode cX9_callOrWait 97 = .ok (.iload_n 1, 1) := by decide +kernel
theorem dX9_callOrWait_98 : decode cX9_callOrWait 98 = .ok (.iload_n 3, 1) := by decide +kernel
theorem dX9_callOrWait_99 : decode cX9_callOrWait 99 = .ok (.invokestatic 78, 3) := by decide +kernel
theorem dX9_callOrWait_102 : decode cX9_callOrWait 102 = .ok (.ifCond .eq 47, 3) := by decide +kernel
theorem dX9_callOrWait_105 : decode cX9_callOrWait 105 = .ok (.iload_n 2, 1) := by decide +kernel
theorem dX9_callOrWait_106 : decode cX9_callOrWait 106 = .ok (.ifCond .eq 43, 3) := by decide +kernel
theorem dX9_callOrWait_109 : decode cX9_callOrWait 109 = .ok (.aload 4, 2) := by decide +kernel
theorem dX9_callOrWait_111 : decode cX9_callOrWait 111 = .ok (.bipush 99, 2) := by decide +kernel
theorem dX9_callOrWait_113 : decode cX9_callOrWait 113 = .ok (.iconst 3, 1) := by decide +kernel
theorem dX9_callOrWait_114 : decode cX9_callOrWait 114 = .ok (.iload_n 3, 1) := by decide +kernel
theorem dX9_callOrWait_115 : decode cX9_callOrWait 115 = .ok (.iadd, 1) := by decide +kernel
theorem dX9_callOrWait_116 : decode cX9_callOrWait 116 = .ok (.aload_n 0, 1) := by decide +kernel
theorem dX9_callOrWait_117 : decode cX9_callOrWait 117 = .ok (.getfield 110, 3) := by decide +kernel
theorem dX9_callOrWait_120 : decode cX9_callOrWait 120 = .ok (.aload_n 0, 1) := by decide +kernel
theorem dX9_callOrWait_121 : decode cX9_callOrWait 121 = .ok (.iload_n 3, 1) := by decide +kernel
theorem dX9_callOrWait_122 : decode cX9_callOrWait 122 = .ok (.sipush 1012, 3) := by decide +kernel
theorem dX9_callOrWait_125 : decode cX9_callOrWait 125 = .ok (.invokevirtual 114, 3) := by decide +kernel
theorem dX9_callOrWait_128 : decode cX9_callOrWait 128 = .ok (.iadd, 1) := by decide +kernel
theorem dX9_callOrWait_129 : decode cX9_callOrWait 129 = .ok (.invokestatic 63, 3) := by decide +kernel
theorem dX9_callOrWait_132 : decode cX9_callOrWait 132 = .ok (.putfield 104, 3) := by decide +kernel
theorem dX9_callOrWait_135 : decode cX9_callOrWait 135 = .ok (.aload_n 0, 1) := by decide +kernel
theorem dX9_callOrWait_136 : decode cX9_callOrWait 136 = .ok (.iload_n 3, 1) := by decide +kernel
theorem dX9_callOrWait_137 : decode cX9_callOrWait 137 = .ok (.iconst 1, 1) := by decide +kernel
theorem dX9_callOrWait_138 : decode cX9_callOrWait 138 = .ok (.aload 4, 2) := by decide +kernel
theorem dX9_callOrWait_140 : decode cX9_callOrWait 140 = .ok (.getfield 104, 3) := by decide +kernel
theorem dX9_callOrWait_143 : decode cX9_callOrWait 143 = .ok (.invokevirtual 120, 3) := by decide +kernel
theorem dX9_callOrWait_146 : decode cX9_callOrWait 146 = .ok (.goto 39, 3) := by decide +kernel
theorem dX9_callOrWait_149 : decode cX9_callOrWait 149 = .ok (.iload_n 1, 1) := by decide +kernel
theorem dX9_callOrWait_150 : decode cX9_callOrWait 150 = .ok (.iload_n 3, 1) := by decide +kernel
theorem dX9_callOrWait_151 : decode cX9_callOrWait 151 = .ok (.invokestatic 78, 3) := by decide +kernel
theorem dX9_callOrWait_154 : decode cX9_callOrWait 154 = .ok (.ifCond .eq 31, 3) := by decide +kernel
theorem dX9_callOrWait_157 : decode cX9_callOrWait 157 = .ok (.aload 4, 2) := by decide +kernel
theorem dX9_callOrWait_159 : decode cX9_callOrWait 159 = .ok (.iconst 2, 1) := by decide +kernel
theorem dX9_callOrWait_160 : decode cX9_callOrWait 160 = .ok (.putfield 99, 3) := by decide +kernel
theorem dX9_callOrWait_163 : decode cX9_callOrWait 163 = .ok (.aload 4, 2) := by decide +kernel
theorem dX9_callOrWait_165 : decode cX9_callOrWait 165 = .ok (.iload_n 3, 1) := by decide +kernel
theorem dX9_callOrWait_166 : decode cX9_callOrWait 166 = .ok (.invokestatic 92, 3) := by decide +kernel
theorem dX9_callOrWait_169 : decode cX9_callOrWait 169 = .ok (.putfield 124, 3) := by decide +kernel
theorem dX9_callOrWait_172 : decode cX9_callOrWait 172 = .ok (.aload 4, 2) := by decide +kernel
theorem dX9_callOrWait_174 : decode cX9_callOrWait 174 = .ok (.iconst 0, 1) := by decide +kernel
theorem dX9_callOrWait_175 : decode cX9_callOrWait 175 = .ok (.putfield 127, 3) := by decide +kernel
theorem dX9_callOrWait_178 : decode cX9_callOrWait 178 = .ok (.aload_n 0, 1) := by decide +kernel
theorem dX9_callOrWait_179 : decode cX9_callOrWait 179 = .ok (.iload_n 3, 1) := by decide +kernel
theorem dX9_callOrWait_180 : decode cX9_callOrWait 180 = .ok (.iconst 0, 1) := by decide +kernel
theorem dX9_callOrWait_181 : decode cX9_callOrWait 181 = .ok (.iconst 0, 1) := by decide +kernel
theorem dX9_callOrWait_182 : decode cX9_callOrWait 182 = .ok (.invokevirtual 120, 3) := by decide +kernel
theorem dX9_callOrWait_185 : decode cX9_callOrWait 185 = .ok (.iinc 3 1, 3) := by decide +kernel
theorem dX9_callOrWait_188 : decode cX9_callOrWait 188 = .ok (.goto (-107), 3) := by decide +kernel
theorem dX9_callOrWait_191 : decode cX9_callOrWait 191 = .ok (.return_, 1) := by decide +kernel
set_option maxRecDepth 20000 in
theorem ggX9_joinAll_X11_lowest : GoodIn wsX9_joinAll wsX11_lowest := goodIn_r _ [10, 11, 12, 9, 13] (by decide +kernel) (by decide +kernel)
set_option maxRecDepth 20000 in
theorem gX9_joinAll_X11_lowest_n130 : GoodIn wsX9_joinAll (wsX11_lowest) := ggX9_joinAll_X11_lowest
set_option maxRecDepth 20000 in
theorem ggX9_joinAll_X11_keepWithin : GoodIn wsX9_joinAll wsX11_keepWithin := goodIn_r _ [15, 16, 17, 18, 19, 20, 21, 22] (by decide +kernel) (by decide +kernel)
set_option maxRecDepth 20000 in
theorem gX9_joinAll_X11_keepWithin_n137 : GoodIn wsX9_joinAll (wsX11_keepWithin) := ggX9_joinAll_X11_keepWithin
set_option maxRecDepth 20000 in
theorem ggX9_joinAll_X11_bit : GoodIn wsX9_joinAll wsX11_bit := goodIn_r _ [24] (by decide +kernel) (by decide +kernel)
set_option maxRecDepth 20000 in
theorem gX9_joinAll_X11_bit_n92 : GoodIn wsX9_joinAll (wsX11_bit) := ggX9_joinAll_X11_bit
set_option maxRecDepth 20000 in
theorem ggX9_joinAll_X7_note : GoodIn wsX9_joinAll wsX7_note := goodIn_r _ [29, 30, 31, 32, 33, 34, 17, 18, 19, 35, 36, 37, 38, 39, 40, 41, 42, 43, 44, 45] (by decide +kernel) (by decide +kernel)
set_option maxRecDepth 20000 in
theorem gX9_joinAll_X7_note : GoodIn wsX9_joinAll (wsV RX9 120 RX7 yX7_note wsX7_note) := goodIn_app (goodIn_of _ (by decide +kernel)) ggX9_joinAll_X7_note
theorem dX9_joinAll_0 : decode cX9_joinAll 0 = .ok (.iload_n 2, 1) := by decide +kernel
theorem dX9_joinAll_1 : decode cX9_joinAll 1 = .ok (.invokestatic 130, 3) := by decide +kernel
theorem dX9_joinAll_4 : decode cX9_joinAll 4 = .ok (.istore_n 3, 1) := by decide +kernel
theorem dX9_joinAll_5 : decode cX9_joinAll 5 = .ok (.iload_n 3, 1) := by decide +kernel
theorem dX9_joinAll_6 : decode cX9_joinAll 6 = .ok (.ifCond .lt 11, 3) := by decide +kernel
theorem dX9_joinAll_9 : decode cX9_joinAll 9 = .ok (.iload_n 3, 1) := by decide +kernel
theorem dX9_joinAll_10 : decode cX9_joinAll 10 = .ok (.aload_n 1, 1) := by decide +kernel
theorem dX9_joinAll_11 : decode cX9_joinAll 11 = .ok (.getfield 75, 3) := by decide +kernel
theorem dX9_joinAll_14 : decode cX9_joinAll 14 = .ok (.if_icmp .lt 4, 3) := by decide +kernel
theorem dX9_joinAll_17 : decode cX9_joinAll 17 = .ok (.return_, 1) := by decide +kernel
theorem dX9_joinAll_18 : decode cX9_joinAll 18 = .ok (.iconst 0, 1) := by decide +kernel
theorem dX9_joinAll_19 : decode cX9_joinAll 19 = .ok (.istore 4, 2) := by decide +kernel
theorem dX9_joinAll_21 : decode cX9_joinAll 21 = .ok (.iload 4, 2) := by decide +kernel
theorem dX9_joinAll_23 : decode cX9_joinAll 23 = .ok (.aload_n 1, 1) := by decide +kernel
theorem dX9_joinAll_24 : decode cX9_joinAll 24 = .ok (.getfield 75, 3) := by decide +kernel
theorem dX9_joinAll_27 : decode cX9_joinAll 27 = .ok (.if_icmp .ge 84, 3) := by decide +kernel
theorem dX9_joinAll_30 : decode cX9_joinAll 30 = .ok (.aload_n 1, 1) := by decide +kernel
theorem dX9_joinAll_31 : decode cX9_joinAll 31 = .ok (.getfield 95, 3) := by decide +kernel
theorem dX9_joinAll_34 : decode cX9_joinAll 34 = .ok (.iload 4, 2) := by decide +kernel
theorem dX9_joinAll_36 : decode cX9_joinAll 36 = .ok (.aaload, 1) := by decide +kernel
theorem dX9_joinAll_37 : decode cX9_joinAll 37 = .ok (.astore 5, 2) := by decide +kernel
theorem dX9_joinAll_39 : decode cX9_joinAll 39 = .ok (.aload 5, 2) := by decide +kernel
theorem dX9_joinAll_41 : decode cX9_joinAll 41 = .ok (.getfield 99, 3) := by decide +kernel
theorem dX9_joinAll_44 : decode cX9_joinAll 44 = .ok (.iconst 1, 1) := by decide +kernel
theorem dX9_joinAll_45 : decode cX9_joinAll 45 = .ok (.if_icmp .ne 60, 3) := by decide +kernel
theorem dX9_joinAll_48 : decode cX9_joinAll 48 = .ok (.aload 5, 2) := by decide +kernel
theorem dX9_joinAll_50 : decode cX9_joinAll 50 = .ok (.aload_n 0, 1) := by decide +kernel
theorem dX9_joinAll_51 : decode cX9_joinAll 51 = .ok (.getfield 12, 3) := by decide +kernel
theorem dX9_joinAll_54 : decode cX9_joinAll 54 = .ok (.getfield 133, 3) := by decide +kernel
theorem dX9_joinAll_57 : decode cX9_joinAll 57 = .ok (.iload_n 3, 1) := by decide +kernel
theorem dX9_joinAll_58 : decode cX9_joinAll 58 = .ok (.aaload, 1) := by decide +kernel
theorem dX9_joinAll_59 : decode cX9_joinAll 59 = .ok (.iload 4, 2) := by decide +kernel
theorem dX9_joinAll_61 : decode cX9_joinAll 61 = .ok (.iaload, 1) := by decide +kernel
theorem dX9_joinAll_62 : decode cX9_joinAll 62 = .ok (.sipush 999, 3) := by decide +kernel
theorem dX9_joinAll_65 : decode cX9_joinAll 65 = .ok (.invokestatic 137, 3) := by decide +kernel
theorem dX9_joinAll_68 : decode cX9_joinAll 68 = .ok (.putfield 140, 3) := by decide +kernel
theorem dX9_joinAll_71 : decode cX9_joinAll 71 = .ok (.aload 5, 2) := by decide +kernel
theorem dX9_joinAll_73 : decode cX9_joinAll 73 = .ok (.aload_n 1, 1) := by decide +kernel
theorem dX9_joinAll_74 : decode cX9_joinAll 74 = .ok (.getfield 95, 3) := by decide +kernel
theorem dX9_joinAll_77 : decode cX9_joinAll 77 = .ok (.iload_n 3, 1) := by decide +kernel
theorem dX9_joinAll_78 : decode cX9_joinAll 78 = .ok (.aaload, 1) := by decide +kernel
theorem dX9_joinAll_79 : decode cX9_joinAll 79 = .ok (.getfield 124, 3) := by decide +kernel
theorem dX9_joinAll_82 : decode cX9_joinAll 82 = .ok (.iload 4, 2) := by decide +kernel
theorem dX9_joinAll_84 : decode cX9_joinAll 84 = .ok (.invokestatic 92, 3) := by decide +kernel
theorem dX9_joinAll_87 : decode cX9_joinAll 87 = .ok (.ior, 1) := by decide +kernel
theorem dX9_joinAll_88 : decode cX9_joinAll 88 = .ok (.putfield 124, 3) := by decide +kernel
theorem dX9_joinAll_91 : decode cX9_joinAll 91 = .ok (.aload 5, 2) := by decide +kernel
theorem dX9_joinAll_93 : decode cX9_joinAll 93 = .ok (.iconst 2, 1) := by decide +kernel
theorem dX9_joinAll_94 : decode cX9_joinAll 94 = .ok (.putfield 99, 3) := by decide +kernel
theorem dX9_joinAll_97 : decode cX9_joinAll 97 = .ok (.aload_n 1, 1) := by decide +kernel
theorem dX9_joinAll_98 : decode cX9_joinAll 98 = .ok (.iload 4, 2) := by decide +kernel
theorem dX9_joinAll_100 : decode cX9_joinAll 100 = .ok (.iconst 2, 1) := by decide +kernel
theorem dX9_joinAll_101 : decode cX9_joinAll 101 = .ok (.iload_n 3, 1) := by decide +kernel
theorem dX9_joinAll_102 : decode cX9_joinAll 102 = .ok (.invokevirtual 120, 3) := by decide +kernel
theorem dX9_joinAll_105 : decode cX9_joinAll 105 = .ok (.iinc 4 1, 3) := by decide +kernel
theorem dX9_joinAll_108 : decode cX9_joinAll 108 = .ok (.goto (-87), 3) := by decide +kernel
theorem dX9_joinAll_111 : decode cX9_joinAll 111 = .ok (.return_, 1) := by decide +kernel
set_option maxRecDepth 20000 in
theorem ggX9_judge_X11_isIn : GoodIn wsX9_judge wsX11_isIn := goodIn_r _ [10] (by decide +kernel) (by decide +kernel)
set_option maxRecDepth 20000 in
theorem gX9_judge_X11_isIn_n78 : GoodIn wsX9_judge (wsX11_isIn) := ggX9_judge_X11_isIn
set_option maxRecDepth 20000 in
theorem ggX9_judge_X11_bit : GoodIn wsX9_judge wsX11_bit := goodIn_r _ [12] (by decide +kernel) (by decide +kernel)
set_option maxRecDepth 20000 in
theorem gX9_judge_X11_bit_n92 : GoodIn wsX9_judge (wsX11_bit) := ggX9_judge_X11_bit
set_option maxRecDepth 20000 in
theorem ggX9_judge_J6_bitCount_0f7a4 : GoodIn wsX9_judge wsJ6_bitCount_0f7a4 := goodIn_r _ [16, 17, 18, 19] (by decide +kernel) (by decide +kernel)
set_option maxRecDepth 20000 in
theorem gX9_judge_J6_bitCount_0f7a4 : GoodIn wsX9_judge (va_wsS RX9 69 yJ6_bitCount_0f7a4 wsJ6_bitCount_0f7a4) := goodIn_app (goodIn_of _ (by decide +kernel)) ggX9_judge_J6_bitCount_0f7a4
theorem dX9_judge_0 : decode cX9_judge 0 = .ok (.iconst 0, 1) := by decide +kernel
theorem dX9_judge_1 : decode cX9_judge 1 = .ok (.istore 4, 2) := by decide +kernel
theorem dX9_judge_3 : decode cX9_judge 3 = .ok (.iload 4, 2) := by decide +kernel
theorem dX9_judge_5 : decode cX9_judge 5 = .ok (.aload_n 1, 1) := by decide +kernel
theorem dX9_judge_6 : decode cX9_judge 6 = .ok (.getfield 75, 3) := by decide +kernel
theorem dX9_judge_9 : decode cX9_judge 9 = .ok (.if_icmp .ge 100, 3) := by decide +kernel
theorem dX9_judge_12 : decode cX9_judge 12 = .ok (.iload_n 2, 1) := by decide +kernel
theorem dX9_judge_13 : decode cX9_judge 13 = .ok (.iload 4, 2) := by decide +kernel
theorem dX9_judge_15 : decode cX9_judge 15 = .ok (.invokestatic 78, 3) := by decide +kernel
theorem dX9_judge_18 : decode cX9_judge 18 = .ok (.ifCond .eq 85, 3) := by decide +kernel
theorem dX9_judge_21 : decode cX9_judge 21 = .ok (.aload_n 1, 1) := by decide +kernel
theorem dX9_judge_22 : decode cX9_judge 22 = .ok (.getfield 95, 3) := by decide +kernel
theorem dX9_judge_25 : decode cX9_judge 25 = .ok (.iload 4, 2) := by decide +kernel
theorem dX9_judge_27 : decode cX9_judge 27 = .ok (.aaload, 1) := by decide +kernel
theorem dX9_judge_28 : decode cX9_judge 28 = .ok (.astore 5, 2) := by decide +kernel
theorem dX9_judge_30 : decode cX9_judge 30 = .ok (.iload_n 3, 1) := by decide +kernel
theorem dX9_judge_31 : decode cX9_judge 31 = .ok (.iload 4, 2) := by decide +kernel
theorem dX9_judge_33 : decode cX9_judge 33 = .ok (.invokestatic 92, 3) := by decide +kernel
theorem dX9_judge_36 : decode cX9_judge 36 = .ok (.iconst (-1), 1) := by decide +kernel
theorem dX9_judge_37 : decode cX9_judge 37 = .ok (.ixor, 1) := by decide +kernel
theorem dX9_judge_38 : decode cX9_judge 38 = .ok (.iand, 1) := by decide +kernel
theorem dX9_judge_39 : decode cX9_judge 39 = .ok (.istore 6, 2) := by decide +kernel
theorem dX9_judge_41 : decode cX9_judge 41 = .ok (.aload 5, 2) := by decide +kernel
theorem dX9_judge_43 : decode cX9_judge 43 = .ok (.iload 6, 2) := by decide +kernel
theorem dX9_judge_45 : decode cX9_judge 45 = .ok (.aload_n 0, 1) := by decide +kernel
theorem dX9_judge_46 : decode cX9_judge 46 = .ok (.getfield 12, 3) := by decide +kernel
theorem dX9_judge_49 : decode cX9_judge 49 = .ok (.getfield 143, 3) := by decide +kernel
theorem dX9_judge_52 : decode cX9_judge 52 = .ok (.iload 4, 2) := by decide +kernel
theorem dX9_judge_54 : decode cX9_judge 54 = .ok (.iaload, 1) := by decide +kernel
theorem dX9_judge_55 : decode cX9_judge 55 = .ok (.iand, 1) := by decide +kernel
theorem dX9_judge_56 : decode cX9_judge 56 = .ok (.iload_n 3, 1) := by decide +kernel
theorem dX9_judge_57 : decode cX9_judge 57 = .ok (.iload 4, 2) := by decide +kernel
theorem dX9_judge_59 : decode cX9_judge 59 = .ok (.invokestatic 92, 3) := by decide +kernel
theorem dX9_judge_62 : decode cX9_judge 62 = .ok (.iand, 1) := by decide +kernel
theorem dX9_judge_63 : decode cX9_judge 63 = .ok (.ior, 1) := by decide +kernel
theorem dX9_judge_64 : decode cX9_judge 64 = .ok (.putfield 124, 3) := by decide +kernel
theorem dX9_judge_67 : decode cX9_judge 67 = .ok (.aload 5, 2) := by decide +kernel
theorem dX9_judge_69 : decode cX9_judge 69 = .ok (.aload 5, 2) := by decide +kernel
theorem dX9_judge_71 : decode cX9_judge 71 = .ok (.getfield 124, 3) := by decide +kernel
theorem dX9_judge_74 : decode cX9_judge 74 = .ok (.invokestatic 69, 3) := by decide +kernel
theorem dX9_judge_77 : decode cX9_judge 77 = .ok (.putfield 146, 3) := by decide +kernel
theorem dX9_judge_80 : decode cX9_judge 80 = .ok (.aload 5, 2) := by decide +kernel
theorem dX9_judge_82 : decode cX9_judge 82 = .ok (.iload 6, 2) := by decide +kernel
theorem dX9_judge_84 : decode cX9_judge 84 = .ok (.aload_n 0, 1) := by decide +kernel
theorem dX9_judge_85 : decode cX9_judge 85 = .ok (.getfield 12, 3) := by decide +kernel
theorem dX9_judge_88 : decode cX9_judge 88 = .ok (.getfield 143, 3) := by decide +kernel
theorem dX9_judge_91 : decode cX9_judge 91 = .ok (.iload 4, 2) := by decide +kernel
theorem dX9_judge_93 : decode cX9_judge 93 = .ok (.iaload, 1) := by decide +kernel
theorem dX9_judge_94 : decode cX9_judge 94 = .ok (.iconst (-1), 1) := by decide +kernel
theorem dX9_judge_95 : decode cX9_judge 95 = .ok (.ixor, 1) := by decide +kernel
theorem dX9_judge_96 : decode cX9_judge 96 = .ok (.iand, 1) := by decide +kernel
theorem dX9_judge_97 : decode cX9_judge 97 = .ok (.invokestatic 69, 3) := by decide +kernel
theorem dX9_judge_100 : decode cX9_judge 100 = .ok (.putfield 149, 3) := by decide +kernel
theorem dX9_judge_103 : decode cX9_judge 103 = .ok (.iinc 4 1, 3) := by decide +kernel
theorem dX9_judge_106 : decode cX9_judge 106 = .ok (.goto (-103), 3) := by decide +kernel
theorem dX9_judge_109 : decode cX9_judge 109 = .ok (.return_, 1) := by decide +kernel
set_option maxRecDepth 20000 in
theorem ggX9_acknowledge_X9_nextOf : GoodIn wsX9_acknowledge wsX9_nextOf := goodIn_r _ [8, 9, 10, 11] (by decide +kernel) (by decide +kernel)
set_option maxRecDepth 20000 in
theorem gX9_acknowledge_X9_nextOf : GoodIn wsX9_acknowledge (va_wsS RX9 152 yX9_nextOf wsX9_nextOf) := goodIn_app (goodIn_of _ (by decide +kernel)) ggX9_acknowledge_X9_nextOf
set_option maxRecDepth 20000 in
theorem ggX9_acknowledge_X11_isIn : GoodIn wsX9_acknowledge wsX11_isIn := goodIn_r _ [11] (by decide +kernel) (by decide +kernel)
set_option maxRecDepth 20000 in
theorem gX9_acknowledge_X11_isIn_n78 : GoodIn wsX9_acknowledge (wsX11_isIn) := ggX9_acknowledge_X11_isIn
set_option maxRecDepth 20000 in
theorem ggX9_acknowledge_X11_bit : GoodIn wsX9_acknowledge wsX11_bit := goodIn_r _ [13] (by decide +kernel) (by decide +kernel)
set_option maxRecDepth 20000 in
theorem gX9_acknowledge_X11_bit_n92 : GoodIn wsX9_acknowledge (wsX11_bit) := ggX9_acknowledge_X11_bit
set_option maxRecDepth 20000 in
theorem ggX9_acknowledge_X9_freeze : GoodIn wsX9_acknowledge wsX9_freeze := goodIn_r _ [16, 3, 17, 18, 19, 20, 21, 22, 23, 24, 25, 26, 27, 28, 29, 30, 31, 32, 33, 34, 35, 36, 37, 38, 39, 40, 41, 42, 45, 46, 47, 48, 49, 50, 51, 52, 53, 54, 55] (by decide +kernel) (by decide +kernel)
set_option maxRecDepth 20000 in
theorem gX9_acknowledge_X9_freeze : GoodIn wsX9_acknowledge (va_wsS RX9 155 yX9_freeze wsX9_freeze) := goodIn_app (goodIn_of _ (by decide +kernel)) ggX9_acknowledge_X9_freeze
theorem dX9_acknowledge_0 : decode cX9_acknowledge 0 = .ok (.iconst 0, 1) := by decide +kernel
theorem dX9_acknowledge_1 : decode cX9_acknowledge 1 = .ok (.istore_n 3, 1) := by decide +kernel
theorem dX9_acknowledge_2 : decode cX9_acknowledge 2 = .ok (.iconst 0, 1) := by decide +kernel
theorem dX9_acknowledge_3 : decode cX9_acknowledge 3 = .ok (.istore 4, 2) := by decide +kernel
theorem dX9_acknowledge_5 : decode cX9_acknowledge 5 = .ok (.iload 4, 2) := by decide +kernel
theorem dX9_acknowledge_7 : decode cX9_acknowledge 7 = .ok (.aload_n 1, 1) := by decide +kernel
theorem dX9_acknowledge_8 : decode cX9_acknowledge 8 = .ok (.getfield 75, 3) := by decide +kernel
theorem dX9_acknowledge_11 : decode cX9_acknowledge 11 = .ok (.if_icmp .ge 26, 3) := by decide +kernel
theorem dX9_acknowledge_14 : decode cX9_acknowledge 14 = .ok (.aload_n 0, 1) := by decide +kernel
theorem dX9_acknowledge_15 : decode cX9_acknowledge 15 = .ok (.getfield 18, 3) := by decide +kernel
theorem dX9_acknowledge_18 : decode cX9_acknowledge 18 = .ok (.iload 4, 2) := by decide +kernel
theorem dX9_acknowledge_20 : decode cX9_acknowledge 20 = .ok (.aload_n 1, 1) := by decide +kernel
theorem dX9_acknowledge_21 : decode cX9_acknowledge 21 = .ok (.getfield 95, 3) := by decide +kernel
theorem dX9_acknowledge_24 : decode cX9_acknowledge 24 = .ok (.iload 4, 2) := by decide +kernel
theorem dX9_acknowledge_26 : decode cX9_acknowledge 26 = .ok (.aaload, 1) := by decide +kernel
theorem dX9_acknowledge_27 : decode cX9_acknowledge 27 = .ok (.getfield 124, 3) := by decide +kernel
theorem dX9_acknowledge_30 : decode cX9_acknowledge 30 = .ok (.iastore, 1) := by decide +kernel
theorem dX9_acknowledge_31 : decode cX9_acknowledge 31 = .ok (.iinc 4 1, 3) := by decide +kernel
theorem dX9_acknowledge_34 : decode cX9_acknowledge 34 = .ok (.goto (-29), 3) := by decide +kernel
theorem dX9_acknowledge_37 : decode cX9_acknowledge 37 = .ok (.iconst 0, 1) := by decide +kernel
theorem dX9_acknowledge_38 : decode cX9_acknowledge 38 = .ok (.istore 4, 2) := by decide +kernel
theorem dX9_acknowledge_40 : decode cX9_acknowledge 40 = .ok (.iload 4, 2) := by decide +kernel
theorem dX9_acknowledge_42 : decode cX9_acknowledge 42 = .ok (.aload_n 1, 1) := by decide +kernel
theorem dX9_acknowledge_43 : decode cX9_acknowledge 43 = .ok (.getfield 75, 3) := by decide +kernel
theorem dX9_acknowledge_46 : decode cX9_acknowledge 46 = .ok (.if_icmp .ge 118, 3) := by decide +kernel
theorem dX9_acknowledge_49 : decode cX9_acknowledge 49 = .ok (.iload_n 2, 1) := by decide +kernel
theorem dX9_acknowledge_50 : decode cX9_acknowledge 50 = .ok (.iload 4, 2) := by decide +kernel
theorem dX9_acknowledge_52 : decode cX9_acknowledge 52 = .ok (.invokestatic 152, 3) := by decide +kernel
theorem dX9_acknowledge_55 : decode cX9_acknowledge 55 = .ok (.istore 5, 2) := by decide +kernel
theorem dX9_acknowledge_57 : decode cX9_acknowledge 57 = .ok (.iload_n 2, 1) := by decide +kernel
theorem dX9_acknowledge_58 : decode cX9_acknowledge 58 = .ok (.iload 4, 2) := by decide +kernel
theorem dX9_acknowledge_60 : decode cX9_acknowledge 60 = .ok (.invokestatic 78, 3) := by decide +kernel
theorem dX9_acknowledge_63 : decode cX9_acknowledge 63 = .ok (.ifCond .eq 95, 3) := by decide +kernel
theorem dX9_acknowledge_66 : decode cX9_acknowledge 66 = .ok (.iload 5, 2) := by decide +kernel
theorem dX9_acknowledge_68 : decode cX9_acknowledge 68 = .ok (.iload 4, 2) := by decide +kernel
theorem dX9_acknowledge_70 : decode cX9_acknowledge 70 = .ok (.if_icmp .eq 88, 3) := by decide +kernel
theorem dX9_acknowledge_73 : decode cX9_acknowledge 73 = .ok (.aload_n 0, 1) := by decide +kernel
theorem dX9_acknowledge_74 : decode cX9_acknowledge 74 = .ok (.getfield 18, 3) := by decide +kernel
theorem dX9_acknowledge_77 : decode cX9_acknowledge 77 = .ok (.iload 5, 2) := by decide +kernel
theorem dX9_acknowledge_79 : decode cX9_acknowledge 79 = .ok (.iaload, 1) := by decide +kernel
theorem dX9_acknowledge_80 : decode cX9_acknowledge 80 = .ok (.iload 4, 2) := by decide +kernel
theorem dX9_acknowledge_82 : decode cX9_acknowledge 82 = .ok (.invokestatic 78, 3) := by decide +kernel
theorem dX9_acknowledge_85 : decode cX9_acknowledge 85 = .ok (.ifCond .ne 73, 3) := by decide +kernel
theorem dX9_acknowledge_88 : decode cX9_acknowledge 88 = .ok (.iload_n 2, 1) := by decide +kernel
theorem dX9_acknowledge_89 : decode cX9_acknowledge 89 = .ok (.iload 5, 2) := by decide +kernel
theorem dX9_acknowledge_91 : decode cX9_acknowledge 91 = .ok (.invokestatic 152, 3) := by decide +kernel
theorem dX9_acknowledge_94 : decode cX9_acknowledge 94 = .ok (.istore 6, 2) := by decide +kernel
theorem dX9_acknowledge_96 : decode cX9_acknowledge 96 = .ok (.iload 6, 2) := by decide +kernel
theorem dX9_acknowledge_98 : decode cX9_acknowledge 98 = .ok (.iload 4, 2) := by decide +kernel
theorem dX9_acknowledge_100 : decode cX9_acknowledge 100 = .ok (.if_icmp .eq 43, 3) := by decide +kernel
theorem dX9_acknowledge_103 : decode cX9_acknowledge 103 = .ok (.aload_n 0, 1) := by decide +kernel
theorem dX9_acknowledge_104 : decode cX9_acknowledge 104 = .ok (.getfield 18, 3) := by decide +kernel
theorem dX9_acknowledge_107 : decode cX9_acknowledge 107 = .ok (.iload 6, 2) := by decide +kernel
theorem dX9_acknowledge_109 : decode cX9_acknowledge 109 = .ok (.iaload, 1) := by decide +kernel
theorem dX9_acknowledge_110 : decode cX9_acknowledge 110 = .ok (.iload 4, 2) := by decide +kernel
theorem dX9_acknowledge_112 : decode cX9_acknowledge 112 = .ok (.invokestatic 78, 3) := by decide +kernel
theorem dX9_acknowledge_115 : decode cX9_acknowledge 115 = .ok (.ifCond .eq 28, 3) := by decide +kernel
theorem dX9_acknowledge_118 : decode cX9_acknowledge 118 = .ok (.aload_n 1, 1) := by decide +kernel
theorem dX9_acknowledge_119 : decode cX9_acknowledge 119 = .ok (.getfield 95, 3) := by decide +kernel
theorem dX9_acknowledge_122 : decode cX9_acknowledge 122 = .ok (.iload 4, 2) := by decide +kernel
theorem dX9_acknowledge_124 : decode cX9_acknowledge 124 = .ok (.aaload, 1) := by decide +kernel
theorem dX9_acknowledge_125 : decode cX9_acknowledge 125 = .ok (.dup, 1) := by decide +kernel
theorem dX9_acknowledge_126 : decode cX9_acknowledge 126 = .ok (.getfield 124, 3) := by decide +kernel
theorem dX9_acknowledge_129 : decode cX9_acknowledge 129 = .ok (.iload 5, 2) := by decide +kernel
theorem dX9_acknowledge_131 : decode cX9_acknowledge 131 = .ok (.invokestatic 92, 3) := by decide +kernel
theorem dX9_acknowledge_134 : decode cX9_acknowledge 134 = .ok (.iconst (-1), 1) := by decide +kernel
theorem dX9_acknowledge_135 : decode cX9_acknowledge 135 = .ok (.ixor, 1) := by decide +kernel
theorem dX9_acknowledge_136 : decode cX9_acknowledge 136 = .ok (.iand, 1) := by decide +kernel
theorem dX9_acknowledge_137 : decode cX9_acknowledge 137 = .ok (.putfield 124, 3) := by decide +kernel
theorem dX9_acknowledge_140 : decode cX9_acknowledge 140 = .ok (.goto 18, 3) := by decide +kernel
theorem dX9_acknowledge_143 : decode cX9_acknowledge 143 = .ok (.aload_n 1, 1) := by decide +kernel
theorem dX9_acknowledge_144 : decode cX9_acknowledge 144 = .ok (.iload 4, 2) := by decide +kernel
theorem dX9_acknowledge_146 : decode cX9_acknowledge 146 = .ok (.iconst 3, 1) := by decide +kernel
theorem dX9_acknowledge_147 : decode cX9_acknowledge 147 = .ok (.invokestatic 155, 3) := by decide +kernel
theorem dX9_acknowledge_150 : decode cX9_acknowledge 150 = .ok (.iload_n 3, 1) := by decide +kernel
theorem dX9_acknowledge_151 : decode cX9_acknowledge 151 = .ok (.iload 4, 2) := by decide +kernel
theorem dX9_acknowledge_153 : decode cX9_acknowledge 153 = .ok (.invokestatic 92, 3) := by decide +kernel
theorem dX9_acknowledge_156 : decode cX9_acknowledge 156 = .ok (.ior, 1) := by decide +kernel
theorem dX9_acknowledge_157 : decode cX9_acknowledge 157 = .ok (.istore_n 3, 1) := by decide +kernel
theorem dX9_acknowledge_158 : decode cX9_acknowledge 158 = .ok (.iinc 4 1, 3) := by decide +kernel
theorem dX9_acknowledge_161 : decode cX9_acknowledge 161 = .ok (.goto (-121), 3) := by decide +kernel
theorem dX9_acknowledge_164 : decode cX9_acknowledge 164 = .ok (.iload_n 3, 1) := by decide +kernel
theorem dX9_acknowledge_165 : decode cX9_acknowledge 165 = .ok (.ireturn, 1) := by decide +kernel
set_option maxRecDepth 20000 in
theorem ggX9_nextOf_X11_isIn : GoodIn wsX9_nextOf wsX11_isIn := goodIn_r _ [3] (by decide +kernel) (by decide +kernel)
set_option maxRecDepth 20000 in
theorem gX9_nextOf_X11_isIn_n78 : GoodIn wsX9_nextOf (wsX11_isIn) := ggX9_nextOf_X11_isIn
theorem dX9_nextOf_0 : decode cX9_nextOf 0 = .ok (.iconst 1, 1) := by decide +kernel
theorem dX9_nextOf_1 : decode cX9_nextOf 1 = .ok (.istore_n 2, 1) := by decide +kernel
theorem dX9_nextOf_2 : decode cX9_nextOf 2 = .ok (.iload_n 2, 1) := by decide +kernel
theorem dX9_nextOf_3 : decode cX9_nextOf 3 = .ok (.bipush 8, 2) := by decide +kernel
theorem dX9_nextOf_5 : decode cX9_nextOf 5 = .ok (.if_icmp .ge 26, 3) := by decide +kernel
theorem dX9_nextOf_8 : decode cX9_nextOf 8 = .ok (.iload_n 1, 1) := by decide +kernel
theorem dX9_nextOf_9 : decode cX9_nextOf 9 = .ok (.iload_n 2, 1) := by decide +kernel
theorem dX9_nextOf_10 : decode cX9_nextOf 10 = .ok (.iadd, 1) := by decide +kernel
theorem dX9_nextOf_11 : decode cX9_nextOf 11 = .ok (.bipush 7, 2) := by decide +kernel
theorem dX9_nextOf_13 : decode cX9_nextOf 13 = .ok (.iand, 1) := by decide +kernel
theorem dX9_nextOf_14 : decode cX9_nextOf 14 = .ok (.istore_n 3, 1) := by decide +kernel
theorem dX9_nextOf_15 : decode cX9_nextOf 15 = .ok (.iload_n 0, 1) := by decide +kernel
theorem dX9_nextOf_16 : decode cX9_nextOf 16 = .ok (.iload_n 3, 1) := by decide +kernel
theorem dX9_nextOf_17 : decode cX9_nextOf 17 = .ok (.invokestatic 78, 3) := by decide +kernel
theorem dX9_nextOf_20 : decode cX9_nextOf 20 = .ok (.ifCond .eq 5, 3) := by decide +kernel
theorem dX9_nextOf_23 : decode cX9_nextOf 23 = .ok (.iload_n 3, 1) := by decide +kernel
theorem dX9_nextOf_24 : decode cX9_nextOf 24 = .ok (.ireturn, 1) := by decide +kernel
theorem dX9_nextOf_25 : decode cX9_nextOf 25 = .ok (.iinc 2 1, 3) := by decide +kernel
theorem dX9_nextOf_28 : decode cX9_nextOf 28 = .ok (.goto (-26), 3) := by decide +kernel
theorem dX9_nextOf_31 : decode cX9_nextOf 31 = .ok (.iload_n 1, 1) := by decide +kernel
theorem dX9_nextOf_32 : decode cX9_nextOf 32 = .ok (.ireturn, 1) := by decide +kernel
set_option maxRecDepth 20000 in
theorem ggX9_outvote_X11_isIn : GoodIn wsX9_outvote wsX11_isIn := goodIn_r _ [7] (by decide +kernel) (by decide +kernel)
set_option maxRecDepth 20000 in
theorem gX9_outvote_X11_isIn_n78 : GoodIn wsX9_outvote (wsX11_isIn) := ggX9_outvote_X11_isIn
set_option maxRecDepth 20000 in
theorem ggX9_outvote_X9_freeze : GoodIn wsX9_outvote wsX9_freeze := goodIn_r _ [11, 2, 12, 3, 13, 14, 15, 16, 17, 18, 19, 20, 21, 22, 23, 24, 25, 28, 29, 30, 31, 32, 33, 34, 35, 36, 37, 38, 39, 40, 41, 42, 43, 44, 45, 46, 47, 48, 49] (by decide +kernel) (by decide +kernel)
set_option maxRecDepth 20000 in
theorem gX9_outvote_X9_freeze : GoodIn wsX9_outvote (va_wsS RX9 155 yX9_freeze wsX9_freeze) := goodIn_app (goodIn_of _ (by decide +kernel)) ggX9_outvote_X9_freeze
set_option maxRecDepth 20000 in
theorem ggX9_outvote_X11_bit : GoodIn wsX9_outvote wsX11_bit := goodIn_r _ [27] (by decide +kernel) (by decide +kernel)
set_option maxRecDepth 20000 in
theorem gX9_outvote_X11_bit_n92 : GoodIn wsX9_outvote (wsX11_bit) := ggX9_outvote_X11_bit
theorem dX9_outvote_0 : decode cX9_outvote 0 = .ok (.iconst 0, 1) := by decide +kernel
theorem dX9_outvote_1 : decode cX9_outvote 1 = .ok (.istore_n 2, 1) := by decide +kernel
theorem dX9_outvote_2 : decode cX9_outvote 2 = .ok (.iconst 0, 1) := by decide +kernel
theorem dX9_outvote_3 : decode cX9_outvote 3 = .ok (.istore_n 3, 1) := by decide +kernel
theorem dX9_outvote_4 : decode cX9_outvote 4 = .ok (.iload_n 3, 1) := by decide +kernel
theorem dX9_outvote_5 : decode cX9_outvote 5 = .ok (.aload_n 0, 1) := by decide +kernel
theorem dX9_outvote_6 : decode cX9_outvote 6 = .ok (.getfield 75, 3) := by decide +kernel
theorem dX9_outvote_9 : decode cX9_outvote 9 = .ok (.if_icmp .ge 59, 3) := by decide +kernel
theorem dX9_outvote_12 : decode cX9_outvote 12 = .ok (.aload_n 0, 1) := by decide +kernel
theorem dX9_outvote_13 : decode cX9_outvote 13 = .ok (.getfield 95, 3) := by decide +kernel
theorem dX9_outvote_16 : decode cX9_outvote 16 = .ok (.iload_n 3, 1) := by decide +kernel
theorem dX9_outvote_17 : decode cX9_outvote 17 = .ok (.aaload, 1) := by decide +kernel
theorem dX9_outvote_18 : decode cX9_outvote 18 = .ok (.astore 4, 2) := by decide +kernel
theorem dX9_outvote_20 : decode cX9_outvote 20 = .ok (.iload_n 1, 1) := by decide +kernel
theorem dX9_outvote_21 : decode cX9_outvote 21 = .ok (.iload_n 3, 1) := by decide +kernel
theorem dX9_outvote_22 : decode cX9_outvote 22 = .ok (.invokestatic 78, 3) := by decide +kernel
theorem dX9_outvote_25 : decode cX9_outvote 25 = .ok (.ifCond .eq 37, 3) := by decide +kernel
theorem dX9_outvote_28 : decode cX9_outvote 28 = .ok (.aload 4, 2) := by decide +kernel
theorem dX9_outvote_30 : decode cX9_outvote 30 = .ok (.getfield 149, 3) := by decide +kernel
theorem dX9_outvote_33 : decode cX9_outvote 33 = .ok (.ifCond .le 29, 3) := by decide +kernel
theorem dX9_outvote_36 : decode cX9_outvote 36 = .ok (.aload 4, 2) := by decide +kernel
theorem dX9_outvote_38 : decode cX9_outvote 38 = .ok (.getfield 146, 3) := by decide +kernel
theorem dX9_outvote_41 : decode cX9_outvote 41 = .ok (.aload 4, 2) := by decide +kernel
theorem dX9_outvote_43 : decode cX9_outvote 43 = .ok (.getfield 149, 3) := by decide +kernel
theorem dX9_outvote_46 : decode cX9_outvote 46 = .ok (.if_icmp .gt 16, 3) := by decide +kernel
theorem dX9_outvote_49 : decode cX9_outvote 49 = .ok (.aload_n 0, 1) := by decide +kernel
theorem dX9_outvote_50 : decode cX9_outvote 50 = .ok (.iload_n 3, 1) := by decide +kernel
theorem dX9_outvote_51 : decode cX9_outvote 51 = .ok (.iconst 4, 1) := by decide +kernel
theorem dX9_outvote_52 : decode cX9_outvote 52 = .ok (.invokestatic 155, 3) := by decide +kernel
theorem dX9_outvote_55 : decode cX9_outvote 55 = .ok (.iload_n 2, 1) := by decide +kernel
theorem dX9_outvote_56 : decode cX9_outvote 56 = .ok (.iload_n 3, 1) := by decide +kernel
theorem dX9_outvote_57 : decode cX9_outvote 57 = .ok (.invokestatic 92, 3) := by decide +kernel
theorem dX9_outvote_60 : decode cX9_outvote 60 = .ok (.ior, 1) := by decide +kernel
theorem dX9_outvote_61 : decode cX9_outvote 61 = .ok (.istore_n 2, 1) := by decide +kernel
theorem dX9_outvote_62 : decode cX9_outvote 62 = .ok (.iinc 3 1, 3) := by decide +kernel
theorem dX9_outvote_65 : decode cX9_outvote 65 = .ok (.goto (-61), 3) := by decide +kernel
theorem dX9_outvote_68 : decode cX9_outvote 68 = .ok (.iload_n 2, 1) := by decide +kernel
theorem dX9_outvote_69 : decode cX9_outvote 69 = .ok (.ireturn, 1) := by decide +kernel
set_option maxRecDepth 20000 in
theorem ggX9_freeze_X7_note : GoodIn wsX9_freeze wsX7_note := goodIn_r _ [8, 9, 10, 11, 12, 13, 14, 15, 16, 17, 18, 19, 20, 21, 22, 23, 24, 25, 26, 27] (by decide +kernel) (by decide +kernel)
set_option maxRecDepth 20000 in
theorem gX9_freeze_X7_note : GoodIn wsX9_freeze (wsV RX9 120 RX7 yX7_note wsX7_note) := goodIn_app (goodIn_of _ (by decide +kernel)) ggX9_freeze_X7_note
theorem dX9_freeze_0 : decode cX9_freeze 0 = .ok (.aload_n 0, 1) := by decide +kernel
theorem dX9_freeze_1 : decode cX9_freeze 1 = .ok (.getfield 95, 3) := by decide +kernel
theorem dX9_freeze_4 : decode cX9_freeze 4 = .ok (.iload_n 1, 1) := by decide +kernel
theorem dX9_freeze_5 : decode cX9_freeze 5 = .ok (.aaload, 1) := by decide +kernel
theorem dX9_freeze_6 : decode cX9_freeze 6 = .ok (.iconst 3, 1) := by decide +kernel
theorem dX9_freeze_7 : decode cX9_freeze 7 = .ok (.putfield 99, 3) := by decide +kernel
theorem dX9_freeze_10 : decode cX9_freeze 10 = .ok (.aload_n 0, 1) := by decide +kernel
theorem dX9_freeze_11 : decode cX9_freeze 11 = .ok (.iload_n 1, 1) := by decide +kernel
theorem dX9_freeze_12 : decode cX9_freeze 12 = .ok (.iload_n 2, 1) := by decide +kernel
theorem dX9_freeze_13 : decode cX9_freeze 13 = .ok (.aload_n 0, 1) := by decide +kernel
theorem dX9_freeze_14 : decode cX9_freeze 14 = .ok (.getfield 95, 3) := by decide +kernel
theorem dX9_freeze_17 : decode cX9_freeze 17 = .ok (.iload_n 1, 1) := by decide +kernel
theorem dX9_freeze_18 : decode cX9_freeze 18 = .ok (.aaload, 1) := by decide +kernel
theorem dX9_freeze_19 : decode cX9_freeze 19 = .ok (.getfield 149, 3) := by decide +kernel
theorem dX9_freeze_22 : decode cX9_freeze 22 = .ok (.invokevirtual 120, 3) := by decide +kernel
theorem dX9_freeze_25 : decode cX9_freeze 25 = .ok (.return_, 1) := by decide +kernel
set_option maxRecDepth 20000 in
theorem ggX9_correct_X11_isIn : GoodIn wsX9_correct wsX11_isIn := goodIn_r _ [9] (by decide +kernel) (by decide +kernel)
set_option maxRecDepth 20000 in
theorem gX9_correct_X11_isIn_n78 : GoodIn wsX9_correct (wsX11_isIn) := ggX9_correct_X11_isIn
set_option maxRecDepth 20000 in
theorem ggX9_correct_X10_middleOf : GoodIn wsX9_correct wsX10_middleOf := goodIn_r _ [14, 15, 16, 17, 18, 19, 20, 7, 8, 9, 21, 22, 23, 24, 25, 35, 36, 37, 38, 39, 40, 41, 42, 43, 44, 45, 59, 60, 61, 62, 63, 64, 65, 48, 49, 50, 51, 52, 53, 54, 55, 56, 57, 58] (by decide +kernel) (by decide +kernel)
set_option maxRecDepth 20000 in
theorem gX9_correct_X10_middleOf : GoodIn wsX9_correct (wsV RX9 158 RX10 yX10_middleOf wsX10_middleOf) := goodIn_app (goodIn_of _ (by decide +kernel)) ggX9_correct_X10_middleOf
set_option maxRecDepth 20000 in
theorem ggX9_correct_X11_keepWithin : GoodIn wsX9_correct wsX11_keepWithin := goodIn_r _ [27, 28, 29, 30, 31, 32, 33, 34] (by decide +kernel) (by decide +kernel)
set_option maxRecDepth 20000 in
theorem gX9_correct_X11_keepWithin_n137 : GoodIn wsX9_correct (wsX11_keepWithin) := ggX9_correct_X11_keepWithin
theorem dX9_correct_0 : decode cX9_correct 0 = .ok (.iconst 0, 1) := by decide +kernel
theorem dX9_correct_1 : decode cX9_correct 1 = .ok (.istore 4, 2) := by decide +kernel
theorem dX9_correct_3 : decode cX9_correct 3 = .ok (.iload 4, 2) := by decide +kernel
theorem dX9_correct_5 : decode cX9_correct 5 = .ok (.aload_n 1, 1) := by decide +kernel
theorem dX9_correct_6 : decode cX9_correct 6 = .ok (.getfield 75, 3) := by decide +kernel
theorem dX9_correct_9 : decode cX9_correct 9 = .ok (.if_icmp .ge 84, 3) := by decide +kernel
theorem dX9_correct_12 : decode cX9_correct 12 = .ok (.iload_n 2, 1) := by decide +kernel
theorem dX9_correct_13 : decode cX9_correct 13 = .ok (.iload 4, 2) := by decide +kernel
theorem dX9_correct_15 : decode cX9_correct 15 = .ok (.invokestatic 78, 3) := by decide +kernel
theorem dX9_correct_18 : decode cX9_correct 18 = .ok (.ifCond .eq 69, 3) := by decide +kernel
theorem dX9_correct_21 : decode cX9_correct 21 = .ok (.aload_n 1, 1) := by decide +kernel
theorem dX9_correct_22 : decode cX9_correct 22 = .ok (.getfield 95, 3) := by decide +kernel
theorem dX9_correct_25 : decode cX9_correct 25 = .ok (.iload 4, 2) := by decide +kernel
theorem dX9_correct_27 : decode cX9_correct 27 = .ok (.aaload, 1) := by decide +kernel
theorem dX9_correct_28 : decode cX9_correct 28 = .ok (.astore 5, 2) := by decide +kernel
theorem dX9_correct_30 : decode cX9_correct 30 = .ok (.aload_n 0, 1) := by decide +kernel
theorem dX9_correct_31 : decode cX9_correct 31 = .ok (.getfield 12, 3) := by decide +kernel
theorem dX9_correct_34 : decode cX9_correct 34 = .ok (.aload_n 1, 1) := by decide +kernel
theorem dX9_correct_35 : decode cX9_correct 35 = .ok (.iload 4, 2) := by decide +kernel
theorem dX9_correct_37 : decode cX9_correct 37 = .ok (.iload_n 3, 1) := by decide +kernel
theorem dX9_correct_38 : decode cX9_correct 38 = .ok (.invokevirtual 158, 3) := by decide +kernel
theorem dX9_correct_41 : decode cX9_correct 41 = .ok (.istore 6, 2) := by decide +kernel
theorem dX9_correct_43 : decode cX9_correct 43 = .ok (.aload_n 1, 1) := by decide +kernel
theorem dX9_correct_44 : decode cX9_correct 44 = .ok (.getfield 58, 3) := by decide +kernel
theorem dX9_correct_47 : decode cX9_correct 47 = .ok (.iconst 2, 1) := by decide +kernel
theorem dX9_correct_48 : decode cX9_correct 48 = .ok (.irem, 1) := by decide +kernel
theorem dX9_correct_49 : decode cX9_correct 49 = .ok (.ifCond .ne 18, 3) := by decide +kernel
theorem dX9_correct_52 : decode cX9_correct 52 = .ok (.aload 5, 2) := by decide +kernel
theorem dX9_correct_54 : decode cX9_correct 54 = .ok (.dup, 1) := by decide +kernel
theorem dX9_correct_55 : decode cX9_correct 55 = .ok (.getfield 140, 3) := by decide +kernel
theorem dX9_correct_58 : decode cX9_correct 58 = .ok (.iload 6, 2) := by decide +kernel
theorem dX9_correct_60 : decode cX9_correct 60 = .ok (.iadd, 1) := by decide +kernel
theorem dX9_correct_61 : decode cX9_correct 61 = .ok (.putfield 140, 3) := by decide +kernel
theorem dX9_correct_64 : decode cX9_correct 64 = .ok (.goto 23, 3) := by decide +kernel
theorem dX9_correct_67 : decode cX9_correct 67 = .ok (.aload 5, 2) := by decide +kernel
theorem dX9_correct_69 : decode cX9_correct 69 = .ok (.aload 5, 2) := by decide +kernel
theorem dX9_correct_71 : decode cX9_correct 71 = .ok (.getfield 127, 3) := by decide +kernel
theorem dX9_correct_74 : decode cX9_correct 74 = .ok (.iload 6, 2) := by decide +kernel
theorem dX9_correct_76 : decode cX9_correct 76 = .ok (.iconst 4, 1) := by decide +kernel
theorem dX9_correct_77 : decode cX9_correct 77 = .ok (.idiv, 1) := by decide +kernel
theorem dX9_correct_78 : decode cX9_correct 78 = .ok (.iadd, 1) := by decide +kernel
theorem dX9_correct_79 : decode cX9_correct 79 = .ok (.bipush 9, 2) := by decide +kernel
theorem dX9_correct_81 : decode cX9_correct 81 = .ok (.invokestatic 137, 3) := by decide +kernel
theorem dX9_correct_84 : decode cX9_correct 84 = .ok (.putfield 127, 3) := by decide +kernel
theorem dX9_correct_87 : decode cX9_correct 87 = .ok (.iinc 4 1, 3) := by decide +kernel
theorem dX9_correct_90 : decode cX9_correct 90 = .ok (.goto (-87), 3) := by decide +kernel
theorem dX9_correct_93 : decode cX9_correct 93 = .ok (.return_, 1) := by decide +kernel
set_option maxRecDepth 20000 in
theorem ggX9_runClocks_X11_keepWithin : GoodIn wsX9_runClocks wsX11_keepWithin := goodIn_r _ [9, 10, 11, 12, 13, 14, 15, 16] (by decide +kernel) (by decide +kernel)
set_option maxRecDepth 20000 in
theorem gX9_runClocks_X11_keepWithin_n137 : GoodIn wsX9_runClocks (wsX11_keepWithin) := ggX9_runClocks_X11_keepWithin
theorem dX9_runClocks_0 : decode cX9_runClocks 0 = .ok (.iconst 0, 1) := by decide +kernel
theorem dX9_runClocks_1 : decode cX9_runClocks 1 = .ok (.istore_n 1, 1) := by decide +kernel
theorem dX9_runClocks_2 : decode cX9_runClocks 2 = .ok (.iload_n 1, 1) := by decide +kernel
theorem dX9_runClocks_3 : decode cX9_runClocks 3 = .ok (.aload_n 0, 1) := by decide +kernel
theorem dX9_runClocks_4 : decode cX9_runClocks 4 = .ok (.getfield 75, 3) := by decide +kernel
theorem dX9_runClocks_7 : decode cX9_runClocks 7 = .ok (.if_icmp .ge 47, 3) := by decide +kernel
theorem dX9_runClocks_10 : decode cX9_runClocks 10 = .ok (.aload_n 0, 1) := by decide +kernel
theorem dX9_runClocks_11 : decode cX9_runClocks 11 = .ok (.getfield 95, 3) := by decide +kernel
theorem dX9_runClocks_14 : decode cX9_runClocks 14 = .ok (.iload_n 1, 1) := by decide +kernel
theorem dX9_runClocks_15 : decode cX9_runClocks 15 = .ok (.aaload, 1) := by decide +kernel
theorem dX9_runClocks_16 : decode cX9_runClocks 16 = .ok (.astore_n 2, 1) := by decide +kernel
theorem dX9_runClocks_17 : decode cX9_runClocks 17 = .ok (.aload_n 2, 1) := by decide +kernel
theorem dX9_runClocks_18 : decode cX9_runClocks 18 = .ok (.getfield 99, 3) := by decide +kernel
theorem dX9_runClocks_21 : decode cX9_runClocks 21 = .ok (.ifCond .eq 27, 3) := by decide +kernel
theorem dX9_runClocks_24 : decode cX9_runClocks 24 = .ok (.aload_n 2, 1) := by decide +kernel
theorem dX9_runClocks_25 : decode cX9_runClocks 25 = .ok (.aload_n 2, 1) := by decide +kernel
theorem dX9_runClocks_26 : decode cX9_runClocks 26 = .ok (.getfield 140, 3) := by decide +kernel
theorem dX9_runClocks_29 : decode cX9_runClocks 29 = .ok (.aload_n 2, 1) := by decide +kernel
theorem dX9_runClocks_30 : decode cX9_runClocks 30 = .ok (.getfield 161, 3) := by decide +kernel
theorem dX9_runClocks_33 : decode cX9_runClocks 33 = .ok (.iadd, 1) := by decide +kernel
theorem dX9_runClocks_34 : decode cX9_runClocks 34 = .ok (.aload_n 2, 1) := by decide +kernel
theorem dX9_runClocks_35 : decode cX9_runClocks 35 = .ok (.getfield 127, 3) := by decide +kernel
theorem dX9_runClocks_38 : decode cX9_runClocks 38 = .ok (.iadd, 1) := by decide +kernel
theorem dX9_runClocks_39 : decode cX9_runClocks 39 = .ok (.sipush 999, 3) := by decide +kernel
theorem dX9_runClocks_42 : decode cX9_runClocks 42 = .ok (.invokestatic 137, 3) := by decide +kernel
theorem dX9_runClocks_45 : decode cX9_runClocks 45 = .ok (.putfield 140, 3) := by decide +kernel
theorem dX9_runClocks_48 : decode cX9_runClocks 48 = .ok (.iinc 1 1, 3) := by decide +kernel
theorem dX9_runClocks_51 : decode cX9_runClocks 51 = .ok (.goto (-49), 3) := by decide +kernel
theorem dX9_runClocks_54 : decode cX9_runClocks 54 = .ok (.return_, 1) := by decide +kernel
theorem dX10_init_0 : decode cX10_init 0 = .ok (.aload_n 0, 1) := by decide +kernel
theorem dX10_init_1 : decode cX10_init 1 = .ok (.invokespecial 3, 3) := by decide +kernel
theorem dX10_init_4 : decode cX10_init 4 = .ok (.aload_n 0, 1) := by decide +kernel
theorem dX10_init_5 : decode cX10_init 5 = .ok (.bipush 8, 2) := by decide +kernel
theorem dX10_init_7 : decode cX10_init 7 = .ok (.bipush 8, 2) := by decide +kernel
theorem dX10_init_9 : decode cX10_init 9 = .ok (.multianewarray 9 2, 4) := by decide +kernel
theorem dX10_init_13 : decode cX10_init 13 = .ok (.putfield 11, 3) := by decide +kernel
theorem dX10_init_16 : decode cX10_init 16 = .ok (.aload_n 0, 1) := by decide +kernel
theorem dX10_init_17 : decode cX10_init 17 = .ok (.bipush 8, 2) := by decide +kernel
theorem dX10_init_19 : decode cX10_init 19 = .ok (.newarray .int, 2) := by decide +kernel
theorem dX10_init_21 : decode cX10_init 21 = .ok (.putfield 16, 3) := by decide +kernel
theorem dX10_init_24 : decode cX10_init 24 = .ok (.aload_n 0, 1) := by decide +kernel
theorem dX10_init_25 : decode cX10_init 25 = .ok (.bipush 8, 2) := by decide +kernel
theorem dX10_init_27 : decode cX10_init 27 = .ok (.newarray .int, 2) := by decide +kernel
theorem dX10_init_29 : decode cX10_init 29 = .ok (.putfield 20, 3) := by decide +kernel
theorem dX10_init_32 : decode cX10_init 32 = .ok (.aload_n 0, 1) := by decide +kernel
theorem dX10_init_33 : decode cX10_init 33 = .ok (.bipush 8, 2) := by decide +kernel
theorem dX10_init_35 : decode cX10_init 35 = .ok (.newarray .int, 2) := by decide +kernel
theorem dX10_init_37 : decode cX10_init 37 = .ok (.putfield 23, 3) := by decide +kernel
theorem dX10_init_40 : decode cX10_init 40 = .ok (.aload_n 0, 1) := by decide +kernel
theorem dX10_init_41 : decode cX10_init 41 = .ok (.bipush 8, 2) := by decide +kernel
theorem dX10_init_43 : decode cX10_init 43 = .ok (.newarray .int, 2) := by decide +kernel
theorem dX10_init_45 : decode cX10_init 45 = .ok (.putfield 26, 3) := by decide +kernel
theorem dX10_init_48 : decode cX10_init 48 = .ok (.return_, 1) := by decide +kernel
set_option maxRecDepth 20000 in
theorem ggX10_look_X7_inState : GoodIn wsX10_look wsX7_inState := goodIn_r _ [28, 29, 30, 31, 32, 33, 34, 84, 85, 86, 87, 88, 89, 90, 91, 92, 93, 94, 95, 96, 97, 98, 99, 100, 101, 102, 103, 104, 105] (by decide +kernel) (by decide +kernel)
set_option maxRecDepth 20000 in
theorem gX10_look_X7_inState : GoodIn wsX10_look (wsV RX10 29 RX7 yX7_inState wsX7_inState) := goodIn_app (goodIn_of _ (by decide +kernel)) ggX10_look_X7_inState
set_option maxRecDepth 20000 in
theorem ggX10_look_X3_sum : GoodIn wsX10_look wsX3_sum := goodIn_r _ [39, 40, 41, 42, 43, 25, 26, 27, 28, 29, 30, 31, 32, 33, 34, 44, 45, 46, 38, 47, 48, 49, 50, 13, 51, 52, 53, 54, 55, 56, 57, 58, 59, 60, 61, 62, 63, 64, 65, 66, 67, 68, 69, 70, 71, 72, 73, 74, 75, 76, 106, 107, 108, 109, 110, 111, 84, 85, 86, 87, 88, 89, 90, 91, 92, 93, 94, 95, 96, 97, 98, 99, 100, 101, 102, 103, 104, 105] (by decide +kernel) (by decide +kernel)
set_option maxRecDepth 20000 in
theorem gX10_look_X3_sum : GoodIn wsX10_look (wsV RX10 53 RX3 yX3_sum wsX3_sum) := goodIn_app (goodIn_of _ (by decide +kernel)) ggX10_look_X3_sum
set_option maxRecDepth 20000 in
theorem ggX10_look_X11_bit : GoodIn wsX10_look wsX11_bit := goodIn_r _ [34] (by decide +kernel) (by decide +kernel)
set_option maxRecDepth 20000 in
theorem gX10_look_X11_bit_n88 : GoodIn wsX10_look (wsX11_bit) := ggX10_look_X11_bit
theorem dX10_look_0 : decode cX10_look 0 = .ok (.aload_n 0, 1) := by decide +kernel
theorem dX10_look_1 : decode cX10_look 1 = .ok (.aload_n 1, 1) := by decide +kernel
theorem dX10_look_2 : decode cX10_look 2 = .ok (.iconst 2, 1) := by decide +kernel
theorem dX10_look_3 : decode cX10_look 3 = .ok (.invokevirtual 29, 3) := by decide +kernel
theorem dX10_look_6 : decode cX10_look 6 = .ok (.putfield 35, 3) := by decide +kernel
theorem dX10_look_9 : decode cX10_look 9 = .ok (.aload_n 0, 1) := by decide +kernel
theorem dX10_look_10 : decode cX10_look 10 = .ok (.iconst 0, 1) := by decide +kernel
theorem dX10_look_11 : decode cX10_look 11 = .ok (.putfield 39, 3) := by decide +kernel
theorem dX10_look_14 : decode cX10_look 14 = .ok (.iconst 0, 1) := by decide +kernel
theorem dX10_look_15 : decode cX10_look 15 = .ok (.istore_n 2, 1) := by decide +kernel
theorem dX10_look_16 : decode cX10_look 16 = .ok (.iload_n 2, 1) := by decide +kernel
theorem dX10_look_17 : decode cX10_look 17 = .ok (.aload_n 1, 1) := by decide +kernel
theorem dX10_look_18 : decode cX10_look 18 = .ok (.getfield 42, 3) := by decide +kernel
theorem dX10_look_21 : decode cX10_look 21 = .ok (.if_icmp .ge 200, 3) := by decide +kernel
theorem dX10_look_24 : decode cX10_look 24 = .ok (.aload_n 1, 1) := by decide +kernel
theorem dX10_look_25 : decode cX10_look 25 = .ok (.getfield 45, 3) := by decide +kernel
theorem dX10_look_28 : decode cX10_look 28 = .ok (.iload_n 2, 1) := by decide +kernel
theorem dX10_look_29 : decode cX10_look 29 = .ok (.aaload, 1) := by decide +kernel
theorem dX10_look_30 : decode cX10_look 30 = .ok (.astore_n 3, 1) := by decide +kernel
theorem dX10_look_31 : decode cX10_look 31 = .ok (.aload_n 0, 1) := by decide +kernel
theorem dX10_look_32 : decode cX10_look 32 = .ok (.getfield 20, 3) := by decide +kernel
theorem dX10_look_35 : decode cX10_look 35 = .ok (.iload_n 2, 1) := by decide +kernel
theorem dX10_look_36 : decode cX10_look 36 = .ok (.aload_n 1, 1) := by decide +kernel
theorem dX10_look_37 : decode cX10_look 37 = .ok (.getfield 49, 3) := by decide +kernel
theorem dX10_look_40 : decode cX10_look 40 = .ok (.aload_n 1, 1) := by decide +kernel
theorem dX10_look_41 : decode cX10_look 41 = .ok (.iload_n 2, 1) := by decide +kernel
theorem dX10_look_42 : decode cX10_look 42 = .ok (.sipush 1010, 3) := by decide +kernel
theorem dX10_look_45 : decode cX10_look 45 = .ok (.invokevirtual 53, 3) := by decide +kernel
theorem dX10_look_48 : decode cX10_look 48 = .ok (.aload_n 3, 1) := by decide +kernel
theorem dX10_look_49 : decode cX10_look 49 = .ok (.getfield 59, 3) := by decide +kernel
theorem dX10_look_52 : decode cX10_look 52 = .ok (.iconst 1, 1) := by decide +kernel
theorem dX10_look_53 : decode cX10_look 53 = .ok (.if_icmp .ne 10, 3) := by decide +kernel
theorem dX10_look_56 : decode cX10_look 56 = .ok (.aload_n 3, 1) := by decide +kernel
theorem dX10_look_57 : decode cX10_look 57 = .ok (.getfield 64, 3) := by decide +kernel
theorem dX10_look_60 : decode cX10_look 60 = .ok (.goto 4, 3) := by decide +kernel
theorem dX10_look_63 : decode cX10_look 63 = .ok (.iconst 0, 1) := by decide +kernel
theorem dX10_look_64 : decode cX10_look 64 = .ok (.iadd, 1) := by decide +kernel
theorem dX10_look_65 : decode cX10_look 65 = .ok (.iastore, 1) := by decide +kernel
theorem dX10_look_66 : decode cX10_look 66 = .ok (.aload_n 0, 1) := by decide +kernel
theorem dX10_look_67 : decode cX10_look 67 = .ok (.getfield 23, 3) := by decide +kernel
theorem dX10_look_70 : decode cX10_look 70 = .ok (.iload_n 2, 1) := by decide +kernel
theorem dX10_look_71 : decode cX10_look 71 = .ok (.aload_n 3, 1) := by decide +kernel
theorem dX10_look_72 : decode cX10_look 72 = .ok (.getfield 59, 3) := by decide +kernel
theorem dX10_look_75 : decode cX10_look 75 = .ok (.iconst 2, 1) := by decide +kernel
theorem dX10_look_76 : decode cX10_look 76 = .ok (.if_icmp .ne 8, 3) := by decide +kernel
theorem dX10_look_79 : decode cX10_look 79 = .ok (.bipush 100, 2) := by decide +kernel
theorem dX10_look_81 : decode cX10_look 81 = .ok (.goto 25, 3) := by decide +kernel
theorem dX10_look_84 : decode cX10_look 84 = .ok (.bipush 100, 2) := by decide +kernel
theorem dX10_look_86 : decode cX10_look 86 = .ok (.aload_n 3, 1) := by decide +kernel
theorem dX10_look_87 : decode cX10_look 87 = .ok (.getfield 67, 3) := by decide +kernel
theorem dX10_look_90 : decode cX10_look 90 = .ok (.aload_n 1, 1) := by decide +kernel
theorem dX10_look_91 : decode cX10_look 91 = .ok (.getfield 49, 3) := by decide +kernel
theorem dX10_look_94 : decode cX10_look 94 = .ok (.aload_n 1, 1) := by decide +kernel
theorem dX10_look_95 : decode cX10_look 95 = .ok (.iload_n 2, 1) := by decide +kernel
theorem dX10_look_96 : decode cX10_look 96 = .ok (.sipush 1011, 3) := by decide +kernel
theorem dX10_look_99 : decode cX10_look 99 = .ok (.invokevirtual 53, 3) := by decide +kernel
theorem dX10_look_102 : decode cX10_look 102 = .ok (.iadd, 1) := by decide +kernel
theorem dX10_look_103 : decode cX10_look 103 = .ok (.invokestatic 70, 3) := by decide +kernel
theorem dX10_look_106 : decode cX10_look 106 = .ok (.iastore, 1) := by decide +kernel
theorem dX10_look_107 : decode cX10_look 107 = .ok (.aload_n 3, 1) := by decide +kernel
theorem dX10_look_108 : decode cX10_look 108 = .ok (.getfield 76, 3) := by decide +kernel
theorem dX10_look_111 : decode cX10_look 111 = .ok (.aload_n 0, 1) := by decide +kernel
theorem dX10_look_112 : decode cX10_look 112 = .ok (.getfield 20, 3) := by decide +kernel
theorem dX10_look_115 : decode cX10_look 115 = .ok (.iload_n 2, 1) := by decide +kernel
theorem dX10_look_116 : decode cX10_look 116 = .ok (.iaload, 1) := by decide +kernel
theorem dX10_look_117 : decode cX10_look 117 = .ok (.iadd, 1) := by decide +kernel
theorem dX10_look_118 : decode cX10_look 118 = .ok (.istore 4, 2) := by decide +kernel
theorem dX10_look_120 : decode cX10_look 120 = .ok (.iconst 0, 1) := by decide +kernel
theorem dX10_look_121 : decode cX10_look 121 = .ok (.istore 5, 2) := by decide +kernel
theorem dX10_look_123 : decode cX10_look 123 = .ok (.iload 5, 2) := by decide +kernel
theorem dX10_look_125 : decode cX10_look 125 = .ok (.aload_n 1, 1) := by decide +kernel
theorem dX10_look_126 : decode cX10_look 126 = .ok (.getfield 42, 3) := by decide +kernel
theorem dX10_look_129 : decode cX10_look 129 = .ok (.if_icmp .ge 45, 3) := by decide +kernel
theorem dX10_look_132 : decode cX10_look 132 = .ok (.aload_n 0, 1) := by decide +kernel
theorem dX10_look_133 : decode cX10_look 133 = .ok (.getfield 11, 3) := by decide +kernel
theorem dX10_look_136 : decode cX10_look 136 = .ok (.iload_n 2, 1) := by decide +kernel
theorem dX10_look_137 : decode cX10_look 137 = .ok (.aaload, 1) := by decide +kernel
theorem dX10_look_138 : decode cX10_look 138 = .ok (.iload 5, 2) := by decide +kernel
theorem dX10_look_140 : decode cX10_look 140 = .ok (.iload 4, 2) := by decide +kernel
theorem dX10_look_142 : decode cX10_look 142 = .ok (.aload_n 3, 1) := by decide +kernel
theorem dX10_look_143 : decode cX10_look 143 = .ok (.getfield 59, 3) := by decide +kernel
theorem dX10_look_146 : decode cX10_look 146 = .ok (.iconst 3, 1) := by decide +kernel
theorem dX10_look_147 : decode cX10_look 147 = .ok (.if_icmp .ne 18, 3) := by decide +kernel
theorem dX10_look_150 : decode cX10_look 150 = .ok (.iload 5, 2) := by decide +kernel
theorem dX10_look_152 : decode cX10_look 152 = .ok (.iconst 2, 1) := by decide +kernel
theorem dX10_look_153 : decode cX10_look 153 = .ok (.irem, 1) := by decide +kernel
theorem dX10_look_154 : decode cX10_look 154 = .ok (.iconst 1, 1) := by decide +kernel
theorem dX10_look_155 : decode cX10_look 155 = .ok (.if_icmp .ne 10, 3) := by decide +kernel
theorem dX10_look_158 : decode cX10_look 158 = .ok (.aload_n 3, 1) := by decide +kernel
theorem dX10_look_159 : decode cX10_look 159 = .ok (.getfield 64, 3) := by decide +kernel
theorem dX10_look_162 : decode cX10_look 162 = .ok (.goto 4, 3) := by decide +kernel
theorem dX10_look_165 : decode cX10_look 165 = .ok (.iconst 0, 1) := by decide +kernel
theorem dX10_look_166 : decode cX10_look 166 = .ok (.iadd, 1) := by decide +kernel
theorem dX10_look_167 : decode cX10_look 167 = .ok (.iastore, 1) := by decide +kernel
theorem dX10_look_168 : decode cX10_look 168 = .ok (.iinc 5 1, 3) := by decide +kernel
theorem dX10_look_171 : decode cX10_look 171 = .ok (.goto (-48), 3) := by decide +kernel
theorem dX10_look_174 : decode cX10_look 174 = .ok (.aload_n 3, 1) := by decide +kernel
theorem dX10_look_175 : decode cX10_look 175 = .ok (.getfield 79, 3) := by decide +kernel
theorem dX10_look_178 : decode cX10_look 178 = .ok (.iconst 2, 1) := by decide +kernel
theorem dX10_look_179 : decode cX10_look 179 = .ok (.if_icmp .ne 36, 3) := by decide +kernel
theorem dX10_look_182 : decode cX10_look 182 = .ok (.aload_n 3, 1) := by decide +kernel
theorem dX10_look_183 : decode cX10_look 183 = .ok (.getfield 59, 3) := by decide +kernel
theorem dX10_look_186 : decode cX10_look 186 = .ok (.iconst 2, 1) := by decide +kernel
theorem dX10_look_187 : decode cX10_look 187 = .ok (.if_icmp .eq 28, 3) := by decide +kernel
theorem dX10_look_190 : decode cX10_look 190 = .ok (.iload 4, 2) := by decide +kernel
theorem dX10_look_192 : decode cX10_look 192 = .ok (.invokestatic 82, 3) := by decide +kernel
theorem dX10_look_195 : decode cX10_look 195 = .ok (.aload_n 1, 1) := by decide +kernel
theorem dX10_look_196 : decode cX10_look 196 = .ok (.getfield 85, 3) := by decide +kernel
theorem dX10_look_199 : decode cX10_look 199 = .ok (.if_icmp .gt 16, 3) := by decide +kernel
theorem dX10_look_202 : decode cX10_look 202 = .ok (.aload_n 0, 1) := by decide +kernel
theorem dX10_look_203 : decode cX10_look 203 = .ok (.dup, 1) := by decide +kernel
theorem dX10_look_204 : decode cX10_look 204 = .ok (.getfield 39, 3) := by decide +kernel
theorem dX10_look_207 : decode cX10_look 207 = .ok (.iload_n 2, 1) := by decide +kernel
theorem dX10_look_208 : decode cX10_look 208 = .ok (.invokestatic 88, 3) := by decide +kernel
theorem dX10_look_211 : decode cX10_look 211 = .ok (.ior, 1) := by decide +kernel
theorem dX10_look_212 : decode cX10_look 212 = .ok (.putfield 39, 3) := by decide +kernel
theorem dX10_look_215 : decode cX10_look 215 = .ok (.iinc 2 1, 3) := by decide +kernel
theorem dX10_look_218 : decode cX10_look 218 = .ok (.goto (-202), 3) := by decide +kernel
theorem dX10_look_221 : decode cX10_look 221 = .ok (.iconst 0, 1) := by decide +kernel
theorem dX10_look_222 : decode cX10_look 222 = .ok (.istore_n 2, 1) := by decide +kernel
theorem dX10_look_223 : decode cX10_look 223 = .ok (.iload_n 2, 1) := by decide +kernel
theorem dX10_look_224 : decode cX10_look 224 = .ok (.aload_n 1, 1) := by decide +kernel
theorem dX10_look_225 : decode cX10_look 225 = .ok (.getfield 42, 3) := by decide +kernel
theorem dX10_look_228 : decode cX10_look 228 = .ok (.if_icmp .ge 78, 3) := by decide +kernel
theorem dX10_look_231 : decode cX10_look 231 = .ok (.aload_n 0, 1) := by decide +kernel
theorem dX10_look_232 : decode cX10_look 232 = .ok (.getfield 16, 3) := by decide +kernel
theorem dX10_look_235 : decode cX10_look 235 = .ok (.iload_n 2, 1) := by decide +kernel
theorem dX10_look_236 : decode cX10_look 236 = .ok (.iconst 0, 1) := by decide +kernel
theorem dX10_look_237 : decode cX10_look 237 = .ok (.iastore, 1) := by decide +kernel
theorem dX10_look_238 : decode cX10_look 238 = .ok (.iconst 0, 1) := by decide +kernel
theorem dX10_look_239 : decode cX10_look 239 = .ok (.istore_n 3, 1) := by decide +kernel
theorem dX10_look_240 : decode cX10_look 240 = .ok (.iload_n 3, 1) := by decide +kernel
theorem dX10_look_241 : decode cX10_look 241 = .ok (.aload_n 1, 1) := by decide +kernel
theorem dX10_look_242 : decode cX10_look 242 = .ok (.getfield 42, 3) := by decide +kernel
theorem dX10_look_245 : decode cX10_look 245 = .ok (.if_icmp .ge 55, 3) := by decide +kernel
theorem dX10_look_248 : decode cX10_look 248 = .ok (.iload_n 2, 1) := by decide +kernel
theorem dX10_look_249 : decode cX10_look 249 = .ok (.iload_n 3, 1) := by decide +kernel
theorem dX10_look_250 : decode cX10_look 250 = .ok (.if_icmp .eq 44, 3) := by decide +kernel
theorem dX10_look_253 : decode cX10_look 253 = .ok (.aload_n 0, 1) := by decide +kernel
theorem dX10_look_254 : decode cX10_look 254 = .ok (.getfield 11, 3) := by decide +kernel
theorem dX10_look_257 : decode cX10_look 257 = .ok (.iload_n 3, 1) := by decide +kernel
theorem dX10_look_258 : decode cX10_look 258 = .ok (.aaload, 1) := by decide +kernel
theorem dX10_look_259 : decode cX10_look 259 = .ok (.iload_n 2, 1) := by decide +kernel
theorem dX10_look_260 : decode cX10_look 260 = .ok (.iaload, 1) := by decide +kernel
theorem dX10_look_261 : decode cX10_look 261 = .ok (.aload_n 1, 1) := by decide +kernel
theorem dX10_look_262 : decode cX10_look 262 = .ok (.getfield 45, 3) := by decide +kernel
theorem dX10_look_265 : decode cX10_look 265 = .ok (.iload_n 2, 1) := by decide +kernel
theorem dX10_look_266 : decode cX10_look 266 = .ok (.aaload, 1) := by decide +kernel
theorem dX10_look_267 : decode cX10_look 267 = .ok (.getfield 76, 3) := by decide +kernel
theorem dX10_look_270 : decode cX10_look 270 = .ok (.isub, 1) := by decide +kernel
theorem dX10_look_271 : decode cX10_look 271 = .ok (.invokestatic 82, 3) := by decide +kernel
theorem dX10_look_274 : decode cX10_look 274 = .ok (.aload_n 1, 1) := by decide +kernel
theorem dX10_look_275 : decode cX10_look 275 = .ok (.getfield 91, 3) := by decide +kernel
theorem dX10_look_278 : decode cX10_look 278 = .ok (.if_icmp .gt 16, 3) := by decide +kernel
theorem dX10_look_281 : decode cX10_look 281 = .ok (.aload_n 0, 1) := by decide +kernel
theorem dX10_look_282 : decode cX10_look 282 = .ok (.getfield 16, 3) := by decide +kernel
theorem dX10_look_285 : decode cX10_look 285 = .ok (.iload_n 2, 1) := by decide +kernel
theorem dX10_look_286 : decode cX10_look 286 = .ok (.dup2, 1) := by decide +kernel
theorem dX10_look_287 : decode cX10_look 287 = .ok (.iaload, 1) := by decide +kernel
theorem dX10_look_288 : decode cX10_look 288 = .ok (.iload_n 3, 1) := by decide +kernel
theorem dX10_look_289 : decode cX10_look 289 = .ok (.invokestatic 88, 3) := by decide +kernel
theorem dX10_look_292 : decode cX10_look 292 = .ok (.ior, 1) := by decide +kernel
theorem dX10_look_293 : decode cX10_look 293 = .ok (.iastore, 1) := by decide +kernel
theorem dX10_look_294 : decode cX10_look 294 = .ok (.iinc 3 1, 3) := by decide +kernel
theorem dX10_look_297 : decode cX10_look 297 = .ok (.goto (-57), 3) := by decide +kernel
theorem dX10_look_300 : decode cX10_look 300 = .ok (.iinc 2 1, 3) := by decide +kernel
theorem dX10_look_303 : decode cX10_look 303 = .ok (.goto (-80), 3) := by decide +kernel
theorem dX10_look_306 : decode cX10_look 306 = .ok (.return_, 1) := by decide +kernel
set_option maxRecDepth 20000 in
theorem ggX10_middleOf_X11_isIn : GoodIn wsX10_middleOf wsX11_isIn := goodIn_r _ [9] (by decide +kernel) (by decide +kernel)
set_option maxRecDepth 20000 in
theorem gX10_middleOf_X11_isIn_n94 : GoodIn wsX10_middleOf (wsX11_isIn) := ggX10_middleOf_X11_isIn
set_option maxRecDepth 20000 in
theorem ggX10_middleOf_X11_midOf : GoodIn wsX10_middleOf wsX11_midOf := goodIn_r _ [11, 12, 13, 8, 14] (by decide +kernel) (by decide +kernel)
set_option maxRecDepth 20000 in
theorem gX10_middleOf_X11_midOf_n98 : GoodIn wsX10_middleOf (wsX11_midOf) := ggX10_middleOf_X11_midOf
theorem dX10_middleOf_0 : decode cX10_middleOf 0 = .ok (.iconst 0, 1) := by decide +kernel
theorem dX10_middleOf_1 : decode cX10_middleOf 1 = .ok (.istore 4, 2) := by decide +kernel
theorem dX10_middleOf_3 : decode cX10_middleOf 3 = .ok (.iconst 0, 1) := by decide +kernel
theorem dX10_middleOf_4 : decode cX10_middleOf 4 = .ok (.istore 5, 2) := by decide +kernel
theorem dX10_middleOf_6 : decode cX10_middleOf 6 = .ok (.iload 5, 2) := by decide +kernel
theorem dX10_middleOf_8 : decode cX10_middleOf 8 = .ok (.aload_n 1, 1) := by decide +kernel
theorem dX10_middleOf_9 : decode cX10_middleOf 9 = .ok (.getfield 42, 3) := by decide +kernel
theorem dX10_middleOf_12 : decode cX10_middleOf 12 = .ok (.if_icmp .ge 74, 3) := by decide +kernel
theorem dX10_middleOf_15 : decode cX10_middleOf 15 = .ok (.iload 5, 2) := by decide +kernel
theorem dX10_middleOf_17 : decode cX10_middleOf 17 = .ok (.iload_n 2, 1) := by decide +kernel
theorem dX10_middleOf_18 : decode cX10_middleOf 18 = .ok (.if_icmp .ne 17, 3) := by decide +kernel
theorem dX10_middleOf_21 : decode cX10_middleOf 21 = .ok (.aload_n 0, 1) := by decide +kernel
theorem dX10_middleOf_22 : decode cX10_middleOf 22 = .ok (.getfield 26, 3) := by decide +kernel
theorem dX10_middleOf_25 : decode cX10_middleOf 25 = .ok (.iload 4, 2) := by decide +kernel
theorem dX10_middleOf_27 : decode cX10_middleOf 27 = .ok (.iconst 0, 1) := by decide +kernel
theorem dX10_middleOf_28 : decode cX10_middleOf 28 = .ok (.iastore, 1) := by decide +kernel
theorem dX10_middleOf_29 : decode cX10_middleOf 29 = .ok (.iinc 4 1, 3) := by decide +kernel
theorem dX10_middleOf_32 : decode cX10_middleOf 32 = .ok (.goto 48, 3) := by decide +kernel
theorem dX10_middleOf_35 : decode cX10_middleOf 35 = .ok (.iload_n 3, 1) := by decide +kernel
theorem dX10_middleOf_36 : decode cX10_middleOf 36 = .ok (.aload_n 0, 1) := by decide +kernel
theorem dX10_middleOf_37 : decode cX10_middleOf 37 = .ok (.getfield 16, 3) := by decide +kernel
theorem dX10_middleOf_40 : decode cX10_middleOf 40 = .ok (.iload_n 2, 1) := by decide +kernel
theorem dX10_middleOf_41 : decode cX10_middleOf 41 = .ok (.iaload, 1) := by decide +kernel
theorem dX10_middleOf_42 : decode cX10_middleOf 42 = .ok (.iand, 1) := by decide +kernel
theorem dX10_middleOf_43 : decode cX10_middleOf 43 = .ok (.iload 5, 2) := by decide +kernel
theorem dX10_middleOf_45 : decode cX10_middleOf 45 = .ok (.invokestatic 94, 3) := by decide +kernel
theorem dX10_middleOf_48 : decode cX10_middleOf 48 = .ok (.ifCond .eq 32, 3) := by decide +kernel
theorem dX10_middleOf_51 : decode cX10_middleOf 51 = .ok (.aload_n 0, 1) := by decide +kernel
theorem dX10_middleOf_52 : decode cX10_middleOf 52 = .ok (.getfield 26, 3) := by decide +kernel
theorem dX10_middleOf_55 : decode cX10_middleOf 55 = .ok (.iload 4, 2) := by decide +kernel
theorem dX10_middleOf_57 : decode cX10_middleOf 57 = .ok (.aload_n 0, 1) := by decide +kernel
theorem dX10_middleOf_58 : decode cX10_middleOf 58 = .ok (.getfield 11, 3) := by decide +kernel
theorem dX10_middleOf_61 : decode cX10_middleOf 61 = .ok (.iload 5, 2) := by decide +kernel
theorem dX10_middleOf_63 : decode cX10_middleOf 63 = .ok (.aaload, 1) := by decide +kernel
theorem dX10_middleOf_64 : decode cX10_middleOf 64 = .ok (.iload_n 2, 1) := by decide +kernel
theorem dX10_middleOf_65 : decode cX10_middleOf 65 = .ok (.iaload, 1) := by decide +kernel
theorem dX10_middleOf_66 : decode cX10_middleOf 66 = .ok (.aload_n 1, 1) := by decide +kernel
theorem dX10_middleOf_67 : decode cX10_middleOf 67 = .ok (.getfield 45, 3) := by decide +kernel
theorem dX10_middleOf_70 : decode cX10_middleOf 70 = .ok (.iload_n 2, 1) := by decide +kernel
theorem dX10_middleOf_71 : decode cX10_middleOf 71 = .ok (.aaload, 1) := by decide +kernel
theorem dX10_middleOf_72 : decode cX10_middleOf 72 = .ok (.getfield 76, 3) := by decide +kernel
theorem dX10_middleOf_75 : decode cX10_middleOf 75 = .ok (.isub, 1) := by decide +kernel
theorem dX10_middleOf_76 : decode cX10_middleOf 76 = .ok (.iastore, 1) := by decide +kernel
theorem dX10_middleOf_77 : decode cX10_middleOf 77 = .ok (.iinc 4 1, 3) := by decide +kernel
theorem dX10_middleOf_80 : decode cX10_middleOf 80 = .ok (.iinc 5 1, 3) := by decide +kernel
theorem dX10_middleOf_83 : decode cX10_middleOf 83 = .ok (.goto (-77), 3) := by decide +kernel
theorem dX10_middleOf_86 : decode cX10_middleOf 86 = .ok (.aload_n 0, 1) := by decide +kernel
theorem dX10_middleOf_87 : decode cX10_middleOf 87 = .ok (.getfield 26, 3) := by decide +kernel
theorem dX10_middleOf_90 : decode cX10_middleOf 90 = .ok (.iload 4, 2) := by decide +kernel
theorem dX10_middleOf_92 : decode cX10_middleOf 92 = .ok (.invokestatic 98, 3) := by decide +kernel
theorem dX10_middleOf_95 : decode cX10_middleOf 95 = .ok (.ireturn, 1) := by decide +kernel
set_option maxRecDepth 20000 in
theorem ggX11_init_X9_init : GoodIn wsX11_init wsX9_init := goodIn_r _ [47, 48, 2, 3, 49, 50, 51, 52, 4, 53, 54, 55, 56, 57, 58, 59, 60, 61, 62, 189, 190, 191, 192, 193, 194, 195, 146, 147] (by decide +kernel) (by decide +kernel)
set_option maxRecDepth 20000 in
theorem gX11_init_X9_init_n19 : GoodIn wsX11_init (wsX9_init) := ggX11_init_X9_init
set_option maxRecDepth 20000 in
theorem ggX11_init_X1_init : GoodIn wsX11_init wsX1_init := goodIn_r _ [64, 65, 2, 3, 4, 66, 67, 68, 69, 148, 149, 150, 151, 152] (by decide +kernel) (by decide +kernel)
set_option maxRecDepth 20000 in
theorem gX11_init_X1_init_n26 : GoodIn wsX11_init (wsX1_init) := ggX11_init_X1_init
set_option maxRecDepth 20000 in
theorem ggX11_init_X2_init : GoodIn wsX11_init wsX2_init := goodIn_r _ [71, 72, 2, 3, 4, 73, 74, 153, 154, 155] (by decide +kernel) (by decide +kernel)
set_option maxRecDepth 20000 in
theorem gX11_init_X2_init_n33 : GoodIn wsX11_init (wsX2_init) := ggX11_init_X2_init
set_option maxRecDepth 20000 in
theorem ggX11_init_X8_init : GoodIn wsX11_init wsX8_init := goodIn_r _ [76, 77, 2, 3, 78, 4, 79, 80, 156, 157, 158, 159, 160] (by decide +kernel) (by decide +kernel)
set_option maxRecDepth 20000 in
theorem gX11_init_X8_init_n40 : GoodIn wsX11_init (wsX8_init) := ggX11_init_X8_init
set_option maxRecDepth 20000 in
theorem ggX11_init_X0_init : GoodIn wsX11_init wsX0_init := goodIn_r _ [83, 84, 2, 3, 85, 161] (by decide +kernel) (by decide +kernel)
set_option maxRecDepth 20000 in
theorem gX11_init_X0_init : GoodIn wsX11_init (wsX0_init) := ggX11_init_X0_init
set_option maxRecDepth 20000 in
theorem ggX11_init_X4_init : GoodIn wsX11_init wsX4_init := goodIn_r _ [88, 89, 2, 3, 4, 90, 91, 92, 93, 94, 162, 163, 164, 165, 166, 167, 168] (by decide +kernel) (by decide +kernel)
set_option maxRecDepth 20000 in
theorem gX11_init_X4_init : GoodIn wsX11_init (wsX4_init) := ggX11_init_X4_init
set_option maxRecDepth 20000 in
theorem ggX11_init_X3_init : GoodIn wsX11_init wsX3_init := goodIn_r _ [97, 98, 2, 3, 4, 99, 100, 101, 102, 103, 104, 169, 170, 171, 172, 173, 174] (by decide +kernel) (by decide +kernel)
set_option maxRecDepth 20000 in
theorem gX11_init_X3_init : GoodIn wsX11_init (wsX3_init) := ggX11_init_X3_init
set_option maxRecDepth 20000 in
theorem ggX11_init_X7_init : GoodIn wsX11_init wsX7_init := goodIn_r _ [107, 108, 2, 3, 109, 110, 4, 111, 112, 113, 114, 115, 116, 117, 118, 119, 120, 121, 122, 175, 176, 177, 178, 179, 180, 181, 182, 183, 184, 185, 196, 197, 198, 199, 200, 201, 202, 203, 204, 205, 206] (by decide +kernel) (by decide +kernel)
set_option maxRecDepth 20000 in
theorem gX11_init_X7_init : GoodIn wsX11_init (wsX7_init) := ggX11_init_X7_init
set_option maxRecDepth 20000 in
theorem ggX11_init_X6_init : GoodIn wsX11_init wsX6_init := goodIn_r _ [125, 126, 2, 3, 127, 128, 37, 38, 129, 106, 107, 108, 109, 110, 4, 111, 112, 113, 114, 115, 116, 117, 118, 119, 120, 121, 122, 186, 187, 188, 175, 176, 177, 178, 179, 180, 181, 182, 183, 184, 185, 196, 197, 198, 199, 200, 201, 202, 203, 204, 205, 206] (by decide +kernel) (by decide +kernel)
set_option maxRecDepth 20000 in
theorem gX11_init_X6_init : GoodIn wsX11_init (wsX6_init) := ggX11_init_X6_init
theorem dX11_init_0 : decode cX11_init 0 = .ok (.aload_n 0, 1) := by decide +kernel
theorem dX11_init_1 : decode cX11_init 1 = .ok (.invokespecial 3, 3) := by decide +kernel
theorem dX11_init_4 : decode cX11_init 4 = .ok (.aload_n 0, 1) := by decide +kernel
theorem dX11_init_5 : decode cX11_init 5 = .ok (.sipush 400, 3) := by decide +kernel
theorem dX11_init_8 : decode cX11_init 8 = .ok (.newarray .int, 2) := by decide +kernel
theorem dX11_init_10 : decode cX11_init 10 = .ok (.putfield 9, 3) := by decide +kernel
theorem dX11_init_13 : decode cX11_init 13 = .ok (.aload_n 0, 1) := by decide +kernel
theorem dX11_init_14 : decode cX11_init 14 = .ok (.iconst (-1), 1) := by decide +kernel
theorem dX11_init_15 : decode cX11_init 15 = .ok (.putfield 13, 3) := by decide +kernel
theorem dX11_init_18 : decode cX11_init 18 = .ok (.aload_n 0, 1) := by decide +kernel
theorem dX11_init_19 : decode cX11_init 19 = .ok (.new 17, 3) := by decide +kernel
theorem dX11_init_22 : decode cX11_init 22 = .ok (.dup, 1) := by decide +kernel
theorem dX11_init_23 : decode cX11_init 23 = .ok (.invokespecial 19, 3) := by decide +kernel
theorem dX11_init_26 : decode cX11_init 26 = .ok (.putfield 20, 3) := by decide +kernel
theorem dX11_init_29 : decode cX11_init 29 = .ok (.aload_n 0, 1) := by decide +kernel
theorem dX11_init_30 : decode cX11_init 30 = .ok (.new 24, 3) := by decide +kernel
theorem dX11_init_33 : decode cX11_init 33 = .ok (.dup, 1) := by decide +kernel
theorem dX11_init_34 : decode cX11_init 34 = .ok (.invokespecial 26, 3) := by decide +kernel
theorem dX11_init_37 : decode cX11_init 37 = .ok (.putfield 27, 3) := by decide +kernel
theorem dX11_init_40 : decode cX11_init 40 = .ok (.aload_n 0, 1) := by decide +kernel
theorem dX11_init_41 : decode cX11_init 41 = .ok (.new 31, 3) := by decide +kernel
theorem dX11_init_44 : decode cX11_init 44 = .ok (.dup, 1) := by decide +kernel
theorem dX11_init_45 : decode cX11_init 45 = .ok (.invokespecial 33, 3) := by decide +kernel
theorem dX11_init_48 : decode cX11_init 48 = .ok (.putfield 34, 3) := by decide +kernel
theorem dX11_init_51 : decode cX11_init 51 = .ok (.aload_n 0, 1) := by decide +kernel
theorem dX11_init_52 : decode cX11_init 52 = .ok (.new 38, 3) := by decide +kernel
theorem dX11_init_55 : decode cX11_init 55 = .ok (.dup, 1) := by decide +kernel
theorem dX11_init_56 : decode cX11_init 56 = .ok (.invokespecial 40, 3) := by decide +kernel
theorem dX11_init_59 : decode cX11_init 59 = .ok (.putfield 41, 3) := by decide +kernel
theorem dX11_init_62 : decode cX11_init 62 = .ok (.aload_n 0, 1) := by decide +kernel
theorem dX11_init_63 : decode cX11_init 63 = .ok (.new 45, 3) := by decide +kernel
theorem dX11_init_66 : decode cX11_init 66 = .ok (.dup, 1) := by decide +kernel
theorem dX11_init_67 : decode cX11_init 67 = .ok (.aload_n 0, 1) := by decide +kernel
theorem dX11_init_68 : decode cX11_init 68 = .ok (.getfield 41, 3) := by decide +kernel
theorem dX11_init_71 : decode cX11_init 71 = .ok (.invokespecial 47, 3) := by decide +kernel
theorem dX11_init_74 : decode cX11_init 74 = .ok (.putfield 50, 3) := by decide +kernel
theorem dX11_init_77 : decode cX11_init 77 = .ok (.aload_n 0, 1) := by decide +kernel
theorem dX11_init_78 : decode cX11_init 78 = .ok (.new 54, 3) := by decide +kernel
theorem dX11_init_81 : decode cX11_init 81 = .ok (.dup, 1) := by decide +kernel
theorem dX11_init_82 : decode cX11_init 82 = .ok (.aload_n 0, 1) := by decide +kernel
theorem dX11_init_83 : decode cX11_init 83 = .ok (.getfield 41, 3) := by decide +kernel
theorem dX11_init_86 : decode cX11_init 86 = .ok (.invokespecial 56, 3) := by decide +kernel
theorem dX11_init_89 : decode cX11_init 89 = .ok (.putfield 57, 3) := by decide +kernel
theorem dX11_init_92 : decode cX11_init 92 = .ok (.aload_n 0, 1) := by decide +kernel
theorem dX11_init_93 : decode cX11_init 93 = .ok (.bipush 20, 2) := by decide +kernel
theorem dX11_init_95 : decode cX11_init 95 = .ok (.newarray .int, 2) := by decide +kernel
theorem dX11_init_97 : decode cX11_init 97 = .ok (.putfield 61, 3) := by decide +kernel
theorem dX11_init_100 : decode cX11_init 100 = .ok (.aload_n 0, 1) := by decide +kernel
theorem dX11_init_101 : decode cX11_init 101 = .ok (.bipush 8, 2) := by decide +kernel
theorem dX11_init_103 : decode cX11_init 103 = .ok (.newarray .int, 2) := by decide +kernel
theorem dX11_init_105 : decode cX11_init 105 = .ok (.putfield 64, 3) := by decide +kernel
theorem dX11_init_108 : decode cX11_init 108 = .ok (.new 67, 3) := by decide +kernel
theorem dX11_init_111 : decode cX11_init 111 = .ok (.dup, 1) := by decide +kernel
theorem dX11_init_112 : decode cX11_init 112 = .ok (.iconst (-1), 1) := by decide +kernel
theorem dX11_init_113 : decode cX11_init 113 = .ok (.iconst 0, 1) := by decide +kernel
theorem dX11_init_114 : decode cX11_init 114 = .ok (.newarray .int, 2) := by decide +kernel
theorem dX11_init_116 : decode cX11_init 116 = .ok (.iconst 0, 1) := by decide +kernel
theorem dX11_init_117 : decode cX11_init 117 = .ok (.newarray .int, 2) := by decide +kernel
theorem dX11_init_119 : decode cX11_init 119 = .ok (.iconst 1, 1) := by decide +kernel
theorem dX11_init_120 : decode cX11_init 120 = .ok (.newarray .int, 2) := by decide +kernel
theorem dX11_init_122 : decode cX11_init 122 = .ok (.iconst 0, 1) := by decide +kernel
theorem dX11_init_123 : decode cX11_init 123 = .ok (.newarray .int, 2) := by decide +kernel
theorem dX11_init_125 : decode cX11_init 125 = .ok (.invokespecial 69, 3) := by decide +kernel
theorem dX11_init_128 : decode cX11_init 128 = .ok (.astore_n 1, 1) := by decide +kernel
theorem dX11_init_129 : decode cX11_init 129 = .ok (.aload_n 0, 1) := by decide +kernel
theorem dX11_init_130 : decode cX11_init 130 = .ok (.new 72, 3) := by decide +kernel
theorem dX11_init_133 : decode cX11_init 133 = .ok (.dup, 1) := by decide +kernel
theorem dX11_init_134 : decode cX11_init 134 = .ok (.aload_n 1, 1) := by decide +kernel
theorem dX11_init_135 : decode cX11_init 135 = .ok (.invokespecial 74, 3) := by decide +kernel
theorem dX11_init_138 : decode cX11_init 138 = .ok (.putfield 77, 3) := by decide +kernel
theorem dX11_init_141 : decode cX11_init 141 = .ok (.aload_n 0, 1) := by decide +kernel
theorem dX11_init_142 : decode cX11_init 142 = .ok (.new 72, 3) := by decide +kernel
theorem dX11_init_145 : decode cX11_init 145 = .ok (.dup, 1) := by decide +kernel
theorem dX11_init_146 : decode cX11_init 146 = .ok (.aload_n 1, 1) := by decide +kernel
theorem dX11_init_147 : decode cX11_init 147 = .ok (.invokespecial 74, 3) := by decide +kernel
theorem dX11_init_150 : decode cX11_init 150 = .ok (.putfield 81, 3) := by decide +kernel
theorem dX11_init_153 : decode cX11_init 153 = .ok (.aload_n 0, 1) := by decide +kernel
theorem dX11_init_154 : decode cX11_init 154 = .ok (.new 72, 3) := by decide +kernel
theorem dX11_init_157 : decode cX11_init 157 = .ok (.dup, 1) := by decide +kernel
theorem dX11_init_158 : decode cX11_init 158 = .ok (.aload_n 1, 1) := by decide +kernel
theorem dX11_init_159 : decode cX11_init 159 = .ok (.invokespecial 74, 3) := by decide +kernel
theorem dX11_init_162 : decode cX11_init 162 = .ok (.putfield 84, 3) := by decide +kernel
theorem dX11_init_165 : decode cX11_init 165 = .ok (.aload_n 0, 1) := by decide +kernel
theorem dX11_init_166 : decode cX11_init 166 = .ok (.new 87, 3) := by decide +kernel
theorem dX11_init_169 : decode cX11_init 169 = .ok (.dup, 1) := by decide +kernel
theorem dX11_init_170 : decode cX11_init 170 = .ok (.aload_n 1, 1) := by decide +kernel
theorem dX11_init_171 : decode cX11_init 171 = .ok (.invokespecial 89, 3) := by decide +kernel
theorem dX11_init_174 : decode cX11_init 174 = .ok (.putfield 90, 3) := by decide +kernel
theorem dX11_init_177 : decode cX11_init 177 = .ok (.return_, 1) := by decide +kernel
set_option maxRecDepth 20000 in
theorem ggX11_feed_X11_putBytes : GoodIn wsX11_feed wsX11_putBytes := goodIn_r _ [6, 1, 7, 8, 9, 10, 11, 12, 13, 14, 15, 16, 17, 18, 19, 20, 21, 22, 23] (by decide +kernel) (by decide +kernel)
set_option maxRecDepth 20000 in
theorem gX11_feed_X11_putBytes : GoodIn wsX11_feed (wsV RX11 97 RX11 yX11_putBytes wsX11_putBytes) := goodIn_app (goodIn_of _ (by decide +kernel)) ggX11_feed_X11_putBytes
theorem dX11_feed_0 : decode cX11_feed 0 = .ok (.aload_n 0, 1) := by decide +kernel
theorem dX11_feed_1 : decode cX11_feed 1 = .ok (.getfield 94, 3) := by decide +kernel
theorem dX11_feed_4 : decode cX11_feed 4 = .ok (.bipush 20, 2) := by decide +kernel
theorem dX11_feed_6 : decode cX11_feed 6 = .ok (.iadd, 1) := by decide +kernel
theorem dX11_feed_7 : decode cX11_feed 7 = .ok (.sipush 400, 3) := by decide +kernel
theorem dX11_feed_10 : decode cX11_feed 10 = .ok (.if_icmp .le 5, 3) := by decide +kernel
theorem dX11_feed_13 : decode cX11_feed 13 = .ok (.iconst (-1), 1) := by decide +kernel
theorem dX11_feed_14 : decode cX11_feed 14 = .ok (.ireturn, 1) := by decide +kernel
theorem dX11_feed_15 : decode cX11_feed 15 = .ok (.aload_n 0, 1) := by decide +kernel
theorem dX11_feed_16 : decode cX11_feed 16 = .ok (.iload_n 1, 1) := by decide +kernel
theorem dX11_feed_17 : decode cX11_feed 17 = .ok (.invokevirtual 97, 3) := by decide +kernel
theorem dX11_feed_20 : decode cX11_feed 20 = .ok (.aload_n 0, 1) := by decide +kernel
theorem dX11_feed_21 : decode cX11_feed 21 = .ok (.iload_n 2, 1) := by decide +kernel
theorem dX11_feed_22 : decode cX11_feed 22 = .ok (.invokevirtual 97, 3) := by decide +kernel
theorem dX11_feed_25 : decode cX11_feed 25 = .ok (.aload_n 0, 1) := by decide +kernel
theorem dX11_feed_26 : decode cX11_feed 26 = .ok (.iload_n 3, 1) := by decide +kernel
theorem dX11_feed_27 : decode cX11_feed 27 = .ok (.invokevirtual 97, 3) := by decide +kernel
theorem dX11_feed_30 : decode cX11_feed 30 = .ok (.aload_n 0, 1) := by decide +kernel
theorem dX11_feed_31 : decode cX11_feed 31 = .ok (.iload 4, 2) := by decide +kernel
theorem dX11_feed_33 : decode cX11_feed 33 = .ok (.invokevirtual 97, 3) := by decide +kernel
theorem dX11_feed_36 : decode cX11_feed 36 = .ok (.aload_n 0, 1) := by decide +kernel
theorem dX11_feed_37 : decode cX11_feed 37 = .ok (.iload 5, 2) := by decide +kernel
theorem dX11_feed_39 : decode cX11_feed 39 = .ok (.invokevirtual 97, 3) := by decide +kernel
theorem dX11_feed_42 : decode cX11_feed 42 = .ok (.aload_n 0, 1) := by decide +kernel
theorem dX11_feed_43 : decode cX11_feed 43 = .ok (.getfield 94, 3) := by decide +kernel
theorem dX11_feed_46 : decode cX11_feed 46 = .ok (.ireturn, 1) := by decide +kernel
theorem dX11_putBytes_0 : decode cX11_putBytes 0 = .ok (.bipush 24, 2) := by decide +kernel
theorem dX11_putBytes_2 : decode cX11_putBytes 2 = .ok (.istore_n 2, 1) := by decide +kernel
theorem dX11_putBytes_3 : decode cX11_putBytes 3 = .ok (.iload_n 2, 1) := by decide +kernel
theorem dX11_putBytes_4 : decode cX11_putBytes 4 = .ok (.ifCond .lt 47, 3) := by decide +kernel
theorem dX11_putBytes_7 : decode cX11_putBytes 7 = .ok (.aload_n 0, 1) := by decide +kernel
theorem dX11_putBytes_8 : decode cX11_putBytes 8 = .ok (.getfield 94, 3) := by decide +kernel
theorem dX11_putBytes_11 : decode cX11_putBytes 11 = .ok (.aload_n 0, 1) := by decide +kernel
theorem dX11_putBytes_12 : decode cX11_putBytes 12 = .ok (.getfield 9, 3) := by decide +kernel
theorem dX11_putBytes_15 : decode cX11_putBytes 15 = .ok (.arraylength, 1) := by decide +kernel
theorem dX11_putBytes_16 : decode cX11_putBytes 16 = .ok (.if_icmp .ge 29, 3) := by decide +kernel
theorem dX11_putBytes_19 : decode cX11_putBytes 19 = .ok (.aload_n 0, 1) := by decide +kernel
theorem dX11_putBytes_20 : decode cX11_putBytes 20 = .ok (.getfield 9, 3) := by decide +kernel
theorem dX11_putBytes_23 : decode cX11_putBytes 23 = .ok (.aload_n 0, 1) := by decide +kernel
theorem dX11_putBytes_24 : decode cX11_putBytes 24 = .ok (.getfield 94, 3) := by decide +kernel
theorem dX11_putBytes_27 : decode cX11_putBytes 27 = .ok (.iload_n 1, 1) := by decide +kernel
theorem dX11_putBytes_28 : decode cX11_putBytes 28 = .ok (.iload_n 2, 1) := by decide +kernel
theorem dX11_putBytes_29 : decode cX11_putBytes 29 = .ok (.iushr, 1) := by decide +kernel
theorem dX11_putBytes_30 : decode cX11_putBytes 30 = .ok (.sipush 255, 3) := by decide +kernel
theorem dX11_putBytes_33 : decode cX11_putBytes 33 = .ok (.iand, 1) := by decide +kernel
theorem dX11_putBytes_34 : decode cX11_putBytes 34 = .ok (.iastore, 1) := by decide +kernel
theorem dX11_putBytes_35 : decode cX11_putBytes 35 = .ok (.aload_n 0, 1) := by decide +kernel
theorem dX11_putBytes_36 : decode cX11_putBytes 36 = .ok (.dup, 1) := by decide +kernel
theorem dX11_putBytes_37 : decode cX11_putBytes 37 = .ok (.getfield 94, 3) := by decide +kernel
theorem dX11_putBytes_40 : decode cX11_putBytes 40 = .ok (.iconst 1, 1) := by decide +kernel
theorem dX11_putBytes_41 : decode cX11_putBytes 41 = .ok (.iadd, 1) := by decide +kernel
theorem dX11_putBytes_42 : decode cX11_putBytes 42 = .ok (.putfield 94, 3) := by decide +kernel
theorem dX11_putBytes_45 : decode cX11_putBytes 45 = .ok (.iinc 2 (-8), 3) := by decide +kernel
theorem dX11_putBytes_48 : decode cX11_putBytes 48 = .ok (.goto (-45), 3) := by decide +kernel
theorem dX11_putBytes_51 : decode cX11_putBytes 51 = .ok (.return_, 1) := by decide +kernel
theorem dX11_end_0 : decode cX11_end 0 = .ok (.iload_n 1, 1) := by decide +kernel
theorem dX11_end_1 : decode cX11_end 1 = .ok (.ifCond .lt 11, 3) := by decide +kernel
theorem dX11_end_4 : decode cX11_end 4 = .ok (.iload_n 1, 1) := by decide +kernel
theorem dX11_end_5 : decode cX11_end 5 = .ok (.aload_n 0, 1) := by decide +kernel
theorem dX11_end_6 : decode cX11_end 6 = .ok (.getfield 94, 3) := by decide +kernel
theorem dX11_end_9 : decode cX11_end 9 = .ok (.if_icmp .le 5, 3) := by decide +kernel
theorem dX11_end_12 : decode cX11_end 12 = .ok (.iconst 0, 1) := by decide +kernel
theorem dX11_end_13 : decode cX11_end 13 = .ok (.ireturn, 1) := by decide +kernel
theorem dX11_end_14 : decode cX11_end 14 = .ok (.aload_n 0, 1) := by decide +kernel
theorem dX11_end_15 : decode cX11_end 15 = .ok (.iload_n 1, 1) := by decide +kernel
theorem dX11_end_16 : decode cX11_end 16 = .ok (.putfield 94, 3) := by decide +kernel
theorem dX11_end_19 : decode cX11_end 19 = .ok (.iconst 1, 1) := by decide +kernel
theorem dX11_end_20 : decode cX11_end 20 = .ok (.ireturn, 1) := by decide +kernel
theorem dX11_useTape_0 : decode cX11_useTape 0 = .ok (.aload_n 0, 1) := by decide +kernel
theorem dX11_useTape_1 : decode cX11_useTape 1 = .ok (.getfield 94, 3) := by decide +kernel
theorem dX11_useTape_4 : decode cX11_useTape 4 = .ok (.istore_n 1, 1) := by decide +kernel
theorem dX11_useTape_5 : decode cX11_useTape 5 = .ok (.aload_n 0, 1) := by decide +kernel
theorem dX11_useTape_6 : decode cX11_useTape 6 = .ok (.iconst 0, 1) := by decide +kernel
theorem dX11_useTape_7 : decode cX11_useTape 7 = .ok (.putfield 94, 3) := by decide +kernel
theorem dX11_useTape_10 : decode cX11_useTape 10 = .ok (.iload_n 1, 1) := by decide +kernel
theorem dX11_useTape_11 : decode cX11_useTape 11 = .ok (.ireturn, 1) := by decide +kernel
set_option maxRecDepth 20000 in
theorem ggX11_cluster_X11_useTape : GoodIn wsX11_cluster wsX11_useTape := goodIn_r _ [18, 19, 194, 195, 196, 197, 198, 199, 200, 201, 202, 203, 204, 205, 206, 207, 208, 209] (by decide +kernel) (by decide +kernel)
set_option maxRecDepth 20000 in
theorem gX11_cluster_X11_useTape : GoodIn wsX11_cluster (wsV RX11 101 RX11 yX11_useTape wsX11_useTape) := goodIn_app (goodIn_of _ (by decide +kernel)) ggX11_cluster_X11_useTape
set_option maxRecDepth 20000 in
theorem ggX11_cluster_X8_load : GoodIn wsX11_cluster wsX8_load := goodIn_r _ [24, 25, 26, 27, 28, 29, 30, 31, 32, 33, 23, 34, 35, 36, 37, 38, 39, 40, 41, 42, 43, 44, 45, 46, 47, 48, 49, 50, 51, 52, 53, 54, 55, 56, 57, 58, 59, 60, 61, 62, 63, 64, 65, 66, 67, 68, 69, 70, 71, 72, 73, 74, 75, 76, 77, 78, 79, 80, 81, 82, 83, 84, 85, 86, 87, 88, 89, 90, 91, 92, 93, 94, 95, 96, 97, 98, 210, 211, 212, 213, 214] (by decide +kernel) (by decide +kernel)
set_option maxRecDepth 20000 in
theorem gX11_cluster_X8_load : GoodIn wsX11_cluster (wsV RX11 105 RX8 yX8_load wsX8_load) := goodIn_app (goodIn_of _ (by decide +kernel)) ggX11_cluster_X8_load
set_option maxRecDepth 20000 in
theorem ggX11_cluster_X7_copyFrom : GoodIn wsX11_cluster wsX7_copyFrom := goodIn_r _ [103, 104, 105, 106, 107, 108, 109, 110, 111, 112, 113, 114, 115, 116, 117, 118, 119, 120, 121, 122, 123, 124, 125, 126, 127, 128, 129, 130, 131, 132, 133, 134, 215, 216, 217, 218, 219, 220, 221, 222, 223, 224, 225, 226, 227, 228, 229, 230, 231, 232, 233, 234, 235, 236] (by decide +kernel) (by decide +kernel)
set_option maxRecDepth 20000 in
theorem gX11_cluster_X7_copyFrom : GoodIn wsX11_cluster (wsV RX11 109 RX7 yX7_copyFrom wsX7_copyFrom) := goodIn_app (goodIn_of _ (by decide +kernel)) ggX11_cluster_X7_copyFrom
set_option maxRecDepth 20000 in
theorem ggX11_cluster_X0_readInto : GoodIn wsX11_cluster wsX0_readInto := goodIn_r _ [139, 140, 141, 142, 143, 23, 144, 27, 26, 25, 97, 145, 146, 147, 138, 148, 149, 150, 151, 152, 153, 154, 155, 156, 157, 158, 159, 102, 160, 112, 104, 161, 162, 163, 122, 164, 124, 125, 126, 127, 128, 129, 130, 131, 132, 133, 134, 165, 166, 167, 168, 169, 170, 171, 172, 173, 174, 175, 176, 177, 178, 179, 180, 181, 182, 183, 184, 98, 185, 17, 186, 187, 237, 210, 211, 212, 213, 214, 215, 216, 217, 218, 219, 220, 221, 222, 223, 224, 225, 226, 227, 228, 229, 230, 231, 232, 233, 234, 235, 236] (by decide +kernel) (by decide +kernel)
set_option maxRecDepth 20000 in
theorem gX11_cluster_X0_readInto : GoodIn wsX11_cluster (wsV RX11 113 RX0 yX0_readInto wsX0_readInto) := goodIn_app (goodIn_of _ (by decide +kernel)) ggX11_cluster_X0_readInto
set_option maxRecDepth 20000 in
theorem ggX11_cluster_X6_forget : GoodIn wsX11_cluster wsX6_forget := goodIn_r _ [192, 193, 238, 239, 240] (by decide +kernel) (by decide +kernel)
set_option maxRecDepth 20000 in
theorem gX11_cluster_X6_forget : GoodIn wsX11_cluster (wsV RX11 128 RX6 yX6_forget wsX6_forget) := goodIn_app (goodIn_of _ (by decide +kernel)) ggX11_cluster_X6_forget
theorem dX11_cluster_0 : decode cX11_cluster 0 = .ok (.aload_n 0, 1) := by decide +kernel
theorem dX11_cluster_1 : decode cX11_cluster 1 = .ok (.getfield 41, 3) := by decide +kernel
theorem dX11_cluster_4 : decode cX11_cluster 4 = .ok (.aload_n 0, 1) := by decide +kernel
theorem dX11_cluster_5 : decode cX11_cluster 5 = .ok (.getfield 9, 3) := by decide +kernel
theorem dX11_cluster_8 : decode cX11_cluster 8 = .ok (.aload_n 0, 1) := by decide +kernel
theorem dX11_cluster_9 : decode cX11_cluster 9 = .ok (.invokevirtual 101, 3) := by decide +kernel
theorem dX11_cluster_12 : decode cX11_cluster 12 = .ok (.invokevirtual 105, 3) := by decide +kernel
theorem dX11_cluster_15 : decode cX11_cluster 15 = .ok (.aload_n 0, 1) := by decide +kernel
theorem dX11_cluster_16 : decode cX11_cluster 16 = .ok (.getfield 81, 3) := by decide +kernel
theorem dX11_cluster_19 : decode cX11_cluster 19 = .ok (.aload_n 0, 1) := by decide +kernel
theorem dX11_cluster_20 : decode cX11_cluster 20 = .ok (.getfield 77, 3) := by decide +kernel
theorem dX11_cluster_23 : decode cX11_cluster 23 = .ok (.invokevirtual 109, 3) := by decide +kernel
theorem dX11_cluster_26 : decode cX11_cluster 26 = .ok (.aload_n 0, 1) := by decide +kernel
theorem dX11_cluster_27 : decode cX11_cluster 27 = .ok (.getfield 50, 3) := by decide +kernel
theorem dX11_cluster_30 : decode cX11_cluster 30 = .ok (.aload_n 0, 1) := by decide +kernel
theorem dX11_cluster_31 : decode cX11_cluster 31 = .ok (.getfield 81, 3) := by decide +kernel
theorem dX11_cluster_34 : decode cX11_cluster 34 = .ok (.invokevirtual 113, 3) := by decide +kernel
theorem dX11_cluster_37 : decode cX11_cluster 37 = .ok (.aload_n 0, 1) := by decide +kernel
theorem dX11_cluster_38 : decode cX11_cluster 38 = .ok (.aload_n 0, 1) := by decide +kernel
theorem dX11_cluster_39 : decode cX11_cluster 39 = .ok (.getfield 41, 3) := by decide +kernel
theorem dX11_cluster_42 : decode cX11_cluster 42 = .ok (.getfield 116, 3) := by decide +kernel
theorem dX11_cluster_45 : decode cX11_cluster 45 = .ok (.putfield 13, 3) := by decide +kernel
theorem dX11_cluster_48 : decode cX11_cluster 48 = .ok (.aload_n 0, 1) := by decide +kernel
theorem dX11_cluster_49 : decode cX11_cluster 49 = .ok (.getfield 13, 3) := by decide +kernel
theorem dX11_cluster_52 : decode cX11_cluster 52 = .ok (.iconst (-1), 1) := by decide +kernel
theorem dX11_cluster_53 : decode cX11_cluster 53 = .ok (.if_icmp .eq 11, 3) := by decide +kernel
theorem dX11_cluster_56 : decode cX11_cluster 56 = .ok (.new 119, 3) := by decide +kernel
theorem dX11_cluster_59 : decode cX11_cluster 59 = .ok (.dup, 1) := by decide +kernel
theorem dX11_cluster_60 : decode cX11_cluster 60 = .ok (.invokespecial 121, 3) := by decide +kernel
theorem dX11_cluster_63 : decode cX11_cluster 63 = .ok (.athrow, 1) := by decide +kernel
theorem dX11_cluster_64 : decode cX11_cluster 64 = .ok (.aload_n 0, 1) := by decide +kernel
theorem dX11_cluster_65 : decode cX11_cluster 65 = .ok (.getfield 77, 3) := by decide +kernel
theorem dX11_cluster_68 : decode cX11_cluster 68 = .ok (.getfield 122, 3) := by decide +kernel
theorem dX11_cluster_71 : decode cX11_cluster 71 = .ok (.bipush 12, 2) := by decide +kernel
theorem dX11_cluster_73 : decode cX11_cluster 73 = .ok (.if_icmp .lt 11, 3) := by decide +kernel
theorem dX11_cluster_76 : decode cX11_cluster 76 = .ok (.new 125, 3) := by decide +kernel
theorem dX11_cluster_79 : decode cX11_cluster 79 = .ok (.dup, 1) := by decide +kernel
theorem dX11_cluster_80 : decode cX11_cluster 80 = .ok (.invokespecial 127, 3) := by decide +kernel
theorem dX11_cluster_83 : decode cX11_cluster 83 = .ok (.athrow, 1) := by decide +kernel
theorem dX11_cluster_84 : decode cX11_cluster 84 = .ok (.aload_n 0, 1) := by decide +kernel
theorem dX11_cluster_85 : decode cX11_cluster 85 = .ok (.getfield 77, 3) := by decide +kernel
theorem dX11_cluster_88 : decode cX11_cluster 88 = .ok (.aload_n 0, 1) := by decide +kernel
theorem dX11_cluster_89 : decode cX11_cluster 89 = .ok (.getfield 81, 3) := by decide +kernel
theorem dX11_cluster_92 : decode cX11_cluster 92 = .ok (.invokevirtual 109, 3) := by decide +kernel
theorem dX11_cluster_95 : decode cX11_cluster 95 = .ok (.aload_n 0, 1) := by decide +kernel
theorem dX11_cluster_96 : decode cX11_cluster 96 = .ok (.getfield 77, 3) := by decide +kernel
theorem dX11_cluster_99 : decode cX11_cluster 99 = .ok (.dup, 1) := by decide +kernel
theorem dX11_cluster_100 : decode cX11_cluster 100 = .ok (.getfield 122, 3) := by decide +kernel
theorem dX11_cluster_103 : decode cX11_cluster 103 = .ok (.iconst 1, 1) := by decide +kernel
theorem dX11_cluster_104 : decode cX11_cluster 104 = .ok (.iadd, 1) := by decide +kernel
theorem dX11_cluster_105 : decode cX11_cluster 105 = .ok (.putfield 122, 3) := by decide +kernel
theorem dX11_cluster_108 : decode cX11_cluster 108 = .ok (.aload_n 0, 1) := by decide +kernel
theorem dX11_cluster_109 : decode cX11_cluster 109 = .ok (.getfield 90, 3) := by decide +kernel
theorem dX11_cluster_112 : decode cX11_cluster 112 = .ok (.invokevirtual 128, 3) := by decide +kernel
theorem dX11_cluster_115 : decode cX11_cluster 115 = .ok (.aload_n 0, 1) := by decide +kernel
theorem dX11_cluster_116 : decode cX11_cluster 116 = .ok (.getfield 77, 3) := by decide +kernel
theorem dX11_cluster_119 : decode cX11_cluster 119 = .ok (.getfield 122, 3) := by decide +kernel
theorem dX11_cluster_122 : decode cX11_cluster 122 = .ok (.ireturn, 1) := by decide +kernel
set_option maxRecDepth 20000 in
theorem ggX11_law_X11_useTape : GoodIn wsX11_law wsX11_useTape := goodIn_r _ [16, 17, 191, 192, 193, 194, 195, 196, 197, 198, 199, 200, 201, 202, 203, 204, 205, 206] (by decide +kernel) (by decide +kernel)
set_option maxRecDepth 20000 in
theorem gX11_law_X11_useTape : GoodIn wsX11_law (wsV RX11 101 RX11 yX11_useTape wsX11_useTape) := goodIn_app (goodIn_of _ (by decide +kernel)) ggX11_law_X11_useTape
set_option maxRecDepth 20000 in
theorem ggX11_law_X8_load : GoodIn wsX11_law wsX8_load := goodIn_r _ [22, 23, 24, 25, 26, 27, 28, 29, 30, 31, 21, 32, 33, 34, 35, 36, 37, 38, 39, 40, 41, 42, 43, 44, 45, 46, 47, 48, 49, 50, 51, 52, 53, 54, 55, 56, 57, 58, 59, 60, 61, 62, 63, 64, 65, 66, 67, 68, 69, 70, 71, 72, 73, 74, 75, 76, 77, 78, 79, 80, 81, 82, 83, 84, 85, 86, 87, 88, 89, 90, 91, 92, 93, 94, 95, 96, 207, 208, 209, 210, 211] (by decide +kernel) (by decide +kernel)
set_option maxRecDepth 20000 in
theorem gX11_law_X8_load : GoodIn wsX11_law (wsV RX11 105 RX8 yX8_load wsX8_load) := goodIn_app (goodIn_of _ (by decide +kernel)) ggX11_law_X8_load
set_option maxRecDepth 20000 in
theorem ggX11_law_X4_readAllLines : GoodIn wsX11_law wsX4_readAllLines := goodIn_r _ [101, 102, 103, 104, 105, 106, 107, 21, 108, 25, 24, 23, 95, 109, 110, 111, 100, 112, 113, 114, 115, 116, 117, 118, 119, 120, 121, 122, 123, 96, 124, 125, 126, 127, 128, 129, 130, 131, 132, 133, 134, 135, 136, 137, 138, 139, 140, 141, 142, 143, 144, 145, 146, 147, 148, 149, 150, 151, 152, 153, 229, 230, 231, 232, 233, 234, 235, 207, 208, 209, 210, 211] (by decide +kernel) (by decide +kernel)
set_option maxRecDepth 20000 in
theorem gX11_law_X4_readAllLines : GoodIn wsX11_law (wsV RX11 131 RX4 yX4_readAllLines wsX4_readAllLines) := goodIn_app (goodIn_of _ (by decide +kernel)) ggX11_law_X4_readAllLines
set_option maxRecDepth 20000 in
theorem ggX11_law_X4_made : GoodIn wsX11_law wsX4_made := goodIn_r _ [157, 158, 159, 160, 102, 113, 114, 115, 144, 103, 161, 162, 100, 163, 164, 27, 28, 29, 165, 166, 167, 168, 169, 170, 171, 172, 173, 174, 175, 176, 177, 178, 179, 180, 181, 182, 183, 184, 223, 224, 225, 226, 227, 228, 229, 230, 231, 232, 233, 234, 235] (by decide +kernel) (by decide +kernel)
set_option maxRecDepth 20000 in
theorem gX11_law_X4_made : GoodIn wsX11_law (wsV RX11 134 RX4 yX4_made wsX4_made) := goodIn_app (goodIn_of _ (by decide +kernel)) ggX11_law_X4_made
set_option maxRecDepth 20000 in
theorem ggX11_law_X6_forget : GoodIn wsX11_law wsX6_forget := goodIn_r _ [189, 190, 236, 237, 238] (by decide +kernel) (by decide +kernel)
set_option maxRecDepth 20000 in
theorem gX11_law_X6_forget : GoodIn wsX11_law (wsV RX11 128 RX6 yX6_forget wsX6_forget) := goodIn_app (goodIn_of _ (by decide +kernel)) ggX11_law_X6_forget
theorem dX11_law_0 : decode cX11_law 0 = .ok (.aload_n 0, 1) := by decide +kernel
theorem dX11_law_1 : decode cX11_law 1 = .ok (.getfield 41, 3) := by decide +kernel
theorem dX11_law_4 : decode cX11_law 4 = .ok (.aload_n 0, 1) := by decide +kernel
theorem dX11_law_5 : decode cX11_law 5 = .ok (.getfield 9, 3) := by decide +kernel
theorem dX11_law_8 : decode cX11_law 8 = .ok (.aload_n 0, 1) := by decide +kernel
theorem dX11_law_9 : decode cX11_law 9 = .ok (.invokevirtual 101, 3) := by decide +kernel
theorem dX11_law_12 : decode cX11_law 12 = .ok (.invokevirtual 105, 3) := by decide +kernel
theorem dX11_law_15 : decode cX11_law 15 = .ok (.aload_n 0, 1) := by decide +kernel
theorem dX11_law_16 : decode cX11_law 16 = .ok (.getfield 57, 3) := by decide +kernel
theorem dX11_law_19 : decode cX11_law 19 = .ok (.invokevirtual 131, 3) := by decide +kernel
theorem dX11_law_22 : decode cX11_law 22 = .ok (.aload_n 0, 1) := by decide +kernel
theorem dX11_law_23 : decode cX11_law 23 = .ok (.aload_n 0, 1) := by decide +kernel
theorem dX11_law_24 : decode cX11_law 24 = .ok (.getfield 41, 3) := by decide +kernel
theorem dX11_law_27 : decode cX11_law 27 = .ok (.getfield 116, 3) := by decide +kernel
theorem dX11_law_30 : decode cX11_law 30 = .ok (.putfield 13, 3) := by decide +kernel
theorem dX11_law_33 : decode cX11_law 33 = .ok (.aload_n 0, 1) := by decide +kernel
theorem dX11_law_34 : decode cX11_law 34 = .ok (.getfield 13, 3) := by decide +kernel
theorem dX11_law_37 : decode cX11_law 37 = .ok (.iconst (-1), 1) := by decide +kernel
theorem dX11_law_38 : decode cX11_law 38 = .ok (.if_icmp .eq 11, 3) := by decide +kernel
theorem dX11_law_41 : decode cX11_law 41 = .ok (.new 119, 3) := by decide +kernel
theorem dX11_law_44 : decode cX11_law 44 = .ok (.dup, 1) := by decide +kernel
theorem dX11_law_45 : decode cX11_law 45 = .ok (.invokespecial 121, 3) := by decide +kernel
theorem dX11_law_48 : decode cX11_law 48 = .ok (.athrow, 1) := by decide +kernel
theorem dX11_law_49 : decode cX11_law 49 = .ok (.aload_n 0, 1) := by decide +kernel
theorem dX11_law_50 : decode cX11_law 50 = .ok (.getfield 77, 3) := by decide +kernel
theorem dX11_law_53 : decode cX11_law 53 = .ok (.aload_n 0, 1) := by decide +kernel
theorem dX11_law_54 : decode cX11_law 54 = .ok (.getfield 57, 3) := by decide +kernel
theorem dX11_law_57 : decode cX11_law 57 = .ok (.invokevirtual 134, 3) := by decide +kernel
theorem dX11_law_60 : decode cX11_law 60 = .ok (.putfield 138, 3) := by decide +kernel
theorem dX11_law_63 : decode cX11_law 63 = .ok (.aload_n 0, 1) := by decide +kernel
theorem dX11_law_64 : decode cX11_law 64 = .ok (.getfield 90, 3) := by decide +kernel
theorem dX11_law_67 : decode cX11_law 67 = .ok (.invokevirtual 128, 3) := by decide +kernel
theorem dX11_law_70 : decode cX11_law 70 = .ok (.aload_n 0, 1) := by decide +kernel
theorem dX11_law_71 : decode cX11_law 71 = .ok (.getfield 77, 3) := by decide +kernel
theorem dX11_law_74 : decode cX11_law 74 = .ok (.getfield 138, 3) := by decide +kernel
theorem dX11_law_77 : decode cX11_law 77 = .ok (.getfield 142, 3) := by decide +kernel
theorem dX11_law_80 : decode cX11_law 80 = .ok (.ireturn, 1) := by decide +kernel
theorem dX11_fault_0 : decode cX11_fault 0 = .ok (.aload_n 0, 1) := by decide +kernel
theorem dX11_fault_1 : decode cX11_fault 1 = .ok (.getfield 13, 3) := by decide +kernel
theorem dX11_fault_4 : decode cX11_fault 4 = .ok (.ireturn, 1) := by decide +kernel
theorem dX11_isNode_0 : decode cX11_isNode 0 = .ok (.iload_n 1, 1) := by decide +kernel
theorem dX11_isNode_1 : decode cX11_isNode 1 = .ok (.ifCond .lt 24, 3) := by decide +kernel
theorem dX11_isNode_4 : decode cX11_isNode 4 = .ok (.iload_n 1, 1) := by decide +kernel
theorem dX11_isNode_5 : decode cX11_isNode 5 = .ok (.aload_n 0, 1) := by decide +kernel
theorem dX11_isNode_6 : decode cX11_isNode 6 = .ok (.getfield 77, 3) := by decide +kernel
theorem dX11_isNode_9 : decode cX11_isNode 9 = .ok (.getfield 145, 3) := by decide +kernel
theorem dX11_isNode_12 : decode cX11_isNode 12 = .ok (.if_icmp .ge 13, 3) := by decide +kernel
theorem dX11_isNode_15 : decode cX11_isNode 15 = .ok (.iload_n 1, 1) := by decide +kernel
theorem dX11_isNode_16 : decode cX11_isNode 16 = .ok (.bipush 8, 2) := by decide +kernel
theorem dX11_isNode_18 : decode cX11_isNode 18 = .ok (.if_icmp .ge 7, 3) := by decide +kernel
theorem dX11_isNode_21 : decode cX11_isNode 21 = .ok (.iconst 1, 1) := by decide +kernel
theorem dX11_isNode_22 : decode cX11_isNode 22 = .ok (.goto 4, 3) := by decide +kernel
theorem dX11_isNode_25 : decode cX11_isNode 25 = .ok (.iconst 0, 1) := by decide +kernel
theorem dX11_isNode_26 : decode cX11_isNode 26 = .ok (.ireturn, 1) := by decide +kernel
set_option maxRecDepth 20000 in
theorem ggX11_node_X11_isNode : GoodIn wsX11_node wsX11_isNode := goodIn_r _ [19, 5, 20, 148, 149, 150, 151, 152, 153, 154, 155, 156, 157, 158, 159, 160, 161, 162, 163, 164, 165, 166, 167, 168, 169, 170, 171, 172, 173, 174] (by decide +kernel) (by decide +kernel)
set_option maxRecDepth 20000 in
theorem gX11_node_X11_isNode : GoodIn wsX11_node (wsV RX11 148 RX11 yX11_isNode wsX11_isNode) := goodIn_app (goodIn_of _ (by decide +kernel)) ggX11_node_X11_isNode
set_option maxRecDepth 20000 in
theorem ggX11_node_X5_told : GoodIn wsX11_node wsX5_told := goodIn_r _ [25, 26, 27, 28, 29, 30, 31, 32, 33, 34, 35, 36, 184, 185, 186, 187, 188, 189, 190, 191, 192, 193, 194] (by decide +kernel) (by decide +kernel)
set_option maxRecDepth 20000 in
theorem gX11_node_X5_told : GoodIn wsX11_node (wsV RX11 162 RX5 yX5_told wsX5_told) := goodIn_app (goodIn_of _ (by decide +kernel)) ggX11_node_X5_told
set_option maxRecDepth 20000 in
theorem ggX11_node_X10_look : GoodIn wsX11_node wsX10_look := goodIn_r _ [41, 42, 43, 44, 45, 46, 47, 48, 49, 50, 51, 52, 53, 54, 55, 56, 57, 58, 59, 60, 61, 62, 63, 64, 65, 66, 67, 68, 69, 70, 71, 72, 73, 18, 74, 75, 76, 77, 78, 79, 80, 81, 82, 83, 84, 85, 86, 87, 88, 89, 90, 91, 92, 93, 94, 95, 96, 97, 98, 99, 100, 101, 102, 103, 104, 105, 106, 107, 108, 109, 110, 111, 112, 113, 114, 115, 116, 177, 178, 179, 180, 181, 182, 183, 164, 165, 166, 167, 168, 169, 170, 171, 172, 173, 174, 184, 185, 186, 187, 188, 189, 190, 191, 192, 193, 194, 195, 196, 197, 198, 199, 200] (by decide +kernel) (by decide +kernel)
set_option maxRecDepth 20000 in
theorem gX11_node_X10_look : GoodIn wsX11_node (wsV RX11 172 RX10 yX10_look wsX10_look) := goodIn_app (goodIn_of _ (by decide +kernel)) ggX11_node_X10_look
set_option maxRecDepth 20000 in
theorem ggX11_node_X3_sum : GoodIn wsX11_node wsX3_sum := goodIn_r _ [79, 80, 81, 82, 83, 66, 67, 68, 69, 70, 71, 72, 73, 18, 74, 84, 85, 86, 78, 87, 88, 89, 90, 54, 91, 92, 93, 94, 95, 96, 97, 98, 99, 100, 101, 102, 103, 104, 105, 106, 107, 108, 109, 110, 111, 112, 113, 114, 115, 116, 195, 196, 197, 198, 199, 200, 164, 165, 166, 167, 168, 169, 170, 171, 172, 173, 174, 184, 185, 186, 187, 188, 189, 190, 191, 192, 193, 194] (by decide +kernel) (by decide +kernel)
set_option maxRecDepth 20000 in
theorem gX11_node_X3_sum : GoodIn wsX11_node (wsV RX11 183 RX3 yX3_sum wsX3_sum) := goodIn_app (goodIn_of _ (by decide +kernel)) ggX11_node_X3_sum
set_option maxRecDepth 20000 in
theorem ggX11_node_X1_load : GoodIn wsX11_node wsX1_load := goodIn_r _ [122, 123, 124, 125, 126, 127, 18, 128, 73, 74, 177, 178, 179, 180, 181, 182, 183, 201, 202, 203, 204, 205] (by decide +kernel) (by decide +kernel)
set_option maxRecDepth 20000 in
theorem gX11_node_X1_load : GoodIn wsX11_node (wsV RX11 190 RX1 yX1_load wsX1_load) := goodIn_app (goodIn_of _ (by decide +kernel)) ggX11_node_X1_load
set_option maxRecDepth 20000 in
theorem ggX11_node_X1_cliqueOf : GoodIn wsX11_node wsX1_cliqueOf := goodIn_r _ [132, 124, 125, 73, 18, 74, 127, 128, 201, 202, 203, 204, 205] (by decide +kernel) (by decide +kernel)
set_option maxRecDepth 20000 in
theorem gX11_node_X1_cliqueOf : GoodIn wsX11_node (wsV RX11 193 RX1 yX1_cliqueOf wsX1_cliqueOf) := goodIn_app (goodIn_of _ (by decide +kernel)) ggX11_node_X1_cliqueOf
set_option maxRecDepth 20000 in
theorem ggX11_node_X10_middleOf : GoodIn wsX11_node wsX10_middleOf := goodIn_r _ [136, 44, 137, 63, 57, 45, 56, 127, 18, 128, 138, 139, 140, 141, 142, 164, 165, 166, 167, 168, 169, 170, 171, 172, 173, 174, 177, 178, 179, 180, 181, 182, 183, 184, 185, 186, 187, 188, 189, 190, 191, 192, 193, 194] (by decide +kernel) (by decide +kernel)
set_option maxRecDepth 20000 in
theorem gX11_node_X10_middleOf : GoodIn wsX11_node (wsV RX11 199 RX10 yX10_middleOf wsX10_middleOf) := goodIn_app (goodIn_of _ (by decide +kernel)) ggX11_node_X10_middleOf
set_option maxRecDepth 20000 in
theorem ggX11_node_X7_knowing : GoodIn wsX11_node wsX7_knowing := goodIn_r _ [146, 70, 71, 147, 127, 18, 128, 73, 74, 164, 165, 166, 167, 168, 169, 170, 171, 172, 173, 174, 184, 185, 186, 187, 188, 189, 190, 191, 192, 193, 194] (by decide +kernel) (by decide +kernel)
set_option maxRecDepth 20000 in
theorem gX11_node_X7_knowing : GoodIn wsX11_node (wsV RX11 202 RX7 yX7_knowing wsX7_knowing) := goodIn_app (goodIn_of _ (by decide +kernel)) ggX11_node_X7_knowing
theorem dX11_node_0 : decode cX11_node 0 = .ok (.aload_n 0, 1) := by decide +kernel
theorem dX11_node_1 : decode cX11_node 1 = .ok (.iload_n 1, 1) := by decide +kernel
theorem dX11_node_2 : decode cX11_node 2 = .ok (.invokevirtual 148, 3) := by decide +kernel
theorem dX11_node_5 : decode cX11_node 5 = .ok (.ifCond .ne 11, 3) := by decide +kernel
theorem dX11_node_8 : decode cX11_node 8 = .ok (.new 152, 3) := by decide +kernel
theorem dX11_node_11 : decode cX11_node 11 = .ok (.dup, 1) := by decide +kernel
theorem dX11_node_12 : decode cX11_node 12 = .ok (.invokespecial 154, 3) := by decide +kernel
theorem dX11_node_15 : decode cX11_node 15 = .ok (.athrow, 1) := by decide +kernel
theorem dX11_node_16 : decode cX11_node 16 = .ok (.iload_n 2, 1) := by decide +kernel
theorem dX11_node_17 : decode cX11_node 17 = .ok (.ifCond .lt 9, 3) := by decide +kernel
theorem dX11_node_20 : decode cX11_node 20 = .ok (.iload_n 2, 1) := by decide +kernel
theorem dX11_node_21 : decode cX11_node 21 = .ok (.bipush 17, 2) := by decide +kernel
theorem dX11_node_23 : decode cX11_node 23 = .ok (.if_icmp .le 11, 3) := by decide +kernel
theorem dX11_node_26 : decode cX11_node 26 = .ok (.new 155, 3) := by decide +kernel
theorem dX11_node_29 : decode cX11_node 29 = .ok (.dup, 1) := by decide +kernel
theorem dX11_node_30 : decode cX11_node 30 = .ok (.invokespecial 157, 3) := by decide +kernel
theorem dX11_node_33 : decode cX11_node 33 = .ok (.athrow, 1) := by decide +kernel
theorem dX11_node_34 : decode cX11_node 34 = .ok (.iload_n 2, 1) := by decide +kernel
theorem dX11_node_35 : decode cX11_node 35 = .ok (.bipush 10, 2) := by decide +kernel
theorem dX11_node_37 : decode cX11_node 37 = .ok (.if_icmp .gt 17, 3) := by decide +kernel
theorem dX11_node_40 : decode cX11_node 40 = .ok (.aload_n 0, 1) := by decide +kernel
theorem dX11_node_41 : decode cX11_node 41 = .ok (.getfield 77, 3) := by decide +kernel
theorem dX11_node_44 : decode cX11_node 44 = .ok (.getfield 158, 3) := by decide +kernel
theorem dX11_node_47 : decode cX11_node 47 = .ok (.iload_n 1, 1) := by decide +kernel
theorem dX11_node_48 : decode cX11_node 48 = .ok (.aaload, 1) := by decide +kernel
theorem dX11_node_49 : decode cX11_node 49 = .ok (.iload_n 2, 1) := by decide +kernel
theorem dX11_node_50 : decode cX11_node 50 = .ok (.invokevirtual 162, 3) := by decide +kernel
theorem dX11_node_53 : decode cX11_node 53 = .ok (.ireturn, 1) := by decide +kernel
theorem dX11_node_54 : decode cX11_node 54 = .ok (.aload_n 0, 1) := by decide +kernel
theorem dX11_node_55 : decode cX11_node 55 = .ok (.getfield 20, 3) := by decide +kernel
theorem dX11_node_58 : decode cX11_node 58 = .ok (.getfield 168, 3) := by decide +kernel
theorem dX11_node_61 : decode cX11_node 61 = .ok (.aload_n 0, 1) := by decide +kernel
theorem dX11_node_62 : decode cX11_node 62 = .ok (.getfield 77, 3) := by decide +kernel
theorem dX11_node_65 : decode cX11_node 65 = .ok (.invokevirtual 172, 3) := by decide +kernel
theorem dX11_node_68 : decode cX11_node 68 = .ok (.iload_n 2, 1) := by decide +kernel
theorem dX11_node_69 : decode cX11_node 69 = .ok (.tableswitch 168 11 16 #[39, 52, 65, 84, 99, 122], 39) := by decide +kernel
theorem dX11_node_108 : decode cX11_node 108 = .ok (.aload_n 0, 1) := by decide +kernel
theorem dX11_node_109 : decode cX11_node 109 = .ok (.getfield 20, 3) := by decide +kernel
theorem dX11_node_112 : decode cX11_node 112 = .ok (.getfield 168, 3) := by decide +kernel
theorem dX11_node_115 : decode cX11_node 115 = .ok (.getfield 177, 3) := by decide +kernel
theorem dX11_node_118 : decode cX11_node 118 = .ok (.iload_n 1, 1) := by decide +kernel
theorem dX11_node_119 : decode cX11_node 119 = .ok (.iaload, 1) := by decide +kernel
theorem dX11_node_120 : decode cX11_node 120 = .ok (.ireturn, 1) := by decide +kernel
theorem dX11_node_121 : decode cX11_node 121 = .ok (.aload_n 0, 1) := by decide +kernel
theorem dX11_node_122 : decode cX11_node 122 = .ok (.getfield 20, 3) := by decide +kernel
theorem dX11_node_125 : decode cX11_node 125 = .ok (.getfield 168, 3) := by decide +kernel
theorem dX11_node_128 : decode cX11_node 128 = .ok (.getfield 180, 3) := by decide +kernel
theorem dX11_node_131 : decode cX11_node 131 = .ok (.iload_n 1, 1) := by decide +kernel
theorem dX11_node_132 : decode cX11_node 132 = .ok (.iaload, 1) := by decide +kernel
theorem dX11_node_133 : decode cX11_node 133 = .ok (.ireturn, 1) := by decide +kernel
theorem dX11_node_134 : decode cX11_node 134 = .ok (.aload_n 0, 1) := by decide +kernel
theorem dX11_node_135 : decode cX11_node 135 = .ok (.getfield 77, 3) := by decide +kernel
theorem dX11_node_138 : decode cX11_node 138 = .ok (.getfield 138, 3) := by decide +kernel
theorem dX11_node_141 : decode cX11_node 141 = .ok (.aload_n 0, 1) := by decide +kernel
theorem dX11_node_142 : decode cX11_node 142 = .ok (.getfield 77, 3) := by decide +kernel
theorem dX11_node_145 : decode cX11_node 145 = .ok (.iload_n 1, 1) := by decide +kernel
theorem dX11_node_146 : decode cX11_node 146 = .ok (.sipush 1012, 3) := by decide +kernel
theorem dX11_node_149 : decode cX11_node 149 = .ok (.invokevirtual 183, 3) := by decide +kernel
theorem dX11_node_152 : decode cX11_node 152 = .ok (.ireturn, 1) := by decide +kernel
theorem dX11_node_153 : decode cX11_node 153 = .ok (.aload_n 0, 1) := by decide +kernel
theorem dX11_node_154 : decode cX11_node 154 = .ok (.getfield 20, 3) := by decide +kernel
theorem dX11_node_157 : decode cX11_node 157 = .ok (.getfield 168, 3) := by decide +kernel
theorem dX11_node_160 : decode cX11_node 160 = .ok (.getfield 187, 3) := by decide +kernel
theorem dX11_node_163 : decode cX11_node 163 = .ok (.iload_n 1, 1) := by decide +kernel
theorem dX11_node_164 : decode cX11_node 164 = .ok (.ishr, 1) := by decide +kernel
theorem dX11_node_165 : decode cX11_node 165 = .ok (.iconst 1, 1) := by decide +kernel
theorem dX11_node_166 : decode cX11_node 166 = .ok (.iand, 1) := by decide +kernel
theorem dX11_node_167 : decode cX11_node 167 = .ok (.ireturn, 1) := by decide +kernel
theorem dX11_node_168 : decode cX11_node 168 = .ok (.aload_n 0, 1) := by decide +kernel
theorem dX11_node_169 : decode cX11_node 169 = .ok (.getfield 27, 3) := by decide +kernel
theorem dX11_node_172 : decode cX11_node 172 = .ok (.aload_n 0, 1) := by decide +kernel
theorem dX11_node_173 : decode cX11_node 173 = .ok (.getfield 20, 3) := by decide +kernel
theorem dX11_node_176 : decode cX11_node 176 = .ok (.getfield 168, 3) := by decide +kernel
theorem dX11_node_179 : decode cX11_node 179 = .ok (.invokevirtual 190, 3) := by decide +kernel
theorem dX11_node_182 : decode cX11_node 182 = .ok (.aload_n 0, 1) := by decide +kernel
theorem dX11_node_183 : decode cX11_node 183 = .ok (.getfield 27, 3) := by decide +kernel
theorem dX11_node_186 : decode cX11_node 186 = .ok (.iload_n 1, 1) := by decide +kernel
theorem dX11_node_187 : decode cX11_node 187 = .ok (.invokevirtual 193, 3) := by decide +kernel
theorem dX11_node_190 : decode cX11_node 190 = .ok (.ireturn, 1) := by decide +kernel
theorem dX11_node_191 : decode cX11_node 191 = .ok (.aload_n 0, 1) := by decide +kernel
theorem dX11_node_192 : decode cX11_node 192 = .ok (.getfield 77, 3) := by decide +kernel
theorem dX11_node_195 : decode cX11_node 195 = .ok (.getfield 158, 3) := by decide +kernel
theorem dX11_node_198 : decode cX11_node 198 = .ok (.iload_n 1, 1) := by decide +kernel
theorem dX11_node_199 : decode cX11_node 199 = .ok (.aaload, 1) := by decide +kernel
theorem dX11_node_200 : decode cX11_node 200 = .ok (.getfield 196, 3) := by decide +kernel
theorem dX11_node_203 : decode cX11_node 203 = .ok (.iconst 2, 1) := by decide +kernel
theorem dX11_node_204 : decode cX11_node 204 = .ok (.if_icmp .ne 31, 3) := by decide +kernel
theorem dX11_node_207 : decode cX11_node 207 = .ok (.aload_n 0, 1) := by decide +kernel
theorem dX11_node_208 : decode cX11_node 208 = .ok (.getfield 20, 3) := by decide +kernel
theorem dX11_node_211 : decode cX11_node 211 = .ok (.getfield 168, 3) := by decide +kernel
theorem dX11_node_214 : decode cX11_node 214 = .ok (.aload_n 0, 1) := by decide +kernel
theorem dX11_node_215 : decode cX11_node 215 = .ok (.getfield 77, 3) := by decide +kernel
theorem dX11_node_218 : decode cX11_node 218 = .ok (.iload_n 1, 1) := by decide +kernel
theorem dX11_node_219 : decode cX11_node 219 = .ok (.aload_n 0, 1) := by decide +kernel
theorem dX11_node_220 : decode cX11_node 220 = .ok (.getfield 20, 3) := by decide +kernel
theorem dX11_node_223 : decode cX11_node 223 = .ok (.getfield 168, 3) := by decide +kernel
theorem dX11_node_226 : decode cX11_node 226 = .ok (.getfield 187, 3) := by decide +kernel
theorem dX11_node_229 : decode cX11_node 229 = .ok (.invokevirtual 199, 3) := by decide +kernel
theorem dX11_node_232 : decode cX11_node 232 = .ok (.goto 4, 3) := by decide +kernel
theorem dX11_node_235 : decode cX11_node 235 = .ok (.iconst 0, 1) := by decide +kernel
theorem dX11_node_236 : decode cX11_node 236 = .ok (.ireturn, 1) := by decide +kernel
theorem dX11_node_237 : decode cX11_node 237 = .ok (.aload_n 0, 1) := by decide +kernel
theorem dX11_node_238 : decode cX11_node 238 = .ok (.getfield 77, 3) := by decide +kernel
