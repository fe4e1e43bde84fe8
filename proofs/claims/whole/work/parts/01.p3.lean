theorem dX11_midOf_1 : decode cX11_midOf 1 = .ok (.iconst 1, 1) := by decide +kernel
theorem dX11_midOf_2 : decode cX11_midOf 2 = .ok (.if_icmp .lt 9, 3) := by decide +kernel
theorem dX11_midOf_5 : decode cX11_midOf 5 = .ok (.iload_n 1, 1) := by decide +kernel
theorem dX11_midOf_6 : decode cX11_midOf 6 = .ok (.aload_n 0, 1) := by decide +kernel
theorem dX11_midOf_7 : decode cX11_midOf 7 = .ok (.arraylength, 1) := by decide +kernel
theorem dX11_midOf_8 : decode cX11_midOf 8 = .ok (.if_icmp .le 5, 3) := by decide +kernel
theorem dX11_midOf_11 : decode cX11_midOf 11 = .ok (.iconst 0, 1) := by decide +kernel
theorem dX11_midOf_12 : decode cX11_midOf 12 = .ok (.ireturn, 1) := by decide +kernel
theorem dX11_midOf_13 : decode cX11_midOf 13 = .ok (.aload_n 0, 1) := by decide +kernel
theorem dX11_midOf_14 : decode cX11_midOf 14 = .ok (.iload_n 1, 1) := by decide +kernel
theorem dX11_midOf_15 : decode cX11_midOf 15 = .ok (.invokestatic 394, 3) := by decide +kernel
theorem dX11_midOf_18 : decode cX11_midOf 18 = .ok (.iload_n 1, 1) := by decide +kernel
theorem dX11_midOf_19 : decode cX11_midOf 19 = .ok (.bipush 8, 2) := by decide +kernel
theorem dX11_midOf_21 : decode cX11_midOf 21 = .ok (.if_icmp .lt 7, 3) := by decide +kernel
theorem dX11_midOf_24 : decode cX11_midOf 24 = .ok (.iconst 2, 1) := by decide +kernel
theorem dX11_midOf_25 : decode cX11_midOf 25 = .ok (.goto 13, 3) := by decide +kernel
theorem dX11_midOf_28 : decode cX11_midOf 28 = .ok (.iload_n 1, 1) := by decide +kernel
theorem dX11_midOf_29 : decode cX11_midOf 29 = .ok (.iconst 3, 1) := by decide +kernel
theorem dX11_midOf_30 : decode cX11_midOf 30 = .ok (.if_icmp .lt 7, 3) := by decide +kernel
theorem dX11_midOf_33 : decode cX11_midOf 33 = .ok (.iconst 1, 1) := by decide +kernel
theorem dX11_midOf_34 : decode cX11_midOf 34 = .ok (.goto 4, 3) := by decide +kernel
theorem dX11_midOf_37 : decode cX11_midOf 37 = .ok (.iconst 0, 1) := by decide +kernel
theorem dX11_midOf_38 : decode cX11_midOf 38 = .ok (.istore_n 2, 1) := by decide +kernel
theorem dX11_midOf_39 : decode cX11_midOf 39 = .ok (.aload_n 0, 1) := by decide +kernel
theorem dX11_midOf_40 : decode cX11_midOf 40 = .ok (.iload_n 2, 1) := by decide +kernel
theorem dX11_midOf_41 : decode cX11_midOf 41 = .ok (.iaload, 1) := by decide +kernel
theorem dX11_midOf_42 : decode cX11_midOf 42 = .ok (.aload_n 0, 1) := by decide +kernel
theorem dX11_midOf_43 : decode cX11_midOf 43 = .ok (.iload_n 1, 1) := by decide +kernel
theorem dX11_midOf_44 : decode cX11_midOf 44 = .ok (.iconst 1, 1) := by decide +kernel
theorem dX11_midOf_45 : decode cX11_midOf 45 = .ok (.isub, 1) := by decide +kernel
theorem dX11_midOf_46 : decode cX11_midOf 46 = .ok (.iload_n 2, 1) := by decide +kernel
theorem dX11_midOf_47 : decode cX11_midOf 47 = .ok (.isub, 1) := by decide +kernel
theorem dX11_midOf_48 : decode cX11_midOf 48 = .ok (.iaload, 1) := by decide +kernel
theorem dX11_midOf_49 : decode cX11_midOf 49 = .ok (.iadd, 1) := by decide +kernel
theorem dX11_midOf_50 : decode cX11_midOf 50 = .ok (.iconst 2, 1) := by decide +kernel
theorem dX11_midOf_51 : decode cX11_midOf 51 = .ok (.idiv, 1) := by decide +kernel
theorem dX11_midOf_52 : decode cX11_midOf 52 = .ok (.ireturn, 1) := by decide +kernel
theorem dX11_sort_0 : decode cX11_sort 0 = .ok (.iconst 1, 1) := by decide +kernel
theorem dX11_sort_1 : decode cX11_sort 1 = .ok (.istore_n 2, 1) := by decide +kernel
theorem dX11_sort_2 : decode cX11_sort 2 = .ok (.iload_n 2, 1) := by decide +kernel
theorem dX11_sort_3 : decode cX11_sort 3 = .ok (.iload_n 1, 1) := by decide +kernel
theorem dX11_sort_4 : decode cX11_sort 4 = .ok (.if_icmp .ge 65, 3) := by decide +kernel
theorem dX11_sort_7 : decode cX11_sort 7 = .ok (.iload_n 2, 1) := by decide +kernel
theorem dX11_sort_8 : decode cX11_sort 8 = .ok (.aload_n 0, 1) := by decide +kernel
theorem dX11_sort_9 : decode cX11_sort 9 = .ok (.arraylength, 1) := by decide +kernel
theorem dX11_sort_10 : decode cX11_sort 10 = .ok (.if_icmp .ge 59, 3) := by decide +kernel
theorem dX11_sort_13 : decode cX11_sort 13 = .ok (.aload_n 0, 1) := by decide +kernel
theorem dX11_sort_14 : decode cX11_sort 14 = .ok (.iload_n 2, 1) := by decide +kernel
theorem dX11_sort_15 : decode cX11_sort 15 = .ok (.iaload, 1) := by decide +kernel
theorem dX11_sort_16 : decode cX11_sort 16 = .ok (.istore_n 3, 1) := by decide +kernel
theorem dX11_sort_17 : decode cX11_sort 17 = .ok (.iload_n 2, 1) := by decide +kernel
theorem dX11_sort_18 : decode cX11_sort 18 = .ok (.istore 4, 2) := by decide +kernel
theorem dX11_sort_20 : decode cX11_sort 20 = .ok (.iload_n 2, 1) := by decide +kernel
theorem dX11_sort_21 : decode cX11_sort 21 = .ok (.iconst 1, 1) := by decide +kernel
theorem dX11_sort_22 : decode cX11_sort 22 = .ok (.isub, 1) := by decide +kernel
theorem dX11_sort_23 : decode cX11_sort 23 = .ok (.istore 5, 2) := by decide +kernel
theorem dX11_sort_25 : decode cX11_sort 25 = .ok (.iload 5, 2) := by decide +kernel
theorem dX11_sort_27 : decode cX11_sort 27 = .ok (.ifCond .lt 31, 3) := by decide +kernel
theorem dX11_sort_30 : decode cX11_sort 30 = .ok (.aload_n 0, 1) := by decide +kernel
theorem dX11_sort_31 : decode cX11_sort 31 = .ok (.iload 5, 2) := by decide +kernel
theorem dX11_sort_33 : decode cX11_sort 33 = .ok (.iaload, 1) := by decide +kernel
theorem dX11_sort_34 : decode cX11_sort 34 = .ok (.iload_n 3, 1) := by decide +kernel
theorem dX11_sort_35 : decode cX11_sort 35 = .ok (.if_icmp .le 23, 3) := by decide +kernel
theorem dX11_sort_38 : decode cX11_sort 38 = .ok (.aload_n 0, 1) := by decide +kernel
theorem dX11_sort_39 : decode cX11_sort 39 = .ok (.iload 5, 2) := by decide +kernel
theorem dX11_sort_41 : decode cX11_sort 41 = .ok (.iconst 1, 1) := by decide +kernel
theorem dX11_sort_42 : decode cX11_sort 42 = .ok (.iadd, 1) := by decide +kernel
theorem dX11_sort_43 : decode cX11_sort 43 = .ok (.aload_n 0, 1) := by decide +kernel
theorem dX11_sort_44 : decode cX11_sort 44 = .ok (.iload 5, 2) := by decide +kernel
theorem dX11_sort_46 : decode cX11_sort 46 = .ok (.iaload, 1) := by decide +kernel
theorem dX11_sort_47 : decode cX11_sort 47 = .ok (.iastore, 1) := by decide +kernel
theorem dX11_sort_48 : decode cX11_sort 48 = .ok (.iload 5, 2) := by decide +kernel
theorem dX11_sort_50 : decode cX11_sort 50 = .ok (.istore 4, 2) := by decide +kernel
theorem dX11_sort_52 : decode cX11_sort 52 = .ok (.iinc 5 (-1), 3) := by decide +kernel
theorem dX11_sort_55 : decode cX11_sort 55 = .ok (.goto (-30), 3) := by decide +kernel
theorem dX11_sort_58 : decode cX11_sort 58 = .ok (.aload_n 0, 1) := by decide +kernel
theorem dX11_sort_59 : decode cX11_sort 59 = .ok (.iload 4, 2) := by decide +kernel
theorem dX11_sort_61 : decode cX11_sort 61 = .ok (.iload_n 3, 1) := by decide +kernel
theorem dX11_sort_62 : decode cX11_sort 62 = .ok (.iastore, 1) := by decide +kernel
theorem dX11_sort_63 : decode cX11_sort 63 = .ok (.iinc 2 1, 3) := by decide +kernel
theorem dX11_sort_66 : decode cX11_sort 66 = .ok (.goto (-64), 3) := by decide +kernel
theorem dX11_sort_69 : decode cX11_sort 69 = .ok (.return_, 1) := by decide +kernel
theorem dX12_init_0 : decode cX12_init 0 = .ok (.aload_n 0, 1) := by decide +kernel
theorem dX12_init_1 : decode cX12_init 1 = .ok (.invokespecial 1, 3) := by decide +kernel
theorem dX12_init_4 : decode cX12_init 4 = .ok (.aload_n 0, 1) := by decide +kernel
theorem dX12_init_5 : decode cX12_init 5 = .ok (.sipush 737, 3) := by decide +kernel
theorem dX12_init_8 : decode cX12_init 8 = .ok (.newarray .int, 2) := by decide +kernel
theorem dX12_init_10 : decode cX12_init 10 = .ok (.putfield 7, 3) := by decide +kernel
theorem dX12_init_13 : decode cX12_init 13 = .ok (.aload_n 0, 1) := by decide +kernel
theorem dX12_init_14 : decode cX12_init 14 = .ok (.sipush 737, 3) := by decide +kernel
theorem dX12_init_17 : decode cX12_init 17 = .ok (.newarray .int, 2) := by decide +kernel
theorem dX12_init_19 : decode cX12_init 19 = .ok (.putfield 13, 3) := by decide +kernel
theorem dX12_init_22 : decode cX12_init 22 = .ok (.aload_n 0, 1) := by decide +kernel
theorem dX12_init_23 : decode cX12_init 23 = .ok (.sipush 337, 3) := by decide +kernel
theorem dX12_init_26 : decode cX12_init 26 = .ok (.newarray .int, 2) := by decide +kernel
theorem dX12_init_28 : decode cX12_init 28 = .ok (.putfield 16, 3) := by decide +kernel
theorem dX12_init_31 : decode cX12_init 31 = .ok (.aload_n 0, 1) := by decide +kernel
theorem dX12_init_32 : decode cX12_init 32 = .ok (.sipush 4044, 3) := by decide +kernel
theorem dX12_init_35 : decode cX12_init 35 = .ok (.newarray .int, 2) := by decide +kernel
theorem dX12_init_37 : decode cX12_init 37 = .ok (.putfield 19, 3) := by decide +kernel
theorem dX12_init_40 : decode cX12_init 40 = .ok (.aload_n 0, 1) := by decide +kernel
theorem dX12_init_41 : decode cX12_init 41 = .ok (.sipush 400, 3) := by decide +kernel
theorem dX12_init_44 : decode cX12_init 44 = .ok (.newarray .int, 2) := by decide +kernel
theorem dX12_init_46 : decode cX12_init 46 = .ok (.putfield 22, 3) := by decide +kernel
theorem dX12_init_49 : decode cX12_init 49 = .ok (.aload_n 0, 1) := by decide +kernel
theorem dX12_init_50 : decode cX12_init 50 = .ok (.iconst (-1), 1) := by decide +kernel
theorem dX12_init_51 : decode cX12_init 51 = .ok (.putfield 25, 3) := by decide +kernel
theorem dX12_init_54 : decode cX12_init 54 = .ok (.aload_n 0, 1) := by decide +kernel
theorem dX12_init_55 : decode cX12_init 55 = .ok (.bipush 7, 2) := by decide +kernel
theorem dX12_init_57 : decode cX12_init 57 = .ok (.newarray .int, 2) := by decide +kernel
theorem dX12_init_59 : decode cX12_init 59 = .ok (.putfield 29, 3) := by decide +kernel
theorem dX12_init_62 : decode cX12_init 62 = .ok (.aload_n 0, 1) := by decide +kernel
theorem dX12_init_63 : decode cX12_init 63 = .ok (.bipush 64, 2) := by decide +kernel
theorem dX12_init_65 : decode cX12_init 65 = .ok (.newarray .int, 2) := by decide +kernel
theorem dX12_init_67 : decode cX12_init 67 = .ok (.putfield 32, 3) := by decide +kernel
theorem dX12_init_70 : decode cX12_init 70 = .ok (.aload_n 0, 1) := by decide +kernel
theorem dX12_init_71 : decode cX12_init 71 = .ok (.bipush 8, 2) := by decide +kernel
theorem dX12_init_73 : decode cX12_init 73 = .ok (.newarray .int, 2) := by decide +kernel
theorem dX12_init_75 : decode cX12_init 75 = .ok (.putfield 35, 3) := by decide +kernel
theorem dX12_init_78 : decode cX12_init 78 = .ok (.aload_n 0, 1) := by decide +kernel
theorem dX12_init_79 : decode cX12_init 79 = .ok (.bipush 8, 2) := by decide +kernel
theorem dX12_init_81 : decode cX12_init 81 = .ok (.newarray .int, 2) := by decide +kernel
theorem dX12_init_83 : decode cX12_init 83 = .ok (.putfield 38, 3) := by decide +kernel
theorem dX12_init_86 : decode cX12_init 86 = .ok (.aload_n 0, 1) := by decide +kernel
theorem dX12_init_87 : decode cX12_init 87 = .ok (.bipush 21, 2) := by decide +kernel
theorem dX12_init_89 : decode cX12_init 89 = .ok (.newarray .int, 2) := by decide +kernel
theorem dX12_init_91 : decode cX12_init 91 = .ok (.putfield 41, 3) := by decide +kernel
theorem dX12_init_94 : decode cX12_init 94 = .ok (.aload_n 0, 1) := by decide +kernel
theorem dX12_init_95 : decode cX12_init 95 = .ok (.bipush 8, 2) := by decide +kernel
theorem dX12_init_97 : decode cX12_init 97 = .ok (.newarray .int, 2) := by decide +kernel
theorem dX12_init_99 : decode cX12_init 99 = .ok (.putfield 44, 3) := by decide +kernel
theorem dX12_init_102 : decode cX12_init 102 = .ok (.aload_n 0, 1) := by decide +kernel
theorem dX12_init_103 : decode cX12_init 103 = .ok (.sipush 256, 3) := by decide +kernel
theorem dX12_init_106 : decode cX12_init 106 = .ok (.newarray .int, 2) := by decide +kernel
theorem dX12_init_108 : decode cX12_init 108 = .ok (.putfield 47, 3) := by decide +kernel
theorem dX12_init_111 : decode cX12_init 111 = .ok (.aload_n 0, 1) := by decide +kernel
theorem dX12_init_112 : decode cX12_init 112 = .ok (.sipush 2048, 3) := by decide +kernel
theorem dX12_init_115 : decode cX12_init 115 = .ok (.newarray .int, 2) := by decide +kernel
theorem dX12_init_117 : decode cX12_init 117 = .ok (.putfield 50, 3) := by decide +kernel
theorem dX12_init_120 : decode cX12_init 120 = .ok (.aload_n 0, 1) := by decide +kernel
theorem dX12_init_121 : decode cX12_init 121 = .ok (.bipush 8, 2) := by decide +kernel
theorem dX12_init_123 : decode cX12_init 123 = .ok (.newarray .int, 2) := by decide +kernel
theorem dX12_init_125 : decode cX12_init 125 = .ok (.putfield 53, 3) := by decide +kernel
theorem dX12_init_128 : decode cX12_init 128 = .ok (.aload_n 0, 1) := by decide +kernel
theorem dX12_init_129 : decode cX12_init 129 = .ok (.sipush 243, 3) := by decide +kernel
theorem dX12_init_132 : decode cX12_init 132 = .ok (.newarray .int, 2) := by decide +kernel
theorem dX12_init_134 : decode cX12_init 134 = .ok (.putfield 56, 3) := by decide +kernel
theorem dX12_init_137 : decode cX12_init 137 = .ok (.aload_n 0, 1) := by decide +kernel
theorem dX12_init_138 : decode cX12_init 138 = .ok (.getfield 7, 3) := by decide +kernel
theorem dX12_init_141 : decode cX12_init 141 = .ok (.iconst 1, 1) := by decide +kernel
theorem dX12_init_142 : decode cX12_init 142 = .ok (.iconst (-1), 1) := by decide +kernel
theorem dX12_init_143 : decode cX12_init 143 = .ok (.iastore, 1) := by decide +kernel
theorem dX12_init_144 : decode cX12_init 144 = .ok (.aload_n 0, 1) := by decide +kernel
theorem dX12_init_145 : decode cX12_init 145 = .ok (.getfield 7, 3) := by decide +kernel
theorem dX12_init_148 : decode cX12_init 148 = .ok (.iconst 4, 1) := by decide +kernel
theorem dX12_init_149 : decode cX12_init 149 = .ok (.bipush 100, 2) := by decide +kernel
theorem dX12_init_151 : decode cX12_init 151 = .ok (.iastore, 1) := by decide +kernel
theorem dX12_init_152 : decode cX12_init 152 = .ok (.aload_n 0, 1) := by decide +kernel
theorem dX12_init_153 : decode cX12_init 153 = .ok (.getfield 7, 3) := by decide +kernel
theorem dX12_init_156 : decode cX12_init 156 = .ok (.iconst 5, 1) := by decide +kernel
theorem dX12_init_157 : decode cX12_init 157 = .ok (.bipush 50, 2) := by decide +kernel
theorem dX12_init_159 : decode cX12_init 159 = .ok (.iastore, 1) := by decide +kernel
theorem dX12_init_160 : decode cX12_init 160 = .ok (.aload_n 0, 1) := by decide +kernel
theorem dX12_init_161 : decode cX12_init 161 = .ok (.getfield 7, 3) := by decide +kernel
theorem dX12_init_164 : decode cX12_init 164 = .ok (.bipush 8, 2) := by decide +kernel
theorem dX12_init_166 : decode cX12_init 166 = .ok (.iconst 1, 1) := by decide +kernel
theorem dX12_init_167 : decode cX12_init 167 = .ok (.iastore, 1) := by decide +kernel
theorem dX12_init_168 : decode cX12_init 168 = .ok (.return_, 1) := by decide +kernel
theorem dX12_thrown_0 : decode cX12_thrown 0 = .ok (.aload_n 0, 1) := by decide +kernel
theorem dX12_thrown_1 : decode cX12_thrown 1 = .ok (.getfield 59, 3) := by decide +kernel
theorem dX12_thrown_4 : decode cX12_thrown 4 = .ok (.ireturn, 1) := by decide +kernel
theorem dX12_isIn_0 : decode cX12_isIn 0 = .ok (.iload_n 0, 1) := by decide +kernel
theorem dX12_isIn_1 : decode cX12_isIn 1 = .ok (.iload_n 1, 1) := by decide +kernel
theorem dX12_isIn_2 : decode cX12_isIn 2 = .ok (.if_icmp .lt 12, 3) := by decide +kernel
theorem dX12_isIn_5 : decode cX12_isIn 5 = .ok (.iload_n 0, 1) := by decide +kernel
theorem dX12_isIn_6 : decode cX12_isIn 6 = .ok (.iload_n 2, 1) := by decide +kernel
theorem dX12_isIn_7 : decode cX12_isIn 7 = .ok (.if_icmp .gt 7, 3) := by decide +kernel
theorem dX12_isIn_10 : decode cX12_isIn 10 = .ok (.iconst 1, 1) := by decide +kernel
theorem dX12_isIn_11 : decode cX12_isIn 11 = .ok (.goto 4, 3) := by decide +kernel
theorem dX12_isIn_14 : decode cX12_isIn 14 = .ok (.iconst 0, 1) := by decide +kernel
theorem dX12_isIn_15 : decode cX12_isIn 15 = .ok (.ireturn, 1) := by decide +kernel
theorem dX12_lesser_0 : decode cX12_lesser 0 = .ok (.iload_n 0, 1) := by decide +kernel
theorem dX12_lesser_1 : decode cX12_lesser 1 = .ok (.iload_n 1, 1) := by decide +kernel
theorem dX12_lesser_2 : decode cX12_lesser 2 = .ok (.if_icmp .ge 7, 3) := by decide +kernel
theorem dX12_lesser_5 : decode cX12_lesser 5 = .ok (.iload_n 0, 1) := by decide +kernel
theorem dX12_lesser_6 : decode cX12_lesser 6 = .ok (.goto 4, 3) := by decide +kernel
theorem dX12_lesser_9 : decode cX12_lesser 9 = .ok (.iload_n 1, 1) := by decide +kernel
theorem dX12_lesser_10 : decode cX12_lesser 10 = .ok (.ireturn, 1) := by decide +kernel
theorem dX12_greater_0 : decode cX12_greater 0 = .ok (.iload_n 0, 1) := by decide +kernel
theorem dX12_greater_1 : decode cX12_greater 1 = .ok (.iload_n 1, 1) := by decide +kernel
theorem dX12_greater_2 : decode cX12_greater 2 = .ok (.if_icmp .le 7, 3) := by decide +kernel
theorem dX12_greater_5 : decode cX12_greater 5 = .ok (.iload_n 0, 1) := by decide +kernel
theorem dX12_greater_6 : decode cX12_greater 6 = .ok (.goto 4, 3) := by decide +kernel
theorem dX12_greater_9 : decode cX12_greater 9 = .ok (.iload_n 1, 1) := by decide +kernel
theorem dX12_greater_10 : decode cX12_greater 10 = .ok (.ireturn, 1) := by decide +kernel
theorem dX12_isOf_0 : decode cX12_isOf 0 = .ok (.iload_n 0, 1) := by decide +kernel
theorem dX12_isOf_1 : decode cX12_isOf 1 = .ok (.iload_n 1, 1) := by decide +kernel
theorem dX12_isOf_2 : decode cX12_isOf 2 = .ok (.ishr, 1) := by decide +kernel
theorem dX12_isOf_3 : decode cX12_isOf 3 = .ok (.iconst 1, 1) := by decide +kernel
theorem dX12_isOf_4 : decode cX12_isOf 4 = .ok (.iand, 1) := by decide +kernel
theorem dX12_isOf_5 : decode cX12_isOf 5 = .ok (.iconst 1, 1) := by decide +kernel
theorem dX12_isOf_6 : decode cX12_isOf 6 = .ok (.if_icmp .ne 7, 3) := by decide +kernel
theorem dX12_isOf_9 : decode cX12_isOf 9 = .ok (.iconst 1, 1) := by decide +kernel
theorem dX12_isOf_10 : decode cX12_isOf 10 = .ok (.goto 4, 3) := by decide +kernel
theorem dX12_isOf_13 : decode cX12_isOf 13 = .ok (.iconst 0, 1) := by decide +kernel
theorem dX12_isOf_14 : decode cX12_isOf 14 = .ok (.ireturn, 1) := by decide +kernel
theorem dX12_bits_0 : decode cX12_bits 0 = .ok (.iconst 0, 1) := by decide +kernel
theorem dX12_bits_1 : decode cX12_bits 1 = .ok (.istore_n 1, 1) := by decide +kernel
theorem dX12_bits_2 : decode cX12_bits 2 = .ok (.iconst 0, 1) := by decide +kernel
theorem dX12_bits_3 : decode cX12_bits 3 = .ok (.istore_n 2, 1) := by decide +kernel
theorem dX12_bits_4 : decode cX12_bits 4 = .ok (.iload_n 2, 1) := by decide +kernel
theorem dX12_bits_5 : decode cX12_bits 5 = .ok (.bipush 31, 2) := by decide +kernel
theorem dX12_bits_7 : decode cX12_bits 7 = .ok (.if_icmp .ge 17, 3) := by decide +kernel
theorem dX12_bits_10 : decode cX12_bits 10 = .ok (.iload_n 1, 1) := by decide +kernel
theorem dX12_bits_11 : decode cX12_bits 11 = .ok (.iload_n 0, 1) := by decide +kernel
theorem dX12_bits_12 : decode cX12_bits 12 = .ok (.iload_n 2, 1) := by decide +kernel
theorem dX12_bits_13 : decode cX12_bits 13 = .ok (.ishr, 1) := by decide +kernel
theorem dX12_bits_14 : decode cX12_bits 14 = .ok (.iconst 1, 1) := by decide +kernel
theorem dX12_bits_15 : decode cX12_bits 15 = .ok (.iand, 1) := by decide +kernel
theorem dX12_bits_16 : decode cX12_bits 16 = .ok (.iadd, 1) := by decide +kernel
theorem dX12_bits_17 : decode cX12_bits 17 = .ok (.istore_n 1, 1) := by decide +kernel
theorem dX12_bits_18 : decode cX12_bits 18 = .ok (.iinc 2 1, 3) := by decide +kernel
theorem dX12_bits_21 : decode cX12_bits 21 = .ok (.goto (-17), 3) := by decide +kernel
theorem dX12_bits_24 : decode cX12_bits 24 = .ok (.iload_n 1, 1) := by decide +kernel
theorem dX12_bits_25 : decode cX12_bits 25 = .ok (.ireturn, 1) := by decide +kernel
theorem dX12_of_0 : decode cX12_of 0 = .ok (.aload_n 0, 1) := by decide +kernel
theorem dX12_of_1 : decode cX12_of 1 = .ok (.getfield 7, 3) := by decide +kernel
theorem dX12_of_4 : decode cX12_of 4 = .ok (.bipush 9, 2) := by decide +kernel
theorem dX12_of_6 : decode cX12_of 6 = .ok (.bipush 11, 2) := by decide +kernel
theorem dX12_of_8 : decode cX12_of 8 = .ok (.iload_n 1, 1) := by decide +kernel
theorem dX12_of_9 : decode cX12_of 9 = .ok (.imul, 1) := by decide +kernel
theorem dX12_of_10 : decode cX12_of 10 = .ok (.iadd, 1) := by decide +kernel
theorem dX12_of_11 : decode cX12_of 11 = .ok (.iload_n 2, 1) := by decide +kernel
theorem dX12_of_12 : decode cX12_of 12 = .ok (.iadd, 1) := by decide +kernel
theorem dX12_of_13 : decode cX12_of 13 = .ok (.iaload, 1) := by decide +kernel
theorem dX12_of_14 : decode cX12_of 14 = .ok (.ireturn, 1) := by decide +kernel
theorem dX12_lays_0 : decode cX12_lays 0 = .ok (.aload_n 0, 1) := by decide +kernel
theorem dX12_lays_1 : decode cX12_lays 1 = .ok (.getfield 7, 3) := by decide +kernel
theorem dX12_lays_4 : decode cX12_lays 4 = .ok (.bipush 9, 2) := by decide +kernel
theorem dX12_lays_6 : decode cX12_lays 6 = .ok (.bipush 11, 2) := by decide +kernel
theorem dX12_lays_8 : decode cX12_lays 8 = .ok (.iload_n 1, 1) := by decide +kernel
theorem dX12_lays_9 : decode cX12_lays 9 = .ok (.imul, 1) := by decide +kernel
theorem dX12_lays_10 : decode cX12_lays 10 = .ok (.iadd, 1) := by decide +kernel
theorem dX12_lays_11 : decode cX12_lays 11 = .ok (.iload_n 2, 1) := by decide +kernel
theorem dX12_lays_12 : decode cX12_lays 12 = .ok (.iadd, 1) := by decide +kernel
theorem dX12_lays_13 : decode cX12_lays 13 = .ok (.iload_n 3, 1) := by decide +kernel
theorem dX12_lays_14 : decode cX12_lays 14 = .ok (.iastore, 1) := by decide +kernel
theorem dX12_lays_15 : decode cX12_lays 15 = .ok (.return_, 1) := by decide +kernel
theorem dX12_isNode_0 : decode cX12_isNode 0 = .ok (.iload_n 1, 1) := by decide +kernel
theorem dX12_isNode_1 : decode cX12_isNode 1 = .ok (.iconst 0, 1) := by decide +kernel
theorem dX12_isNode_2 : decode cX12_isNode 2 = .ok (.aload_n 0, 1) := by decide +kernel
theorem dX12_isNode_3 : decode cX12_isNode 3 = .ok (.getfield 7, 3) := by decide +kernel
theorem dX12_isNode_6 : decode cX12_isNode 6 = .ok (.iconst 3, 1) := by decide +kernel
theorem dX12_isNode_7 : decode cX12_isNode 7 = .ok (.iaload, 1) := by decide +kernel
theorem dX12_isNode_8 : decode cX12_isNode 8 = .ok (.iconst 1, 1) := by decide +kernel
theorem dX12_isNode_9 : decode cX12_isNode 9 = .ok (.isub, 1) := by decide +kernel
theorem dX12_isNode_10 : decode cX12_isNode 10 = .ok (.invokestatic 62, 3) := by decide +kernel
theorem dX12_isNode_13 : decode cX12_isNode 13 = .ok (.ireturn, 1) := by decide +kernel
theorem dX12_isActive_0 : decode cX12_isActive 0 = .ok (.aload_n 0, 1) := by decide +kernel
theorem dX12_isActive_1 : decode cX12_isActive 1 = .ok (.iload_n 1, 1) := by decide +kernel
theorem dX12_isActive_2 : decode cX12_isActive 2 = .ok (.iconst 3, 1) := by decide +kernel
theorem dX12_isActive_3 : decode cX12_isActive 3 = .ok (.invokevirtual 66, 3) := by decide +kernel
theorem dX12_isActive_6 : decode cX12_isActive 6 = .ok (.iconst 2, 1) := by decide +kernel
theorem dX12_isActive_7 : decode cX12_isActive 7 = .ok (.if_icmp .ne 7, 3) := by decide +kernel
theorem dX12_isActive_10 : decode cX12_isActive 10 = .ok (.iconst 1, 1) := by decide +kernel
theorem dX12_isActive_11 : decode cX12_isActive 11 = .ok (.goto 4, 3) := by decide +kernel
theorem dX12_isActive_14 : decode cX12_isActive 14 = .ok (.iconst 0, 1) := by decide +kernel
theorem dX12_isActive_15 : decode cX12_isActive 15 = .ok (.ireturn, 1) := by decide +kernel
theorem dX12_held_0 : decode cX12_held 0 = .ok (.iload_n 1, 1) := by decide +kernel
theorem dX12_held_1 : decode cX12_held 1 = .ok (.ineg, 1) := by decide +kernel
theorem dX12_held_2 : decode cX12_held 2 = .ok (.iload_n 1, 1) := by decide +kernel
theorem dX12_held_3 : decode cX12_held 3 = .ok (.iload_n 0, 1) := by decide +kernel
theorem dX12_held_4 : decode cX12_held 4 = .ok (.invokestatic 70, 3) := by decide +kernel
theorem dX12_held_7 : decode cX12_held 7 = .ok (.invokestatic 73, 3) := by decide +kernel
theorem dX12_held_10 : decode cX12_held 10 = .ok (.ireturn, 1) := by decide +kernel
theorem dX12_sign_0 : decode cX12_sign 0 = .ok (.iload_n 0, 1) := by decide +kernel
theorem dX12_sign_1 : decode cX12_sign 1 = .ok (.ifCond .ge 8, 3) := by decide +kernel
theorem dX12_sign_4 : decode cX12_sign 4 = .ok (.iload_n 0, 1) := by decide +kernel
theorem dX12_sign_5 : decode cX12_sign 5 = .ok (.ineg, 1) := by decide +kernel
theorem dX12_sign_6 : decode cX12_sign 6 = .ok (.goto 4, 3) := by decide +kernel
theorem dX12_sign_9 : decode cX12_sign 9 = .ok (.iload_n 0, 1) := by decide +kernel
theorem dX12_sign_10 : decode cX12_sign 10 = .ok (.ireturn, 1) := by decide +kernel
theorem dX12_inState_0 : decode cX12_inState 0 = .ok (.iconst 0, 1) := by decide +kernel
theorem dX12_inState_1 : decode cX12_inState 1 = .ok (.istore_n 2, 1) := by decide +kernel
theorem dX12_inState_2 : decode cX12_inState 2 = .ok (.iconst 0, 1) := by decide +kernel
theorem dX12_inState_3 : decode cX12_inState 3 = .ok (.istore_n 3, 1) := by decide +kernel
theorem dX12_inState_4 : decode cX12_inState 4 = .ok (.iload_n 3, 1) := by decide +kernel
theorem dX12_inState_5 : decode cX12_inState 5 = .ok (.aload_n 0, 1) := by decide +kernel
theorem dX12_inState_6 : decode cX12_inState 6 = .ok (.getfield 7, 3) := by decide +kernel
theorem dX12_inState_9 : decode cX12_inState 9 = .ok (.iconst 3, 1) := by decide +kernel
theorem dX12_inState_10 : decode cX12_inState 10 = .ok (.iaload, 1) := by decide +kernel
theorem dX12_inState_11 : decode cX12_inState 11 = .ok (.if_icmp .ge 29, 3) := by decide +kernel
theorem dX12_inState_14 : decode cX12_inState 14 = .ok (.iload_n 2, 1) := by decide +kernel
theorem dX12_inState_15 : decode cX12_inState 15 = .ok (.aload_n 0, 1) := by decide +kernel
theorem dX12_inState_16 : decode cX12_inState 16 = .ok (.iload_n 3, 1) := by decide +kernel
theorem dX12_inState_17 : decode cX12_inState 17 = .ok (.iconst 3, 1) := by decide +kernel
theorem dX12_inState_18 : decode cX12_inState 18 = .ok (.invokevirtual 66, 3) := by decide +kernel
theorem dX12_inState_21 : decode cX12_inState 21 = .ok (.iload_n 1, 1) := by decide +kernel
theorem dX12_inState_22 : decode cX12_inState 22 = .ok (.if_icmp .ne 9, 3) := by decide +kernel
theorem dX12_inState_25 : decode cX12_inState 25 = .ok (.iconst 1, 1) := by decide +kernel
theorem dX12_inState_26 : decode cX12_inState 26 = .ok (.iload_n 3, 1) := by decide +kernel
theorem dX12_inState_27 : decode cX12_inState 27 = .ok (.ishl, 1) := by decide +kernel
theorem dX12_inState_28 : decode cX12_inState 28 = .ok (.goto 4, 3) := by decide +kernel
theorem dX12_inState_31 : decode cX12_inState 31 = .ok (.iconst 0, 1) := by decide +kernel
theorem dX12_inState_32 : decode cX12_inState 32 = .ok (.ior, 1) := by decide +kernel
theorem dX12_inState_33 : decode cX12_inState 33 = .ok (.istore_n 2, 1) := by decide +kernel
theorem dX12_inState_34 : decode cX12_inState 34 = .ok (.iinc 3 1, 3) := by decide +kernel
theorem dX12_inState_37 : decode cX12_inState 37 = .ok (.goto (-33), 3) := by decide +kernel
theorem dX12_inState_40 : decode cX12_inState 40 = .ok (.iload_n 2, 1) := by decide +kernel
theorem dX12_inState_41 : decode cX12_inState 41 = .ok (.ireturn, 1) := by decide +kernel
theorem dX12_feed_0 : decode cX12_feed 0 = .ok (.aload_n 0, 1) := by decide +kernel
theorem dX12_feed_1 : decode cX12_feed 1 = .ok (.iconst 0, 1) := by decide +kernel
theorem dX12_feed_2 : decode cX12_feed 2 = .ok (.putfield 59, 3) := by decide +kernel
theorem dX12_feed_5 : decode cX12_feed 5 = .ok (.aload_n 0, 1) := by decide +kernel
theorem dX12_feed_6 : decode cX12_feed 6 = .ok (.getfield 76, 3) := by decide +kernel
theorem dX12_feed_9 : decode cX12_feed 9 = .ok (.bipush 20, 2) := by decide +kernel
theorem dX12_feed_11 : decode cX12_feed 11 = .ok (.iadd, 1) := by decide +kernel
theorem dX12_feed_12 : decode cX12_feed 12 = .ok (.sipush 400, 3) := by decide +kernel
theorem dX12_feed_15 : decode cX12_feed 15 = .ok (.if_icmp .le 5, 3) := by decide +kernel
theorem dX12_feed_18 : decode cX12_feed 18 = .ok (.iconst (-1), 1) := by decide +kernel
theorem dX12_feed_19 : decode cX12_feed 19 = .ok (.ireturn, 1) := by decide +kernel
theorem dX12_feed_20 : decode cX12_feed 20 = .ok (.iconst 0, 1) := by decide +kernel
theorem dX12_feed_21 : decode cX12_feed 21 = .ok (.istore 6, 2) := by decide +kernel
theorem dX12_feed_23 : decode cX12_feed 23 = .ok (.iload 6, 2) := by decide +kernel
theorem dX12_feed_25 : decode cX12_feed 25 = .ok (.bipush 20, 2) := by decide +kernel
theorem dX12_feed_27 : decode cX12_feed 27 = .ok (.if_icmp .ge 93, 3) := by decide +kernel
theorem dX12_feed_30 : decode cX12_feed 30 = .ok (.iload 6, 2) := by decide +kernel
theorem dX12_feed_32 : decode cX12_feed 32 = .ok (.iconst 4, 1) := by decide +kernel
theorem dX12_feed_33 : decode cX12_feed 33 = .ok (.if_icmp .ge 7, 3) := by decide +kernel
theorem dX12_feed_36 : decode cX12_feed 36 = .ok (.iload_n 1, 1) := by decide +kernel
theorem dX12_feed_37 : decode cX12_feed 37 = .ok (.goto 39, 3) := by decide +kernel
theorem dX12_feed_40 : decode cX12_feed 40 = .ok (.iload 6, 2) := by decide +kernel
theorem dX12_feed_42 : decode cX12_feed 42 = .ok (.bipush 8, 2) := by decide +kernel
theorem dX12_feed_44 : decode cX12_feed 44 = .ok (.if_icmp .ge 7, 3) := by decide +kernel
theorem dX12_feed_47 : decode cX12_feed 47 = .ok (.iload_n 2, 1) := by decide +kernel
theorem dX12_feed_48 : decode cX12_feed 48 = .ok (.goto 28, 3) := by decide +kernel
theorem dX12_feed_51 : decode cX12_feed 51 = .ok (.iload 6, 2) := by decide +kernel
theorem dX12_feed_53 : decode cX12_feed 53 = .ok (.bipush 12, 2) := by decide +kernel
theorem dX12_feed_55 : decode cX12_feed 55 = .ok (.if_icmp .ge 7, 3) := by decide +kernel
theorem dX12_feed_58 : decode cX12_feed 58 = .ok (.iload_n 3, 1) := by decide +kernel
theorem dX12_feed_59 : decode cX12_feed 59 = .ok (.goto 17, 3) := by decide +kernel
theorem dX12_feed_62 : decode cX12_feed 62 = .ok (.iload 6, 2) := by decide +kernel
theorem dX12_feed_64 : decode cX12_feed 64 = .ok (.bipush 16, 2) := by decide +kernel
theorem dX12_feed_66 : decode cX12_feed 66 = .ok (.if_icmp .ge 8, 3) := by decide +kernel
theorem dX12_feed_69 : decode cX12_feed 69 = .ok (.iload 4, 2) := by decide +kernel
theorem dX12_feed_71 : decode cX12_feed 71 = .ok (.goto 5, 3) := by decide +kernel
theorem dX12_feed_74 : decode cX12_feed 74 = .ok (.iload 5, 2) := by decide +kernel
theorem dX12_feed_76 : decode cX12_feed 76 = .ok (.istore 7, 2) := by decide +kernel
theorem dX12_feed_78 : decode cX12_feed 78 = .ok (.aload_n 0, 1) := by decide +kernel
theorem dX12_feed_79 : decode cX12_feed 79 = .ok (.getfield 22, 3) := by decide +kernel
theorem dX12_feed_82 : decode cX12_feed 82 = .ok (.aload_n 0, 1) := by decide +kernel
theorem dX12_feed_83 : decode cX12_feed 83 = .ok (.getfield 76, 3) := by decide +kernel
theorem dX12_feed_86 : decode cX12_feed 86 = .ok (.iload 7, 2) := by decide +kernel
theorem dX12_feed_88 : decode cX12_feed 88 = .ok (.bipush 24, 2) := by decide +kernel
theorem dX12_feed_90 : decode cX12_feed 90 = .ok (.bipush 8, 2) := by decide +kernel
theorem dX12_feed_92 : decode cX12_feed 92 = .ok (.iload 6, 2) := by decide +kernel
theorem dX12_feed_94 : decode cX12_feed 94 = .ok (.iconst 4, 1) := by decide +kernel
theorem dX12_feed_95 : decode cX12_feed 95 = .ok (.irem, 1) := by decide +kernel
theorem dX12_feed_96 : decode cX12_feed 96 = .ok (.imul, 1) := by decide +kernel
theorem dX12_feed_97 : decode cX12_feed 97 = .ok (.isub, 1) := by decide +kernel
theorem dX12_feed_98 : decode cX12_feed 98 = .ok (.iushr, 1) := by decide +kernel
theorem dX12_feed_99 : decode cX12_feed 99 = .ok (.sipush 255, 3) := by decide +kernel
theorem dX12_feed_102 : decode cX12_feed 102 = .ok (.iand, 1) := by decide +kernel
theorem dX12_feed_103 : decode cX12_feed 103 = .ok (.iastore, 1) := by decide +kernel
theorem dX12_feed_104 : decode cX12_feed 104 = .ok (.aload_n 0, 1) := by decide +kernel
theorem dX12_feed_105 : decode cX12_feed 105 = .ok (.dup, 1) := by decide +kernel
theorem dX12_feed_106 : decode cX12_feed 106 = .ok (.getfield 76, 3) := by decide +kernel
theorem dX12_feed_109 : decode cX12_feed 109 = .ok (.iconst 1, 1) := by decide +kernel
theorem dX12_feed_110 : decode cX12_feed 110 = .ok (.iadd, 1) := by decide +kernel
theorem dX12_feed_111 : decode cX12_feed 111 = .ok (.putfield 76, 3) := by decide +kernel
theorem dX12_feed_114 : decode cX12_feed 114 = .ok (.iinc 6 1, 3) := by decide +kernel
theorem dX12_feed_117 : decode cX12_feed 117 = .ok (.goto (-94), 3) := by decide +kernel
theorem dX12_feed_120 : decode cX12_feed 120 = .ok (.aload_n 0, 1) := by decide +kernel
theorem dX12_feed_121 : decode cX12_feed 121 = .ok (.getfield 76, 3) := by decide +kernel
theorem dX12_feed_124 : decode cX12_feed 124 = .ok (.ireturn, 1) := by decide +kernel
theorem dX12_end_0 : decode cX12_end 0 = .ok (.aload_n 0, 1) := by decide +kernel
theorem dX12_end_1 : decode cX12_end 1 = .ok (.iconst 0, 1) := by decide +kernel
theorem dX12_end_2 : decode cX12_end 2 = .ok (.putfield 59, 3) := by decide +kernel
theorem dX12_end_5 : decode cX12_end 5 = .ok (.iload_n 1, 1) := by decide +kernel
theorem dX12_end_6 : decode cX12_end 6 = .ok (.iconst 0, 1) := by decide +kernel
theorem dX12_end_7 : decode cX12_end 7 = .ok (.aload_n 0, 1) := by decide +kernel
theorem dX12_end_8 : decode cX12_end 8 = .ok (.getfield 76, 3) := by decide +kernel
theorem dX12_end_11 : decode cX12_end 11 = .ok (.invokestatic 62, 3) := by decide +kernel
theorem dX12_end_14 : decode cX12_end 14 = .ok (.ifCond .ne 5, 3) := by decide +kernel
theorem dX12_end_17 : decode cX12_end 17 = .ok (.iconst 0, 1) := by decide +kernel
theorem dX12_end_18 : decode cX12_end 18 = .ok (.ireturn, 1) := by decide +kernel
theorem dX12_end_19 : decode cX12_end 19 = .ok (.aload_n 0, 1) := by decide +kernel
theorem dX12_end_20 : decode cX12_end 20 = .ok (.iload_n 1, 1) := by decide +kernel
theorem dX12_end_21 : decode cX12_end 21 = .ok (.putfield 76, 3) := by decide +kernel
theorem dX12_end_24 : decode cX12_end 24 = .ok (.iconst 1, 1) := by decide +kernel
theorem dX12_end_25 : decode cX12_end 25 = .ok (.ireturn, 1) := by decide +kernel
theorem dX12_letter_0 : decode cX12_letter 0 = .ok (.aload_n 0, 1) := by decide +kernel
theorem dX12_letter_1 : decode cX12_letter 1 = .ok (.getfield 79, 3) := by decide +kernel
theorem dX12_letter_4 : decode cX12_letter 4 = .ok (.iconst (-1), 1) := by decide +kernel
theorem dX12_letter_5 : decode cX12_letter 5 = .ok (.if_icmp .ne 12, 3) := by decide +kernel
theorem dX12_letter_8 : decode cX12_letter 8 = .ok (.aload_n 0, 1) := by decide +kernel
theorem dX12_letter_9 : decode cX12_letter 9 = .ok (.getfield 22, 3) := by decide +kernel
theorem dX12_letter_12 : decode cX12_letter 12 = .ok (.iload_n 1, 1) := by decide +kernel
theorem dX12_letter_13 : decode cX12_letter 13 = .ok (.iaload, 1) := by decide +kernel
theorem dX12_letter_14 : decode cX12_letter 14 = .ok (.goto 14, 3) := by decide +kernel
theorem dX12_letter_17 : decode cX12_letter 17 = .ok (.aload_n 0, 1) := by decide +kernel
theorem dX12_letter_18 : decode cX12_letter 18 = .ok (.getfield 7, 3) := by decide +kernel
theorem dX12_letter_21 : decode cX12_letter 21 = .ok (.aload_n 0, 1) := by decide +kernel
theorem dX12_letter_22 : decode cX12_letter 22 = .ok (.getfield 79, 3) := by decide +kernel
theorem dX12_letter_25 : decode cX12_letter 25 = .ok (.iload_n 1, 1) := by decide +kernel
theorem dX12_letter_26 : decode cX12_letter 26 = .ok (.iadd, 1) := by decide +kernel
theorem dX12_letter_27 : decode cX12_letter 27 = .ok (.iaload, 1) := by decide +kernel
theorem dX12_letter_28 : decode cX12_letter 28 = .ok (.ireturn, 1) := by decide +kernel
theorem dX12_skip_0 : decode cX12_skip 0 = .ok (.aload_n 0, 1) := by decide +kernel
theorem dX12_skip_1 : decode cX12_skip 1 = .ok (.getfield 82, 3) := by decide +kernel
theorem dX12_skip_4 : decode cX12_skip 4 = .ok (.aload_n 0, 1) := by decide +kernel
theorem dX12_skip_5 : decode cX12_skip 5 = .ok (.getfield 85, 3) := by decide +kernel
theorem dX12_skip_8 : decode cX12_skip 8 = .ok (.if_icmp .ge 29, 3) := by decide +kernel
theorem dX12_skip_11 : decode cX12_skip 11 = .ok (.aload_n 0, 1) := by decide +kernel
theorem dX12_skip_12 : decode cX12_skip 12 = .ok (.aload_n 0, 1) := by decide +kernel
theorem dX12_skip_13 : decode cX12_skip 13 = .ok (.getfield 82, 3) := by decide +kernel
theorem dX12_skip_16 : decode cX12_skip 16 = .ok (.invokevirtual 88, 3) := by decide +kernel
theorem dX12_skip_19 : decode cX12_skip 19 = .ok (.bipush 32, 2) := by decide +kernel
theorem dX12_skip_21 : decode cX12_skip 21 = .ok (.if_icmp .ne 16, 3) := by decide +kernel
theorem dX12_skip_24 : decode cX12_skip 24 = .ok (.aload_n 0, 1) := by decide +kernel
theorem dX12_skip_25 : decode cX12_skip 25 = .ok (.dup, 1) := by decide +kernel
theorem dX12_skip_26 : decode cX12_skip 26 = .ok (.getfield 82, 3) := by decide +kernel
theorem dX12_skip_29 : decode cX12_skip 29 = .ok (.iconst 1, 1) := by decide +kernel
theorem dX12_skip_30 : decode cX12_skip 30 = .ok (.iadd, 1) := by decide +kernel
theorem dX12_skip_31 : decode cX12_skip 31 = .ok (.putfield 82, 3) := by decide +kernel
theorem dX12_skip_34 : decode cX12_skip 34 = .ok (.goto (-34), 3) := by decide +kernel
theorem dX12_skip_37 : decode cX12_skip 37 = .ok (.return_, 1) := by decide +kernel
theorem dX12_isSign_0 : decode cX12_isSign 0 = .ok (.aload_n 0, 1) := by decide +kernel
theorem dX12_isSign_1 : decode cX12_isSign 1 = .ok (.invokevirtual 92, 3) := by decide +kernel
theorem dX12_isSign_4 : decode cX12_isSign 4 = .ok (.aload_n 0, 1) := by decide +kernel
theorem dX12_isSign_5 : decode cX12_isSign 5 = .ok (.getfield 82, 3) := by decide +kernel
theorem dX12_isSign_8 : decode cX12_isSign 8 = .ok (.aload_n 0, 1) := by decide +kernel
theorem dX12_isSign_9 : decode cX12_isSign 9 = .ok (.getfield 85, 3) := by decide +kernel
theorem dX12_isSign_12 : decode cX12_isSign 12 = .ok (.if_icmp .ge 19, 3) := by decide +kernel
theorem dX12_isSign_15 : decode cX12_isSign 15 = .ok (.aload_n 0, 1) := by decide +kernel
theorem dX12_isSign_16 : decode cX12_isSign 16 = .ok (.aload_n 0, 1) := by decide +kernel
theorem dX12_isSign_17 : decode cX12_isSign 17 = .ok (.getfield 82, 3) := by decide +kernel
theorem dX12_isSign_20 : decode cX12_isSign 20 = .ok (.invokevirtual 88, 3) := by decide +kernel
theorem dX12_isSign_23 : decode cX12_isSign 23 = .ok (.iload_n 1, 1) := by decide +kernel
theorem dX12_isSign_24 : decode cX12_isSign 24 = .ok (.if_icmp .ne 7, 3) := by decide +kernel
theorem dX12_isSign_27 : decode cX12_isSign 27 = .ok (.iconst 1, 1) := by decide +kernel
theorem dX12_isSign_28 : decode cX12_isSign 28 = .ok (.goto 4, 3) := by decide +kernel
theorem dX12_isSign_31 : decode cX12_isSign 31 = .ok (.iconst 0, 1) := by decide +kernel
theorem dX12_isSign_32 : decode cX12_isSign 32 = .ok (.ireturn, 1) := by decide +kernel
theorem dX12_has_0 : decode cX12_has 0 = .ok (.aload_n 0, 1) := by decide +kernel
theorem dX12_has_1 : decode cX12_has 1 = .ok (.invokevirtual 92, 3) := by decide +kernel
theorem dX12_has_4 : decode cX12_has 4 = .ok (.aload_n 0, 1) := by decide +kernel
theorem dX12_has_5 : decode cX12_has 5 = .ok (.getfield 82, 3) := by decide +kernel
theorem dX12_has_8 : decode cX12_has 8 = .ok (.istore_n 2, 1) := by decide +kernel
theorem dX12_has_9 : decode cX12_has 9 = .ok (.iload_n 2, 1) := by decide +kernel
theorem dX12_has_10 : decode cX12_has 10 = .ok (.aload_n 0, 1) := by decide +kernel
theorem dX12_has_11 : decode cX12_has 11 = .ok (.getfield 85, 3) := by decide +kernel
theorem dX12_has_14 : decode cX12_has 14 = .ok (.if_icmp .ge 24, 3) := by decide +kernel
theorem dX12_has_17 : decode cX12_has 17 = .ok (.aload_n 0, 1) := by decide +kernel
theorem dX12_has_18 : decode cX12_has 18 = .ok (.iload_n 2, 1) := by decide +kernel
theorem dX12_has_19 : decode cX12_has 19 = .ok (.invokevirtual 88, 3) := by decide +kernel
theorem dX12_has_22 : decode cX12_has 22 = .ok (.bipush 97, 2) := by decide +kernel
theorem dX12_has_24 : decode cX12_has 24 = .ok (.bipush 122, 2) := by decide +kernel
theorem dX12_has_26 : decode cX12_has 26 = .ok (.invokestatic 62, 3) := by decide +kernel
theorem dX12_has_29 : decode cX12_has 29 = .ok (.ifCond .eq 9, 3) := by decide +kernel
theorem dX12_has_32 : decode cX12_has 32 = .ok (.iinc 2 1, 3) := by decide +kernel
theorem dX12_has_35 : decode cX12_has 35 = .ok (.goto (-26), 3) := by decide +kernel
theorem dX12_has_38 : decode cX12_has 38 = .ok (.iload_n 2, 1) := by decide +kernel
theorem dX12_has_39 : decode cX12_has 39 = .ok (.aload_n 0, 1) := by decide +kernel
theorem dX12_has_40 : decode cX12_has 40 = .ok (.getfield 82, 3) := by decide +kernel
theorem dX12_has_43 : decode cX12_has 43 = .ok (.isub, 1) := by decide +kernel
theorem dX12_has_44 : decode cX12_has 44 = .ok (.aload_n 1, 1) := by decide +kernel
theorem dX12_has_45 : decode cX12_has 45 = .ok (.invokevirtual 95, 3) := by decide +kernel
theorem dX12_has_48 : decode cX12_has 48 = .ok (.if_icmp .eq 5, 3) := by decide +kernel
theorem dX12_has_51 : decode cX12_has 51 = .ok (.iconst 0, 1) := by decide +kernel
theorem dX12_has_52 : decode cX12_has 52 = .ok (.ireturn, 1) := by decide +kernel
theorem dX12_has_53 : decode cX12_has 53 = .ok (.iconst 0, 1) := by decide +kernel
theorem dX12_has_54 : decode cX12_has 54 = .ok (.istore_n 3, 1) := by decide +kernel
theorem dX12_has_55 : decode cX12_has 55 = .ok (.iload_n 3, 1) := by decide +kernel
theorem dX12_has_56 : decode cX12_has 56 = .ok (.aload_n 1, 1) := by decide +kernel
theorem dX12_has_57 : decode cX12_has 57 = .ok (.invokevirtual 95, 3) := by decide +kernel
theorem dX12_has_60 : decode cX12_has 60 = .ok (.if_icmp .ge 29, 3) := by decide +kernel
theorem dX12_has_63 : decode cX12_has 63 = .ok (.aload_n 0, 1) := by decide +kernel
theorem dX12_has_64 : decode cX12_has 64 = .ok (.aload_n 0, 1) := by decide +kernel
theorem dX12_has_65 : decode cX12_has 65 = .ok (.getfield 82, 3) := by decide +kernel
theorem dX12_has_68 : decode cX12_has 68 = .ok (.iload_n 3, 1) := by decide +kernel
theorem dX12_has_69 : decode cX12_has 69 = .ok (.iadd, 1) := by decide +kernel
theorem dX12_has_70 : decode cX12_has 70 = .ok (.invokevirtual 88, 3) := by decide +kernel
theorem dX12_has_73 : decode cX12_has 73 = .ok (.aload_n 1, 1) := by decide +kernel
theorem dX12_has_74 : decode cX12_has 74 = .ok (.iload_n 3, 1) := by decide +kernel
theorem dX12_has_75 : decode cX12_has 75 = .ok (.invokevirtual 101, 3) := by decide +kernel
theorem dX12_has_78 : decode cX12_has 78 = .ok (.if_icmp .eq 5, 3) := by decide +kernel
theorem dX12_has_81 : decode cX12_has 81 = .ok (.iconst 0, 1) := by decide +kernel
theorem dX12_has_82 : decode cX12_has 82 = .ok (.ireturn, 1) := by decide +kernel
theorem dX12_has_83 : decode cX12_has 83 = .ok (.iinc 3 1, 3) := by decide +kernel
theorem dX12_has_86 : decode cX12_has 86 = .ok (.goto (-31), 3) := by decide +kernel
theorem dX12_has_89 : decode cX12_has 89 = .ok (.aload_n 0, 1) := by decide +kernel
theorem dX12_has_90 : decode cX12_has 90 = .ok (.iload_n 2, 1) := by decide +kernel
theorem dX12_has_91 : decode cX12_has 91 = .ok (.putfield 82, 3) := by decide +kernel
theorem dX12_has_94 : decode cX12_has 94 = .ok (.iconst 1, 1) := by decide +kernel
theorem dX12_has_95 : decode cX12_has 95 = .ok (.ireturn, 1) := by decide +kernel
theorem dX12_wrong_0 : decode cX12_wrong 0 = .ok (.aload_n 0, 1) := by decide +kernel
theorem dX12_wrong_1 : decode cX12_wrong 1 = .ok (.getfield 25, 3) := by decide +kernel
theorem dX12_wrong_4 : decode cX12_wrong 4 = .ok (.iconst (-1), 1) := by decide +kernel
theorem dX12_wrong_5 : decode cX12_wrong 5 = .ok (.if_icmp .ne 8, 3) := by decide +kernel
theorem dX12_wrong_8 : decode cX12_wrong 8 = .ok (.aload_n 0, 1) := by decide +kernel
theorem dX12_wrong_9 : decode cX12_wrong 9 = .ok (.iload_n 1, 1) := by decide +kernel
theorem dX12_wrong_10 : decode cX12_wrong 10 = .ok (.putfield 25, 3) := by decide +kernel
theorem dX12_wrong_13 : decode cX12_wrong 13 = .ok (.return_, 1) := by decide +kernel
theorem dX12_here_0 : decode cX12_here 0 = .ok (.aload_n 0, 1) := by decide +kernel
theorem dX12_here_1 : decode cX12_here 1 = .ok (.invokevirtual 92, 3) := by decide +kernel
theorem dX12_here_4 : decode cX12_here 4 = .ok (.aload_n 0, 1) := by decide +kernel
theorem dX12_here_5 : decode cX12_here 5 = .ok (.getfield 82, 3) := by decide +kernel
theorem dX12_here_8 : decode cX12_here 8 = .ok (.ireturn, 1) := by decide +kernel
theorem dX12_figures_0 : decode cX12_figures 0 = .ok (.aload_n 0, 1) := by decide +kernel
theorem dX12_figures_1 : decode cX12_figures 1 = .ok (.getfield 25, 3) := by decide +kernel
theorem dX12_figures_4 : decode cX12_figures 4 = .ok (.iconst (-1), 1) := by decide +kernel
theorem dX12_figures_5 : decode cX12_figures 5 = .ok (.if_icmp .eq 5, 3) := by decide +kernel
theorem dX12_figures_8 : decode cX12_figures 8 = .ok (.iconst 0, 1) := by decide +kernel
theorem dX12_figures_9 : decode cX12_figures 9 = .ok (.ireturn, 1) := by decide +kernel
theorem dX12_figures_10 : decode cX12_figures 10 = .ok (.aload_n 0, 1) := by decide +kernel
theorem dX12_figures_11 : decode cX12_figures 11 = .ok (.invokevirtual 105, 3) := by decide +kernel
theorem dX12_figures_14 : decode cX12_figures 14 = .ok (.istore_n 3, 1) := by decide +kernel
theorem dX12_figures_15 : decode cX12_figures 15 = .ok (.iconst 0, 1) := by decide +kernel
theorem dX12_figures_16 : decode cX12_figures 16 = .ok (.istore 4, 2) := by decide +kernel
theorem dX12_figures_18 : decode cX12_figures 18 = .ok (.aload_n 0, 1) := by decide +kernel
theorem dX12_figures_19 : decode cX12_figures 19 = .ok (.getfield 82, 3) := by decide +kernel
theorem dX12_figures_22 : decode cX12_figures 22 = .ok (.aload_n 0, 1) := by decide +kernel
theorem dX12_figures_23 : decode cX12_figures 23 = .ok (.getfield 85, 3) := by decide +kernel
theorem dX12_figures_26 : decode cX12_figures 26 = .ok (.if_icmp .ge 63, 3) := by decide +kernel
theorem dX12_figures_29 : decode cX12_figures 29 = .ok (.aload_n 0, 1) := by decide +kernel
theorem dX12_figures_30 : decode cX12_figures 30 = .ok (.aload_n 0, 1) := by decide +kernel
theorem dX12_figures_31 : decode cX12_figures 31 = .ok (.getfield 82, 3) := by decide +kernel
theorem dX12_figures_34 : decode cX12_figures 34 = .ok (.invokevirtual 88, 3) := by decide +kernel
theorem dX12_figures_37 : decode cX12_figures 37 = .ok (.bipush 48, 2) := by decide +kernel
theorem dX12_figures_39 : decode cX12_figures 39 = .ok (.bipush 57, 2) := by decide +kernel
theorem dX12_figures_41 : decode cX12_figures 41 = .ok (.invokestatic 62, 3) := by decide +kernel
theorem dX12_figures_44 : decode cX12_figures 44 = .ok (.ifCond .eq 45, 3) := by decide +kernel
theorem dX12_figures_47 : decode cX12_figures 47 = .ok (.aload_n 0, 1) := by decide +kernel
theorem dX12_figures_48 : decode cX12_figures 48 = .ok (.getfield 82, 3) := by decide +kernel
theorem dX12_figures_51 : decode cX12_figures 51 = .ok (.iload_n 3, 1) := by decide +kernel
theorem dX12_figures_52 : decode cX12_figures 52 = .ok (.isub, 1) := by decide +kernel
theorem dX12_figures_53 : decode cX12_figures 53 = .ok (.iconst 3, 1) := by decide +kernel
theorem dX12_figures_54 : decode cX12_figures 54 = .ok (.if_icmp .gt 35, 3) := by decide +kernel
theorem dX12_figures_57 : decode cX12_figures 57 = .ok (.bipush 10, 2) := by decide +kernel
theorem dX12_figures_59 : decode cX12_figures 59 = .ok (.iload 4, 2) := by decide +kernel
theorem dX12_figures_61 : decode cX12_figures 61 = .ok (.imul, 1) := by decide +kernel
theorem dX12_figures_62 : decode cX12_figures 62 = .ok (.aload_n 0, 1) := by decide +kernel
theorem dX12_figures_63 : decode cX12_figures 63 = .ok (.aload_n 0, 1) := by decide +kernel
theorem dX12_figures_64 : decode cX12_figures 64 = .ok (.getfield 82, 3) := by decide +kernel
theorem dX12_figures_67 : decode cX12_figures 67 = .ok (.invokevirtual 88, 3) := by decide +kernel
theorem dX12_figures_70 : decode cX12_figures 70 = .ok (.iadd, 1) := by decide +kernel
theorem dX12_figures_71 : decode cX12_figures 71 = .ok (.bipush 48, 2) := by decide +kernel
theorem dX12_figures_73 : decode cX12_figures 73 = .ok (.isub, 1) := by decide +kernel
theorem dX12_figures_74 : decode cX12_figures 74 = .ok (.istore 4, 2) := by decide +kernel
theorem dX12_figures_76 : decode cX12_figures 76 = .ok (.aload_n 0, 1) := by decide +kernel
theorem dX12_figures_77 : decode cX12_figures 77 = .ok (.dup, 1) := by decide +kernel
theorem dX12_figures_78 : decode cX12_figures 78 = .ok (.getfield 82, 3) := by decide +kernel
theorem dX12_figures_81 : decode cX12_figures 81 = .ok (.iconst 1, 1) := by decide +kernel
theorem dX12_figures_82 : decode cX12_figures 82 = .ok (.iadd, 1) := by decide +kernel
theorem dX12_figures_83 : decode cX12_figures 83 = .ok (.putfield 82, 3) := by decide +kernel
theorem dX12_figures_86 : decode cX12_figures 86 = .ok (.goto (-68), 3) := by decide +kernel
theorem dX12_figures_89 : decode cX12_figures 89 = .ok (.aload_n 0, 1) := by decide +kernel
theorem dX12_figures_90 : decode cX12_figures 90 = .ok (.getfield 82, 3) := by decide +kernel
theorem dX12_figures_93 : decode cX12_figures 93 = .ok (.iload_n 3, 1) := by decide +kernel
theorem dX12_figures_94 : decode cX12_figures 94 = .ok (.if_icmp .eq 25, 3) := by decide +kernel
theorem dX12_figures_97 : decode cX12_figures 97 = .ok (.aload_n 0, 1) := by decide +kernel
theorem dX12_figures_98 : decode cX12_figures 98 = .ok (.getfield 82, 3) := by decide +kernel
theorem dX12_figures_101 : decode cX12_figures 101 = .ok (.iload_n 3, 1) := by decide +kernel
theorem dX12_figures_102 : decode cX12_figures 102 = .ok (.isub, 1) := by decide +kernel
theorem dX12_figures_103 : decode cX12_figures 103 = .ok (.iconst 3, 1) := by decide +kernel
theorem dX12_figures_104 : decode cX12_figures 104 = .ok (.if_icmp .gt 15, 3) := by decide +kernel
theorem dX12_figures_107 : decode cX12_figures 107 = .ok (.iload 4, 2) := by decide +kernel
theorem dX12_figures_109 : decode cX12_figures 109 = .ok (.iload_n 1, 1) := by decide +kernel
theorem dX12_figures_110 : decode cX12_figures 110 = .ok (.if_icmp .lt 9, 3) := by decide +kernel
theorem dX12_figures_113 : decode cX12_figures 113 = .ok (.iload 4, 2) := by decide +kernel
theorem dX12_figures_115 : decode cX12_figures 115 = .ok (.iload_n 2, 1) := by decide +kernel
theorem dX12_figures_116 : decode cX12_figures 116 = .ok (.if_icmp .le 8, 3) := by decide +kernel
theorem dX12_figures_119 : decode cX12_figures 119 = .ok (.aload_n 0, 1) := by decide +kernel
theorem dX12_figures_120 : decode cX12_figures 120 = .ok (.iload_n 3, 1) := by decide +kernel
theorem dX12_figures_121 : decode cX12_figures 121 = .ok (.invokevirtual 108, 3) := by decide +kernel
theorem dX12_figures_124 : decode cX12_figures 124 = .ok (.iload 4, 2) := by decide +kernel
theorem dX12_figures_126 : decode cX12_figures 126 = .ok (.ireturn, 1) := by decide +kernel
theorem dX12_signed_0 : decode cX12_signed 0 = .ok (.aload_n 0, 1) := by decide +kernel
theorem dX12_signed_1 : decode cX12_signed 1 = .ok (.getfield 25, 3) := by decide +kernel
theorem dX12_signed_4 : decode cX12_signed 4 = .ok (.iconst (-1), 1) := by decide +kernel
theorem dX12_signed_5 : decode cX12_signed 5 = .ok (.if_icmp .eq 5, 3) := by decide +kernel
theorem dX12_signed_8 : decode cX12_signed 8 = .ok (.iconst 0, 1) := by decide +kernel
theorem dX12_signed_9 : decode cX12_signed 9 = .ok (.ireturn, 1) := by decide +kernel
theorem dX12_signed_10 : decode cX12_signed 10 = .ok (.aload_n 0, 1) := by decide +kernel
theorem dX12_signed_11 : decode cX12_signed 11 = .ok (.aload_n 1, 1) := by decide +kernel
theorem dX12_signed_12 : decode cX12_signed 12 = .ok (.invokevirtual 112, 3) := by decide +kernel
theorem dX12_signed_15 : decode cX12_signed 15 = .ok (.ifCond .eq 10, 3) := by decide +kernel
theorem dX12_signed_18 : decode cX12_signed 18 = .ok (.aload_n 0, 1) := by decide +kernel
theorem dX12_signed_19 : decode cX12_signed 19 = .ok (.iconst 0, 1) := by decide +kernel
theorem dX12_signed_20 : decode cX12_signed 20 = .ok (.iload_n 3, 1) := by decide +kernel
theorem dX12_signed_21 : decode cX12_signed 21 = .ok (.invokevirtual 116, 3) := by decide +kernel
theorem dX12_signed_24 : decode cX12_signed 24 = .ok (.ireturn, 1) := by decide +kernel
theorem dX12_signed_25 : decode cX12_signed 25 = .ok (.aload_n 0, 1) := by decide +kernel
theorem dX12_signed_26 : decode cX12_signed 26 = .ok (.aload_n 2, 1) := by decide +kernel
theorem dX12_signed_27 : decode cX12_signed 27 = .ok (.invokevirtual 112, 3) := by decide +kernel
theorem dX12_signed_30 : decode cX12_signed 30 = .ok (.ifCond .eq 13, 3) := by decide +kernel
theorem dX12_signed_33 : decode cX12_signed 33 = .ok (.aload_n 0, 1) := by decide +kernel
theorem dX12_signed_34 : decode cX12_signed 34 = .ok (.iconst 0, 1) := by decide +kernel
theorem dX12_signed_35 : decode cX12_signed 35 = .ok (.iload_n 3, 1) := by decide +kernel
theorem dX12_signed_36 : decode cX12_signed 36 = .ok (.invokevirtual 116, 3) := by decide +kernel
theorem dX12_signed_39 : decode cX12_signed 39 = .ok (.ineg, 1) := by decide +kernel
theorem dX12_signed_40 : decode cX12_signed 40 = .ok (.goto 4, 3) := by decide +kernel
theorem dX12_signed_43 : decode cX12_signed 43 = .ok (.iconst 0, 1) := by decide +kernel
theorem dX12_signed_44 : decode cX12_signed 44 = .ok (.ireturn, 1) := by decide +kernel
theorem dX12_nodeLine_0 : decode cX12_nodeLine 0 = .ok (.aload_n 0, 1) := by decide +kernel
theorem dX12_nodeLine_1 : decode cX12_nodeLine 1 = .ok (.getfield 7, 3) := by decide +kernel
theorem dX12_nodeLine_4 : decode cX12_nodeLine 4 = .ok (.iconst 3, 1) := by decide +kernel
theorem dX12_nodeLine_5 : decode cX12_nodeLine 5 = .ok (.iaload, 1) := by decide +kernel
theorem dX12_nodeLine_6 : decode cX12_nodeLine 6 = .ok (.bipush 8, 2) := by decide +kernel
theorem dX12_nodeLine_8 : decode cX12_nodeLine 8 = .ok (.if_icmp .ne 8, 3) := by decide +kernel
theorem dX12_nodeLine_11 : decode cX12_nodeLine 11 = .ok (.aload_n 0, 1) := by decide +kernel
theorem dX12_nodeLine_12 : decode cX12_nodeLine 12 = .ok (.iload_n 1, 1) := by decide +kernel
theorem dX12_nodeLine_13 : decode cX12_nodeLine 13 = .ok (.invokevirtual 108, 3) := by decide +kernel
theorem dX12_nodeLine_16 : decode cX12_nodeLine 16 = .ok (.aload_n 0, 1) := by decide +kernel
theorem dX12_nodeLine_17 : decode cX12_nodeLine 17 = .ok (.getfield 25, 3) := by decide +kernel
theorem dX12_nodeLine_20 : decode cX12_nodeLine 20 = .ok (.iconst (-1), 1) := by decide +kernel
theorem dX12_nodeLine_21 : decode cX12_nodeLine 21 = .ok (.if_icmp .eq 4, 3) := by decide +kernel
theorem dX12_nodeLine_24 : decode cX12_nodeLine 24 = .ok (.return_, 1) := by decide +kernel
theorem dX12_nodeLine_25 : decode cX12_nodeLine 25 = .ok (.aload_n 0, 1) := by decide +kernel
theorem dX12_nodeLine_26 : decode cX12_nodeLine 26 = .ok (.ldc 119, 2) := by decide +kernel
theorem dX12_nodeLine_28 : decode cX12_nodeLine 28 = .ok (.ldc 121, 2) := by decide +kernel
theorem dX12_nodeLine_30 : decode cX12_nodeLine 30 = .ok (.sipush 999, 3) := by decide +kernel
theorem dX12_nodeLine_33 : decode cX12_nodeLine 33 = .ok (.invokevirtual 123, 3) := by decide +kernel
theorem dX12_nodeLine_36 : decode cX12_nodeLine 36 = .ok (.istore_n 2, 1) := by decide +kernel
theorem dX12_nodeLine_37 : decode cX12_nodeLine 37 = .ok (.aload_n 0, 1) := by decide +kernel
theorem dX12_nodeLine_38 : decode cX12_nodeLine 38 = .ok (.ldc 127, 2) := by decide +kernel
theorem dX12_nodeLine_40 : decode cX12_nodeLine 40 = .ok (.ldc 129, 2) := by decide +kernel
theorem dX12_nodeLine_42 : decode cX12_nodeLine 42 = .ok (.bipush 9, 2) := by decide +kernel
theorem dX12_nodeLine_44 : decode cX12_nodeLine 44 = .ok (.invokevirtual 123, 3) := by decide +kernel
theorem dX12_nodeLine_47 : decode cX12_nodeLine 47 = .ok (.istore_n 3, 1) := by decide +kernel
theorem dX12_nodeLine_48 : decode cX12_nodeLine 48 = .ok (.aload_n 0, 1) := by decide +kernel
theorem dX12_nodeLine_49 : decode cX12_nodeLine 49 = .ok (.getfield 25, 3) := by decide +kernel
theorem dX12_nodeLine_52 : decode cX12_nodeLine 52 = .ok (.iconst (-1), 1) := by decide +kernel
theorem dX12_nodeLine_53 : decode cX12_nodeLine 53 = .ok (.if_icmp .ne 22, 3) := by decide +kernel
theorem dX12_nodeLine_56 : decode cX12_nodeLine 56 = .ok (.aload_n 0, 1) := by decide +kernel
theorem dX12_nodeLine_57 : decode cX12_nodeLine 57 = .ok (.ldc 131, 2) := by decide +kernel
theorem dX12_nodeLine_59 : decode cX12_nodeLine 59 = .ok (.invokevirtual 112, 3) := by decide +kernel
theorem dX12_nodeLine_62 : decode cX12_nodeLine 62 = .ok (.ifCond .eq 13, 3) := by decide +kernel
theorem dX12_nodeLine_65 : decode cX12_nodeLine 65 = .ok (.aload_n 0, 1) := by decide +kernel
theorem dX12_nodeLine_66 : decode cX12_nodeLine 66 = .ok (.iconst 0, 1) := by decide +kernel
theorem dX12_nodeLine_67 : decode cX12_nodeLine 67 = .ok (.bipush 100, 2) := by decide +kernel
theorem dX12_nodeLine_69 : decode cX12_nodeLine 69 = .ok (.invokevirtual 116, 3) := by decide +kernel
theorem dX12_nodeLine_72 : decode cX12_nodeLine 72 = .ok (.goto 4, 3) := by decide +kernel
theorem dX12_nodeLine_75 : decode cX12_nodeLine 75 = .ok (.iconst 0, 1) := by decide +kernel
theorem dX12_nodeLine_76 : decode cX12_nodeLine 76 = .ok (.istore 4, 2) := by decide +kernel
theorem dX12_nodeLine_78 : decode cX12_nodeLine 78 = .ok (.iconst 0, 1) := by decide +kernel
theorem dX12_nodeLine_79 : decode cX12_nodeLine 79 = .ok (.istore 5, 2) := by decide +kernel
theorem dX12_nodeLine_81 : decode cX12_nodeLine 81 = .ok (.aload_n 0, 1) := by decide +kernel
theorem dX12_nodeLine_82 : decode cX12_nodeLine 82 = .ok (.getfield 25, 3) := by decide +kernel
theorem dX12_nodeLine_85 : decode cX12_nodeLine 85 = .ok (.iconst (-1), 1) := by decide +kernel
theorem dX12_nodeLine_86 : decode cX12_nodeLine 86 = .ok (.if_icmp .ne 45, 3) := by decide +kernel
theorem dX12_nodeLine_89 : decode cX12_nodeLine 89 = .ok (.aload_n 0, 1) := by decide +kernel
theorem dX12_nodeLine_90 : decode cX12_nodeLine 90 = .ok (.ldc 133, 2) := by decide +kernel
theorem dX12_nodeLine_92 : decode cX12_nodeLine 92 = .ok (.invokevirtual 112, 3) := by decide +kernel
theorem dX12_nodeLine_95 : decode cX12_nodeLine 95 = .ok (.ifCond .eq 7, 3) := by decide +kernel
theorem dX12_nodeLine_98 : decode cX12_nodeLine 98 = .ok (.iconst 1, 1) := by decide +kernel
theorem dX12_nodeLine_99 : decode cX12_nodeLine 99 = .ok (.goto 30, 3) := by decide +kernel
theorem dX12_nodeLine_102 : decode cX12_nodeLine 102 = .ok (.aload_n 0, 1) := by decide +kernel
theorem dX12_nodeLine_103 : decode cX12_nodeLine 103 = .ok (.ldc 135, 2) := by decide +kernel
theorem dX12_nodeLine_105 : decode cX12_nodeLine 105 = .ok (.invokevirtual 112, 3) := by decide +kernel
theorem dX12_nodeLine_108 : decode cX12_nodeLine 108 = .ok (.ifCond .eq 7, 3) := by decide +kernel
theorem dX12_nodeLine_111 : decode cX12_nodeLine 111 = .ok (.iconst 2, 1) := by decide +kernel
theorem dX12_nodeLine_112 : decode cX12_nodeLine 112 = .ok (.goto 17, 3) := by decide +kernel
theorem dX12_nodeLine_115 : decode cX12_nodeLine 115 = .ok (.aload_n 0, 1) := by decide +kernel
theorem dX12_nodeLine_116 : decode cX12_nodeLine 116 = .ok (.ldc 137, 2) := by decide +kernel
theorem dX12_nodeLine_118 : decode cX12_nodeLine 118 = .ok (.invokevirtual 112, 3) := by decide +kernel
theorem dX12_nodeLine_121 : decode cX12_nodeLine 121 = .ok (.ifCond .eq 7, 3) := by decide +kernel
theorem dX12_nodeLine_124 : decode cX12_nodeLine 124 = .ok (.iconst 3, 1) := by decide +kernel
theorem dX12_nodeLine_125 : decode cX12_nodeLine 125 = .ok (.goto 4, 3) := by decide +kernel
theorem dX12_nodeLine_128 : decode cX12_nodeLine 128 = .ok (.iconst 0, 1) := by decide +kernel
theorem dX12_nodeLine_129 : decode cX12_nodeLine 129 = .ok (.istore 5, 2) := by decide +kernel
theorem dX12_nodeLine_131 : decode cX12_nodeLine 131 = .ok (.iload 5, 2) := by decide +kernel
theorem dX12_nodeLine_133 : decode cX12_nodeLine 133 = .ok (.iconst 1, 1) := by decide +kernel
theorem dX12_nodeLine_134 : decode cX12_nodeLine 134 = .ok (.if_icmp .eq 9, 3) := by decide +kernel
theorem dX12_nodeLine_137 : decode cX12_nodeLine 137 = .ok (.iload 5, 2) := by decide +kernel
theorem dX12_nodeLine_139 : decode cX12_nodeLine 139 = .ok (.iconst 3, 1) := by decide +kernel
theorem dX12_nodeLine_140 : decode cX12_nodeLine 140 = .ok (.if_icmp .ne 13, 3) := by decide +kernel
theorem dX12_nodeLine_143 : decode cX12_nodeLine 143 = .ok (.aload_n 0, 1) := by decide +kernel
theorem dX12_nodeLine_144 : decode cX12_nodeLine 144 = .ok (.iconst 0, 1) := by decide +kernel
theorem dX12_nodeLine_145 : decode cX12_nodeLine 145 = .ok (.bipush 99, 2) := by decide +kernel
theorem dX12_nodeLine_147 : decode cX12_nodeLine 147 = .ok (.invokevirtual 116, 3) := by decide +kernel
theorem dX12_nodeLine_150 : decode cX12_nodeLine 150 = .ok (.goto 4, 3) := by decide +kernel
theorem dX12_nodeLine_153 : decode cX12_nodeLine 153 = .ok (.iconst 0, 1) := by decide +kernel
theorem dX12_nodeLine_154 : decode cX12_nodeLine 154 = .ok (.istore 6, 2) := by decide +kernel
theorem dX12_nodeLine_156 : decode cX12_nodeLine 156 = .ok (.iconst 1, 1) := by decide +kernel
theorem dX12_nodeLine_157 : decode cX12_nodeLine 157 = .ok (.istore 7, 2) := by decide +kernel
theorem dX12_nodeLine_159 : decode cX12_nodeLine 159 = .ok (.aload_n 0, 1) := by decide +kernel
theorem dX12_nodeLine_160 : decode cX12_nodeLine 160 = .ok (.getfield 25, 3) := by decide +kernel
theorem dX12_nodeLine_163 : decode cX12_nodeLine 163 = .ok (.iconst (-1), 1) := by decide +kernel
theorem dX12_nodeLine_164 : decode cX12_nodeLine 164 = .ok (.if_icmp .ne 32, 3) := by decide +kernel
theorem dX12_nodeLine_167 : decode cX12_nodeLine 167 = .ok (.aload_n 0, 1) := by decide +kernel
theorem dX12_nodeLine_168 : decode cX12_nodeLine 168 = .ok (.ldc 139, 2) := by decide +kernel
theorem dX12_nodeLine_170 : decode cX12_nodeLine 170 = .ok (.invokevirtual 112, 3) := by decide +kernel
theorem dX12_nodeLine_173 : decode cX12_nodeLine 173 = .ok (.ifCond .eq 7, 3) := by decide +kernel
theorem dX12_nodeLine_176 : decode cX12_nodeLine 176 = .ok (.iconst 0, 1) := by decide +kernel
theorem dX12_nodeLine_177 : decode cX12_nodeLine 177 = .ok (.goto 17, 3) := by decide +kernel
theorem dX12_nodeLine_180 : decode cX12_nodeLine 180 = .ok (.aload_n 0, 1) := by decide +kernel
theorem dX12_nodeLine_181 : decode cX12_nodeLine 181 = .ok (.ldc 141, 2) := by decide +kernel
theorem dX12_nodeLine_183 : decode cX12_nodeLine 183 = .ok (.invokevirtual 112, 3) := by decide +kernel
theorem dX12_nodeLine_186 : decode cX12_nodeLine 186 = .ok (.ifCond .eq 7, 3) := by decide +kernel
theorem dX12_nodeLine_189 : decode cX12_nodeLine 189 = .ok (.iconst 2, 1) := by decide +kernel
theorem dX12_nodeLine_190 : decode cX12_nodeLine 190 = .ok (.goto 4, 3) := by decide +kernel
theorem dX12_nodeLine_193 : decode cX12_nodeLine 193 = .ok (.iconst 1, 1) := by decide +kernel
theorem dX12_nodeLine_194 : decode cX12_nodeLine 194 = .ok (.istore 7, 2) := by decide +kernel
theorem dX12_nodeLine_196 : decode cX12_nodeLine 196 = .ok (.aload_n 0, 1) := by decide +kernel
theorem dX12_nodeLine_197 : decode cX12_nodeLine 197 = .ok (.getfield 25, 3) := by decide +kernel
theorem dX12_nodeLine_200 : decode cX12_nodeLine 200 = .ok (.iconst (-1), 1) := by decide +kernel
theorem dX12_nodeLine_201 : decode cX12_nodeLine 201 = .ok (.if_icmp .eq 4, 3) := by decide +kernel
theorem dX12_nodeLine_204 : decode cX12_nodeLine 204 = .ok (.return_, 1) := by decide +kernel
theorem dX12_nodeLine_205 : decode cX12_nodeLine 205 = .ok (.aload_n 0, 1) := by decide +kernel
theorem dX12_nodeLine_206 : decode cX12_nodeLine 206 = .ok (.getfield 7, 3) := by decide +kernel
theorem dX12_nodeLine_209 : decode cX12_nodeLine 209 = .ok (.iconst 3, 1) := by decide +kernel
theorem dX12_nodeLine_210 : decode cX12_nodeLine 210 = .ok (.iaload, 1) := by decide +kernel
theorem dX12_nodeLine_211 : decode cX12_nodeLine 211 = .ok (.istore 8, 2) := by decide +kernel
theorem dX12_nodeLine_213 : decode cX12_nodeLine 213 = .ok (.aload_n 0, 1) := by decide +kernel
theorem dX12_nodeLine_214 : decode cX12_nodeLine 214 = .ok (.iload_n 3, 1) := by decide +kernel
theorem dX12_nodeLine_215 : decode cX12_nodeLine 215 = .ok (.invokevirtual 143, 3) := by decide +kernel
theorem dX12_nodeLine_218 : decode cX12_nodeLine 218 = .ok (.aload_n 0, 1) := by decide +kernel
theorem dX12_nodeLine_219 : decode cX12_nodeLine 219 = .ok (.iload 8, 2) := by decide +kernel
theorem dX12_nodeLine_221 : decode cX12_nodeLine 221 = .ok (.iconst 0, 1) := by decide +kernel
theorem dX12_nodeLine_222 : decode cX12_nodeLine 222 = .ok (.iload_n 2, 1) := by decide +kernel
theorem dX12_nodeLine_223 : decode cX12_nodeLine 223 = .ok (.invokevirtual 146, 3) := by decide +kernel
theorem dX12_nodeLine_226 : decode cX12_nodeLine 226 = .ok (.aload_n 0, 1) := by decide +kernel
theorem dX12_nodeLine_227 : decode cX12_nodeLine 227 = .ok (.iload 8, 2) := by decide +kernel
theorem dX12_nodeLine_229 : decode cX12_nodeLine 229 = .ok (.bipush 8, 2) := by decide +kernel
theorem dX12_nodeLine_231 : decode cX12_nodeLine 231 = .ok (.iload 4, 2) := by decide +kernel
theorem dX12_nodeLine_233 : decode cX12_nodeLine 233 = .ok (.invokevirtual 146, 3) := by decide +kernel
theorem dX12_nodeLine_236 : decode cX12_nodeLine 236 = .ok (.aload_n 0, 1) := by decide +kernel
theorem dX12_nodeLine_237 : decode cX12_nodeLine 237 = .ok (.iload 8, 2) := by decide +kernel
theorem dX12_nodeLine_239 : decode cX12_nodeLine 239 = .ok (.bipush 9, 2) := by decide +kernel
theorem dX12_nodeLine_241 : decode cX12_nodeLine 241 = .ok (.iload 5, 2) := by decide +kernel
theorem dX12_nodeLine_243 : decode cX12_nodeLine 243 = .ok (.invokevirtual 146, 3) := by decide +kernel
theorem dX12_nodeLine_246 : decode cX12_nodeLine 246 = .ok (.aload_n 0, 1) := by decide +kernel
theorem dX12_nodeLine_247 : decode cX12_nodeLine 247 = .ok (.iload 8, 2) := by decide +kernel
theorem dX12_nodeLine_249 : decode cX12_nodeLine 249 = .ok (.bipush 10, 2) := by decide +kernel
theorem dX12_nodeLine_251 : decode cX12_nodeLine 251 = .ok (.iload 6, 2) := by decide +kernel
theorem dX12_nodeLine_253 : decode cX12_nodeLine 253 = .ok (.invokevirtual 146, 3) := by decide +kernel
theorem dX12_nodeLine_256 : decode cX12_nodeLine 256 = .ok (.aload_n 0, 1) := by decide +kernel
theorem dX12_nodeLine_257 : decode cX12_nodeLine 257 = .ok (.iload 8, 2) := by decide +kernel
theorem dX12_nodeLine_259 : decode cX12_nodeLine 259 = .ok (.iconst 3, 1) := by decide +kernel
theorem dX12_nodeLine_260 : decode cX12_nodeLine 260 = .ok (.iload 7, 2) := by decide +kernel
theorem dX12_nodeLine_262 : decode cX12_nodeLine 262 = .ok (.invokevirtual 146, 3) := by decide +kernel
theorem dX12_nodeLine_265 : decode cX12_nodeLine 265 = .ok (.iload 7, 2) := by decide +kernel
theorem dX12_nodeLine_267 : decode cX12_nodeLine 267 = .ok (.iconst 2, 1) := by decide +kernel
theorem dX12_nodeLine_268 : decode cX12_nodeLine 268 = .ok (.if_icmp .ne 14, 3) := by decide +kernel
theorem dX12_nodeLine_271 : decode cX12_nodeLine 271 = .ok (.aload_n 0, 1) := by decide +kernel
theorem dX12_nodeLine_272 : decode cX12_nodeLine 272 = .ok (.iload 8, 2) := by decide +kernel
theorem dX12_nodeLine_274 : decode cX12_nodeLine 274 = .ok (.iconst 5, 1) := by decide +kernel
theorem dX12_nodeLine_275 : decode cX12_nodeLine 275 = .ok (.iconst 1, 1) := by decide +kernel
theorem dX12_nodeLine_276 : decode cX12_nodeLine 276 = .ok (.iload 8, 2) := by decide +kernel
theorem dX12_nodeLine_278 : decode cX12_nodeLine 278 = .ok (.ishl, 1) := by decide +kernel
theorem dX12_nodeLine_279 : decode cX12_nodeLine 279 = .ok (.invokevirtual 146, 3) := by decide +kernel
theorem dX12_nodeLine_282 : decode cX12_nodeLine 282 = .ok (.return_, 1) := by decide +kernel
theorem dX12_joins_0 : decode cX12_joins 0 = .ok (.aload_n 0, 1) := by decide +kernel
theorem dX12_joins_1 : decode cX12_joins 1 = .ok (.getfield 7, 3) := by decide +kernel
theorem dX12_joins_4 : decode cX12_joins 4 = .ok (.iconst 3, 1) := by decide +kernel
theorem dX12_joins_5 : decode cX12_joins 5 = .ok (.iaload, 1) := by decide +kernel
theorem dX12_joins_6 : decode cX12_joins 6 = .ok (.istore_n 2, 1) := by decide +kernel
theorem dX12_joins_7 : decode cX12_joins 7 = .ok (.iconst 0, 1) := by decide +kernel
theorem dX12_joins_8 : decode cX12_joins 8 = .ok (.istore_n 3, 1) := by decide +kernel
theorem dX12_joins_9 : decode cX12_joins 9 = .ok (.iload_n 3, 1) := by decide +kernel
theorem dX12_joins_10 : decode cX12_joins 10 = .ok (.bipush 11, 2) := by decide +kernel
theorem dX12_joins_12 : decode cX12_joins 12 = .ok (.if_icmp .ge 16, 3) := by decide +kernel
theorem dX12_joins_15 : decode cX12_joins 15 = .ok (.aload_n 0, 1) := by decide +kernel
theorem dX12_joins_16 : decode cX12_joins 16 = .ok (.iload_n 2, 1) := by decide +kernel
theorem dX12_joins_17 : decode cX12_joins 17 = .ok (.iload_n 3, 1) := by decide +kernel
theorem dX12_joins_18 : decode cX12_joins 18 = .ok (.iconst 0, 1) := by decide +kernel
theorem dX12_joins_19 : decode cX12_joins 19 = .ok (.invokevirtual 146, 3) := by decide +kernel
theorem dX12_joins_22 : decode cX12_joins 22 = .ok (.iinc 3 1, 3) := by decide +kernel
theorem dX12_joins_25 : decode cX12_joins 25 = .ok (.goto (-16), 3) := by decide +kernel
theorem dX12_joins_28 : decode cX12_joins 28 = .ok (.aload_n 0, 1) := by decide +kernel
theorem dX12_joins_29 : decode cX12_joins 29 = .ok (.iload_n 2, 1) := by decide +kernel
theorem dX12_joins_30 : decode cX12_joins 30 = .ok (.iconst 1, 1) := by decide +kernel
theorem dX12_joins_31 : decode cX12_joins 31 = .ok (.iload_n 1, 1) := by decide +kernel
theorem dX12_joins_32 : decode cX12_joins 32 = .ok (.invokevirtual 146, 3) := by decide +kernel
theorem dX12_joins_35 : decode cX12_joins 35 = .ok (.aload_n 0, 1) := by decide +kernel
theorem dX12_joins_36 : decode cX12_joins 36 = .ok (.iload_n 2, 1) := by decide +kernel
theorem dX12_joins_37 : decode cX12_joins 37 = .ok (.iconst 3, 1) := by decide +kernel
theorem dX12_joins_38 : decode cX12_joins 38 = .ok (.iconst 1, 1) := by decide +kernel
theorem dX12_joins_39 : decode cX12_joins 39 = .ok (.invokevirtual 146, 3) := by decide +kernel
theorem dX12_joins_42 : decode cX12_joins 42 = .ok (.aload_n 0, 1) := by decide +kernel
theorem dX12_joins_43 : decode cX12_joins 43 = .ok (.iload_n 2, 1) := by decide +kernel
theorem dX12_joins_44 : decode cX12_joins 44 = .ok (.iconst 4, 1) := by decide +kernel
theorem dX12_joins_45 : decode cX12_joins 45 = .ok (.iconst 2, 1) := by decide +kernel
theorem dX12_joins_46 : decode cX12_joins 46 = .ok (.iload_n 2, 1) := by decide +kernel
theorem dX12_joins_47 : decode cX12_joins 47 = .ok (.iadd, 1) := by decide +kernel
theorem dX12_joins_48 : decode cX12_joins 48 = .ok (.invokevirtual 146, 3) := by decide +kernel
theorem dX12_joins_51 : decode cX12_joins 51 = .ok (.aload_n 0, 1) := by decide +kernel
theorem dX12_joins_52 : decode cX12_joins 52 = .ok (.getfield 7, 3) := by decide +kernel
theorem dX12_joins_55 : decode cX12_joins 55 = .ok (.iconst 3, 1) := by decide +kernel
theorem dX12_joins_56 : decode cX12_joins 56 = .ok (.dup2, 1) := by decide +kernel
theorem dX12_joins_57 : decode cX12_joins 57 = .ok (.iaload, 1) := by decide +kernel
theorem dX12_joins_58 : decode cX12_joins 58 = .ok (.iconst 1, 1) := by decide +kernel
theorem dX12_joins_59 : decode cX12_joins 59 = .ok (.iadd, 1) := by decide +kernel
theorem dX12_joins_60 : decode cX12_joins 60 = .ok (.iastore, 1) := by decide +kernel
theorem dX12_joins_61 : decode cX12_joins 61 = .ok (.return_, 1) := by decide +kernel
theorem dX12_tells_0 : decode cX12_tells 0 = .ok (.aload_n 0, 1) := by decide +kernel
theorem dX12_tells_1 : decode cX12_tells 1 = .ok (.iload_n 2, 1) := by decide +kernel
theorem dX12_tells_2 : decode cX12_tells 2 = .ok (.iload_n 3, 1) := by decide +kernel
theorem dX12_tells_3 : decode cX12_tells 3 = .ok (.invokevirtual 116, 3) := by decide +kernel
theorem dX12_tells_6 : decode cX12_tells 6 = .ok (.istore 4, 2) := by decide +kernel
theorem dX12_tells_8 : decode cX12_tells 8 = .ok (.aload_n 0, 1) := by decide +kernel
theorem dX12_tells_9 : decode cX12_tells 9 = .ok (.getfield 25, 3) := by decide +kernel
theorem dX12_tells_12 : decode cX12_tells 12 = .ok (.iconst (-1), 1) := by decide +kernel
theorem dX12_tells_13 : decode cX12_tells 13 = .ok (.if_icmp .ne 11, 3) := by decide +kernel
theorem dX12_tells_16 : decode cX12_tells 16 = .ok (.aload_n 0, 1) := by decide +kernel
theorem dX12_tells_17 : decode cX12_tells 17 = .ok (.getfield 7, 3) := by decide +kernel
theorem dX12_tells_20 : decode cX12_tells 20 = .ok (.iload_n 1, 1) := by decide +kernel
theorem dX12_tells_21 : decode cX12_tells 21 = .ok (.iload 4, 2) := by decide +kernel
theorem dX12_tells_23 : decode cX12_tells 23 = .ok (.iastore, 1) := by decide +kernel
theorem dX12_tells_24 : decode cX12_tells 24 = .ok (.return_, 1) := by decide +kernel
theorem dX12_clusterLine_0 : decode cX12_clusterLine 0 = .ok (.aload_n 0, 1) := by decide +kernel
theorem dX12_clusterLine_1 : decode cX12_clusterLine 1 = .ok (.invokevirtual 105, 3) := by decide +kernel
theorem dX12_clusterLine_4 : decode cX12_clusterLine 4 = .ok (.istore_n 1, 1) := by decide +kernel
theorem dX12_clusterLine_5 : decode cX12_clusterLine 5 = .ok (.aload_n 0, 1) := by decide +kernel
theorem dX12_clusterLine_6 : decode cX12_clusterLine 6 = .ok (.ldc 150, 2) := by decide +kernel
theorem dX12_clusterLine_8 : decode cX12_clusterLine 8 = .ok (.invokevirtual 112, 3) := by decide +kernel
theorem dX12_clusterLine_11 : decode cX12_clusterLine 11 = .ok (.ifCond .eq 11, 3) := by decide +kernel
theorem dX12_clusterLine_14 : decode cX12_clusterLine 14 = .ok (.aload_n 0, 1) := by decide +kernel
theorem dX12_clusterLine_15 : decode cX12_clusterLine 15 = .ok (.iload_n 1, 1) := by decide +kernel
theorem dX12_clusterLine_16 : decode cX12_clusterLine 16 = .ok (.invokevirtual 152, 3) := by decide +kernel
theorem dX12_clusterLine_19 : decode cX12_clusterLine 19 = .ok (.goto 75, 3) := by decide +kernel
theorem dX12_clusterLine_22 : decode cX12_clusterLine 22 = .ok (.aload_n 0, 1) := by decide +kernel
theorem dX12_clusterLine_23 : decode cX12_clusterLine 23 = .ok (.ldc 155, 2) := by decide +kernel
theorem dX12_clusterLine_25 : decode cX12_clusterLine 25 = .ok (.invokevirtual 112, 3) := by decide +kernel
theorem dX12_clusterLine_28 : decode cX12_clusterLine 28 = .ok (.ifCond .eq 15, 3) := by decide +kernel
theorem dX12_clusterLine_31 : decode cX12_clusterLine 31 = .ok (.aload_n 0, 1) := by decide +kernel
theorem dX12_clusterLine_32 : decode cX12_clusterLine 32 = .ok (.iconst 4, 1) := by decide +kernel
theorem dX12_clusterLine_33 : decode cX12_clusterLine 33 = .ok (.iconst 1, 1) := by decide +kernel
theorem dX12_clusterLine_34 : decode cX12_clusterLine 34 = .ok (.sipush 999, 3) := by decide +kernel
theorem dX12_clusterLine_37 : decode cX12_clusterLine 37 = .ok (.invokevirtual 157, 3) := by decide +kernel
theorem dX12_clusterLine_40 : decode cX12_clusterLine 40 = .ok (.goto 54, 3) := by decide +kernel
theorem dX12_clusterLine_43 : decode cX12_clusterLine 43 = .ok (.aload_n 0, 1) := by decide +kernel
theorem dX12_clusterLine_44 : decode cX12_clusterLine 44 = .ok (.ldc 160, 2) := by decide +kernel
theorem dX12_clusterLine_46 : decode cX12_clusterLine 46 = .ok (.invokevirtual 112, 3) := by decide +kernel
theorem dX12_clusterLine_49 : decode cX12_clusterLine 49 = .ok (.ifCond .eq 15, 3) := by decide +kernel
theorem dX12_clusterLine_52 : decode cX12_clusterLine 52 = .ok (.aload_n 0, 1) := by decide +kernel
theorem dX12_clusterLine_53 : decode cX12_clusterLine 53 = .ok (.iconst 5, 1) := by decide +kernel
theorem dX12_clusterLine_54 : decode cX12_clusterLine 54 = .ok (.iconst 1, 1) := by decide +kernel
theorem dX12_clusterLine_55 : decode cX12_clusterLine 55 = .ok (.sipush 999, 3) := by decide +kernel
theorem dX12_clusterLine_58 : decode cX12_clusterLine 58 = .ok (.invokevirtual 157, 3) := by decide +kernel
theorem dX12_clusterLine_61 : decode cX12_clusterLine 61 = .ok (.goto 33, 3) := by decide +kernel
theorem dX12_clusterLine_64 : decode cX12_clusterLine 64 = .ok (.aload_n 0, 1) := by decide +kernel
theorem dX12_clusterLine_65 : decode cX12_clusterLine 65 = .ok (.ldc 162, 2) := by decide +kernel
theorem dX12_clusterLine_67 : decode cX12_clusterLine 67 = .ok (.invokevirtual 112, 3) := by decide +kernel
theorem dX12_clusterLine_70 : decode cX12_clusterLine 70 = .ok (.ifCond .eq 16, 3) := by decide +kernel
theorem dX12_clusterLine_73 : decode cX12_clusterLine 73 = .ok (.aload_n 0, 1) := by decide +kernel
theorem dX12_clusterLine_74 : decode cX12_clusterLine 74 = .ok (.bipush 6, 2) := by decide +kernel
theorem dX12_clusterLine_76 : decode cX12_clusterLine 76 = .ok (.iconst 0, 1) := by decide +kernel
theorem dX12_clusterLine_77 : decode cX12_clusterLine 77 = .ok (.sipush 999, 3) := by decide +kernel
theorem dX12_clusterLine_80 : decode cX12_clusterLine 80 = .ok (.invokevirtual 157, 3) := by decide +kernel
theorem dX12_clusterLine_83 : decode cX12_clusterLine 83 = .ok (.goto 11, 3) := by decide +kernel
theorem dX12_clusterLine_86 : decode cX12_clusterLine 86 = .ok (.aload_n 0, 1) := by decide +kernel
theorem dX12_clusterLine_87 : decode cX12_clusterLine 87 = .ok (.aload_n 0, 1) := by decide +kernel
theorem dX12_clusterLine_88 : decode cX12_clusterLine 88 = .ok (.getfield 82, 3) := by decide +kernel
theorem dX12_clusterLine_91 : decode cX12_clusterLine 91 = .ok (.invokevirtual 108, 3) := by decide +kernel
theorem dX12_clusterLine_94 : decode cX12_clusterLine 94 = .ok (.return_, 1) := by decide +kernel
theorem dX12_begins_0 : decode cX12_begins 0 = .ok (.aload_n 0, 1) := by decide +kernel
theorem dX12_begins_1 : decode cX12_begins 1 = .ok (.iconst (-1), 1) := by decide +kernel
theorem dX12_begins_2 : decode cX12_begins 2 = .ok (.putfield 25, 3) := by decide +kernel
theorem dX12_begins_5 : decode cX12_begins 5 = .ok (.aload_n 0, 1) := by decide +kernel
theorem dX12_begins_6 : decode cX12_begins 6 = .ok (.iconst (-1), 1) := by decide +kernel
theorem dX12_begins_7 : decode cX12_begins 7 = .ok (.putfield 79, 3) := by decide +kernel
theorem dX12_begins_10 : decode cX12_begins 10 = .ok (.aload_n 0, 1) := by decide +kernel
theorem dX12_begins_11 : decode cX12_begins 11 = .ok (.aload_n 0, 1) := by decide +kernel
theorem dX12_begins_12 : decode cX12_begins 12 = .ok (.getfield 76, 3) := by decide +kernel
theorem dX12_begins_15 : decode cX12_begins 15 = .ok (.putfield 85, 3) := by decide +kernel
theorem dX12_begins_18 : decode cX12_begins 18 = .ok (.aload_n 0, 1) := by decide +kernel
theorem dX12_begins_19 : decode cX12_begins 19 = .ok (.iconst 0, 1) := by decide +kernel
theorem dX12_begins_20 : decode cX12_begins 20 = .ok (.putfield 76, 3) := by decide +kernel
theorem dX12_begins_23 : decode cX12_begins 23 = .ok (.aload_n 0, 1) := by decide +kernel
theorem dX12_begins_24 : decode cX12_begins 24 = .ok (.iconst 0, 1) := by decide +kernel
theorem dX12_begins_25 : decode cX12_begins 25 = .ok (.putfield 82, 3) := by decide +kernel
theorem dX12_begins_28 : decode cX12_begins 28 = .ok (.aload_n 0, 1) := by decide +kernel
theorem dX12_begins_29 : decode cX12_begins 29 = .ok (.iconst 0, 1) := by decide +kernel
theorem dX12_begins_30 : decode cX12_begins 30 = .ok (.putfield 164, 3) := by decide +kernel
theorem dX12_begins_33 : decode cX12_begins 33 = .ok (.return_, 1) := by decide +kernel
theorem dX12_reads_0 : decode cX12_reads 0 = .ok (.aload_n 0, 1) := by decide +kernel
theorem dX12_reads_1 : decode cX12_reads 1 = .ok (.invokevirtual 92, 3) := by decide +kernel
theorem dX12_reads_4 : decode cX12_reads 4 = .ok (.aload_n 0, 1) := by decide +kernel
theorem dX12_reads_5 : decode cX12_reads 5 = .ok (.getfield 82, 3) := by decide +kernel
theorem dX12_reads_8 : decode cX12_reads 8 = .ok (.aload_n 0, 1) := by decide +kernel
theorem dX12_reads_9 : decode cX12_reads 9 = .ok (.getfield 85, 3) := by decide +kernel
theorem dX12_reads_12 : decode cX12_reads 12 = .ok (.if_icmp .ge 7, 3) := by decide +kernel
theorem dX12_reads_15 : decode cX12_reads 15 = .ok (.iconst 1, 1) := by decide +kernel
theorem dX12_reads_16 : decode cX12_reads 16 = .ok (.goto 4, 3) := by decide +kernel
theorem dX12_reads_19 : decode cX12_reads 19 = .ok (.iconst 0, 1) := by decide +kernel
theorem dX12_reads_20 : decode cX12_reads 20 = .ok (.istore_n 2, 1) := by decide +kernel
theorem dX12_reads_21 : decode cX12_reads 21 = .ok (.iconst 0, 1) := by decide +kernel
theorem dX12_reads_22 : decode cX12_reads 22 = .ok (.istore_n 3, 1) := by decide +kernel
theorem dX12_reads_23 : decode cX12_reads 23 = .ok (.iload_n 2, 1) := by decide +kernel
theorem dX12_reads_24 : decode cX12_reads 24 = .ok (.ifCond .eq 120, 3) := by decide +kernel
theorem dX12_reads_27 : decode cX12_reads 27 = .ok (.aload_n 0, 1) := by decide +kernel
theorem dX12_reads_28 : decode cX12_reads 28 = .ok (.getfield 25, 3) := by decide +kernel
theorem dX12_reads_31 : decode cX12_reads 31 = .ok (.iconst (-1), 1) := by decide +kernel
theorem dX12_reads_32 : decode cX12_reads 32 = .ok (.if_icmp .ne 112, 3) := by decide +kernel
theorem dX12_reads_35 : decode cX12_reads 35 = .ok (.aload_n 0, 1) := by decide +kernel
theorem dX12_reads_36 : decode cX12_reads 36 = .ok (.invokevirtual 92, 3) := by decide +kernel
theorem dX12_reads_39 : decode cX12_reads 39 = .ok (.iload_n 3, 1) := by decide +kernel
theorem dX12_reads_40 : decode cX12_reads 40 = .ok (.iload_n 1, 1) := by decide +kernel
theorem dX12_reads_41 : decode cX12_reads 41 = .ok (.ifCond .eq 8, 3) := by decide +kernel
theorem dX12_reads_44 : decode cX12_reads 44 = .ok (.bipush 12, 2) := by decide +kernel
theorem dX12_reads_46 : decode cX12_reads 46 = .ok (.goto 5, 3) := by decide +kernel
theorem dX12_reads_49 : decode cX12_reads 49 = .ok (.bipush 14, 2) := by decide +kernel
theorem dX12_reads_51 : decode cX12_reads 51 = .ok (.if_icmp .ne 14, 3) := by decide +kernel
theorem dX12_reads_54 : decode cX12_reads 54 = .ok (.aload_n 0, 1) := by decide +kernel
theorem dX12_reads_55 : decode cX12_reads 55 = .ok (.aload_n 0, 1) := by decide +kernel
theorem dX12_reads_56 : decode cX12_reads 56 = .ok (.getfield 82, 3) := by decide +kernel
theorem dX12_reads_59 : decode cX12_reads 59 = .ok (.invokevirtual 108, 3) := by decide +kernel
theorem dX12_reads_62 : decode cX12_reads 62 = .ok (.goto 18, 3) := by decide +kernel
theorem dX12_reads_65 : decode cX12_reads 65 = .ok (.iload_n 1, 1) := by decide +kernel
theorem dX12_reads_66 : decode cX12_reads 66 = .ok (.ifCond .eq 10, 3) := by decide +kernel
theorem dX12_reads_69 : decode cX12_reads 69 = .ok (.aload_n 0, 1) := by decide +kernel
theorem dX12_reads_70 : decode cX12_reads 70 = .ok (.invokevirtual 167, 3) := by decide +kernel
theorem dX12_reads_73 : decode cX12_reads 73 = .ok (.goto 7, 3) := by decide +kernel
theorem dX12_reads_76 : decode cX12_reads 76 = .ok (.aload_n 0, 1) := by decide +kernel
theorem dX12_reads_77 : decode cX12_reads 77 = .ok (.invokevirtual 170, 3) := by decide +kernel
theorem dX12_reads_80 : decode cX12_reads 80 = .ok (.iinc 3 1, 3) := by decide +kernel
theorem dX12_reads_83 : decode cX12_reads 83 = .ok (.aload_n 0, 1) := by decide +kernel
theorem dX12_reads_84 : decode cX12_reads 84 = .ok (.invokevirtual 92, 3) := by decide +kernel
theorem dX12_reads_87 : decode cX12_reads 87 = .ok (.aload_n 0, 1) := by decide +kernel
theorem dX12_reads_88 : decode cX12_reads 88 = .ok (.getfield 25, 3) := by decide +kernel
theorem dX12_reads_91 : decode cX12_reads 91 = .ok (.iconst (-1), 1) := by decide +kernel
theorem dX12_reads_92 : decode cX12_reads 92 = .ok (.if_icmp .ne 14, 3) := by decide +kernel
theorem dX12_reads_95 : decode cX12_reads 95 = .ok (.aload_n 0, 1) := by decide +kernel
theorem dX12_reads_96 : decode cX12_reads 96 = .ok (.getfield 82, 3) := by decide +kernel
theorem dX12_reads_99 : decode cX12_reads 99 = .ok (.aload_n 0, 1) := by decide +kernel
theorem dX12_reads_100 : decode cX12_reads 100 = .ok (.getfield 85, 3) := by decide +kernel
theorem dX12_reads_103 : decode cX12_reads 103 = .ok (.if_icmp .ne 8, 3) := by decide +kernel
theorem dX12_reads_106 : decode cX12_reads 106 = .ok (.iconst 0, 1) := by decide +kernel
theorem dX12_reads_107 : decode cX12_reads 107 = .ok (.istore_n 2, 1) := by decide +kernel
theorem dX12_reads_108 : decode cX12_reads 108 = .ok (.goto (-85), 3) := by decide +kernel
theorem dX12_reads_111 : decode cX12_reads 111 = .ok (.aload_n 0, 1) := by decide +kernel
theorem dX12_reads_112 : decode cX12_reads 112 = .ok (.bipush 59, 2) := by decide +kernel
theorem dX12_reads_114 : decode cX12_reads 114 = .ok (.invokevirtual 173, 3) := by decide +kernel
theorem dX12_reads_117 : decode cX12_reads 117 = .ok (.ifCond .eq 16, 3) := by decide +kernel
theorem dX12_reads_120 : decode cX12_reads 120 = .ok (.aload_n 0, 1) := by decide +kernel
theorem dX12_reads_121 : decode cX12_reads 121 = .ok (.dup, 1) := by decide +kernel
theorem dX12_reads_122 : decode cX12_reads 122 = .ok (.getfield 82, 3) := by decide +kernel
theorem dX12_reads_125 : decode cX12_reads 125 = .ok (.iconst 1, 1) := by decide +kernel
theorem dX12_reads_126 : decode cX12_reads 126 = .ok (.iadd, 1) := by decide +kernel
theorem dX12_reads_127 : decode cX12_reads 127 = .ok (.putfield 82, 3) := by decide +kernel
theorem dX12_reads_130 : decode cX12_reads 130 = .ok (.goto (-107), 3) := by decide +kernel
theorem dX12_reads_133 : decode cX12_reads 133 = .ok (.aload_n 0, 1) := by decide +kernel
theorem dX12_reads_134 : decode cX12_reads 134 = .ok (.aload_n 0, 1) := by decide +kernel
theorem dX12_reads_135 : decode cX12_reads 135 = .ok (.getfield 82, 3) := by decide +kernel
theorem dX12_reads_138 : decode cX12_reads 138 = .ok (.invokevirtual 108, 3) := by decide +kernel
theorem dX12_reads_141 : decode cX12_reads 141 = .ok (.goto (-118), 3) := by decide +kernel
theorem dX12_reads_144 : decode cX12_reads 144 = .ok (.iload_n 3, 1) := by decide +kernel
theorem dX12_reads_145 : decode cX12_reads 145 = .ok (.ireturn, 1) := by decide +kernel
theorem dX12_putsAside_0 : decode cX12_putsAside 0 = .ok (.iconst 0, 1) := by decide +kernel
theorem dX12_putsAside_1 : decode cX12_putsAside 1 = .ok (.istore_n 1, 1) := by decide +kernel
theorem dX12_putsAside_2 : decode cX12_putsAside 2 = .ok (.iload_n 1, 1) := by decide +kernel
theorem dX12_putsAside_3 : decode cX12_putsAside 3 = .ok (.sipush 337, 3) := by decide +kernel
theorem dX12_putsAside_6 : decode cX12_putsAside 6 = .ok (.if_icmp .ge 21, 3) := by decide +kernel
theorem dX12_putsAside_9 : decode cX12_putsAside 9 = .ok (.aload_n 0, 1) := by decide +kernel
theorem dX12_putsAside_10 : decode cX12_putsAside 10 = .ok (.getfield 16, 3) := by decide +kernel
theorem dX12_putsAside_13 : decode cX12_putsAside 13 = .ok (.iload_n 1, 1) := by decide +kernel
theorem dX12_putsAside_14 : decode cX12_putsAside 14 = .ok (.aload_n 0, 1) := by decide +kernel
theorem dX12_putsAside_15 : decode cX12_putsAside 15 = .ok (.getfield 7, 3) := by decide +kernel
theorem dX12_putsAside_18 : decode cX12_putsAside 18 = .ok (.iload_n 1, 1) := by decide +kernel
theorem dX12_putsAside_19 : decode cX12_putsAside 19 = .ok (.iaload, 1) := by decide +kernel
theorem dX12_putsAside_20 : decode cX12_putsAside 20 = .ok (.iastore, 1) := by decide +kernel
theorem dX12_putsAside_21 : decode cX12_putsAside 21 = .ok (.iinc 1 1, 3) := by decide +kernel
theorem dX12_putsAside_24 : decode cX12_putsAside 24 = .ok (.goto (-22), 3) := by decide +kernel
theorem dX12_putsAside_27 : decode cX12_putsAside 27 = .ok (.return_, 1) := by decide +kernel
theorem dX12_comesBack_0 : decode cX12_comesBack 0 = .ok (.iconst 0, 1) := by decide +kernel
theorem dX12_comesBack_1 : decode cX12_comesBack 1 = .ok (.istore_n 1, 1) := by decide +kernel
theorem dX12_comesBack_2 : decode cX12_comesBack 2 = .ok (.iload_n 1, 1) := by decide +kernel
theorem dX12_comesBack_3 : decode cX12_comesBack 3 = .ok (.sipush 337, 3) := by decide +kernel
theorem dX12_comesBack_6 : decode cX12_comesBack 6 = .ok (.if_icmp .ge 21, 3) := by decide +kernel
theorem dX12_comesBack_9 : decode cX12_comesBack 9 = .ok (.aload_n 0, 1) := by decide +kernel
theorem dX12_comesBack_10 : decode cX12_comesBack 10 = .ok (.getfield 7, 3) := by decide +kernel
theorem dX12_comesBack_13 : decode cX12_comesBack 13 = .ok (.iload_n 1, 1) := by decide +kernel
theorem dX12_comesBack_14 : decode cX12_comesBack 14 = .ok (.aload_n 0, 1) := by decide +kernel
theorem dX12_comesBack_15 : decode cX12_comesBack 15 = .ok (.getfield 16, 3) := by decide +kernel
theorem dX12_comesBack_18 : decode cX12_comesBack 18 = .ok (.iload_n 1, 1) := by decide +kernel
theorem dX12_comesBack_19 : decode cX12_comesBack 19 = .ok (.iaload, 1) := by decide +kernel
theorem dX12_comesBack_20 : decode cX12_comesBack 20 = .ok (.iastore, 1) := by decide +kernel
theorem dX12_comesBack_21 : decode cX12_comesBack 21 = .ok (.iinc 1 1, 3) := by decide +kernel
theorem dX12_comesBack_24 : decode cX12_comesBack 24 = .ok (.goto (-22), 3) := by decide +kernel
theorem dX12_comesBack_27 : decode cX12_comesBack 27 = .ok (.return_, 1) := by decide +kernel
theorem dX12_cluster_0 : decode cX12_cluster 0 = .ok (.aload_n 0, 1) := by decide +kernel
theorem dX12_cluster_1 : decode cX12_cluster 1 = .ok (.invokevirtual 177, 3) := by decide +kernel
theorem dX12_cluster_4 : decode cX12_cluster 4 = .ok (.aload_n 0, 1) := by decide +kernel
theorem dX12_cluster_5 : decode cX12_cluster 5 = .ok (.invokevirtual 180, 3) := by decide +kernel
theorem dX12_cluster_8 : decode cX12_cluster 8 = .ok (.aload_n 0, 1) := by decide +kernel
theorem dX12_cluster_9 : decode cX12_cluster 9 = .ok (.iconst 0, 1) := by decide +kernel
theorem dX12_cluster_10 : decode cX12_cluster 10 = .ok (.invokevirtual 183, 3) := by decide +kernel
theorem dX12_cluster_13 : decode cX12_cluster 13 = .ok (.istore_n 1, 1) := by decide +kernel
theorem dX12_cluster_14 : decode cX12_cluster 14 = .ok (.aload_n 0, 1) := by decide +kernel
theorem dX12_cluster_15 : decode cX12_cluster 15 = .ok (.aload_n 0, 1) := by decide +kernel
theorem dX12_cluster_16 : decode cX12_cluster 16 = .ok (.getfield 25, 3) := by decide +kernel
theorem dX12_cluster_19 : decode cX12_cluster 19 = .ok (.iconst (-1), 1) := by decide +kernel
theorem dX12_cluster_20 : decode cX12_cluster 20 = .ok (.if_icmp .eq 7, 3) := by decide +kernel
theorem dX12_cluster_23 : decode cX12_cluster 23 = .ok (.iconst 1, 1) := by decide +kernel
theorem dX12_cluster_24 : decode cX12_cluster 24 = .ok (.goto 19, 3) := by decide +kernel
theorem dX12_cluster_27 : decode cX12_cluster 27 = .ok (.aload_n 0, 1) := by decide +kernel
theorem dX12_cluster_28 : decode cX12_cluster 28 = .ok (.getfield 7, 3) := by decide +kernel
theorem dX12_cluster_31 : decode cX12_cluster 31 = .ok (.iconst 0, 1) := by decide +kernel
theorem dX12_cluster_32 : decode cX12_cluster 32 = .ok (.iaload, 1) := by decide +kernel
theorem dX12_cluster_33 : decode cX12_cluster 33 = .ok (.bipush 12, 2) := by decide +kernel
theorem dX12_cluster_35 : decode cX12_cluster 35 = .ok (.if_icmp .ne 7, 3) := by decide +kernel
theorem dX12_cluster_38 : decode cX12_cluster 38 = .ok (.iconst 2, 1) := by decide +kernel
theorem dX12_cluster_39 : decode cX12_cluster 39 = .ok (.goto 4, 3) := by decide +kernel
theorem dX12_cluster_42 : decode cX12_cluster 42 = .ok (.iconst 0, 1) := by decide +kernel
theorem dX12_cluster_43 : decode cX12_cluster 43 = .ok (.putfield 59, 3) := by decide +kernel
theorem dX12_cluster_46 : decode cX12_cluster 46 = .ok (.aload_n 0, 1) := by decide +kernel
theorem dX12_cluster_47 : decode cX12_cluster 47 = .ok (.getfield 59, 3) := by decide +kernel
theorem dX12_cluster_50 : decode cX12_cluster 50 = .ok (.ifCond .le 9, 3) := by decide +kernel
theorem dX12_cluster_53 : decode cX12_cluster 53 = .ok (.aload_n 0, 1) := by decide +kernel
theorem dX12_cluster_54 : decode cX12_cluster 54 = .ok (.invokevirtual 187, 3) := by decide +kernel
theorem dX12_cluster_57 : decode cX12_cluster 57 = .ok (.iconst 0, 1) := by decide +kernel
theorem dX12_cluster_58 : decode cX12_cluster 58 = .ok (.ireturn, 1) := by decide +kernel
theorem dX12_cluster_59 : decode cX12_cluster 59 = .ok (.aload_n 0, 1) := by decide +kernel
theorem dX12_cluster_60 : decode cX12_cluster 60 = .ok (.getfield 7, 3) := by decide +kernel
theorem dX12_cluster_63 : decode cX12_cluster 63 = .ok (.iconst 0, 1) := by decide +kernel
theorem dX12_cluster_64 : decode cX12_cluster 64 = .ok (.dup2, 1) := by decide +kernel
theorem dX12_cluster_65 : decode cX12_cluster 65 = .ok (.iaload, 1) := by decide +kernel
theorem dX12_cluster_66 : decode cX12_cluster 66 = .ok (.iconst 1, 1) := by decide +kernel
theorem dX12_cluster_67 : decode cX12_cluster 67 = .ok (.iadd, 1) := by decide +kernel
theorem dX12_cluster_68 : decode cX12_cluster 68 = .ok (.iastore, 1) := by decide +kernel
theorem dX12_cluster_69 : decode cX12_cluster 69 = .ok (.aload_n 0, 1) := by decide +kernel
theorem dX12_cluster_70 : decode cX12_cluster 70 = .ok (.iconst 0, 1) := by decide +kernel
theorem dX12_cluster_71 : decode cX12_cluster 71 = .ok (.putfield 190, 3) := by decide +kernel
theorem dX12_cluster_74 : decode cX12_cluster 74 = .ok (.aload_n 0, 1) := by decide +kernel
theorem dX12_cluster_75 : decode cX12_cluster 75 = .ok (.getfield 7, 3) := by decide +kernel
theorem dX12_cluster_78 : decode cX12_cluster 78 = .ok (.iconst 0, 1) := by decide +kernel
theorem dX12_cluster_79 : decode cX12_cluster 79 = .ok (.iaload, 1) := by decide +kernel
theorem dX12_cluster_80 : decode cX12_cluster 80 = .ok (.ireturn, 1) := by decide +kernel
theorem dX12_part_0 : decode cX12_part 0 = .ok (.aload_n 0, 1) := by decide +kernel
theorem dX12_part_1 : decode cX12_part 1 = .ok (.getfield 25, 3) := by decide +kernel
theorem dX12_part_4 : decode cX12_part 4 = .ok (.iconst (-1), 1) := by decide +kernel
theorem dX12_part_5 : decode cX12_part 5 = .ok (.if_icmp .eq 5, 3) := by decide +kernel
theorem dX12_part_8 : decode cX12_part 8 = .ok (.iconst 0, 1) := by decide +kernel
theorem dX12_part_9 : decode cX12_part 9 = .ok (.ireturn, 1) := by decide +kernel
theorem dX12_part_10 : decode cX12_part 10 = .ok (.aload_n 0, 1) := by decide +kernel
theorem dX12_part_11 : decode cX12_part 11 = .ok (.invokevirtual 92, 3) := by decide +kernel
theorem dX12_part_14 : decode cX12_part 14 = .ok (.aload_n 0, 1) := by decide +kernel
theorem dX12_part_15 : decode cX12_part 15 = .ok (.getfield 82, 3) := by decide +kernel
theorem dX12_part_18 : decode cX12_part 18 = .ok (.aload_n 0, 1) := by decide +kernel
theorem dX12_part_19 : decode cX12_part 19 = .ok (.getfield 85, 3) := by decide +kernel
theorem dX12_part_22 : decode cX12_part 22 = .ok (.if_icmp .ge 30, 3) := by decide +kernel
theorem dX12_part_25 : decode cX12_part 25 = .ok (.aload_n 0, 1) := by decide +kernel
theorem dX12_part_26 : decode cX12_part 26 = .ok (.aload_n 0, 1) := by decide +kernel
theorem dX12_part_27 : decode cX12_part 27 = .ok (.getfield 82, 3) := by decide +kernel
theorem dX12_part_30 : decode cX12_part 30 = .ok (.invokevirtual 88, 3) := by decide +kernel
theorem dX12_part_33 : decode cX12_part 33 = .ok (.bipush 48, 2) := by decide +kernel
theorem dX12_part_35 : decode cX12_part 35 = .ok (.bipush 57, 2) := by decide +kernel
theorem dX12_part_37 : decode cX12_part 37 = .ok (.invokestatic 62, 3) := by decide +kernel
theorem dX12_part_40 : decode cX12_part 40 = .ok (.ifCond .eq 12, 3) := by decide +kernel
theorem dX12_part_43 : decode cX12_part 43 = .ok (.aload_n 0, 1) := by decide +kernel
theorem dX12_part_44 : decode cX12_part 44 = .ok (.iconst 0, 1) := by decide +kernel
theorem dX12_part_45 : decode cX12_part 45 = .ok (.sipush 999, 3) := by decide +kernel
theorem dX12_part_48 : decode cX12_part 48 = .ok (.invokevirtual 116, 3) := by decide +kernel
theorem dX12_part_51 : decode cX12_part 51 = .ok (.ireturn, 1) := by decide +kernel
theorem dX12_part_52 : decode cX12_part 52 = .ok (.aload_n 0, 1) := by decide +kernel
theorem dX12_part_53 : decode cX12_part 53 = .ok (.ldc 150, 2) := by decide +kernel
theorem dX12_part_55 : decode cX12_part 55 = .ok (.invokevirtual 112, 3) := by decide +kernel
theorem dX12_part_58 : decode cX12_part 58 = .ok (.ifCond .eq 7, 3) := by decide +kernel
theorem dX12_part_61 : decode cX12_part 61 = .ok (.iconst 0, 1) := by decide +kernel
theorem dX12_part_62 : decode cX12_part 62 = .ok (.goto 83, 3) := by decide +kernel
theorem dX12_part_65 : decode cX12_part 65 = .ok (.aload_n 0, 1) := by decide +kernel
theorem dX12_part_66 : decode cX12_part 66 = .ok (.ldc 127, 2) := by decide +kernel
theorem dX12_part_68 : decode cX12_part 68 = .ok (.invokevirtual 112, 3) := by decide +kernel
theorem dX12_part_71 : decode cX12_part 71 = .ok (.ifCond .eq 7, 3) := by decide +kernel
theorem dX12_part_74 : decode cX12_part 74 = .ok (.iconst 1, 1) := by decide +kernel
theorem dX12_part_75 : decode cX12_part 75 = .ok (.goto 70, 3) := by decide +kernel
theorem dX12_part_78 : decode cX12_part 78 = .ok (.aload_n 0, 1) := by decide +kernel
theorem dX12_part_79 : decode cX12_part 79 = .ok (.ldc 129, 2) := by decide +kernel
theorem dX12_part_81 : decode cX12_part 81 = .ok (.invokevirtual 112, 3) := by decide +kernel
theorem dX12_part_84 : decode cX12_part 84 = .ok (.ifCond .eq 7, 3) := by decide +kernel
theorem dX12_part_87 : decode cX12_part 87 = .ok (.iconst 2, 1) := by decide +kernel
theorem dX12_part_88 : decode cX12_part 88 = .ok (.goto 57, 3) := by decide +kernel
theorem dX12_part_91 : decode cX12_part 91 = .ok (.aload_n 0, 1) := by decide +kernel
theorem dX12_part_92 : decode cX12_part 92 = .ok (.ldc 193, 2) := by decide +kernel
theorem dX12_part_94 : decode cX12_part 94 = .ok (.invokevirtual 112, 3) := by decide +kernel
theorem dX12_part_97 : decode cX12_part 97 = .ok (.ifCond .eq 7, 3) := by decide +kernel
theorem dX12_part_100 : decode cX12_part 100 = .ok (.iconst 3, 1) := by decide +kernel
theorem dX12_part_101 : decode cX12_part 101 = .ok (.goto 44, 3) := by decide +kernel
theorem dX12_part_104 : decode cX12_part 104 = .ok (.aload_n 0, 1) := by decide +kernel
theorem dX12_part_105 : decode cX12_part 105 = .ok (.ldc 195, 2) := by decide +kernel
theorem dX12_part_107 : decode cX12_part 107 = .ok (.invokevirtual 112, 3) := by decide +kernel
theorem dX12_part_110 : decode cX12_part 110 = .ok (.ifCond .eq 7, 3) := by decide +kernel
theorem dX12_part_113 : decode cX12_part 113 = .ok (.iconst 4, 1) := by decide +kernel
theorem dX12_part_114 : decode cX12_part 114 = .ok (.goto 31, 3) := by decide +kernel
theorem dX12_part_117 : decode cX12_part 117 = .ok (.aload_n 0, 1) := by decide +kernel
theorem dX12_part_118 : decode cX12_part 118 = .ok (.ldc 197, 2) := by decide +kernel
theorem dX12_part_120 : decode cX12_part 120 = .ok (.invokevirtual 112, 3) := by decide +kernel
theorem dX12_part_123 : decode cX12_part 123 = .ok (.ifCond .eq 7, 3) := by decide +kernel
theorem dX12_part_126 : decode cX12_part 126 = .ok (.iconst 5, 1) := by decide +kernel
theorem dX12_part_127 : decode cX12_part 127 = .ok (.goto 18, 3) := by decide +kernel
theorem dX12_part_130 : decode cX12_part 130 = .ok (.aload_n 0, 1) := by decide +kernel
theorem dX12_part_131 : decode cX12_part 131 = .ok (.ldc 199, 2) := by decide +kernel
theorem dX12_part_133 : decode cX12_part 133 = .ok (.invokevirtual 112, 3) := by decide +kernel
theorem dX12_part_136 : decode cX12_part 136 = .ok (.ifCond .eq 8, 3) := by decide +kernel
theorem dX12_part_139 : decode cX12_part 139 = .ok (.bipush 6, 2) := by decide +kernel
theorem dX12_part_141 : decode cX12_part 141 = .ok (.goto 4, 3) := by decide +kernel
theorem dX12_part_144 : decode cX12_part 144 = .ok (.iconst (-1), 1) := by decide +kernel
theorem dX12_part_145 : decode cX12_part 145 = .ok (.istore_n 1, 1) := by decide +kernel
theorem dX12_part_146 : decode cX12_part 146 = .ok (.iload_n 1, 1) := by decide +kernel
theorem dX12_part_147 : decode cX12_part 147 = .ok (.iconst (-1), 1) := by decide +kernel
theorem dX12_part_148 : decode cX12_part 148 = .ok (.if_icmp .ne 13, 3) := by decide +kernel
theorem dX12_part_151 : decode cX12_part 151 = .ok (.aload_n 0, 1) := by decide +kernel
theorem dX12_part_152 : decode cX12_part 152 = .ok (.aload_n 0, 1) := by decide +kernel
theorem dX12_part_153 : decode cX12_part 153 = .ok (.getfield 82, 3) := by decide +kernel
theorem dX12_part_156 : decode cX12_part 156 = .ok (.invokevirtual 108, 3) := by decide +kernel
theorem dX12_part_159 : decode cX12_part 159 = .ok (.iconst 0, 1) := by decide +kernel
theorem dX12_part_160 : decode cX12_part 160 = .ok (.ireturn, 1) := by decide +kernel
theorem dX12_part_161 : decode cX12_part 161 = .ok (.aload_n 0, 1) := by decide +kernel
theorem dX12_part_162 : decode cX12_part 162 = .ok (.getfield 29, 3) := by decide +kernel
theorem dX12_part_165 : decode cX12_part 165 = .ok (.iload_n 1, 1) := by decide +kernel
theorem dX12_part_166 : decode cX12_part 166 = .ok (.iaload, 1) := by decide +kernel
theorem dX12_part_167 : decode cX12_part 167 = .ok (.ireturn, 1) := by decide +kernel
theorem dX12_sum_0 : decode cX12_sum 0 = .ok (.aload_n 0, 1) := by decide +kernel
theorem dX12_sum_1 : decode cX12_sum 1 = .ok (.invokevirtual 201, 3) := by decide +kernel
theorem dX12_sum_4 : decode cX12_sum 4 = .ok (.istore_n 1, 1) := by decide +kernel
theorem dX12_sum_5 : decode cX12_sum 5 = .ok (.aload_n 0, 1) := by decide +kernel
theorem dX12_sum_6 : decode cX12_sum 6 = .ok (.getfield 25, 3) := by decide +kernel
theorem dX12_sum_9 : decode cX12_sum 9 = .ok (.iconst (-1), 1) := by decide +kernel
theorem dX12_sum_10 : decode cX12_sum 10 = .ok (.if_icmp .ne 32, 3) := by decide +kernel
theorem dX12_sum_13 : decode cX12_sum 13 = .ok (.aload_n 0, 1) := by decide +kernel
theorem dX12_sum_14 : decode cX12_sum 14 = .ok (.bipush 43, 2) := by decide +kernel
theorem dX12_sum_16 : decode cX12_sum 16 = .ok (.invokevirtual 173, 3) := by decide +kernel
theorem dX12_sum_19 : decode cX12_sum 19 = .ok (.ifCond .eq 23, 3) := by decide +kernel
theorem dX12_sum_22 : decode cX12_sum 22 = .ok (.aload_n 0, 1) := by decide +kernel
theorem dX12_sum_23 : decode cX12_sum 23 = .ok (.dup, 1) := by decide +kernel
theorem dX12_sum_24 : decode cX12_sum 24 = .ok (.getfield 82, 3) := by decide +kernel
theorem dX12_sum_27 : decode cX12_sum 27 = .ok (.iconst 1, 1) := by decide +kernel
theorem dX12_sum_28 : decode cX12_sum 28 = .ok (.iadd, 1) := by decide +kernel
theorem dX12_sum_29 : decode cX12_sum 29 = .ok (.putfield 82, 3) := by decide +kernel
theorem dX12_sum_32 : decode cX12_sum 32 = .ok (.iload_n 1, 1) := by decide +kernel
theorem dX12_sum_33 : decode cX12_sum 33 = .ok (.aload_n 0, 1) := by decide +kernel
theorem dX12_sum_34 : decode cX12_sum 34 = .ok (.invokevirtual 201, 3) := by decide +kernel
theorem dX12_sum_37 : decode cX12_sum 37 = .ok (.iadd, 1) := by decide +kernel
theorem dX12_sum_38 : decode cX12_sum 38 = .ok (.istore_n 1, 1) := by decide +kernel
theorem dX12_sum_39 : decode cX12_sum 39 = .ok (.goto (-34), 3) := by decide +kernel
theorem dX12_sum_42 : decode cX12_sum 42 = .ok (.iload_n 1, 1) := by decide +kernel
theorem dX12_sum_43 : decode cX12_sum 43 = .ok (.ireturn, 1) := by decide +kernel
theorem dX12_plain_0 : decode cX12_plain 0 = .ok (.aload_n 0, 1) := by decide +kernel
theorem dX12_plain_1 : decode cX12_plain 1 = .ok (.ldc 204, 2) := by decide +kernel
theorem dX12_plain_3 : decode cX12_plain 3 = .ok (.invokevirtual 112, 3) := by decide +kernel
theorem dX12_plain_6 : decode cX12_plain 6 = .ok (.ifCond .eq 21, 3) := by decide +kernel
theorem dX12_plain_9 : decode cX12_plain 9 = .ok (.aload_n 0, 1) := by decide +kernel
theorem dX12_plain_10 : decode cX12_plain 10 = .ok (.getfield 7, 3) := by decide +kernel
theorem dX12_plain_13 : decode cX12_plain 13 = .ok (.bipush 6, 2) := by decide +kernel
theorem dX12_plain_15 : decode cX12_plain 15 = .ok (.iaload, 1) := by decide +kernel
theorem dX12_plain_16 : decode cX12_plain 16 = .ok (.iconst 2, 1) := by decide +kernel
theorem dX12_plain_17 : decode cX12_plain 17 = .ok (.irem, 1) := by decide +kernel
theorem dX12_plain_18 : decode cX12_plain 18 = .ok (.ifCond .ne 7, 3) := by decide +kernel
theorem dX12_plain_21 : decode cX12_plain 21 = .ok (.iconst 1, 1) := by decide +kernel
theorem dX12_plain_22 : decode cX12_plain 22 = .ok (.goto 4, 3) := by decide +kernel
theorem dX12_plain_25 : decode cX12_plain 25 = .ok (.iconst 0, 1) := by decide +kernel
theorem dX12_plain_26 : decode cX12_plain 26 = .ok (.ireturn, 1) := by decide +kernel
theorem dX12_plain_27 : decode cX12_plain 27 = .ok (.aload_n 0, 1) := by decide +kernel
theorem dX12_plain_28 : decode cX12_plain 28 = .ok (.ldc 206, 2) := by decide +kernel
theorem dX12_plain_30 : decode cX12_plain 30 = .ok (.invokevirtual 112, 3) := by decide +kernel
theorem dX12_plain_33 : decode cX12_plain 33 = .ok (.ifCond .eq 8, 3) := by decide +kernel
theorem dX12_plain_36 : decode cX12_plain 36 = .ok (.aload_n 0, 1) := by decide +kernel
theorem dX12_plain_37 : decode cX12_plain 37 = .ok (.getfield 208, 3) := by decide +kernel
theorem dX12_plain_40 : decode cX12_plain 40 = .ok (.ireturn, 1) := by decide +kernel
theorem dX12_plain_41 : decode cX12_plain 41 = .ok (.aload_n 0, 1) := by decide +kernel
theorem dX12_plain_42 : decode cX12_plain 42 = .ok (.ldc 131, 2) := by decide +kernel
theorem dX12_plain_44 : decode cX12_plain 44 = .ok (.invokevirtual 112, 3) := by decide +kernel
theorem dX12_plain_47 : decode cX12_plain 47 = .ok (.ifCond .eq 24, 3) := by decide +kernel
theorem dX12_plain_50 : decode cX12_plain 50 = .ok (.aload_n 0, 1) := by decide +kernel
theorem dX12_plain_51 : decode cX12_plain 51 = .ok (.aload_n 0, 1) := by decide +kernel
theorem dX12_plain_52 : decode cX12_plain 52 = .ok (.getfield 29, 3) := by decide +kernel
theorem dX12_plain_55 : decode cX12_plain 55 = .ok (.iconst 0, 1) := by decide +kernel
theorem dX12_plain_56 : decode cX12_plain 56 = .ok (.iaload, 1) := by decide +kernel
theorem dX12_plain_57 : decode cX12_plain 57 = .ok (.bipush 8, 2) := by decide +kernel
theorem dX12_plain_59 : decode cX12_plain 59 = .ok (.invokevirtual 66, 3) := by decide +kernel
theorem dX12_plain_62 : decode cX12_plain 62 = .ok (.ifCond .le 7, 3) := by decide +kernel
theorem dX12_plain_65 : decode cX12_plain 65 = .ok (.iconst 1, 1) := by decide +kernel
theorem dX12_plain_66 : decode cX12_plain 66 = .ok (.goto 4, 3) := by decide +kernel
theorem dX12_plain_69 : decode cX12_plain 69 = .ok (.iconst 0, 1) := by decide +kernel
theorem dX12_plain_70 : decode cX12_plain 70 = .ok (.ireturn, 1) := by decide +kernel
theorem dX12_plain_71 : decode cX12_plain 71 = .ok (.aload_n 0, 1) := by decide +kernel
theorem dX12_plain_72 : decode cX12_plain 72 = .ok (.invokevirtual 212, 3) := by decide +kernel
theorem dX12_plain_75 : decode cX12_plain 75 = .ok (.istore_n 1, 1) := by decide +kernel
theorem dX12_plain_76 : decode cX12_plain 76 = .ok (.aload_n 0, 1) := by decide +kernel
theorem dX12_plain_77 : decode cX12_plain 77 = .ok (.getfield 25, 3) := by decide +kernel
theorem dX12_plain_80 : decode cX12_plain 80 = .ok (.iconst (-1), 1) := by decide +kernel
theorem dX12_plain_81 : decode cX12_plain 81 = .ok (.if_icmp .eq 5, 3) := by decide +kernel
theorem dX12_plain_84 : decode cX12_plain 84 = .ok (.iconst 0, 1) := by decide +kernel
theorem dX12_plain_85 : decode cX12_plain 85 = .ok (.ireturn, 1) := by decide +kernel
theorem dX12_plain_86 : decode cX12_plain 86 = .ok (.aload_n 0, 1) := by decide +kernel
theorem dX12_plain_87 : decode cX12_plain 87 = .ok (.bipush 60, 2) := by decide +kernel
theorem dX12_plain_89 : decode cX12_plain 89 = .ok (.invokevirtual 173, 3) := by decide +kernel
theorem dX12_plain_92 : decode cX12_plain 92 = .ok (.istore_n 2, 1) := by decide +kernel
theorem dX12_plain_93 : decode cX12_plain 93 = .ok (.iload_n 2, 1) := by decide +kernel
theorem dX12_plain_94 : decode cX12_plain 94 = .ok (.ifCond .ne 22, 3) := by decide +kernel
theorem dX12_plain_97 : decode cX12_plain 97 = .ok (.aload_n 0, 1) := by decide +kernel
theorem dX12_plain_98 : decode cX12_plain 98 = .ok (.bipush 62, 2) := by decide +kernel
theorem dX12_plain_100 : decode cX12_plain 100 = .ok (.invokevirtual 173, 3) := by decide +kernel
theorem dX12_plain_103 : decode cX12_plain 103 = .ok (.ifCond .ne 13, 3) := by decide +kernel
theorem dX12_plain_106 : decode cX12_plain 106 = .ok (.aload_n 0, 1) := by decide +kernel
theorem dX12_plain_107 : decode cX12_plain 107 = .ok (.aload_n 0, 1) := by decide +kernel
theorem dX12_plain_108 : decode cX12_plain 108 = .ok (.getfield 82, 3) := by decide +kernel
theorem dX12_plain_111 : decode cX12_plain 111 = .ok (.invokevirtual 108, 3) := by decide +kernel
theorem dX12_plain_114 : decode cX12_plain 114 = .ok (.iconst 0, 1) := by decide +kernel
theorem dX12_plain_115 : decode cX12_plain 115 = .ok (.ireturn, 1) := by decide +kernel
theorem dX12_plain_116 : decode cX12_plain 116 = .ok (.aload_n 0, 1) := by decide +kernel
theorem dX12_plain_117 : decode cX12_plain 117 = .ok (.dup, 1) := by decide +kernel
theorem dX12_plain_118 : decode cX12_plain 118 = .ok (.getfield 82, 3) := by decide +kernel
theorem dX12_plain_121 : decode cX12_plain 121 = .ok (.iconst 1, 1) := by decide +kernel
theorem dX12_plain_122 : decode cX12_plain 122 = .ok (.iadd, 1) := by decide +kernel
theorem dX12_plain_123 : decode cX12_plain 123 = .ok (.putfield 82, 3) := by decide +kernel
theorem dX12_plain_126 : decode cX12_plain 126 = .ok (.aload_n 0, 1) := by decide +kernel
theorem dX12_plain_127 : decode cX12_plain 127 = .ok (.invokevirtual 212, 3) := by decide +kernel
theorem dX12_plain_130 : decode cX12_plain 130 = .ok (.istore_n 3, 1) := by decide +kernel
theorem dX12_plain_131 : decode cX12_plain 131 = .ok (.iload_n 2, 1) := by decide +kernel
theorem dX12_plain_132 : decode cX12_plain 132 = .ok (.ifCond .eq 16, 3) := by decide +kernel
theorem dX12_plain_135 : decode cX12_plain 135 = .ok (.iload_n 1, 1) := by decide +kernel
theorem dX12_plain_136 : decode cX12_plain 136 = .ok (.iload_n 3, 1) := by decide +kernel
theorem dX12_plain_137 : decode cX12_plain 137 = .ok (.if_icmp .ge 7, 3) := by decide +kernel
theorem dX12_plain_140 : decode cX12_plain 140 = .ok (.iconst 1, 1) := by decide +kernel
theorem dX12_plain_141 : decode cX12_plain 141 = .ok (.goto 17, 3) := by decide +kernel
theorem dX12_plain_144 : decode cX12_plain 144 = .ok (.iconst 0, 1) := by decide +kernel
theorem dX12_plain_145 : decode cX12_plain 145 = .ok (.goto 13, 3) := by decide +kernel
theorem dX12_plain_148 : decode cX12_plain 148 = .ok (.iload_n 1, 1) := by decide +kernel
theorem dX12_plain_149 : decode cX12_plain 149 = .ok (.iload_n 3, 1) := by decide +kernel
theorem dX12_plain_150 : decode cX12_plain 150 = .ok (.if_icmp .le 7, 3) := by decide +kernel
theorem dX12_plain_153 : decode cX12_plain 153 = .ok (.iconst 1, 1) := by decide +kernel
theorem dX12_plain_154 : decode cX12_plain 154 = .ok (.goto 4, 3) := by decide +kernel
theorem dX12_plain_157 : decode cX12_plain 157 = .ok (.iconst 0, 1) := by decide +kernel
theorem dX12_plain_158 : decode cX12_plain 158 = .ok (.ireturn, 1) := by decide +kernel
theorem dX12_atom_0 : decode cX12_atom 0 = .ok (.aload_n 0, 1) := by decide +kernel
theorem dX12_atom_1 : decode cX12_atom 1 = .ok (.getfield 25, 3) := by decide +kernel
theorem dX12_atom_4 : decode cX12_atom 4 = .ok (.iconst (-1), 1) := by decide +kernel
theorem dX12_atom_5 : decode cX12_atom 5 = .ok (.if_icmp .eq 5, 3) := by decide +kernel
theorem dX12_atom_8 : decode cX12_atom 8 = .ok (.iconst 0, 1) := by decide +kernel
theorem dX12_atom_9 : decode cX12_atom 9 = .ok (.ireturn, 1) := by decide +kernel
theorem dX12_atom_10 : decode cX12_atom 10 = .ok (.aload_n 0, 1) := by decide +kernel
theorem dX12_atom_11 : decode cX12_atom 11 = .ok (.invokevirtual 105, 3) := by decide +kernel
theorem dX12_atom_14 : decode cX12_atom 14 = .ok (.istore_n 1, 1) := by decide +kernel
theorem dX12_atom_15 : decode cX12_atom 15 = .ok (.aload_n 0, 1) := by decide +kernel
theorem dX12_atom_16 : decode cX12_atom 16 = .ok (.ldc 215, 2) := by decide +kernel
theorem dX12_atom_18 : decode cX12_atom 18 = .ok (.invokevirtual 112, 3) := by decide +kernel
theorem dX12_atom_21 : decode cX12_atom 21 = .ok (.istore_n 2, 1) := by decide +kernel
theorem dX12_atom_22 : decode cX12_atom 22 = .ok (.iload_n 2, 1) := by decide +kernel
theorem dX12_atom_23 : decode cX12_atom 23 = .ok (.ifCond .ne 17, 3) := by decide +kernel
theorem dX12_atom_26 : decode cX12_atom 26 = .ok (.aload_n 0, 1) := by decide +kernel
theorem dX12_atom_27 : decode cX12_atom 27 = .ok (.bipush 40, 2) := by decide +kernel
theorem dX12_atom_29 : decode cX12_atom 29 = .ok (.invokevirtual 173, 3) := by decide +kernel
theorem dX12_atom_32 : decode cX12_atom 32 = .ok (.ifCond .ne 8, 3) := by decide +kernel
theorem dX12_atom_35 : decode cX12_atom 35 = .ok (.aload_n 0, 1) := by decide +kernel
theorem dX12_atom_36 : decode cX12_atom 36 = .ok (.invokevirtual 217, 3) := by decide +kernel
theorem dX12_atom_39 : decode cX12_atom 39 = .ok (.ireturn, 1) := by decide +kernel
theorem dX12_atom_40 : decode cX12_atom 40 = .ok (.aload_n 0, 1) := by decide +kernel
theorem dX12_atom_41 : decode cX12_atom 41 = .ok (.getfield 164, 3) := by decide +kernel
theorem dX12_atom_44 : decode cX12_atom 44 = .ok (.bipush 6, 2) := by decide +kernel
theorem dX12_atom_46 : decode cX12_atom 46 = .ok (.if_icmp .ne 10, 3) := by decide +kernel
theorem dX12_atom_49 : decode cX12_atom 49 = .ok (.aload_n 0, 1) := by decide +kernel
theorem dX12_atom_50 : decode cX12_atom 50 = .ok (.iload_n 1, 1) := by decide +kernel
theorem dX12_atom_51 : decode cX12_atom 51 = .ok (.invokevirtual 108, 3) := by decide +kernel
theorem dX12_atom_54 : decode cX12_atom 54 = .ok (.iconst 0, 1) := by decide +kernel
theorem dX12_atom_55 : decode cX12_atom 55 = .ok (.ireturn, 1) := by decide +kernel
theorem dX12_atom_56 : decode cX12_atom 56 = .ok (.aload_n 0, 1) := by decide +kernel
theorem dX12_atom_57 : decode cX12_atom 57 = .ok (.dup, 1) := by decide +kernel
theorem dX12_atom_58 : decode cX12_atom 58 = .ok (.getfield 164, 3) := by decide +kernel
theorem dX12_atom_61 : decode cX12_atom 61 = .ok (.iconst 1, 1) := by decide +kernel
theorem dX12_atom_62 : decode cX12_atom 62 = .ok (.iadd, 1) := by decide +kernel
theorem dX12_atom_63 : decode cX12_atom 63 = .ok (.putfield 164, 3) := by decide +kernel
theorem dX12_atom_66 : decode cX12_atom 66 = .ok (.iconst 0, 1) := by decide +kernel
theorem dX12_atom_67 : decode cX12_atom 67 = .ok (.istore_n 3, 1) := by decide +kernel
theorem dX12_atom_68 : decode cX12_atom 68 = .ok (.iload_n 2, 1) := by decide +kernel
theorem dX12_atom_69 : decode cX12_atom 69 = .ok (.ifCond .eq 19, 3) := by decide +kernel
theorem dX12_atom_72 : decode cX12_atom 72 = .ok (.aload_n 0, 1) := by decide +kernel
theorem dX12_atom_73 : decode cX12_atom 73 = .ok (.invokevirtual 221, 3) := by decide +kernel
theorem dX12_atom_76 : decode cX12_atom 76 = .ok (.ifCond .ne 7, 3) := by decide +kernel
theorem dX12_atom_79 : decode cX12_atom 79 = .ok (.iconst 1, 1) := by decide +kernel
theorem dX12_atom_80 : decode cX12_atom 80 = .ok (.goto 4, 3) := by decide +kernel
theorem dX12_atom_83 : decode cX12_atom 83 = .ok (.iconst 0, 1) := by decide +kernel
theorem dX12_atom_84 : decode cX12_atom 84 = .ok (.istore_n 3, 1) := by decide +kernel
theorem dX12_atom_85 : decode cX12_atom 85 = .ok (.goto 53, 3) := by decide +kernel
theorem dX12_atom_88 : decode cX12_atom 88 = .ok (.aload_n 0, 1) := by decide +kernel
theorem dX12_atom_89 : decode cX12_atom 89 = .ok (.dup, 1) := by decide +kernel
theorem dX12_atom_90 : decode cX12_atom 90 = .ok (.getfield 82, 3) := by decide +kernel
theorem dX12_atom_93 : decode cX12_atom 93 = .ok (.iconst 1, 1) := by decide +kernel
theorem dX12_atom_94 : decode cX12_atom 94 = .ok (.iadd, 1) := by decide +kernel
theorem dX12_atom_95 : decode cX12_atom 95 = .ok (.putfield 82, 3) := by decide +kernel
theorem dX12_atom_98 : decode cX12_atom 98 = .ok (.aload_n 0, 1) := by decide +kernel
theorem dX12_atom_99 : decode cX12_atom 99 = .ok (.invokevirtual 224, 3) := by decide +kernel
theorem dX12_atom_102 : decode cX12_atom 102 = .ok (.istore_n 3, 1) := by decide +kernel
theorem dX12_atom_103 : decode cX12_atom 103 = .ok (.aload_n 0, 1) := by decide +kernel
theorem dX12_atom_104 : decode cX12_atom 104 = .ok (.getfield 25, 3) := by decide +kernel
theorem dX12_atom_107 : decode cX12_atom 107 = .ok (.iconst (-1), 1) := by decide +kernel
theorem dX12_atom_108 : decode cX12_atom 108 = .ok (.if_icmp .ne 20, 3) := by decide +kernel
theorem dX12_atom_111 : decode cX12_atom 111 = .ok (.aload_n 0, 1) := by decide +kernel
theorem dX12_atom_112 : decode cX12_atom 112 = .ok (.bipush 41, 2) := by decide +kernel
theorem dX12_atom_114 : decode cX12_atom 114 = .ok (.invokevirtual 173, 3) := by decide +kernel
theorem dX12_atom_117 : decode cX12_atom 117 = .ok (.ifCond .ne 11, 3) := by decide +kernel
theorem dX12_atom_120 : decode cX12_atom 120 = .ok (.aload_n 0, 1) := by decide +kernel
theorem dX12_atom_121 : decode cX12_atom 121 = .ok (.aload_n 0, 1) := by decide +kernel
theorem dX12_atom_122 : decode cX12_atom 122 = .ok (.getfield 82, 3) := by decide +kernel
theorem dX12_atom_125 : decode cX12_atom 125 = .ok (.invokevirtual 108, 3) := by decide +kernel
theorem dX12_atom_128 : decode cX12_atom 128 = .ok (.aload_n 0, 1) := by decide +kernel
theorem dX12_atom_129 : decode cX12_atom 129 = .ok (.dup, 1) := by decide +kernel
theorem dX12_atom_130 : decode cX12_atom 130 = .ok (.getfield 82, 3) := by decide +kernel
theorem dX12_atom_133 : decode cX12_atom 133 = .ok (.iconst 1, 1) := by decide +kernel
theorem dX12_atom_134 : decode cX12_atom 134 = .ok (.iadd, 1) := by decide +kernel
theorem dX12_atom_135 : decode cX12_atom 135 = .ok (.putfield 82, 3) := by decide +kernel
theorem dX12_atom_138 : decode cX12_atom 138 = .ok (.aload_n 0, 1) := by decide +kernel
theorem dX12_atom_139 : decode cX12_atom 139 = .ok (.dup, 1) := by decide +kernel
theorem dX12_atom_140 : decode cX12_atom 140 = .ok (.getfield 164, 3) := by decide +kernel
theorem dX12_atom_143 : decode cX12_atom 143 = .ok (.iconst 1, 1) := by decide +kernel
theorem dX12_atom_144 : decode cX12_atom 144 = .ok (.isub, 1) := by decide +kernel
theorem dX12_atom_145 : decode cX12_atom 145 = .ok (.putfield 164, 3) := by decide +kernel
theorem dX12_atom_148 : decode cX12_atom 148 = .ok (.iload_n 3, 1) := by decide +kernel
theorem dX12_atom_149 : decode cX12_atom 149 = .ok (.ireturn, 1) := by decide +kernel
theorem dX12_every_0 : decode cX12_every 0 = .ok (.aload_n 0, 1) := by decide +kernel
theorem dX12_every_1 : decode cX12_every 1 = .ok (.invokevirtual 221, 3) := by decide +kernel
theorem dX12_every_4 : decode cX12_every 4 = .ok (.istore_n 1, 1) := by decide +kernel
theorem dX12_every_5 : decode cX12_every 5 = .ok (.aload_n 0, 1) := by decide +kernel
theorem dX12_every_6 : decode cX12_every 6 = .ok (.getfield 25, 3) := by decide +kernel
theorem dX12_every_9 : decode cX12_every 9 = .ok (.iconst (-1), 1) := by decide +kernel
theorem dX12_every_10 : decode cX12_every 10 = .ok (.if_icmp .ne 34, 3) := by decide +kernel
theorem dX12_every_13 : decode cX12_every 13 = .ok (.aload_n 0, 1) := by decide +kernel
theorem dX12_every_14 : decode cX12_every 14 = .ok (.ldc 227, 2) := by decide +kernel
theorem dX12_every_16 : decode cX12_every 16 = .ok (.invokevirtual 112, 3) := by decide +kernel
theorem dX12_every_19 : decode cX12_every 19 = .ok (.ifCond .eq 25, 3) := by decide +kernel
theorem dX12_every_22 : decode cX12_every 22 = .ok (.aload_n 0, 1) := by decide +kernel
theorem dX12_every_23 : decode cX12_every 23 = .ok (.invokevirtual 221, 3) := by decide +kernel
theorem dX12_every_26 : decode cX12_every 26 = .ok (.istore_n 2, 1) := by decide +kernel
theorem dX12_every_27 : decode cX12_every 27 = .ok (.iload_n 1, 1) := by decide +kernel
theorem dX12_every_28 : decode cX12_every 28 = .ok (.ifCond .eq 11, 3) := by decide +kernel
theorem dX12_every_31 : decode cX12_every 31 = .ok (.iload_n 2, 1) := by decide +kernel
theorem dX12_every_32 : decode cX12_every 32 = .ok (.ifCond .eq 7, 3) := by decide +kernel
theorem dX12_every_35 : decode cX12_every 35 = .ok (.iconst 1, 1) := by decide +kernel
theorem dX12_every_36 : decode cX12_every 36 = .ok (.goto 4, 3) := by decide +kernel
theorem dX12_every_39 : decode cX12_every 39 = .ok (.iconst 0, 1) := by decide +kernel
theorem dX12_every_40 : decode cX12_every 40 = .ok (.istore_n 1, 1) := by decide +kernel
theorem dX12_every_41 : decode cX12_every 41 = .ok (.goto (-36), 3) := by decide +kernel
theorem dX12_every_44 : decode cX12_every 44 = .ok (.iload_n 1, 1) := by decide +kernel
theorem dX12_every_45 : decode cX12_every 45 = .ok (.ireturn, 1) := by decide +kernel
theorem dX12_some_0 : decode cX12_some 0 = .ok (.aload_n 0, 1) := by decide +kernel
theorem dX12_some_1 : decode cX12_some 1 = .ok (.invokevirtual 229, 3) := by decide +kernel
theorem dX12_some_4 : decode cX12_some 4 = .ok (.istore_n 1, 1) := by decide +kernel
theorem dX12_some_5 : decode cX12_some 5 = .ok (.aload_n 0, 1) := by decide +kernel
theorem dX12_some_6 : decode cX12_some 6 = .ok (.getfield 25, 3) := by decide +kernel
theorem dX12_some_9 : decode cX12_some 9 = .ok (.iconst (-1), 1) := by decide +kernel
theorem dX12_some_10 : decode cX12_some 10 = .ok (.if_icmp .ne 34, 3) := by decide +kernel
theorem dX12_some_13 : decode cX12_some 13 = .ok (.aload_n 0, 1) := by decide +kernel
theorem dX12_some_14 : decode cX12_some 14 = .ok (.ldc 232, 2) := by decide +kernel
theorem dX12_some_16 : decode cX12_some 16 = .ok (.invokevirtual 112, 3) := by decide +kernel
theorem dX12_some_19 : decode cX12_some 19 = .ok (.ifCond .eq 25, 3) := by decide +kernel
theorem dX12_some_22 : decode cX12_some 22 = .ok (.aload_n 0, 1) := by decide +kernel
theorem dX12_some_23 : decode cX12_some 23 = .ok (.invokevirtual 229, 3) := by decide +kernel
theorem dX12_some_26 : decode cX12_some 26 = .ok (.istore_n 2, 1) := by decide +kernel
theorem dX12_some_27 : decode cX12_some 27 = .ok (.iload_n 1, 1) := by decide +kernel
theorem dX12_some_28 : decode cX12_some 28 = .ok (.ifCond .ne 7, 3) := by decide +kernel
theorem dX12_some_31 : decode cX12_some 31 = .ok (.iload_n 2, 1) := by decide +kernel
theorem dX12_some_32 : decode cX12_some 32 = .ok (.ifCond .eq 7, 3) := by decide +kernel
theorem dX12_some_35 : decode cX12_some 35 = .ok (.iconst 1, 1) := by decide +kernel
theorem dX12_some_36 : decode cX12_some 36 = .ok (.goto 4, 3) := by decide +kernel
theorem dX12_some_39 : decode cX12_some 39 = .ok (.iconst 0, 1) := by decide +kernel
theorem dX12_some_40 : decode cX12_some 40 = .ok (.istore_n 1, 1) := by decide +kernel
theorem dX12_some_41 : decode cX12_some 41 = .ok (.goto (-36), 3) := by decide +kernel
theorem dX12_some_44 : decode cX12_some 44 = .ok (.iload_n 1, 1) := by decide +kernel
theorem dX12_some_45 : decode cX12_some 45 = .ok (.ireturn, 1) := by decide +kernel
theorem dX12_lawLine_0 : decode cX12_lawLine 0 = .ok (.aload_n 0, 1) := by decide +kernel
theorem dX12_lawLine_1 : decode cX12_lawLine 1 = .ok (.ldc 133, 2) := by decide +kernel
theorem dX12_lawLine_3 : decode cX12_lawLine 3 = .ok (.invokevirtual 112, 3) := by decide +kernel
theorem dX12_lawLine_6 : decode cX12_lawLine 6 = .ok (.ifCond .eq 7, 3) := by decide +kernel
theorem dX12_lawLine_9 : decode cX12_lawLine 9 = .ok (.iconst 0, 1) := by decide +kernel
theorem dX12_lawLine_10 : decode cX12_lawLine 10 = .ok (.goto 30, 3) := by decide +kernel
theorem dX12_lawLine_13 : decode cX12_lawLine 13 = .ok (.aload_n 0, 1) := by decide +kernel
theorem dX12_lawLine_14 : decode cX12_lawLine 14 = .ok (.ldc 234, 2) := by decide +kernel
theorem dX12_lawLine_16 : decode cX12_lawLine 16 = .ok (.invokevirtual 112, 3) := by decide +kernel
theorem dX12_lawLine_19 : decode cX12_lawLine 19 = .ok (.ifCond .eq 7, 3) := by decide +kernel
theorem dX12_lawLine_22 : decode cX12_lawLine 22 = .ok (.iconst 1, 1) := by decide +kernel
theorem dX12_lawLine_23 : decode cX12_lawLine 23 = .ok (.goto 17, 3) := by decide +kernel
theorem dX12_lawLine_26 : decode cX12_lawLine 26 = .ok (.aload_n 0, 1) := by decide +kernel
theorem dX12_lawLine_27 : decode cX12_lawLine 27 = .ok (.ldc 236, 2) := by decide +kernel
theorem dX12_lawLine_29 : decode cX12_lawLine 29 = .ok (.invokevirtual 112, 3) := by decide +kernel
theorem dX12_lawLine_32 : decode cX12_lawLine 32 = .ok (.ifCond .eq 7, 3) := by decide +kernel
theorem dX12_lawLine_35 : decode cX12_lawLine 35 = .ok (.iconst 2, 1) := by decide +kernel
theorem dX12_lawLine_36 : decode cX12_lawLine 36 = .ok (.goto 4, 3) := by decide +kernel
theorem dX12_lawLine_39 : decode cX12_lawLine 39 = .ok (.iconst (-1), 1) := by decide +kernel
theorem dX12_lawLine_40 : decode cX12_lawLine 40 = .ok (.istore_n 1, 1) := by decide +kernel
theorem dX12_lawLine_41 : decode cX12_lawLine 41 = .ok (.iload_n 1, 1) := by decide +kernel
theorem dX12_lawLine_42 : decode cX12_lawLine 42 = .ok (.iconst (-1), 1) := by decide +kernel
theorem dX12_lawLine_43 : decode cX12_lawLine 43 = .ok (.if_icmp .ne 12, 3) := by decide +kernel
theorem dX12_lawLine_46 : decode cX12_lawLine 46 = .ok (.aload_n 0, 1) := by decide +kernel
theorem dX12_lawLine_47 : decode cX12_lawLine 47 = .ok (.aload_n 0, 1) := by decide +kernel
theorem dX12_lawLine_48 : decode cX12_lawLine 48 = .ok (.getfield 82, 3) := by decide +kernel
theorem dX12_lawLine_51 : decode cX12_lawLine 51 = .ok (.invokevirtual 108, 3) := by decide +kernel
theorem dX12_lawLine_54 : decode cX12_lawLine 54 = .ok (.return_, 1) := by decide +kernel
theorem dX12_lawLine_55 : decode cX12_lawLine 55 = .ok (.aload_n 0, 1) := by decide +kernel
theorem dX12_lawLine_56 : decode cX12_lawLine 56 = .ok (.iconst 0, 1) := by decide +kernel
theorem dX12_lawLine_57 : decode cX12_lawLine 57 = .ok (.bipush 99, 2) := by decide +kernel
theorem dX12_lawLine_59 : decode cX12_lawLine 59 = .ok (.invokevirtual 116, 3) := by decide +kernel
theorem dX12_lawLine_62 : decode cX12_lawLine 62 = .ok (.istore_n 2, 1) := by decide +kernel
theorem dX12_lawLine_63 : decode cX12_lawLine 63 = .ok (.aload_n 0, 1) := by decide +kernel
theorem dX12_lawLine_64 : decode cX12_lawLine 64 = .ok (.getfield 25, 3) := by decide +kernel
theorem dX12_lawLine_67 : decode cX12_lawLine 67 = .ok (.iconst (-1), 1) := by decide +kernel
theorem dX12_lawLine_68 : decode cX12_lawLine 68 = .ok (.if_icmp .eq 4, 3) := by decide +kernel
theorem dX12_lawLine_71 : decode cX12_lawLine 71 = .ok (.return_, 1) := by decide +kernel
theorem dX12_lawLine_72 : decode cX12_lawLine 72 = .ok (.aload_n 0, 1) := by decide +kernel
theorem dX12_lawLine_73 : decode cX12_lawLine 73 = .ok (.ldc 238, 2) := by decide +kernel
theorem dX12_lawLine_75 : decode cX12_lawLine 75 = .ok (.invokevirtual 112, 3) := by decide +kernel
theorem dX12_lawLine_78 : decode cX12_lawLine 78 = .ok (.ifCond .eq 10, 3) := by decide +kernel
theorem dX12_lawLine_81 : decode cX12_lawLine 81 = .ok (.aload_n 0, 1) := by decide +kernel
theorem dX12_lawLine_82 : decode cX12_lawLine 82 = .ok (.invokevirtual 224, 3) := by decide +kernel
theorem dX12_lawLine_85 : decode cX12_lawLine 85 = .ok (.ifCond .eq 7, 3) := by decide +kernel
theorem dX12_lawLine_88 : decode cX12_lawLine 88 = .ok (.iconst 1, 1) := by decide +kernel
theorem dX12_lawLine_89 : decode cX12_lawLine 89 = .ok (.goto 4, 3) := by decide +kernel
theorem dX12_lawLine_92 : decode cX12_lawLine 92 = .ok (.iconst 0, 1) := by decide +kernel
theorem dX12_lawLine_93 : decode cX12_lawLine 93 = .ok (.istore_n 3, 1) := by decide +kernel
theorem dX12_lawLine_94 : decode cX12_lawLine 94 = .ok (.aload_n 0, 1) := by decide +kernel
theorem dX12_lawLine_95 : decode cX12_lawLine 95 = .ok (.getfield 25, 3) := by decide +kernel
theorem dX12_lawLine_98 : decode cX12_lawLine 98 = .ok (.iconst (-1), 1) := by decide +kernel
theorem dX12_lawLine_99 : decode cX12_lawLine 99 = .ok (.if_icmp .ne 7, 3) := by decide +kernel
theorem dX12_lawLine_102 : decode cX12_lawLine 102 = .ok (.iload_n 3, 1) := by decide +kernel
theorem dX12_lawLine_103 : decode cX12_lawLine 103 = .ok (.ifCond .ne 4, 3) := by decide +kernel
theorem dX12_lawLine_106 : decode cX12_lawLine 106 = .ok (.return_, 1) := by decide +kernel
theorem dX12_lawLine_107 : decode cX12_lawLine 107 = .ok (.aload_n 0, 1) := by decide +kernel
theorem dX12_lawLine_108 : decode cX12_lawLine 108 = .ok (.dup, 1) := by decide +kernel
theorem dX12_lawLine_109 : decode cX12_lawLine 109 = .ok (.getfield 240, 3) := by decide +kernel
theorem dX12_lawLine_112 : decode cX12_lawLine 112 = .ok (.iload_n 1, 1) := by decide +kernel
theorem dX12_lawLine_113 : decode cX12_lawLine 113 = .ok (.ifCond .ne 7, 3) := by decide +kernel
theorem dX12_lawLine_116 : decode cX12_lawLine 116 = .ok (.iload_n 2, 1) := by decide +kernel
theorem dX12_lawLine_117 : decode cX12_lawLine 117 = .ok (.goto 4, 3) := by decide +kernel
theorem dX12_lawLine_120 : decode cX12_lawLine 120 = .ok (.iconst 0, 1) := by decide +kernel
theorem dX12_lawLine_121 : decode cX12_lawLine 121 = .ok (.iadd, 1) := by decide +kernel
theorem dX12_lawLine_122 : decode cX12_lawLine 122 = .ok (.putfield 240, 3) := by decide +kernel
theorem dX12_lawLine_125 : decode cX12_lawLine 125 = .ok (.aload_n 0, 1) := by decide +kernel
theorem dX12_lawLine_126 : decode cX12_lawLine 126 = .ok (.dup, 1) := by decide +kernel
theorem dX12_lawLine_127 : decode cX12_lawLine 127 = .ok (.getfield 242, 3) := by decide +kernel
theorem dX12_lawLine_130 : decode cX12_lawLine 130 = .ok (.iload_n 1, 1) := by decide +kernel
theorem dX12_lawLine_131 : decode cX12_lawLine 131 = .ok (.iconst 1, 1) := by decide +kernel
theorem dX12_lawLine_132 : decode cX12_lawLine 132 = .ok (.if_icmp .ne 7, 3) := by decide +kernel
theorem dX12_lawLine_135 : decode cX12_lawLine 135 = .ok (.iload_n 2, 1) := by decide +kernel
theorem dX12_lawLine_136 : decode cX12_lawLine 136 = .ok (.goto 4, 3) := by decide +kernel
theorem dX12_lawLine_139 : decode cX12_lawLine 139 = .ok (.iconst 0, 1) := by decide +kernel
theorem dX12_lawLine_140 : decode cX12_lawLine 140 = .ok (.iadd, 1) := by decide +kernel
theorem dX12_lawLine_141 : decode cX12_lawLine 141 = .ok (.putfield 242, 3) := by decide +kernel
theorem dX12_lawLine_144 : decode cX12_lawLine 144 = .ok (.aload_n 0, 1) := by decide +kernel
theorem dX12_lawLine_145 : decode cX12_lawLine 145 = .ok (.dup, 1) := by decide +kernel
theorem dX12_lawLine_146 : decode cX12_lawLine 146 = .ok (.getfield 245, 3) := by decide +kernel
theorem dX12_lawLine_149 : decode cX12_lawLine 149 = .ok (.iload_n 1, 1) := by decide +kernel
theorem dX12_lawLine_150 : decode cX12_lawLine 150 = .ok (.iconst 2, 1) := by decide +kernel
theorem dX12_lawLine_151 : decode cX12_lawLine 151 = .ok (.if_icmp .ne 7, 3) := by decide +kernel
theorem dX12_lawLine_154 : decode cX12_lawLine 154 = .ok (.iload_n 2, 1) := by decide +kernel
theorem dX12_lawLine_155 : decode cX12_lawLine 155 = .ok (.goto 4, 3) := by decide +kernel
theorem dX12_lawLine_158 : decode cX12_lawLine 158 = .ok (.iconst 0, 1) := by decide +kernel
theorem dX12_lawLine_159 : decode cX12_lawLine 159 = .ok (.iadd, 1) := by decide +kernel
theorem dX12_lawLine_160 : decode cX12_lawLine 160 = .ok (.putfield 245, 3) := by decide +kernel
theorem dX12_lawLine_163 : decode cX12_lawLine 163 = .ok (.return_, 1) := by decide +kernel
theorem dX12_law_0 : decode cX12_law 0 = .ok (.aload_n 0, 1) := by decide +kernel
theorem dX12_law_1 : decode cX12_law 1 = .ok (.invokevirtual 180, 3) := by decide +kernel
theorem dX12_law_4 : decode cX12_law 4 = .ok (.aload_n 0, 1) := by decide +kernel
theorem dX12_law_5 : decode cX12_law 5 = .ok (.iconst 1, 1) := by decide +kernel
theorem dX12_law_6 : decode cX12_law 6 = .ok (.invokevirtual 183, 3) := by decide +kernel
theorem dX12_law_9 : decode cX12_law 9 = .ok (.istore_n 1, 1) := by decide +kernel
theorem dX12_law_10 : decode cX12_law 10 = .ok (.aload_n 0, 1) := by decide +kernel
theorem dX12_law_11 : decode cX12_law 11 = .ok (.aload_n 0, 1) := by decide +kernel
theorem dX12_law_12 : decode cX12_law 12 = .ok (.getfield 25, 3) := by decide +kernel
theorem dX12_law_15 : decode cX12_law 15 = .ok (.iconst (-1), 1) := by decide +kernel
theorem dX12_law_16 : decode cX12_law 16 = .ok (.if_icmp .eq 7, 3) := by decide +kernel
theorem dX12_law_19 : decode cX12_law 19 = .ok (.iconst 1, 1) := by decide +kernel
theorem dX12_law_20 : decode cX12_law 20 = .ok (.goto 4, 3) := by decide +kernel
theorem dX12_law_23 : decode cX12_law 23 = .ok (.iconst 0, 1) := by decide +kernel
theorem dX12_law_24 : decode cX12_law 24 = .ok (.putfield 59, 3) := by decide +kernel
theorem dX12_law_27 : decode cX12_law 27 = .ok (.aload_n 0, 1) := by decide +kernel
theorem dX12_law_28 : decode cX12_law 28 = .ok (.getfield 59, 3) := by decide +kernel
theorem dX12_law_31 : decode cX12_law 31 = .ok (.ifCond .le 5, 3) := by decide +kernel
theorem dX12_law_34 : decode cX12_law 34 = .ok (.iconst 0, 1) := by decide +kernel
theorem dX12_law_35 : decode cX12_law 35 = .ok (.ireturn, 1) := by decide +kernel
theorem dX12_law_36 : decode cX12_law 36 = .ok (.aload_n 0, 1) := by decide +kernel
theorem dX12_law_37 : decode cX12_law 37 = .ok (.getfield 7, 3) := by decide +kernel
theorem dX12_law_40 : decode cX12_law 40 = .ok (.iconst 1, 1) := by decide +kernel
theorem dX12_law_41 : decode cX12_law 41 = .ok (.iload_n 1, 1) := by decide +kernel
theorem dX12_law_42 : decode cX12_law 42 = .ok (.iastore, 1) := by decide +kernel
theorem dX12_law_43 : decode cX12_law 43 = .ok (.aload_n 0, 1) := by decide +kernel
theorem dX12_law_44 : decode cX12_law 44 = .ok (.getfield 7, 3) := by decide +kernel
theorem dX12_law_47 : decode cX12_law 47 = .ok (.iconst 2, 1) := by decide +kernel
theorem dX12_law_48 : decode cX12_law 48 = .ok (.aload_n 0, 1) := by decide +kernel
theorem dX12_law_49 : decode cX12_law 49 = .ok (.getfield 85, 3) := by decide +kernel
theorem dX12_law_52 : decode cX12_law 52 = .ok (.iastore, 1) := by decide +kernel
theorem dX12_law_53 : decode cX12_law 53 = .ok (.iconst 0, 1) := by decide +kernel
theorem dX12_law_54 : decode cX12_law 54 = .ok (.istore_n 2, 1) := by decide +kernel
theorem dX12_law_55 : decode cX12_law 55 = .ok (.iload_n 2, 1) := by decide +kernel
theorem dX12_law_56 : decode cX12_law 56 = .ok (.aload_n 0, 1) := by decide +kernel
theorem dX12_law_57 : decode cX12_law 57 = .ok (.getfield 85, 3) := by decide +kernel
theorem dX12_law_60 : decode cX12_law 60 = .ok (.if_icmp .ge 25, 3) := by decide +kernel
theorem dX12_law_63 : decode cX12_law 63 = .ok (.aload_n 0, 1) := by decide +kernel
theorem dX12_law_64 : decode cX12_law 64 = .ok (.getfield 7, 3) := by decide +kernel
theorem dX12_law_67 : decode cX12_law 67 = .ok (.sipush 337, 3) := by decide +kernel
theorem dX12_law_70 : decode cX12_law 70 = .ok (.iload_n 2, 1) := by decide +kernel
theorem dX12_law_71 : decode cX12_law 71 = .ok (.iadd, 1) := by decide +kernel
theorem dX12_law_72 : decode cX12_law 72 = .ok (.aload_n 0, 1) := by decide +kernel
theorem dX12_law_73 : decode cX12_law 73 = .ok (.getfield 22, 3) := by decide +kernel
theorem dX12_law_76 : decode cX12_law 76 = .ok (.iload_n 2, 1) := by decide +kernel
theorem dX12_law_77 : decode cX12_law 77 = .ok (.iaload, 1) := by decide +kernel
theorem dX12_law_78 : decode cX12_law 78 = .ok (.iastore, 1) := by decide +kernel
theorem dX12_law_79 : decode cX12_law 79 = .ok (.iinc 2 1, 3) := by decide +kernel
theorem dX12_law_82 : decode cX12_law 82 = .ok (.goto (-27), 3) := by decide +kernel
theorem dX12_law_85 : decode cX12_law 85 = .ok (.aload_n 0, 1) := by decide +kernel
theorem dX12_law_86 : decode cX12_law 86 = .ok (.iconst 0, 1) := by decide +kernel
theorem dX12_law_87 : decode cX12_law 87 = .ok (.putfield 190, 3) := by decide +kernel
theorem dX12_law_90 : decode cX12_law 90 = .ok (.iload_n 1, 1) := by decide +kernel
theorem dX12_law_91 : decode cX12_law 91 = .ok (.ireturn, 1) := by decide +kernel
theorem dX12_fault_0 : decode cX12_fault 0 = .ok (.aload_n 0, 1) := by decide +kernel
theorem dX12_fault_1 : decode cX12_fault 1 = .ok (.iconst 0, 1) := by decide +kernel
theorem dX12_fault_2 : decode cX12_fault 2 = .ok (.putfield 59, 3) := by decide +kernel
theorem dX12_fault_5 : decode cX12_fault 5 = .ok (.aload_n 0, 1) := by decide +kernel
theorem dX12_fault_6 : decode cX12_fault 6 = .ok (.getfield 25, 3) := by decide +kernel
theorem dX12_fault_9 : decode cX12_fault 9 = .ok (.ireturn, 1) := by decide +kernel
theorem dX12_asks_0 : decode cX12_asks 0 = .ok (.aload_n 0, 1) := by decide +kernel
theorem dX12_asks_1 : decode cX12_asks 1 = .ok (.iload_n 1, 1) := by decide +kernel
theorem dX12_asks_2 : decode cX12_asks 2 = .ok (.iconst 1, 1) := by decide +kernel
theorem dX12_asks_3 : decode cX12_asks 3 = .ok (.invokevirtual 66, 3) := by decide +kernel
theorem dX12_asks_6 : decode cX12_asks 6 = .ok (.aload_n 0, 1) := by decide +kernel
theorem dX12_asks_7 : decode cX12_asks 7 = .ok (.iload_n 1, 1) := by decide +kernel
theorem dX12_asks_8 : decode cX12_asks 8 = .ok (.iconst 2, 1) := by decide +kernel
theorem dX12_asks_9 : decode cX12_asks 9 = .ok (.invokevirtual 66, 3) := by decide +kernel
theorem dX12_asks_12 : decode cX12_asks 12 = .ok (.iadd, 1) := by decide +kernel
theorem dX12_asks_13 : decode cX12_asks 13 = .ok (.istore_n 2, 1) := by decide +kernel
theorem dX12_asks_14 : decode cX12_asks 14 = .ok (.aload_n 0, 1) := by decide +kernel
theorem dX12_asks_15 : decode cX12_asks 15 = .ok (.aload_n 0, 1) := by decide +kernel
theorem dX12_asks_16 : decode cX12_asks 16 = .ok (.iload_n 1, 1) := by decide +kernel
theorem dX12_asks_17 : decode cX12_asks 17 = .ok (.bipush 9, 2) := by decide +kernel
theorem dX12_asks_19 : decode cX12_asks 19 = .ok (.invokevirtual 66, 3) := by decide +kernel
theorem dX12_asks_22 : decode cX12_asks 22 = .ok (.iconst 1, 1) := by decide +kernel
theorem dX12_asks_23 : decode cX12_asks 23 = .ok (.if_icmp .ne 13, 3) := by decide +kernel
theorem dX12_asks_26 : decode cX12_asks 26 = .ok (.aload_n 0, 1) := by decide +kernel
theorem dX12_asks_27 : decode cX12_asks 27 = .ok (.iload_n 1, 1) := by decide +kernel
theorem dX12_asks_28 : decode cX12_asks 28 = .ok (.bipush 10, 2) := by decide +kernel
theorem dX12_asks_30 : decode cX12_asks 30 = .ok (.invokevirtual 66, 3) := by decide +kernel
theorem dX12_asks_33 : decode cX12_asks 33 = .ok (.goto 4, 3) := by decide +kernel
theorem dX12_asks_36 : decode cX12_asks 36 = .ok (.iconst 0, 1) := by decide +kernel
theorem dX12_asks_37 : decode cX12_asks 37 = .ok (.putfield 240, 3) := by decide +kernel
theorem dX12_asks_40 : decode cX12_asks 40 = .ok (.aload_n 0, 1) := by decide +kernel
theorem dX12_asks_41 : decode cX12_asks 41 = .ok (.aload_n 0, 1) := by decide +kernel
theorem dX12_asks_42 : decode cX12_asks 42 = .ok (.iload_n 1, 1) := by decide +kernel
theorem dX12_asks_43 : decode cX12_asks 43 = .ok (.bipush 8, 2) := by decide +kernel
theorem dX12_asks_45 : decode cX12_asks 45 = .ok (.invokevirtual 66, 3) := by decide +kernel
theorem dX12_asks_48 : decode cX12_asks 48 = .ok (.putfield 242, 3) := by decide +kernel
theorem dX12_asks_51 : decode cX12_asks 51 = .ok (.aload_n 0, 1) := by decide +kernel
theorem dX12_asks_52 : decode cX12_asks 52 = .ok (.iconst 0, 1) := by decide +kernel
theorem dX12_asks_53 : decode cX12_asks 53 = .ok (.putfield 245, 3) := by decide +kernel
theorem dX12_asks_56 : decode cX12_asks 56 = .ok (.aload_n 0, 1) := by decide +kernel
theorem dX12_asks_57 : decode cX12_asks 57 = .ok (.getfield 29, 3) := by decide +kernel
theorem dX12_asks_60 : decode cX12_asks 60 = .ok (.iconst 0, 1) := by decide +kernel
theorem dX12_asks_61 : decode cX12_asks 61 = .ok (.iload_n 1, 1) := by decide +kernel
theorem dX12_asks_62 : decode cX12_asks 62 = .ok (.iastore, 1) := by decide +kernel
theorem dX12_asks_63 : decode cX12_asks 63 = .ok (.aload_n 0, 1) := by decide +kernel
theorem dX12_asks_64 : decode cX12_asks 64 = .ok (.getfield 29, 3) := by decide +kernel
theorem dX12_asks_67 : decode cX12_asks 67 = .ok (.iconst 1, 1) := by decide +kernel
theorem dX12_asks_68 : decode cX12_asks 68 = .ok (.iconst 0, 1) := by decide +kernel
theorem dX12_asks_69 : decode cX12_asks 69 = .ok (.iload_n 2, 1) := by decide +kernel
theorem dX12_asks_70 : decode cX12_asks 70 = .ok (.invokestatic 73, 3) := by decide +kernel
theorem dX12_asks_73 : decode cX12_asks 73 = .ok (.iastore, 1) := by decide +kernel
theorem dX12_asks_74 : decode cX12_asks 74 = .ok (.aload_n 0, 1) := by decide +kernel
theorem dX12_asks_75 : decode cX12_asks 75 = .ok (.getfield 29, 3) := by decide +kernel
theorem dX12_asks_78 : decode cX12_asks 78 = .ok (.iconst 2, 1) := by decide +kernel
theorem dX12_asks_79 : decode cX12_asks 79 = .ok (.iconst 0, 1) := by decide +kernel
theorem dX12_asks_80 : decode cX12_asks 80 = .ok (.iload_n 2, 1) := by decide +kernel
theorem dX12_asks_81 : decode cX12_asks 81 = .ok (.ineg, 1) := by decide +kernel
theorem dX12_asks_82 : decode cX12_asks 82 = .ok (.invokestatic 73, 3) := by decide +kernel
theorem dX12_asks_85 : decode cX12_asks 85 = .ok (.iastore, 1) := by decide +kernel
theorem dX12_asks_86 : decode cX12_asks 86 = .ok (.aload_n 0, 1) := by decide +kernel
theorem dX12_asks_87 : decode cX12_asks 87 = .ok (.getfield 29, 3) := by decide +kernel
theorem dX12_asks_90 : decode cX12_asks 90 = .ok (.iconst 3, 1) := by decide +kernel
theorem dX12_asks_91 : decode cX12_asks 91 = .ok (.aload_n 0, 1) := by decide +kernel
theorem dX12_asks_92 : decode cX12_asks 92 = .ok (.iload_n 1, 1) := by decide +kernel
theorem dX12_asks_93 : decode cX12_asks 93 = .ok (.iconst 5, 1) := by decide +kernel
theorem dX12_asks_94 : decode cX12_asks 94 = .ok (.invokevirtual 66, 3) := by decide +kernel
theorem dX12_asks_97 : decode cX12_asks 97 = .ok (.invokestatic 247, 3) := by decide +kernel
theorem dX12_asks_100 : decode cX12_asks 100 = .ok (.iastore, 1) := by decide +kernel
theorem dX12_asks_101 : decode cX12_asks 101 = .ok (.aload_n 0, 1) := by decide +kernel
theorem dX12_asks_102 : decode cX12_asks 102 = .ok (.getfield 29, 3) := by decide +kernel
theorem dX12_asks_105 : decode cX12_asks 105 = .ok (.iconst 4, 1) := by decide +kernel
theorem dX12_asks_106 : decode cX12_asks 106 = .ok (.aload_n 0, 1) := by decide +kernel
theorem dX12_asks_107 : decode cX12_asks 107 = .ok (.iload_n 1, 1) := by decide +kernel
theorem dX12_asks_108 : decode cX12_asks 108 = .ok (.bipush 6, 2) := by decide +kernel
theorem dX12_asks_110 : decode cX12_asks 110 = .ok (.invokevirtual 66, 3) := by decide +kernel
theorem dX12_asks_113 : decode cX12_asks 113 = .ok (.iastore, 1) := by decide +kernel
theorem dX12_asks_114 : decode cX12_asks 114 = .ok (.aload_n 0, 1) := by decide +kernel
theorem dX12_asks_115 : decode cX12_asks 115 = .ok (.getfield 29, 3) := by decide +kernel
theorem dX12_asks_118 : decode cX12_asks 118 = .ok (.iconst 5, 1) := by decide +kernel
theorem dX12_asks_119 : decode cX12_asks 119 = .ok (.aload_n 0, 1) := by decide +kernel
theorem dX12_asks_120 : decode cX12_asks 120 = .ok (.iload_n 1, 1) := by decide +kernel
theorem dX12_asks_121 : decode cX12_asks 121 = .ok (.bipush 7, 2) := by decide +kernel
theorem dX12_asks_123 : decode cX12_asks 123 = .ok (.invokevirtual 66, 3) := by decide +kernel
theorem dX12_asks_126 : decode cX12_asks 126 = .ok (.iastore, 1) := by decide +kernel
theorem dX12_asks_127 : decode cX12_asks 127 = .ok (.aload_n 0, 1) := by decide +kernel
theorem dX12_asks_128 : decode cX12_asks 128 = .ok (.getfield 29, 3) := by decide +kernel
theorem dX12_asks_131 : decode cX12_asks 131 = .ok (.bipush 6, 2) := by decide +kernel
theorem dX12_asks_133 : decode cX12_asks 133 = .ok (.aload_n 0, 1) := by decide +kernel
theorem dX12_asks_134 : decode cX12_asks 134 = .ok (.iload_n 1, 1) := by decide +kernel
theorem dX12_asks_135 : decode cX12_asks 135 = .ok (.iconst 4, 1) := by decide +kernel
theorem dX12_asks_136 : decode cX12_asks 136 = .ok (.invokevirtual 66, 3) := by decide +kernel
theorem dX12_asks_139 : decode cX12_asks 139 = .ok (.iastore, 1) := by decide +kernel
theorem dX12_asks_140 : decode cX12_asks 140 = .ok (.aload_n 0, 1) := by decide +kernel
theorem dX12_asks_141 : decode cX12_asks 141 = .ok (.aload_n 0, 1) := by decide +kernel
theorem dX12_asks_142 : decode cX12_asks 142 = .ok (.iconst 2, 1) := by decide +kernel
theorem dX12_asks_143 : decode cX12_asks 143 = .ok (.invokevirtual 250, 3) := by decide +kernel
theorem dX12_asks_146 : decode cX12_asks 146 = .ok (.iconst 1, 1) := by decide +kernel
theorem dX12_asks_147 : decode cX12_asks 147 = .ok (.iload_n 1, 1) := by decide +kernel
theorem dX12_asks_148 : decode cX12_asks 148 = .ok (.ishl, 1) := by decide +kernel
theorem dX12_asks_149 : decode cX12_asks 149 = .ok (.iconst (-1), 1) := by decide +kernel
theorem dX12_asks_150 : decode cX12_asks 150 = .ok (.ixor, 1) := by decide +kernel
theorem dX12_asks_151 : decode cX12_asks 151 = .ok (.iand, 1) := by decide +kernel
theorem dX12_asks_152 : decode cX12_asks 152 = .ok (.ifCond .ne 7, 3) := by decide +kernel
theorem dX12_asks_155 : decode cX12_asks 155 = .ok (.iconst 1, 1) := by decide +kernel
theorem dX12_asks_156 : decode cX12_asks 156 = .ok (.goto 4, 3) := by decide +kernel
theorem dX12_asks_159 : decode cX12_asks 159 = .ok (.iconst 0, 1) := by decide +kernel
theorem dX12_asks_160 : decode cX12_asks 160 = .ok (.putfield 208, 3) := by decide +kernel
theorem dX12_asks_163 : decode cX12_asks 163 = .ok (.aload_n 0, 1) := by decide +kernel
theorem dX12_asks_164 : decode cX12_asks 164 = .ok (.getfield 25, 3) := by decide +kernel
theorem dX12_asks_167 : decode cX12_asks 167 = .ok (.istore_n 3, 1) := by decide +kernel
theorem dX12_asks_168 : decode cX12_asks 168 = .ok (.aload_n 0, 1) := by decide +kernel
theorem dX12_asks_169 : decode cX12_asks 169 = .ok (.iconst (-1), 1) := by decide +kernel
theorem dX12_asks_170 : decode cX12_asks 170 = .ok (.putfield 25, 3) := by decide +kernel
theorem dX12_asks_173 : decode cX12_asks 173 = .ok (.aload_n 0, 1) := by decide +kernel
theorem dX12_asks_174 : decode cX12_asks 174 = .ok (.sipush 337, 3) := by decide +kernel
theorem dX12_asks_177 : decode cX12_asks 177 = .ok (.putfield 79, 3) := by decide +kernel
theorem dX12_asks_180 : decode cX12_asks 180 = .ok (.aload_n 0, 1) := by decide +kernel
theorem dX12_asks_181 : decode cX12_asks 181 = .ok (.aload_n 0, 1) := by decide +kernel
theorem dX12_asks_182 : decode cX12_asks 182 = .ok (.getfield 7, 3) := by decide +kernel
theorem dX12_asks_185 : decode cX12_asks 185 = .ok (.iconst 1, 1) := by decide +kernel
theorem dX12_asks_186 : decode cX12_asks 186 = .ok (.iaload, 1) := by decide +kernel
theorem dX12_asks_187 : decode cX12_asks 187 = .ok (.iconst 1, 1) := by decide +kernel
theorem dX12_asks_188 : decode cX12_asks 188 = .ok (.if_icmp .ge 7, 3) := by decide +kernel
theorem dX12_asks_191 : decode cX12_asks 191 = .ok (.iconst 0, 1) := by decide +kernel
theorem dX12_asks_192 : decode cX12_asks 192 = .ok (.goto 9, 3) := by decide +kernel
theorem dX12_asks_195 : decode cX12_asks 195 = .ok (.aload_n 0, 1) := by decide +kernel
theorem dX12_asks_196 : decode cX12_asks 196 = .ok (.getfield 7, 3) := by decide +kernel
theorem dX12_asks_199 : decode cX12_asks 199 = .ok (.iconst 2, 1) := by decide +kernel
theorem dX12_asks_200 : decode cX12_asks 200 = .ok (.iaload, 1) := by decide +kernel
theorem dX12_asks_201 : decode cX12_asks 201 = .ok (.putfield 85, 3) := by decide +kernel
theorem dX12_asks_204 : decode cX12_asks 204 = .ok (.aload_n 0, 1) := by decide +kernel
theorem dX12_asks_205 : decode cX12_asks 205 = .ok (.iconst 0, 1) := by decide +kernel
theorem dX12_asks_206 : decode cX12_asks 206 = .ok (.putfield 82, 3) := by decide +kernel
theorem dX12_asks_209 : decode cX12_asks 209 = .ok (.aload_n 0, 1) := by decide +kernel
theorem dX12_asks_210 : decode cX12_asks 210 = .ok (.iconst 0, 1) := by decide +kernel
theorem dX12_asks_211 : decode cX12_asks 211 = .ok (.putfield 164, 3) := by decide +kernel
theorem dX12_asks_214 : decode cX12_asks 214 = .ok (.aload_n 0, 1) := by decide +kernel
theorem dX12_asks_215 : decode cX12_asks 215 = .ok (.iconst 1, 1) := by decide +kernel
theorem dX12_asks_216 : decode cX12_asks 216 = .ok (.invokevirtual 183, 3) := by decide +kernel
theorem dX12_asks_219 : decode cX12_asks 219 = .ok (.istore 4, 2) := by decide +kernel
theorem dX12_asks_221 : decode cX12_asks 221 = .ok (.aload_n 0, 1) := by decide +kernel
theorem dX12_asks_222 : decode cX12_asks 222 = .ok (.iload_n 3, 1) := by decide +kernel
theorem dX12_asks_223 : decode cX12_asks 223 = .ok (.putfield 25, 3) := by decide +kernel
theorem dX12_asks_226 : decode cX12_asks 226 = .ok (.aload_n 0, 1) := by decide +kernel
theorem dX12_asks_227 : decode cX12_asks 227 = .ok (.aload_n 0, 1) := by decide +kernel
theorem dX12_asks_228 : decode cX12_asks 228 = .ok (.iload_n 1, 1) := by decide +kernel
theorem dX12_asks_229 : decode cX12_asks 229 = .ok (.bipush 9, 2) := by decide +kernel
theorem dX12_asks_231 : decode cX12_asks 231 = .ok (.invokevirtual 66, 3) := by decide +kernel
theorem dX12_asks_234 : decode cX12_asks 234 = .ok (.iconst 2, 1) := by decide +kernel
theorem dX12_asks_235 : decode cX12_asks 235 = .ok (.if_icmp .ne 8, 3) := by decide +kernel
theorem dX12_asks_238 : decode cX12_asks 238 = .ok (.bipush 100, 2) := by decide +kernel
theorem dX12_asks_240 : decode cX12_asks 240 = .ok (.goto 12, 3) := by decide +kernel
theorem dX12_asks_243 : decode cX12_asks 243 = .ok (.bipush 100, 2) := by decide +kernel
theorem dX12_asks_245 : decode cX12_asks 245 = .ok (.aload_n 0, 1) := by decide +kernel
theorem dX12_asks_246 : decode cX12_asks 246 = .ok (.getfield 242, 3) := by decide +kernel
theorem dX12_asks_249 : decode cX12_asks 249 = .ok (.invokestatic 70, 3) := by decide +kernel
theorem dX12_asks_252 : decode cX12_asks 252 = .ok (.putfield 242, 3) := by decide +kernel
theorem dX12_asks_255 : decode cX12_asks 255 = .ok (.return_, 1) := by decide +kernel
theorem dX12_heldUp_0 : decode cX12_heldUp 0 = .ok (.aload_n 0, 1) := by decide +kernel
theorem dX12_heldUp_1 : decode cX12_heldUp 1 = .ok (.iload_n 1, 1) := by decide +kernel
theorem dX12_heldUp_2 : decode cX12_heldUp 2 = .ok (.invokevirtual 253, 3) := by decide +kernel
theorem dX12_heldUp_5 : decode cX12_heldUp 5 = .ok (.aload_n 0, 1) := by decide +kernel
theorem dX12_heldUp_6 : decode cX12_heldUp 6 = .ok (.getfield 240, 3) := by decide +kernel
theorem dX12_heldUp_9 : decode cX12_heldUp 9 = .ok (.ireturn, 1) := by decide +kernel
theorem dX12_sentBy_0 : decode cX12_sentBy 0 = .ok (.aload_n 0, 1) := by decide +kernel
theorem dX12_sentBy_1 : decode cX12_sentBy 1 = .ok (.iload_n 1, 1) := by decide +kernel
theorem dX12_sentBy_2 : decode cX12_sentBy 2 = .ok (.iconst 0, 1) := by decide +kernel
theorem dX12_sentBy_3 : decode cX12_sentBy 3 = .ok (.invokevirtual 66, 3) := by decide +kernel
theorem dX12_sentBy_6 : decode cX12_sentBy 6 = .ok (.aload_n 0, 1) := by decide +kernel
theorem dX12_sentBy_7 : decode cX12_sentBy 7 = .ok (.iload_n 1, 1) := by decide +kernel
theorem dX12_sentBy_8 : decode cX12_sentBy 8 = .ok (.invokevirtual 256, 3) := by decide +kernel
theorem dX12_sentBy_11 : decode cX12_sentBy 11 = .ok (.iadd, 1) := by decide +kernel
theorem dX12_sentBy_12 : decode cX12_sentBy 12 = .ok (.ireturn, 1) := by decide +kernel
theorem dX12_shiftOf_0 : decode cX12_shiftOf 0 = .ok (.aload_n 0, 1) := by decide +kernel
theorem dX12_shiftOf_1 : decode cX12_shiftOf 1 = .ok (.iload_n 1, 1) := by decide +kernel
theorem dX12_shiftOf_2 : decode cX12_shiftOf 2 = .ok (.invokevirtual 259, 3) := by decide +kernel
theorem dX12_shiftOf_5 : decode cX12_shiftOf 5 = .ok (.aload_n 0, 1) := by decide +kernel
theorem dX12_shiftOf_6 : decode cX12_shiftOf 6 = .ok (.iload_n 1, 1) := by decide +kernel
theorem dX12_shiftOf_7 : decode cX12_shiftOf 7 = .ok (.bipush 9, 2) := by decide +kernel
theorem dX12_shiftOf_9 : decode cX12_shiftOf 9 = .ok (.invokevirtual 66, 3) := by decide +kernel
theorem dX12_shiftOf_12 : decode cX12_shiftOf 12 = .ok (.iconst 3, 1) := by decide +kernel
theorem dX12_shiftOf_13 : decode cX12_shiftOf 13 = .ok (.if_icmp .ne 20, 3) := by decide +kernel
theorem dX12_shiftOf_16 : decode cX12_shiftOf 16 = .ok (.iload_n 2, 1) := by decide +kernel
theorem dX12_shiftOf_17 : decode cX12_shiftOf 17 = .ok (.iconst 2, 1) := by decide +kernel
theorem dX12_shiftOf_18 : decode cX12_shiftOf 18 = .ok (.irem, 1) := by decide +kernel
theorem dX12_shiftOf_19 : decode cX12_shiftOf 19 = .ok (.iconst 1, 1) := by decide +kernel
theorem dX12_shiftOf_20 : decode cX12_shiftOf 20 = .ok (.if_icmp .ne 13, 3) := by decide +kernel
theorem dX12_shiftOf_23 : decode cX12_shiftOf 23 = .ok (.aload_n 0, 1) := by decide +kernel
theorem dX12_shiftOf_24 : decode cX12_shiftOf 24 = .ok (.iload_n 1, 1) := by decide +kernel
theorem dX12_shiftOf_25 : decode cX12_shiftOf 25 = .ok (.bipush 10, 2) := by decide +kernel
theorem dX12_shiftOf_27 : decode cX12_shiftOf 27 = .ok (.invokevirtual 66, 3) := by decide +kernel
theorem dX12_shiftOf_30 : decode cX12_shiftOf 30 = .ok (.goto 4, 3) := by decide +kernel
theorem dX12_shiftOf_33 : decode cX12_shiftOf 33 = .ok (.iconst 0, 1) := by decide +kernel
theorem dX12_shiftOf_34 : decode cX12_shiftOf 34 = .ok (.iadd, 1) := by decide +kernel
theorem dX12_shiftOf_35 : decode cX12_shiftOf 35 = .ok (.ireturn, 1) := by decide +kernel
theorem dX12_isPassing_0 : decode cX12_isPassing 0 = .ok (.aload_n 0, 1) := by decide +kernel
theorem dX12_isPassing_1 : decode cX12_isPassing 1 = .ok (.iload_n 1, 1) := by decide +kernel
theorem dX12_isPassing_2 : decode cX12_isPassing 2 = .ok (.invokevirtual 262, 3) := by decide +kernel
theorem dX12_isPassing_5 : decode cX12_isPassing 5 = .ok (.ifCond .eq 42, 3) := by decide +kernel
theorem dX12_isPassing_8 : decode cX12_isPassing 8 = .ok (.aload_n 0, 1) := by decide +kernel
theorem dX12_isPassing_9 : decode cX12_isPassing 9 = .ok (.iload_n 1, 1) := by decide +kernel
theorem dX12_isPassing_10 : decode cX12_isPassing 10 = .ok (.bipush 9, 2) := by decide +kernel
theorem dX12_isPassing_12 : decode cX12_isPassing 12 = .ok (.invokevirtual 66, 3) := by decide +kernel
theorem dX12_isPassing_15 : decode cX12_isPassing 15 = .ok (.iconst 2, 1) := by decide +kernel
theorem dX12_isPassing_16 : decode cX12_isPassing 16 = .ok (.if_icmp .eq 31, 3) := by decide +kernel
theorem dX12_isPassing_19 : decode cX12_isPassing 19 = .ok (.aload_n 0, 1) := by decide +kernel
theorem dX12_isPassing_20 : decode cX12_isPassing 20 = .ok (.iload_n 1, 1) := by decide +kernel
theorem dX12_isPassing_21 : decode cX12_isPassing 21 = .ok (.invokevirtual 259, 3) := by decide +kernel
theorem dX12_isPassing_24 : decode cX12_isPassing 24 = .ok (.aload_n 0, 1) := by decide +kernel
theorem dX12_isPassing_25 : decode cX12_isPassing 25 = .ok (.getfield 7, 3) := by decide +kernel
theorem dX12_isPassing_28 : decode cX12_isPassing 28 = .ok (.iconst 4, 1) := by decide +kernel
theorem dX12_isPassing_29 : decode cX12_isPassing 29 = .ok (.iaload, 1) := by decide +kernel
theorem dX12_isPassing_30 : decode cX12_isPassing 30 = .ok (.ineg, 1) := by decide +kernel
theorem dX12_isPassing_31 : decode cX12_isPassing 31 = .ok (.aload_n 0, 1) := by decide +kernel
theorem dX12_isPassing_32 : decode cX12_isPassing 32 = .ok (.getfield 7, 3) := by decide +kernel
theorem dX12_isPassing_35 : decode cX12_isPassing 35 = .ok (.iconst 4, 1) := by decide +kernel
theorem dX12_isPassing_36 : decode cX12_isPassing 36 = .ok (.iaload, 1) := by decide +kernel
theorem dX12_isPassing_37 : decode cX12_isPassing 37 = .ok (.invokestatic 62, 3) := by decide +kernel
theorem dX12_isPassing_40 : decode cX12_isPassing 40 = .ok (.ifCond .eq 7, 3) := by decide +kernel
theorem dX12_isPassing_43 : decode cX12_isPassing 43 = .ok (.iconst 1, 1) := by decide +kernel
theorem dX12_isPassing_44 : decode cX12_isPassing 44 = .ok (.goto 4, 3) := by decide +kernel
theorem dX12_isPassing_47 : decode cX12_isPassing 47 = .ok (.iconst 0, 1) := by decide +kernel
theorem dX12_isPassing_48 : decode cX12_isPassing 48 = .ok (.ireturn, 1) := by decide +kernel
theorem dX12_isHeard_0 : decode cX12_isHeard 0 = .ok (.aload_n 0, 1) := by decide +kernel
theorem dX12_isHeard_1 : decode cX12_isHeard 1 = .ok (.iload_n 2, 1) := by decide +kernel
theorem dX12_isHeard_2 : decode cX12_isHeard 2 = .ok (.iload_n 1, 1) := by decide +kernel
theorem dX12_isHeard_3 : decode cX12_isHeard 3 = .ok (.invokevirtual 265, 3) := by decide +kernel
theorem dX12_isHeard_6 : decode cX12_isHeard 6 = .ok (.aload_n 0, 1) := by decide +kernel
theorem dX12_isHeard_7 : decode cX12_isHeard 7 = .ok (.iload_n 1, 1) := by decide +kernel
theorem dX12_isHeard_8 : decode cX12_isHeard 8 = .ok (.iconst 0, 1) := by decide +kernel
theorem dX12_isHeard_9 : decode cX12_isHeard 9 = .ok (.invokevirtual 66, 3) := by decide +kernel
theorem dX12_isHeard_12 : decode cX12_isHeard 12 = .ok (.isub, 1) := by decide +kernel
theorem dX12_isHeard_13 : decode cX12_isHeard 13 = .ok (.aload_n 0, 1) := by decide +kernel
theorem dX12_isHeard_14 : decode cX12_isHeard 14 = .ok (.getfield 7, 3) := by decide +kernel
theorem dX12_isHeard_17 : decode cX12_isHeard 17 = .ok (.iconst 5, 1) := by decide +kernel
theorem dX12_isHeard_18 : decode cX12_isHeard 18 = .ok (.iaload, 1) := by decide +kernel
theorem dX12_isHeard_19 : decode cX12_isHeard 19 = .ok (.ineg, 1) := by decide +kernel
theorem dX12_isHeard_20 : decode cX12_isHeard 20 = .ok (.aload_n 0, 1) := by decide +kernel
theorem dX12_isHeard_21 : decode cX12_isHeard 21 = .ok (.getfield 7, 3) := by decide +kernel
theorem dX12_isHeard_24 : decode cX12_isHeard 24 = .ok (.iconst 5, 1) := by decide +kernel
theorem dX12_isHeard_25 : decode cX12_isHeard 25 = .ok (.iaload, 1) := by decide +kernel
theorem dX12_isHeard_26 : decode cX12_isHeard 26 = .ok (.invokestatic 62, 3) := by decide +kernel
theorem dX12_isHeard_29 : decode cX12_isHeard 29 = .ok (.ireturn, 1) := by decide +kernel
theorem dX12_allShifts_0 : decode cX12_allShifts 0 = .ok (.aload_n 0, 1) := by decide +kernel
theorem dX12_allShifts_1 : decode cX12_allShifts 1 = .ok (.iconst 0, 1) := by decide +kernel
theorem dX12_allShifts_2 : decode cX12_allShifts 2 = .ok (.putfield 268, 3) := by decide +kernel
theorem dX12_allShifts_5 : decode cX12_allShifts 5 = .ok (.iconst 0, 1) := by decide +kernel
theorem dX12_allShifts_6 : decode cX12_allShifts 6 = .ok (.istore_n 1, 1) := by decide +kernel
theorem dX12_allShifts_7 : decode cX12_allShifts 7 = .ok (.iload_n 1, 1) := by decide +kernel
theorem dX12_allShifts_8 : decode cX12_allShifts 8 = .ok (.aload_n 0, 1) := by decide +kernel
theorem dX12_allShifts_9 : decode cX12_allShifts 9 = .ok (.getfield 7, 3) := by decide +kernel
theorem dX12_allShifts_12 : decode cX12_allShifts 12 = .ok (.iconst 3, 1) := by decide +kernel
theorem dX12_allShifts_13 : decode cX12_allShifts 13 = .ok (.iaload, 1) := by decide +kernel
theorem dX12_allShifts_14 : decode cX12_allShifts 14 = .ok (.if_icmp .ge 151, 3) := by decide +kernel
theorem dX12_allShifts_17 : decode cX12_allShifts 17 = .ok (.aload_n 0, 1) := by decide +kernel
theorem dX12_allShifts_18 : decode cX12_allShifts 18 = .ok (.dup, 1) := by decide +kernel
theorem dX12_allShifts_19 : decode cX12_allShifts 19 = .ok (.getfield 268, 3) := by decide +kernel
theorem dX12_allShifts_22 : decode cX12_allShifts 22 = .ok (.aload_n 0, 1) := by decide +kernel
theorem dX12_allShifts_23 : decode cX12_allShifts 23 = .ok (.iload_n 1, 1) := by decide +kernel
theorem dX12_allShifts_24 : decode cX12_allShifts 24 = .ok (.invokevirtual 271, 3) := by decide +kernel
theorem dX12_allShifts_27 : decode cX12_allShifts 27 = .ok (.ifCond .eq 9, 3) := by decide +kernel
theorem dX12_allShifts_30 : decode cX12_allShifts 30 = .ok (.iconst 1, 1) := by decide +kernel
theorem dX12_allShifts_31 : decode cX12_allShifts 31 = .ok (.iload_n 1, 1) := by decide +kernel
theorem dX12_allShifts_32 : decode cX12_allShifts 32 = .ok (.ishl, 1) := by decide +kernel
theorem dX12_allShifts_33 : decode cX12_allShifts 33 = .ok (.goto 4, 3) := by decide +kernel
theorem dX12_allShifts_36 : decode cX12_allShifts 36 = .ok (.iconst 0, 1) := by decide +kernel
theorem dX12_allShifts_37 : decode cX12_allShifts 37 = .ok (.ior, 1) := by decide +kernel
theorem dX12_allShifts_38 : decode cX12_allShifts 38 = .ok (.putfield 268, 3) := by decide +kernel
theorem dX12_allShifts_41 : decode cX12_allShifts 41 = .ok (.aload_n 0, 1) := by decide +kernel
theorem dX12_allShifts_42 : decode cX12_allShifts 42 = .ok (.iload_n 1, 1) := by decide +kernel
theorem dX12_allShifts_43 : decode cX12_allShifts 43 = .ok (.invokevirtual 253, 3) := by decide +kernel
theorem dX12_allShifts_46 : decode cX12_allShifts 46 = .ok (.aload_n 0, 1) := by decide +kernel
theorem dX12_allShifts_47 : decode cX12_allShifts 47 = .ok (.getfield 38, 3) := by decide +kernel
theorem dX12_allShifts_50 : decode cX12_allShifts 50 = .ok (.iload_n 1, 1) := by decide +kernel
theorem dX12_allShifts_51 : decode cX12_allShifts 51 = .ok (.aload_n 0, 1) := by decide +kernel
theorem dX12_allShifts_52 : decode cX12_allShifts 52 = .ok (.getfield 242, 3) := by decide +kernel
theorem dX12_allShifts_55 : decode cX12_allShifts 55 = .ok (.iastore, 1) := by decide +kernel
theorem dX12_allShifts_56 : decode cX12_allShifts 56 = .ok (.aload_n 0, 1) := by decide +kernel
theorem dX12_allShifts_57 : decode cX12_allShifts 57 = .ok (.getfield 35, 3) := by decide +kernel
theorem dX12_allShifts_60 : decode cX12_allShifts 60 = .ok (.iload_n 1, 1) := by decide +kernel
theorem dX12_allShifts_61 : decode cX12_allShifts 61 = .ok (.iconst 0, 1) := by decide +kernel
theorem dX12_allShifts_62 : decode cX12_allShifts 62 = .ok (.iastore, 1) := by decide +kernel
theorem dX12_allShifts_63 : decode cX12_allShifts 63 = .ok (.iconst 0, 1) := by decide +kernel
theorem dX12_allShifts_64 : decode cX12_allShifts 64 = .ok (.istore_n 2, 1) := by decide +kernel
theorem dX12_allShifts_65 : decode cX12_allShifts 65 = .ok (.iload_n 2, 1) := by decide +kernel
theorem dX12_allShifts_66 : decode cX12_allShifts 66 = .ok (.aload_n 0, 1) := by decide +kernel
theorem dX12_allShifts_67 : decode cX12_allShifts 67 = .ok (.getfield 7, 3) := by decide +kernel
theorem dX12_allShifts_70 : decode cX12_allShifts 70 = .ok (.iconst 3, 1) := by decide +kernel
theorem dX12_allShifts_71 : decode cX12_allShifts 71 = .ok (.iaload, 1) := by decide +kernel
theorem dX12_allShifts_72 : decode cX12_allShifts 72 = .ok (.if_icmp .ge 87, 3) := by decide +kernel
theorem dX12_allShifts_75 : decode cX12_allShifts 75 = .ok (.iload_n 2, 1) := by decide +kernel
theorem dX12_allShifts_76 : decode cX12_allShifts 76 = .ok (.iload_n 1, 1) := by decide +kernel
theorem dX12_allShifts_77 : decode cX12_allShifts 77 = .ok (.if_icmp .ne 6, 3) := by decide +kernel
theorem dX12_allShifts_80 : decode cX12_allShifts 80 = .ok (.goto 73, 3) := by decide +kernel
theorem dX12_allShifts_83 : decode cX12_allShifts 83 = .ok (.aload_n 0, 1) := by decide +kernel
theorem dX12_allShifts_84 : decode cX12_allShifts 84 = .ok (.getfield 32, 3) := by decide +kernel
theorem dX12_allShifts_87 : decode cX12_allShifts 87 = .ok (.bipush 8, 2) := by decide +kernel
theorem dX12_allShifts_89 : decode cX12_allShifts 89 = .ok (.iload_n 2, 1) := by decide +kernel
theorem dX12_allShifts_90 : decode cX12_allShifts 90 = .ok (.imul, 1) := by decide +kernel
theorem dX12_allShifts_91 : decode cX12_allShifts 91 = .ok (.iload_n 1, 1) := by decide +kernel
theorem dX12_allShifts_92 : decode cX12_allShifts 92 = .ok (.iadd, 1) := by decide +kernel
theorem dX12_allShifts_93 : decode cX12_allShifts 93 = .ok (.aload_n 0, 1) := by decide +kernel
theorem dX12_allShifts_94 : decode cX12_allShifts 94 = .ok (.iload_n 2, 1) := by decide +kernel
theorem dX12_allShifts_95 : decode cX12_allShifts 95 = .ok (.iload_n 1, 1) := by decide +kernel
theorem dX12_allShifts_96 : decode cX12_allShifts 96 = .ok (.invokevirtual 265, 3) := by decide +kernel
theorem dX12_allShifts_99 : decode cX12_allShifts 99 = .ok (.aload_n 0, 1) := by decide +kernel
theorem dX12_allShifts_100 : decode cX12_allShifts 100 = .ok (.iload_n 1, 1) := by decide +kernel
theorem dX12_allShifts_101 : decode cX12_allShifts 101 = .ok (.iconst 0, 1) := by decide +kernel
theorem dX12_allShifts_102 : decode cX12_allShifts 102 = .ok (.invokevirtual 66, 3) := by decide +kernel
theorem dX12_allShifts_105 : decode cX12_allShifts 105 = .ok (.isub, 1) := by decide +kernel
theorem dX12_allShifts_106 : decode cX12_allShifts 106 = .ok (.iastore, 1) := by decide +kernel
theorem dX12_allShifts_107 : decode cX12_allShifts 107 = .ok (.aload_n 0, 1) := by decide +kernel
theorem dX12_allShifts_108 : decode cX12_allShifts 108 = .ok (.getfield 35, 3) := by decide +kernel
theorem dX12_allShifts_111 : decode cX12_allShifts 111 = .ok (.iload_n 1, 1) := by decide +kernel
theorem dX12_allShifts_112 : decode cX12_allShifts 112 = .ok (.dup2, 1) := by decide +kernel
theorem dX12_allShifts_113 : decode cX12_allShifts 113 = .ok (.iaload, 1) := by decide +kernel
theorem dX12_allShifts_114 : decode cX12_allShifts 114 = .ok (.aload_n 0, 1) := by decide +kernel
theorem dX12_allShifts_115 : decode cX12_allShifts 115 = .ok (.getfield 32, 3) := by decide +kernel
theorem dX12_allShifts_118 : decode cX12_allShifts 118 = .ok (.bipush 8, 2) := by decide +kernel
theorem dX12_allShifts_120 : decode cX12_allShifts 120 = .ok (.iload_n 2, 1) := by decide +kernel
theorem dX12_allShifts_121 : decode cX12_allShifts 121 = .ok (.imul, 1) := by decide +kernel
theorem dX12_allShifts_122 : decode cX12_allShifts 122 = .ok (.iload_n 1, 1) := by decide +kernel
theorem dX12_allShifts_123 : decode cX12_allShifts 123 = .ok (.iadd, 1) := by decide +kernel
theorem dX12_allShifts_124 : decode cX12_allShifts 124 = .ok (.iaload, 1) := by decide +kernel
theorem dX12_allShifts_125 : decode cX12_allShifts 125 = .ok (.aload_n 0, 1) := by decide +kernel
theorem dX12_allShifts_126 : decode cX12_allShifts 126 = .ok (.getfield 7, 3) := by decide +kernel
theorem dX12_allShifts_129 : decode cX12_allShifts 129 = .ok (.iconst 5, 1) := by decide +kernel
theorem dX12_allShifts_130 : decode cX12_allShifts 130 = .ok (.iaload, 1) := by decide +kernel
theorem dX12_allShifts_131 : decode cX12_allShifts 131 = .ok (.ineg, 1) := by decide +kernel
theorem dX12_allShifts_132 : decode cX12_allShifts 132 = .ok (.aload_n 0, 1) := by decide +kernel
theorem dX12_allShifts_133 : decode cX12_allShifts 133 = .ok (.getfield 7, 3) := by decide +kernel
theorem dX12_allShifts_136 : decode cX12_allShifts 136 = .ok (.iconst 5, 1) := by decide +kernel
theorem dX12_allShifts_137 : decode cX12_allShifts 137 = .ok (.iaload, 1) := by decide +kernel
theorem dX12_allShifts_138 : decode cX12_allShifts 138 = .ok (.invokestatic 62, 3) := by decide +kernel
theorem dX12_allShifts_141 : decode cX12_allShifts 141 = .ok (.ifCond .eq 9, 3) := by decide +kernel
theorem dX12_allShifts_144 : decode cX12_allShifts 144 = .ok (.iconst 1, 1) := by decide +kernel
theorem dX12_allShifts_145 : decode cX12_allShifts 145 = .ok (.iload_n 2, 1) := by decide +kernel
theorem dX12_allShifts_146 : decode cX12_allShifts 146 = .ok (.ishl, 1) := by decide +kernel
theorem dX12_allShifts_147 : decode cX12_allShifts 147 = .ok (.goto 4, 3) := by decide +kernel
theorem dX12_allShifts_150 : decode cX12_allShifts 150 = .ok (.iconst 0, 1) := by decide +kernel
theorem dX12_allShifts_151 : decode cX12_allShifts 151 = .ok (.ior, 1) := by decide +kernel
theorem dX12_allShifts_152 : decode cX12_allShifts 152 = .ok (.iastore, 1) := by decide +kernel
theorem dX12_allShifts_153 : decode cX12_allShifts 153 = .ok (.iinc 2 1, 3) := by decide +kernel
theorem dX12_allShifts_156 : decode cX12_allShifts 156 = .ok (.goto (-91), 3) := by decide +kernel
theorem dX12_allShifts_159 : decode cX12_allShifts 159 = .ok (.iinc 1 1, 3) := by decide +kernel
theorem dX12_allShifts_162 : decode cX12_allShifts 162 = .ok (.goto (-155), 3) := by decide +kernel
theorem dX12_allShifts_165 : decode cX12_allShifts 165 = .ok (.return_, 1) := by decide +kernel
theorem dX12_middle_0 : decode cX12_middle 0 = .ok (.iload_n 1, 1) := by decide +kernel
theorem dX12_middle_1 : decode cX12_middle 1 = .ok (.ifCond .ne 5, 3) := by decide +kernel
theorem dX12_middle_4 : decode cX12_middle 4 = .ok (.iconst 0, 1) := by decide +kernel
theorem dX12_middle_5 : decode cX12_middle 5 = .ok (.ireturn, 1) := by decide +kernel
theorem dX12_middle_6 : decode cX12_middle 6 = .ok (.iconst 1, 1) := by decide +kernel
theorem dX12_middle_7 : decode cX12_middle 7 = .ok (.istore_n 2, 1) := by decide +kernel
theorem dX12_middle_8 : decode cX12_middle 8 = .ok (.iload_n 2, 1) := by decide +kernel
theorem dX12_middle_9 : decode cX12_middle 9 = .ok (.iload_n 1, 1) := by decide +kernel
theorem dX12_middle_10 : decode cX12_middle 10 = .ok (.if_icmp .ge 67, 3) := by decide +kernel
theorem dX12_middle_13 : decode cX12_middle 13 = .ok (.aload_n 0, 1) := by decide +kernel
theorem dX12_middle_14 : decode cX12_middle 14 = .ok (.getfield 41, 3) := by decide +kernel
theorem dX12_middle_17 : decode cX12_middle 17 = .ok (.iload_n 2, 1) := by decide +kernel
theorem dX12_middle_18 : decode cX12_middle 18 = .ok (.iaload, 1) := by decide +kernel
theorem dX12_middle_19 : decode cX12_middle 19 = .ok (.istore_n 3, 1) := by decide +kernel
theorem dX12_middle_20 : decode cX12_middle 20 = .ok (.iload_n 2, 1) := by decide +kernel
theorem dX12_middle_21 : decode cX12_middle 21 = .ok (.istore 4, 2) := by decide +kernel
theorem dX12_middle_23 : decode cX12_middle 23 = .ok (.iload 4, 2) := by decide +kernel
theorem dX12_middle_25 : decode cX12_middle 25 = .ok (.ifCond .le 38, 3) := by decide +kernel
theorem dX12_middle_28 : decode cX12_middle 28 = .ok (.aload_n 0, 1) := by decide +kernel
theorem dX12_middle_29 : decode cX12_middle 29 = .ok (.getfield 41, 3) := by decide +kernel
theorem dX12_middle_32 : decode cX12_middle 32 = .ok (.iload 4, 2) := by decide +kernel
theorem dX12_middle_34 : decode cX12_middle 34 = .ok (.iconst 1, 1) := by decide +kernel
theorem dX12_middle_35 : decode cX12_middle 35 = .ok (.isub, 1) := by decide +kernel
theorem dX12_middle_36 : decode cX12_middle 36 = .ok (.iaload, 1) := by decide +kernel
theorem dX12_middle_37 : decode cX12_middle 37 = .ok (.iload_n 3, 1) := by decide +kernel
theorem dX12_middle_38 : decode cX12_middle 38 = .ok (.if_icmp .le 25, 3) := by decide +kernel
theorem dX12_middle_41 : decode cX12_middle 41 = .ok (.aload_n 0, 1) := by decide +kernel
theorem dX12_middle_42 : decode cX12_middle 42 = .ok (.getfield 41, 3) := by decide +kernel
theorem dX12_middle_45 : decode cX12_middle 45 = .ok (.iload 4, 2) := by decide +kernel
theorem dX12_middle_47 : decode cX12_middle 47 = .ok (.aload_n 0, 1) := by decide +kernel
theorem dX12_middle_48 : decode cX12_middle 48 = .ok (.getfield 41, 3) := by decide +kernel
theorem dX12_middle_51 : decode cX12_middle 51 = .ok (.iload 4, 2) := by decide +kernel
theorem dX12_middle_53 : decode cX12_middle 53 = .ok (.iconst 1, 1) := by decide +kernel
theorem dX12_middle_54 : decode cX12_middle 54 = .ok (.isub, 1) := by decide +kernel
theorem dX12_middle_55 : decode cX12_middle 55 = .ok (.iaload, 1) := by decide +kernel
theorem dX12_middle_56 : decode cX12_middle 56 = .ok (.iastore, 1) := by decide +kernel
theorem dX12_middle_57 : decode cX12_middle 57 = .ok (.iinc 4 (-1), 3) := by decide +kernel
theorem dX12_middle_60 : decode cX12_middle 60 = .ok (.goto (-37), 3) := by decide +kernel
theorem dX12_middle_63 : decode cX12_middle 63 = .ok (.aload_n 0, 1) := by decide +kernel
theorem dX12_middle_64 : decode cX12_middle 64 = .ok (.getfield 41, 3) := by decide +kernel
theorem dX12_middle_67 : decode cX12_middle 67 = .ok (.iload 4, 2) := by decide +kernel
theorem dX12_middle_69 : decode cX12_middle 69 = .ok (.iload_n 3, 1) := by decide +kernel
theorem dX12_middle_70 : decode cX12_middle 70 = .ok (.iastore, 1) := by decide +kernel
theorem dX12_middle_71 : decode cX12_middle 71 = .ok (.iinc 2 1, 3) := by decide +kernel
theorem dX12_middle_74 : decode cX12_middle 74 = .ok (.goto (-66), 3) := by decide +kernel
theorem dX12_middle_77 : decode cX12_middle 77 = .ok (.iload_n 1, 1) := by decide +kernel
theorem dX12_middle_78 : decode cX12_middle 78 = .ok (.iconst 3, 1) := by decide +kernel
theorem dX12_middle_79 : decode cX12_middle 79 = .ok (.if_icmp .ge 7, 3) := by decide +kernel
theorem dX12_middle_82 : decode cX12_middle 82 = .ok (.iconst 0, 1) := by decide +kernel
theorem dX12_middle_83 : decode cX12_middle 83 = .ok (.goto 14, 3) := by decide +kernel
theorem dX12_middle_86 : decode cX12_middle 86 = .ok (.iload_n 1, 1) := by decide +kernel
theorem dX12_middle_87 : decode cX12_middle 87 = .ok (.bipush 8, 2) := by decide +kernel
theorem dX12_middle_89 : decode cX12_middle 89 = .ok (.if_icmp .ge 7, 3) := by decide +kernel
theorem dX12_middle_92 : decode cX12_middle 92 = .ok (.iconst 1, 1) := by decide +kernel
theorem dX12_middle_93 : decode cX12_middle 93 = .ok (.goto 4, 3) := by decide +kernel
theorem dX12_middle_96 : decode cX12_middle 96 = .ok (.iconst 2, 1) := by decide +kernel
theorem dX12_middle_97 : decode cX12_middle 97 = .ok (.istore_n 2, 1) := by decide +kernel
theorem dX12_middle_98 : decode cX12_middle 98 = .ok (.aload_n 0, 1) := by decide +kernel
theorem dX12_middle_99 : decode cX12_middle 99 = .ok (.getfield 41, 3) := by decide +kernel
theorem dX12_middle_102 : decode cX12_middle 102 = .ok (.iload_n 2, 1) := by decide +kernel
theorem dX12_middle_103 : decode cX12_middle 103 = .ok (.iaload, 1) := by decide +kernel
theorem dX12_middle_104 : decode cX12_middle 104 = .ok (.aload_n 0, 1) := by decide +kernel
theorem dX12_middle_105 : decode cX12_middle 105 = .ok (.getfield 41, 3) := by decide +kernel
theorem dX12_middle_108 : decode cX12_middle 108 = .ok (.iload_n 1, 1) := by decide +kernel
theorem dX12_middle_109 : decode cX12_middle 109 = .ok (.iconst 1, 1) := by decide +kernel
theorem dX12_middle_110 : decode cX12_middle 110 = .ok (.isub, 1) := by decide +kernel
theorem dX12_middle_111 : decode cX12_middle 111 = .ok (.iload_n 2, 1) := by decide +kernel
theorem dX12_middle_112 : decode cX12_middle 112 = .ok (.isub, 1) := by decide +kernel
theorem dX12_middle_113 : decode cX12_middle 113 = .ok (.iaload, 1) := by decide +kernel
theorem dX12_middle_114 : decode cX12_middle 114 = .ok (.iadd, 1) := by decide +kernel
theorem dX12_middle_115 : decode cX12_middle 115 = .ok (.iconst 2, 1) := by decide +kernel
theorem dX12_middle_116 : decode cX12_middle 116 = .ok (.idiv, 1) := by decide +kernel
theorem dX12_middle_117 : decode cX12_middle 117 = .ok (.ireturn, 1) := by decide +kernel
theorem dX12_middleOf_0 : decode cX12_middleOf 0 = .ok (.aload_n 0, 1) := by decide +kernel
theorem dX12_middleOf_1 : decode cX12_middleOf 1 = .ok (.getfield 41, 3) := by decide +kernel
theorem dX12_middleOf_4 : decode cX12_middleOf 4 = .ok (.iconst 0, 1) := by decide +kernel
theorem dX12_middleOf_5 : decode cX12_middleOf 5 = .ok (.iconst 0, 1) := by decide +kernel
theorem dX12_middleOf_6 : decode cX12_middleOf 6 = .ok (.iastore, 1) := by decide +kernel
theorem dX12_middleOf_7 : decode cX12_middleOf 7 = .ok (.iconst 1, 1) := by decide +kernel
theorem dX12_middleOf_8 : decode cX12_middleOf 8 = .ok (.istore_n 3, 1) := by decide +kernel
theorem dX12_middleOf_9 : decode cX12_middleOf 9 = .ok (.iconst 0, 1) := by decide +kernel
theorem dX12_middleOf_10 : decode cX12_middleOf 10 = .ok (.istore 4, 2) := by decide +kernel
theorem dX12_middleOf_12 : decode cX12_middleOf 12 = .ok (.iload 4, 2) := by decide +kernel
theorem dX12_middleOf_14 : decode cX12_middleOf 14 = .ok (.aload_n 0, 1) := by decide +kernel
theorem dX12_middleOf_15 : decode cX12_middleOf 15 = .ok (.getfield 7, 3) := by decide +kernel
theorem dX12_middleOf_18 : decode cX12_middleOf 18 = .ok (.iconst 3, 1) := by decide +kernel
theorem dX12_middleOf_19 : decode cX12_middleOf 19 = .ok (.iaload, 1) := by decide +kernel
theorem dX12_middleOf_20 : decode cX12_middleOf 20 = .ok (.if_icmp .ge 55, 3) := by decide +kernel
theorem dX12_middleOf_23 : decode cX12_middleOf 23 = .ok (.iload 4, 2) := by decide +kernel
theorem dX12_middleOf_25 : decode cX12_middleOf 25 = .ok (.iload_n 1, 1) := by decide +kernel
theorem dX12_middleOf_26 : decode cX12_middleOf 26 = .ok (.if_icmp .eq 43, 3) := by decide +kernel
theorem dX12_middleOf_29 : decode cX12_middleOf 29 = .ok (.iload_n 2, 1) := by decide +kernel
theorem dX12_middleOf_30 : decode cX12_middleOf 30 = .ok (.aload_n 0, 1) := by decide +kernel
theorem dX12_middleOf_31 : decode cX12_middleOf 31 = .ok (.getfield 35, 3) := by decide +kernel
theorem dX12_middleOf_34 : decode cX12_middleOf 34 = .ok (.iload_n 1, 1) := by decide +kernel
theorem dX12_middleOf_35 : decode cX12_middleOf 35 = .ok (.iaload, 1) := by decide +kernel
theorem dX12_middleOf_36 : decode cX12_middleOf 36 = .ok (.iand, 1) := by decide +kernel
theorem dX12_middleOf_37 : decode cX12_middleOf 37 = .ok (.iload 4, 2) := by decide +kernel
theorem dX12_middleOf_39 : decode cX12_middleOf 39 = .ok (.invokestatic 274, 3) := by decide +kernel
theorem dX12_middleOf_42 : decode cX12_middleOf 42 = .ok (.ifCond .ne 6, 3) := by decide +kernel
theorem dX12_middleOf_45 : decode cX12_middleOf 45 = .ok (.goto 24, 3) := by decide +kernel
theorem dX12_middleOf_48 : decode cX12_middleOf 48 = .ok (.aload_n 0, 1) := by decide +kernel
theorem dX12_middleOf_49 : decode cX12_middleOf 49 = .ok (.getfield 41, 3) := by decide +kernel
theorem dX12_middleOf_52 : decode cX12_middleOf 52 = .ok (.iload_n 3, 1) := by decide +kernel
theorem dX12_middleOf_53 : decode cX12_middleOf 53 = .ok (.aload_n 0, 1) := by decide +kernel
theorem dX12_middleOf_54 : decode cX12_middleOf 54 = .ok (.getfield 32, 3) := by decide +kernel
theorem dX12_middleOf_57 : decode cX12_middleOf 57 = .ok (.bipush 8, 2) := by decide +kernel
theorem dX12_middleOf_59 : decode cX12_middleOf 59 = .ok (.iload 4, 2) := by decide +kernel
theorem dX12_middleOf_61 : decode cX12_middleOf 61 = .ok (.imul, 1) := by decide +kernel
theorem dX12_middleOf_62 : decode cX12_middleOf 62 = .ok (.iload_n 1, 1) := by decide +kernel
theorem dX12_middleOf_63 : decode cX12_middleOf 63 = .ok (.iadd, 1) := by decide +kernel
theorem dX12_middleOf_64 : decode cX12_middleOf 64 = .ok (.iaload, 1) := by decide +kernel
theorem dX12_middleOf_65 : decode cX12_middleOf 65 = .ok (.iastore, 1) := by decide +kernel
theorem dX12_middleOf_66 : decode cX12_middleOf 66 = .ok (.iinc 3 1, 3) := by decide +kernel
theorem dX12_middleOf_69 : decode cX12_middleOf 69 = .ok (.iinc 4 1, 3) := by decide +kernel
theorem dX12_middleOf_72 : decode cX12_middleOf 72 = .ok (.goto (-60), 3) := by decide +kernel
theorem dX12_middleOf_75 : decode cX12_middleOf 75 = .ok (.aload_n 0, 1) := by decide +kernel
theorem dX12_middleOf_76 : decode cX12_middleOf 76 = .ok (.iload_n 3, 1) := by decide +kernel
theorem dX12_middleOf_77 : decode cX12_middleOf 77 = .ok (.invokevirtual 278, 3) := by decide +kernel
theorem dX12_middleOf_80 : decode cX12_middleOf 80 = .ok (.ireturn, 1) := by decide +kernel
theorem dX12_draw_0 : decode cX12_draw 0 = .ok (.aload_n 0, 1) := by decide +kernel
theorem dX12_draw_1 : decode cX12_draw 1 = .ok (.getfield 7, 3) := by decide +kernel
theorem dX12_draw_4 : decode cX12_draw 4 = .ok (.bipush 8, 2) := by decide +kernel
theorem dX12_draw_6 : decode cX12_draw 6 = .ok (.ldc_w 281, 3) := by decide +kernel
theorem dX12_draw_9 : decode cX12_draw 9 = .ok (.aload_n 0, 1) := by decide +kernel
theorem dX12_draw_10 : decode cX12_draw 10 = .ok (.getfield 7, 3) := by decide +kernel
theorem dX12_draw_13 : decode cX12_draw 13 = .ok (.bipush 8, 2) := by decide +kernel
theorem dX12_draw_15 : decode cX12_draw 15 = .ok (.iaload, 1) := by decide +kernel
theorem dX12_draw_16 : decode cX12_draw 16 = .ok (.imul, 1) := by decide +kernel
theorem dX12_draw_17 : decode cX12_draw 17 = .ok (.sipush 12345, 3) := by decide +kernel
theorem dX12_draw_20 : decode cX12_draw 20 = .ok (.iadd, 1) := by decide +kernel
theorem dX12_draw_21 : decode cX12_draw 21 = .ok (.iastore, 1) := by decide +kernel
theorem dX12_draw_22 : decode cX12_draw 22 = .ok (.aload_n 0, 1) := by decide +kernel
theorem dX12_draw_23 : decode cX12_draw 23 = .ok (.getfield 7, 3) := by decide +kernel
theorem dX12_draw_26 : decode cX12_draw 26 = .ok (.bipush 8, 2) := by decide +kernel
theorem dX12_draw_28 : decode cX12_draw 28 = .ok (.iaload, 1) := by decide +kernel
theorem dX12_draw_29 : decode cX12_draw 29 = .ok (.bipush 16, 2) := by decide +kernel
theorem dX12_draw_31 : decode cX12_draw 31 = .ok (.iushr, 1) := by decide +kernel
theorem dX12_draw_32 : decode cX12_draw 32 = .ok (.sipush 32767, 3) := by decide +kernel
theorem dX12_draw_35 : decode cX12_draw 35 = .ok (.iand, 1) := by decide +kernel
theorem dX12_draw_36 : decode cX12_draw 36 = .ok (.iload_n 1, 1) := by decide +kernel
theorem dX12_draw_37 : decode cX12_draw 37 = .ok (.irem, 1) := by decide +kernel
theorem dX12_draw_38 : decode cX12_draw 38 = .ok (.ireturn, 1) := by decide +kernel
theorem dX12_logs_0 : decode cX12_logs 0 = .ok (.sipush 239, 3) := by decide +kernel
theorem dX12_logs_3 : decode cX12_logs 3 = .ok (.istore 4, 2) := by decide +kernel
theorem dX12_logs_5 : decode cX12_logs 5 = .ok (.iload 4, 2) := by decide +kernel
theorem dX12_logs_7 : decode cX12_logs 7 = .ok (.iconst 4, 1) := by decide +kernel
theorem dX12_logs_8 : decode cX12_logs 8 = .ok (.if_icmp .lt 31, 3) := by decide +kernel
theorem dX12_logs_11 : decode cX12_logs 11 = .ok (.aload_n 0, 1) := by decide +kernel
theorem dX12_logs_12 : decode cX12_logs 12 = .ok (.getfield 7, 3) := by decide +kernel
theorem dX12_logs_15 : decode cX12_logs 15 = .ok (.bipush 97, 2) := by decide +kernel
theorem dX12_logs_17 : decode cX12_logs 17 = .ok (.iload 4, 2) := by decide +kernel
theorem dX12_logs_19 : decode cX12_logs 19 = .ok (.iadd, 1) := by decide +kernel
theorem dX12_logs_20 : decode cX12_logs 20 = .ok (.aload_n 0, 1) := by decide +kernel
theorem dX12_logs_21 : decode cX12_logs 21 = .ok (.getfield 7, 3) := by decide +kernel
theorem dX12_logs_24 : decode cX12_logs 24 = .ok (.bipush 97, 2) := by decide +kernel
theorem dX12_logs_26 : decode cX12_logs 26 = .ok (.iload 4, 2) := by decide +kernel
theorem dX12_logs_28 : decode cX12_logs 28 = .ok (.iadd, 1) := by decide +kernel
theorem dX12_logs_29 : decode cX12_logs 29 = .ok (.iconst 4, 1) := by decide +kernel
theorem dX12_logs_30 : decode cX12_logs 30 = .ok (.isub, 1) := by decide +kernel
theorem dX12_logs_31 : decode cX12_logs 31 = .ok (.iaload, 1) := by decide +kernel
theorem dX12_logs_32 : decode cX12_logs 32 = .ok (.iastore, 1) := by decide +kernel
theorem dX12_logs_33 : decode cX12_logs 33 = .ok (.iinc 4 (-1), 3) := by decide +kernel
theorem dX12_logs_36 : decode cX12_logs 36 = .ok (.goto (-31), 3) := by decide +kernel
theorem dX12_logs_39 : decode cX12_logs 39 = .ok (.aload_n 0, 1) := by decide +kernel
theorem dX12_logs_40 : decode cX12_logs 40 = .ok (.getfield 7, 3) := by decide +kernel
theorem dX12_logs_43 : decode cX12_logs 43 = .ok (.bipush 97, 2) := by decide +kernel
theorem dX12_logs_45 : decode cX12_logs 45 = .ok (.aload_n 0, 1) := by decide +kernel
theorem dX12_logs_46 : decode cX12_logs 46 = .ok (.getfield 7, 3) := by decide +kernel
theorem dX12_logs_49 : decode cX12_logs 49 = .ok (.bipush 6, 2) := by decide +kernel
theorem dX12_logs_51 : decode cX12_logs 51 = .ok (.iaload, 1) := by decide +kernel
theorem dX12_logs_52 : decode cX12_logs 52 = .ok (.iastore, 1) := by decide +kernel
theorem dX12_logs_53 : decode cX12_logs 53 = .ok (.aload_n 0, 1) := by decide +kernel
theorem dX12_logs_54 : decode cX12_logs 54 = .ok (.getfield 7, 3) := by decide +kernel
theorem dX12_logs_57 : decode cX12_logs 57 = .ok (.bipush 98, 2) := by decide +kernel
theorem dX12_logs_59 : decode cX12_logs 59 = .ok (.iload_n 1, 1) := by decide +kernel
theorem dX12_logs_60 : decode cX12_logs 60 = .ok (.iastore, 1) := by decide +kernel
theorem dX12_logs_61 : decode cX12_logs 61 = .ok (.aload_n 0, 1) := by decide +kernel
theorem dX12_logs_62 : decode cX12_logs 62 = .ok (.getfield 7, 3) := by decide +kernel
theorem dX12_logs_65 : decode cX12_logs 65 = .ok (.bipush 99, 2) := by decide +kernel
theorem dX12_logs_67 : decode cX12_logs 67 = .ok (.iload_n 2, 1) := by decide +kernel
theorem dX12_logs_68 : decode cX12_logs 68 = .ok (.iastore, 1) := by decide +kernel
theorem dX12_logs_69 : decode cX12_logs 69 = .ok (.aload_n 0, 1) := by decide +kernel
theorem dX12_logs_70 : decode cX12_logs 70 = .ok (.getfield 7, 3) := by decide +kernel
theorem dX12_logs_73 : decode cX12_logs 73 = .ok (.bipush 100, 2) := by decide +kernel
theorem dX12_logs_75 : decode cX12_logs 75 = .ok (.iload_n 3, 1) := by decide +kernel
theorem dX12_logs_76 : decode cX12_logs 76 = .ok (.iastore, 1) := by decide +kernel
theorem dX12_logs_77 : decode cX12_logs 77 = .ok (.aload_n 0, 1) := by decide +kernel
theorem dX12_logs_78 : decode cX12_logs 78 = .ok (.getfield 7, 3) := by decide +kernel
theorem dX12_logs_81 : decode cX12_logs 81 = .ok (.bipush 7, 2) := by decide +kernel
theorem dX12_logs_83 : decode cX12_logs 83 = .ok (.bipush 60, 2) := by decide +kernel
theorem dX12_logs_85 : decode cX12_logs 85 = .ok (.aload_n 0, 1) := by decide +kernel
theorem dX12_logs_86 : decode cX12_logs 86 = .ok (.getfield 7, 3) := by decide +kernel
theorem dX12_logs_89 : decode cX12_logs 89 = .ok (.bipush 7, 2) := by decide +kernel
theorem dX12_logs_91 : decode cX12_logs 91 = .ok (.iaload, 1) := by decide +kernel
theorem dX12_logs_92 : decode cX12_logs 92 = .ok (.iconst 1, 1) := by decide +kernel
theorem dX12_logs_93 : decode cX12_logs 93 = .ok (.iadd, 1) := by decide +kernel
theorem dX12_logs_94 : decode cX12_logs 94 = .ok (.invokestatic 70, 3) := by decide +kernel
theorem dX12_logs_97 : decode cX12_logs 97 = .ok (.iastore, 1) := by decide +kernel
theorem dX12_logs_98 : decode cX12_logs 98 = .ok (.return_, 1) := by decide +kernel
theorem dX12_calls_0 : decode cX12_calls 0 = .ok (.iconst 0, 1) := by decide +kernel
theorem dX12_calls_1 : decode cX12_calls 1 = .ok (.istore_n 1, 1) := by decide +kernel
theorem dX12_calls_2 : decode cX12_calls 2 = .ok (.iconst 0, 1) := by decide +kernel
theorem dX12_calls_3 : decode cX12_calls 3 = .ok (.istore_n 2, 1) := by decide +kernel
theorem dX12_calls_4 : decode cX12_calls 4 = .ok (.iload_n 2, 1) := by decide +kernel
theorem dX12_calls_5 : decode cX12_calls 5 = .ok (.aload_n 0, 1) := by decide +kernel
theorem dX12_calls_6 : decode cX12_calls 6 = .ok (.getfield 7, 3) := by decide +kernel
theorem dX12_calls_9 : decode cX12_calls 9 = .ok (.iconst 3, 1) := by decide +kernel
theorem dX12_calls_10 : decode cX12_calls 10 = .ok (.iaload, 1) := by decide +kernel
theorem dX12_calls_11 : decode cX12_calls 11 = .ok (.if_icmp .ge 59, 3) := by decide +kernel
theorem dX12_calls_14 : decode cX12_calls 14 = .ok (.aload_n 0, 1) := by decide +kernel
theorem dX12_calls_15 : decode cX12_calls 15 = .ok (.iload_n 2, 1) := by decide +kernel
theorem dX12_calls_16 : decode cX12_calls 16 = .ok (.iconst 3, 1) := by decide +kernel
theorem dX12_calls_17 : decode cX12_calls 17 = .ok (.invokevirtual 66, 3) := by decide +kernel
theorem dX12_calls_20 : decode cX12_calls 20 = .ok (.iconst 1, 1) := by decide +kernel
theorem dX12_calls_21 : decode cX12_calls 21 = .ok (.if_icmp .eq 6, 3) := by decide +kernel
theorem dX12_calls_24 : decode cX12_calls 24 = .ok (.goto 40, 3) := by decide +kernel
theorem dX12_calls_27 : decode cX12_calls 27 = .ok (.aload_n 0, 1) := by decide +kernel
theorem dX12_calls_28 : decode cX12_calls 28 = .ok (.iload_n 2, 1) := by decide +kernel
theorem dX12_calls_29 : decode cX12_calls 29 = .ok (.iconst 4, 1) := by decide +kernel
theorem dX12_calls_30 : decode cX12_calls 30 = .ok (.iconst 0, 1) := by decide +kernel
theorem dX12_calls_31 : decode cX12_calls 31 = .ok (.aload_n 0, 1) := by decide +kernel
theorem dX12_calls_32 : decode cX12_calls 32 = .ok (.iload_n 2, 1) := by decide +kernel
theorem dX12_calls_33 : decode cX12_calls 33 = .ok (.iconst 4, 1) := by decide +kernel
theorem dX12_calls_34 : decode cX12_calls 34 = .ok (.invokevirtual 66, 3) := by decide +kernel
theorem dX12_calls_37 : decode cX12_calls 37 = .ok (.iconst 1, 1) := by decide +kernel
theorem dX12_calls_38 : decode cX12_calls 38 = .ok (.isub, 1) := by decide +kernel
theorem dX12_calls_39 : decode cX12_calls 39 = .ok (.invokestatic 73, 3) := by decide +kernel
theorem dX12_calls_42 : decode cX12_calls 42 = .ok (.invokevirtual 146, 3) := by decide +kernel
theorem dX12_calls_45 : decode cX12_calls 45 = .ok (.iload_n 1, 1) := by decide +kernel
theorem dX12_calls_46 : decode cX12_calls 46 = .ok (.aload_n 0, 1) := by decide +kernel
theorem dX12_calls_47 : decode cX12_calls 47 = .ok (.iload_n 2, 1) := by decide +kernel
theorem dX12_calls_48 : decode cX12_calls 48 = .ok (.iconst 4, 1) := by decide +kernel
theorem dX12_calls_49 : decode cX12_calls 49 = .ok (.invokevirtual 66, 3) := by decide +kernel
theorem dX12_calls_52 : decode cX12_calls 52 = .ok (.ifCond .ne 9, 3) := by decide +kernel
theorem dX12_calls_55 : decode cX12_calls 55 = .ok (.iconst 1, 1) := by decide +kernel
theorem dX12_calls_56 : decode cX12_calls 56 = .ok (.iload_n 2, 1) := by decide +kernel
theorem dX12_calls_57 : decode cX12_calls 57 = .ok (.ishl, 1) := by decide +kernel
theorem dX12_calls_58 : decode cX12_calls 58 = .ok (.goto 4, 3) := by decide +kernel
theorem dX12_calls_61 : decode cX12_calls 61 = .ok (.iconst 0, 1) := by decide +kernel
theorem dX12_calls_62 : decode cX12_calls 62 = .ok (.ior, 1) := by decide +kernel
theorem dX12_calls_63 : decode cX12_calls 63 = .ok (.istore_n 1, 1) := by decide +kernel
theorem dX12_calls_64 : decode cX12_calls 64 = .ok (.iinc 2 1, 3) := by decide +kernel
theorem dX12_calls_67 : decode cX12_calls 67 = .ok (.goto (-63), 3) := by decide +kernel
theorem dX12_calls_70 : decode cX12_calls 70 = .ok (.iload_n 1, 1) := by decide +kernel
theorem dX12_calls_71 : decode cX12_calls 71 = .ok (.invokestatic 247, 3) := by decide +kernel
theorem dX12_calls_74 : decode cX12_calls 74 = .ok (.iconst 1, 1) := by decide +kernel
theorem dX12_calls_75 : decode cX12_calls 75 = .ok (.if_icmp .ne 11, 3) := by decide +kernel
theorem dX12_calls_78 : decode cX12_calls 78 = .ok (.aload_n 0, 1) := by decide +kernel
theorem dX12_calls_79 : decode cX12_calls 79 = .ok (.iload_n 1, 1) := by decide +kernel
theorem dX12_calls_80 : decode cX12_calls 80 = .ok (.invokevirtual 282, 3) := by decide +kernel
theorem dX12_calls_83 : decode cX12_calls 83 = .ok (.goto 8, 3) := by decide +kernel
theorem dX12_calls_86 : decode cX12_calls 86 = .ok (.aload_n 0, 1) := by decide +kernel
theorem dX12_calls_87 : decode cX12_calls 87 = .ok (.iload_n 1, 1) := by decide +kernel
theorem dX12_calls_88 : decode cX12_calls 88 = .ok (.invokevirtual 285, 3) := by decide +kernel
theorem dX12_calls_91 : decode cX12_calls 91 = .ok (.return_, 1) := by decide +kernel
theorem dX12_starts_0 : decode cX12_starts 0 = .ok (.iconst 0, 1) := by decide +kernel
theorem dX12_starts_1 : decode cX12_starts 1 = .ok (.istore_n 2, 1) := by decide +kernel
theorem dX12_starts_2 : decode cX12_starts 2 = .ok (.iload_n 1, 1) := by decide +kernel
theorem dX12_starts_3 : decode cX12_starts 3 = .ok (.iload_n 2, 1) := by decide +kernel
theorem dX12_starts_4 : decode cX12_starts 4 = .ok (.invokestatic 274, 3) := by decide +kernel
theorem dX12_starts_7 : decode cX12_starts 7 = .ok (.ifCond .ne 9, 3) := by decide +kernel
theorem dX12_starts_10 : decode cX12_starts 10 = .ok (.iinc 2 1, 3) := by decide +kernel
theorem dX12_starts_13 : decode cX12_starts 13 = .ok (.goto (-11), 3) := by decide +kernel
theorem dX12_starts_16 : decode cX12_starts 16 = .ok (.aload_n 0, 1) := by decide +kernel
theorem dX12_starts_17 : decode cX12_starts 17 = .ok (.iload_n 2, 1) := by decide +kernel
theorem dX12_starts_18 : decode cX12_starts 18 = .ok (.iconst 3, 1) := by decide +kernel
theorem dX12_starts_19 : decode cX12_starts 19 = .ok (.iconst 2, 1) := by decide +kernel
theorem dX12_starts_20 : decode cX12_starts 20 = .ok (.invokevirtual 146, 3) := by decide +kernel
theorem dX12_starts_23 : decode cX12_starts 23 = .ok (.aload_n 0, 1) := by decide +kernel
theorem dX12_starts_24 : decode cX12_starts 24 = .ok (.iload_n 2, 1) := by decide +kernel
theorem dX12_starts_25 : decode cX12_starts 25 = .ok (.iconst 5, 1) := by decide +kernel
theorem dX12_starts_26 : decode cX12_starts 26 = .ok (.iload_n 1, 1) := by decide +kernel
theorem dX12_starts_27 : decode cX12_starts 27 = .ok (.invokevirtual 146, 3) := by decide +kernel
theorem dX12_starts_30 : decode cX12_starts 30 = .ok (.aload_n 0, 1) := by decide +kernel
theorem dX12_starts_31 : decode cX12_starts 31 = .ok (.iload_n 2, 1) := by decide +kernel
theorem dX12_starts_32 : decode cX12_starts 32 = .ok (.iconst 2, 1) := by decide +kernel
theorem dX12_starts_33 : decode cX12_starts 33 = .ok (.iconst 0, 1) := by decide +kernel
theorem dX12_starts_34 : decode cX12_starts 34 = .ok (.invokevirtual 146, 3) := by decide +kernel
theorem dX12_starts_37 : decode cX12_starts 37 = .ok (.aload_n 0, 1) := by decide +kernel
theorem dX12_starts_38 : decode cX12_starts 38 = .ok (.iload_n 2, 1) := by decide +kernel
theorem dX12_starts_39 : decode cX12_starts 39 = .ok (.iconst 0, 1) := by decide +kernel
theorem dX12_starts_40 : decode cX12_starts 40 = .ok (.iconst 0, 1) := by decide +kernel
theorem dX12_starts_41 : decode cX12_starts 41 = .ok (.invokevirtual 288, 3) := by decide +kernel
theorem dX12_starts_44 : decode cX12_starts 44 = .ok (.return_, 1) := by decide +kernel
theorem dX12_collides_0 : decode cX12_collides 0 = .ok (.iconst 0, 1) := by decide +kernel
theorem dX12_collides_1 : decode cX12_collides 1 = .ok (.istore_n 2, 1) := by decide +kernel
theorem dX12_collides_2 : decode cX12_collides 2 = .ok (.iload_n 2, 1) := by decide +kernel
theorem dX12_collides_3 : decode cX12_collides 3 = .ok (.aload_n 0, 1) := by decide +kernel
theorem dX12_collides_4 : decode cX12_collides 4 = .ok (.getfield 7, 3) := by decide +kernel
theorem dX12_collides_7 : decode cX12_collides 7 = .ok (.iconst 3, 1) := by decide +kernel
theorem dX12_collides_8 : decode cX12_collides 8 = .ok (.iaload, 1) := by decide +kernel
theorem dX12_collides_9 : decode cX12_collides 9 = .ok (.if_icmp .ge 44, 3) := by decide +kernel
theorem dX12_collides_12 : decode cX12_collides 12 = .ok (.iload_n 1, 1) := by decide +kernel
theorem dX12_collides_13 : decode cX12_collides 13 = .ok (.iload_n 2, 1) := by decide +kernel
theorem dX12_collides_14 : decode cX12_collides 14 = .ok (.invokestatic 274, 3) := by decide +kernel
theorem dX12_collides_17 : decode cX12_collides 17 = .ok (.ifCond .ne 6, 3) := by decide +kernel
theorem dX12_collides_20 : decode cX12_collides 20 = .ok (.goto 27, 3) := by decide +kernel
theorem dX12_collides_23 : decode cX12_collides 23 = .ok (.aload_n 0, 1) := by decide +kernel
theorem dX12_collides_24 : decode cX12_collides 24 = .ok (.iload_n 2, 1) := by decide +kernel
theorem dX12_collides_25 : decode cX12_collides 25 = .ok (.invokevirtual 253, 3) := by decide +kernel
theorem dX12_collides_28 : decode cX12_collides 28 = .ok (.aload_n 0, 1) := by decide +kernel
theorem dX12_collides_29 : decode cX12_collides 29 = .ok (.getfield 44, 3) := by decide +kernel
theorem dX12_collides_32 : decode cX12_collides 32 = .ok (.iload_n 2, 1) := by decide +kernel
theorem dX12_collides_33 : decode cX12_collides 33 = .ok (.bipush 99, 2) := by decide +kernel
theorem dX12_collides_35 : decode cX12_collides 35 = .ok (.iconst 3, 1) := by decide +kernel
theorem dX12_collides_36 : decode cX12_collides 36 = .ok (.iload_n 2, 1) := by decide +kernel
theorem dX12_collides_37 : decode cX12_collides 37 = .ok (.iadd, 1) := by decide +kernel
theorem dX12_collides_38 : decode cX12_collides 38 = .ok (.aload_n 0, 1) := by decide +kernel
theorem dX12_collides_39 : decode cX12_collides 39 = .ok (.getfield 245, 3) := by decide +kernel
theorem dX12_collides_42 : decode cX12_collides 42 = .ok (.iadd, 1) := by decide +kernel
theorem dX12_collides_43 : decode cX12_collides 43 = .ok (.invokestatic 70, 3) := by decide +kernel
theorem dX12_collides_46 : decode cX12_collides 46 = .ok (.iastore, 1) := by decide +kernel
theorem dX12_collides_47 : decode cX12_collides 47 = .ok (.iinc 2 1, 3) := by decide +kernel
theorem dX12_collides_50 : decode cX12_collides 50 = .ok (.goto (-48), 3) := by decide +kernel
theorem dX12_collides_53 : decode cX12_collides 53 = .ok (.iconst 0, 1) := by decide +kernel
theorem dX12_collides_54 : decode cX12_collides 54 = .ok (.istore_n 2, 1) := by decide +kernel
theorem dX12_collides_55 : decode cX12_collides 55 = .ok (.iload_n 2, 1) := by decide +kernel
theorem dX12_collides_56 : decode cX12_collides 56 = .ok (.aload_n 0, 1) := by decide +kernel
theorem dX12_collides_57 : decode cX12_collides 57 = .ok (.getfield 7, 3) := by decide +kernel
theorem dX12_collides_60 : decode cX12_collides 60 = .ok (.iconst 3, 1) := by decide +kernel
theorem dX12_collides_61 : decode cX12_collides 61 = .ok (.iaload, 1) := by decide +kernel
theorem dX12_collides_62 : decode cX12_collides 62 = .ok (.if_icmp .ge 44, 3) := by decide +kernel
theorem dX12_collides_65 : decode cX12_collides 65 = .ok (.iload_n 1, 1) := by decide +kernel
theorem dX12_collides_66 : decode cX12_collides 66 = .ok (.iload_n 2, 1) := by decide +kernel
theorem dX12_collides_67 : decode cX12_collides 67 = .ok (.invokestatic 274, 3) := by decide +kernel
theorem dX12_collides_70 : decode cX12_collides 70 = .ok (.ifCond .ne 6, 3) := by decide +kernel
theorem dX12_collides_73 : decode cX12_collides 73 = .ok (.goto 27, 3) := by decide +kernel
theorem dX12_collides_76 : decode cX12_collides 76 = .ok (.aload_n 0, 1) := by decide +kernel
theorem dX12_collides_77 : decode cX12_collides 77 = .ok (.iload_n 2, 1) := by decide +kernel
theorem dX12_collides_78 : decode cX12_collides 78 = .ok (.iconst 4, 1) := by decide +kernel
theorem dX12_collides_79 : decode cX12_collides 79 = .ok (.aload_n 0, 1) := by decide +kernel
theorem dX12_collides_80 : decode cX12_collides 80 = .ok (.getfield 44, 3) := by decide +kernel
theorem dX12_collides_83 : decode cX12_collides 83 = .ok (.iload_n 2, 1) := by decide +kernel
theorem dX12_collides_84 : decode cX12_collides 84 = .ok (.iaload, 1) := by decide +kernel
theorem dX12_collides_85 : decode cX12_collides 85 = .ok (.invokevirtual 146, 3) := by decide +kernel
theorem dX12_collides_88 : decode cX12_collides 88 = .ok (.aload_n 0, 1) := by decide +kernel
theorem dX12_collides_89 : decode cX12_collides 89 = .ok (.iload_n 2, 1) := by decide +kernel
theorem dX12_collides_90 : decode cX12_collides 90 = .ok (.iconst 1, 1) := by decide +kernel
theorem dX12_collides_91 : decode cX12_collides 91 = .ok (.aload_n 0, 1) := by decide +kernel
theorem dX12_collides_92 : decode cX12_collides 92 = .ok (.getfield 44, 3) := by decide +kernel
theorem dX12_collides_95 : decode cX12_collides 95 = .ok (.iload_n 2, 1) := by decide +kernel
theorem dX12_collides_96 : decode cX12_collides 96 = .ok (.iaload, 1) := by decide +kernel
theorem dX12_collides_97 : decode cX12_collides 97 = .ok (.invokevirtual 288, 3) := by decide +kernel
theorem dX12_collides_100 : decode cX12_collides 100 = .ok (.iinc 2 1, 3) := by decide +kernel
theorem dX12_collides_103 : decode cX12_collides 103 = .ok (.goto (-48), 3) := by decide +kernel
theorem dX12_collides_106 : decode cX12_collides 106 = .ok (.return_, 1) := by decide +kernel
theorem dX12_follow_0 : decode cX12_follow 0 = .ok (.iconst 0, 1) := by decide +kernel
theorem dX12_follow_1 : decode cX12_follow 1 = .ok (.istore_n 2, 1) := by decide +kernel
theorem dX12_follow_2 : decode cX12_follow 2 = .ok (.iload_n 1, 1) := by decide +kernel
theorem dX12_follow_3 : decode cX12_follow 3 = .ok (.iload_n 2, 1) := by decide +kernel
theorem dX12_follow_4 : decode cX12_follow 4 = .ok (.invokestatic 274, 3) := by decide +kernel
theorem dX12_follow_7 : decode cX12_follow 7 = .ok (.ifCond .ne 9, 3) := by decide +kernel
theorem dX12_follow_10 : decode cX12_follow 10 = .ok (.iinc 2 1, 3) := by decide +kernel
theorem dX12_follow_13 : decode cX12_follow 13 = .ok (.goto (-11), 3) := by decide +kernel
theorem dX12_follow_16 : decode cX12_follow 16 = .ok (.iconst 0, 1) := by decide +kernel
theorem dX12_follow_17 : decode cX12_follow 17 = .ok (.istore_n 3, 1) := by decide +kernel
theorem dX12_follow_18 : decode cX12_follow 18 = .ok (.iload_n 3, 1) := by decide +kernel
theorem dX12_follow_19 : decode cX12_follow 19 = .ok (.aload_n 0, 1) := by decide +kernel
theorem dX12_follow_20 : decode cX12_follow 20 = .ok (.getfield 7, 3) := by decide +kernel
theorem dX12_follow_23 : decode cX12_follow 23 = .ok (.iconst 3, 1) := by decide +kernel
theorem dX12_follow_24 : decode cX12_follow 24 = .ok (.iaload, 1) := by decide +kernel
theorem dX12_follow_25 : decode cX12_follow 25 = .ok (.if_icmp .ge 82, 3) := by decide +kernel
theorem dX12_follow_28 : decode cX12_follow 28 = .ok (.aload_n 0, 1) := by decide +kernel
theorem dX12_follow_29 : decode cX12_follow 29 = .ok (.iload_n 3, 1) := by decide +kernel
theorem dX12_follow_30 : decode cX12_follow 30 = .ok (.iconst 3, 1) := by decide +kernel
theorem dX12_follow_31 : decode cX12_follow 31 = .ok (.invokevirtual 66, 3) := by decide +kernel
theorem dX12_follow_34 : decode cX12_follow 34 = .ok (.iconst 1, 1) := by decide +kernel
theorem dX12_follow_35 : decode cX12_follow 35 = .ok (.if_icmp .eq 6, 3) := by decide +kernel
theorem dX12_follow_38 : decode cX12_follow 38 = .ok (.goto 63, 3) := by decide +kernel
theorem dX12_follow_41 : decode cX12_follow 41 = .ok (.aload_n 0, 1) := by decide +kernel
theorem dX12_follow_42 : decode cX12_follow 42 = .ok (.iload_n 3, 1) := by decide +kernel
theorem dX12_follow_43 : decode cX12_follow 43 = .ok (.iconst 0, 1) := by decide +kernel
theorem dX12_follow_44 : decode cX12_follow 44 = .ok (.aload_n 0, 1) := by decide +kernel
theorem dX12_follow_45 : decode cX12_follow 45 = .ok (.getfield 32, 3) := by decide +kernel
theorem dX12_follow_48 : decode cX12_follow 48 = .ok (.bipush 8, 2) := by decide +kernel
theorem dX12_follow_50 : decode cX12_follow 50 = .ok (.iload_n 2, 1) := by decide +kernel
theorem dX12_follow_51 : decode cX12_follow 51 = .ok (.imul, 1) := by decide +kernel
theorem dX12_follow_52 : decode cX12_follow 52 = .ok (.iload_n 3, 1) := by decide +kernel
theorem dX12_follow_53 : decode cX12_follow 53 = .ok (.iadd, 1) := by decide +kernel
theorem dX12_follow_54 : decode cX12_follow 54 = .ok (.iaload, 1) := by decide +kernel
theorem dX12_follow_55 : decode cX12_follow 55 = .ok (.aload_n 0, 1) := by decide +kernel
theorem dX12_follow_56 : decode cX12_follow 56 = .ok (.iload_n 3, 1) := by decide +kernel
theorem dX12_follow_57 : decode cX12_follow 57 = .ok (.iconst 0, 1) := by decide +kernel
theorem dX12_follow_58 : decode cX12_follow 58 = .ok (.invokevirtual 66, 3) := by decide +kernel
theorem dX12_follow_61 : decode cX12_follow 61 = .ok (.iadd, 1) := by decide +kernel
theorem dX12_follow_62 : decode cX12_follow 62 = .ok (.sipush 999, 3) := by decide +kernel
theorem dX12_follow_65 : decode cX12_follow 65 = .ok (.invokestatic 291, 3) := by decide +kernel
theorem dX12_follow_68 : decode cX12_follow 68 = .ok (.invokevirtual 146, 3) := by decide +kernel
theorem dX12_follow_71 : decode cX12_follow 71 = .ok (.aload_n 0, 1) := by decide +kernel
theorem dX12_follow_72 : decode cX12_follow 72 = .ok (.iload_n 3, 1) := by decide +kernel
theorem dX12_follow_73 : decode cX12_follow 73 = .ok (.iconst 5, 1) := by decide +kernel
theorem dX12_follow_74 : decode cX12_follow 74 = .ok (.aload_n 0, 1) := by decide +kernel
theorem dX12_follow_75 : decode cX12_follow 75 = .ok (.iload_n 2, 1) := by decide +kernel
theorem dX12_follow_76 : decode cX12_follow 76 = .ok (.iconst 5, 1) := by decide +kernel
theorem dX12_follow_77 : decode cX12_follow 77 = .ok (.invokevirtual 66, 3) := by decide +kernel
theorem dX12_follow_80 : decode cX12_follow 80 = .ok (.iconst 1, 1) := by decide +kernel
theorem dX12_follow_81 : decode cX12_follow 81 = .ok (.iload_n 3, 1) := by decide +kernel
theorem dX12_follow_82 : decode cX12_follow 82 = .ok (.ishl, 1) := by decide +kernel
theorem dX12_follow_83 : decode cX12_follow 83 = .ok (.ior, 1) := by decide +kernel
theorem dX12_follow_84 : decode cX12_follow 84 = .ok (.invokevirtual 146, 3) := by decide +kernel
theorem dX12_follow_87 : decode cX12_follow 87 = .ok (.aload_n 0, 1) := by decide +kernel
theorem dX12_follow_88 : decode cX12_follow 88 = .ok (.iload_n 3, 1) := by decide +kernel
theorem dX12_follow_89 : decode cX12_follow 89 = .ok (.iconst 3, 1) := by decide +kernel
theorem dX12_follow_90 : decode cX12_follow 90 = .ok (.iconst 2, 1) := by decide +kernel
theorem dX12_follow_91 : decode cX12_follow 91 = .ok (.invokevirtual 146, 3) := by decide +kernel
theorem dX12_follow_94 : decode cX12_follow 94 = .ok (.aload_n 0, 1) := by decide +kernel
theorem dX12_follow_95 : decode cX12_follow 95 = .ok (.iload_n 3, 1) := by decide +kernel
theorem dX12_follow_96 : decode cX12_follow 96 = .ok (.iconst 2, 1) := by decide +kernel
theorem dX12_follow_97 : decode cX12_follow 97 = .ok (.iload_n 2, 1) := by decide +kernel
theorem dX12_follow_98 : decode cX12_follow 98 = .ok (.invokevirtual 288, 3) := by decide +kernel
theorem dX12_follow_101 : decode cX12_follow 101 = .ok (.iinc 3 1, 3) := by decide +kernel
theorem dX12_follow_104 : decode cX12_follow 104 = .ok (.goto (-86), 3) := by decide +kernel
theorem dX12_follow_107 : decode cX12_follow 107 = .ok (.return_, 1) := by decide +kernel
theorem dX12_counts_0 : decode cX12_counts 0 = .ok (.iload_n 2, 1) := by decide +kernel
theorem dX12_counts_1 : decode cX12_counts 1 = .ok (.iconst 1, 1) := by decide +kernel
theorem dX12_counts_2 : decode cX12_counts 2 = .ok (.iload_n 1, 1) := by decide +kernel
theorem dX12_counts_3 : decode cX12_counts 3 = .ok (.ishl, 1) := by decide +kernel
theorem dX12_counts_4 : decode cX12_counts 4 = .ok (.iconst (-1), 1) := by decide +kernel
theorem dX12_counts_5 : decode cX12_counts 5 = .ok (.ixor, 1) := by decide +kernel
theorem dX12_counts_6 : decode cX12_counts 6 = .ok (.iand, 1) := by decide +kernel
theorem dX12_counts_7 : decode cX12_counts 7 = .ok (.istore_n 3, 1) := by decide +kernel
theorem dX12_counts_8 : decode cX12_counts 8 = .ok (.iload_n 2, 1) := by decide +kernel
theorem dX12_counts_9 : decode cX12_counts 9 = .ok (.iconst 1, 1) := by decide +kernel
theorem dX12_counts_10 : decode cX12_counts 10 = .ok (.iload_n 1, 1) := by decide +kernel
theorem dX12_counts_11 : decode cX12_counts 11 = .ok (.ishl, 1) := by decide +kernel
theorem dX12_counts_12 : decode cX12_counts 12 = .ok (.iand, 1) := by decide +kernel
theorem dX12_counts_13 : decode cX12_counts 13 = .ok (.istore 4, 2) := by decide +kernel
theorem dX12_counts_15 : decode cX12_counts 15 = .ok (.aload_n 0, 1) := by decide +kernel
theorem dX12_counts_16 : decode cX12_counts 16 = .ok (.iload_n 1, 1) := by decide +kernel
theorem dX12_counts_17 : decode cX12_counts 17 = .ok (.bipush 6, 2) := by decide +kernel
theorem dX12_counts_19 : decode cX12_counts 19 = .ok (.iload_n 3, 1) := by decide +kernel
theorem dX12_counts_20 : decode cX12_counts 20 = .ok (.aload_n 0, 1) := by decide +kernel
theorem dX12_counts_21 : decode cX12_counts 21 = .ok (.getfield 35, 3) := by decide +kernel
theorem dX12_counts_24 : decode cX12_counts 24 = .ok (.iload_n 1, 1) := by decide +kernel
theorem dX12_counts_25 : decode cX12_counts 25 = .ok (.iaload, 1) := by decide +kernel
theorem dX12_counts_26 : decode cX12_counts 26 = .ok (.iand, 1) := by decide +kernel
theorem dX12_counts_27 : decode cX12_counts 27 = .ok (.invokestatic 247, 3) := by decide +kernel
theorem dX12_counts_30 : decode cX12_counts 30 = .ok (.iload 4, 2) := by decide +kernel
theorem dX12_counts_32 : decode cX12_counts 32 = .ok (.invokestatic 247, 3) := by decide +kernel
theorem dX12_counts_35 : decode cX12_counts 35 = .ok (.iadd, 1) := by decide +kernel
theorem dX12_counts_36 : decode cX12_counts 36 = .ok (.invokevirtual 146, 3) := by decide +kernel
theorem dX12_counts_39 : decode cX12_counts 39 = .ok (.aload_n 0, 1) := by decide +kernel
theorem dX12_counts_40 : decode cX12_counts 40 = .ok (.iload_n 1, 1) := by decide +kernel
theorem dX12_counts_41 : decode cX12_counts 41 = .ok (.bipush 7, 2) := by decide +kernel
theorem dX12_counts_43 : decode cX12_counts 43 = .ok (.iload_n 3, 1) := by decide +kernel
theorem dX12_counts_44 : decode cX12_counts 44 = .ok (.aload_n 0, 1) := by decide +kernel
theorem dX12_counts_45 : decode cX12_counts 45 = .ok (.getfield 35, 3) := by decide +kernel
theorem dX12_counts_48 : decode cX12_counts 48 = .ok (.iload_n 1, 1) := by decide +kernel
theorem dX12_counts_49 : decode cX12_counts 49 = .ok (.iaload, 1) := by decide +kernel
theorem dX12_counts_50 : decode cX12_counts 50 = .ok (.iconst (-1), 1) := by decide +kernel
theorem dX12_counts_51 : decode cX12_counts 51 = .ok (.ixor, 1) := by decide +kernel
theorem dX12_counts_52 : decode cX12_counts 52 = .ok (.iand, 1) := by decide +kernel
theorem dX12_counts_53 : decode cX12_counts 53 = .ok (.invokestatic 247, 3) := by decide +kernel
theorem dX12_counts_56 : decode cX12_counts 56 = .ok (.invokevirtual 146, 3) := by decide +kernel
theorem dX12_counts_59 : decode cX12_counts 59 = .ok (.aload_n 0, 1) := by decide +kernel
theorem dX12_counts_60 : decode cX12_counts 60 = .ok (.iload_n 1, 1) := by decide +kernel
theorem dX12_counts_61 : decode cX12_counts 61 = .ok (.iconst 5, 1) := by decide +kernel
theorem dX12_counts_62 : decode cX12_counts 62 = .ok (.iload_n 3, 1) := by decide +kernel
theorem dX12_counts_63 : decode cX12_counts 63 = .ok (.aload_n 0, 1) := by decide +kernel
theorem dX12_counts_64 : decode cX12_counts 64 = .ok (.getfield 35, 3) := by decide +kernel
theorem dX12_counts_67 : decode cX12_counts 67 = .ok (.iload_n 1, 1) := by decide +kernel
theorem dX12_counts_68 : decode cX12_counts 68 = .ok (.iaload, 1) := by decide +kernel
theorem dX12_counts_69 : decode cX12_counts 69 = .ok (.iand, 1) := by decide +kernel
theorem dX12_counts_70 : decode cX12_counts 70 = .ok (.iload 4, 2) := by decide +kernel
theorem dX12_counts_72 : decode cX12_counts 72 = .ok (.ior, 1) := by decide +kernel
theorem dX12_counts_73 : decode cX12_counts 73 = .ok (.invokevirtual 146, 3) := by decide +kernel
theorem dX12_counts_76 : decode cX12_counts 76 = .ok (.return_, 1) := by decide +kernel
theorem dX12_nextOf_0 : decode cX12_nextOf 0 = .ok (.iload_n 2, 1) := by decide +kernel
theorem dX12_nextOf_1 : decode cX12_nextOf 1 = .ok (.iconst 1, 1) := by decide +kernel
theorem dX12_nextOf_2 : decode cX12_nextOf 2 = .ok (.iadd, 1) := by decide +kernel
theorem dX12_nextOf_3 : decode cX12_nextOf 3 = .ok (.bipush 8, 2) := by decide +kernel
theorem dX12_nextOf_5 : decode cX12_nextOf 5 = .ok (.irem, 1) := by decide +kernel
theorem dX12_nextOf_6 : decode cX12_nextOf 6 = .ok (.istore_n 3, 1) := by decide +kernel
theorem dX12_nextOf_7 : decode cX12_nextOf 7 = .ok (.iload_n 1, 1) := by decide +kernel
theorem dX12_nextOf_8 : decode cX12_nextOf 8 = .ok (.iload_n 3, 1) := by decide +kernel
theorem dX12_nextOf_9 : decode cX12_nextOf 9 = .ok (.invokestatic 274, 3) := by decide +kernel
theorem dX12_nextOf_12 : decode cX12_nextOf 12 = .ok (.ifCond .ne 13, 3) := by decide +kernel
theorem dX12_nextOf_15 : decode cX12_nextOf 15 = .ok (.iload_n 3, 1) := by decide +kernel
theorem dX12_nextOf_16 : decode cX12_nextOf 16 = .ok (.iconst 1, 1) := by decide +kernel
theorem dX12_nextOf_17 : decode cX12_nextOf 17 = .ok (.iadd, 1) := by decide +kernel
theorem dX12_nextOf_18 : decode cX12_nextOf 18 = .ok (.bipush 8, 2) := by decide +kernel
theorem dX12_nextOf_20 : decode cX12_nextOf 20 = .ok (.irem, 1) := by decide +kernel
theorem dX12_nextOf_21 : decode cX12_nextOf 21 = .ok (.istore_n 3, 1) := by decide +kernel
theorem dX12_nextOf_22 : decode cX12_nextOf 22 = .ok (.goto (-15), 3) := by decide +kernel
theorem dX12_nextOf_25 : decode cX12_nextOf 25 = .ok (.iload_n 3, 1) := by decide +kernel
theorem dX12_nextOf_26 : decode cX12_nextOf 26 = .ok (.ireturn, 1) := by decide +kernel
theorem dX12_isDenied_0 : decode cX12_isDenied 0 = .ok (.aload_n 0, 1) := by decide +kernel
theorem dX12_isDenied_1 : decode cX12_isDenied 1 = .ok (.iload_n 2, 1) := by decide +kernel
theorem dX12_isDenied_2 : decode cX12_isDenied 2 = .ok (.iload_n 1, 1) := by decide +kernel
theorem dX12_isDenied_3 : decode cX12_isDenied 3 = .ok (.invokevirtual 294, 3) := by decide +kernel
theorem dX12_isDenied_6 : decode cX12_isDenied 6 = .ok (.istore_n 3, 1) := by decide +kernel
theorem dX12_isDenied_7 : decode cX12_isDenied 7 = .ok (.iload_n 3, 1) := by decide +kernel
theorem dX12_isDenied_8 : decode cX12_isDenied 8 = .ok (.iload_n 1, 1) := by decide +kernel
theorem dX12_isDenied_9 : decode cX12_isDenied 9 = .ok (.if_icmp .eq 16, 3) := by decide +kernel
theorem dX12_isDenied_12 : decode cX12_isDenied 12 = .ok (.aload_n 0, 1) := by decide +kernel
theorem dX12_isDenied_13 : decode cX12_isDenied 13 = .ok (.getfield 44, 3) := by decide +kernel
theorem dX12_isDenied_16 : decode cX12_isDenied 16 = .ok (.iload_n 3, 1) := by decide +kernel
theorem dX12_isDenied_17 : decode cX12_isDenied 17 = .ok (.iaload, 1) := by decide +kernel
theorem dX12_isDenied_18 : decode cX12_isDenied 18 = .ok (.iload_n 1, 1) := by decide +kernel
theorem dX12_isDenied_19 : decode cX12_isDenied 19 = .ok (.invokestatic 274, 3) := by decide +kernel
theorem dX12_isDenied_22 : decode cX12_isDenied 22 = .ok (.ifCond .eq 5, 3) := by decide +kernel
theorem dX12_isDenied_25 : decode cX12_isDenied 25 = .ok (.iconst 0, 1) := by decide +kernel
theorem dX12_isDenied_26 : decode cX12_isDenied 26 = .ok (.ireturn, 1) := by decide +kernel
theorem dX12_isDenied_27 : decode cX12_isDenied 27 = .ok (.aload_n 0, 1) := by decide +kernel
theorem dX12_isDenied_28 : decode cX12_isDenied 28 = .ok (.iload_n 2, 1) := by decide +kernel
theorem dX12_isDenied_29 : decode cX12_isDenied 29 = .ok (.iload_n 3, 1) := by decide +kernel
theorem dX12_isDenied_30 : decode cX12_isDenied 30 = .ok (.invokevirtual 294, 3) := by decide +kernel
theorem dX12_isDenied_33 : decode cX12_isDenied 33 = .ok (.istore 4, 2) := by decide +kernel
theorem dX12_isDenied_35 : decode cX12_isDenied 35 = .ok (.iload 4, 2) := by decide +kernel
theorem dX12_isDenied_37 : decode cX12_isDenied 37 = .ok (.iload_n 1, 1) := by decide +kernel
theorem dX12_isDenied_38 : decode cX12_isDenied 38 = .ok (.if_icmp .eq 17, 3) := by decide +kernel
theorem dX12_isDenied_41 : decode cX12_isDenied 41 = .ok (.aload_n 0, 1) := by decide +kernel
theorem dX12_isDenied_42 : decode cX12_isDenied 42 = .ok (.getfield 44, 3) := by decide +kernel
theorem dX12_isDenied_45 : decode cX12_isDenied 45 = .ok (.iload 4, 2) := by decide +kernel
theorem dX12_isDenied_47 : decode cX12_isDenied 47 = .ok (.iaload, 1) := by decide +kernel
theorem dX12_isDenied_48 : decode cX12_isDenied 48 = .ok (.iload_n 1, 1) := by decide +kernel
theorem dX12_isDenied_49 : decode cX12_isDenied 49 = .ok (.invokestatic 274, 3) := by decide +kernel
theorem dX12_isDenied_52 : decode cX12_isDenied 52 = .ok (.ifCond .ne 5, 3) := by decide +kernel
theorem dX12_isDenied_55 : decode cX12_isDenied 55 = .ok (.iconst 1, 1) := by decide +kernel
theorem dX12_isDenied_56 : decode cX12_isDenied 56 = .ok (.ireturn, 1) := by decide +kernel
theorem dX12_isDenied_57 : decode cX12_isDenied 57 = .ok (.aload_n 0, 1) := by decide +kernel
theorem dX12_isDenied_58 : decode cX12_isDenied 58 = .ok (.iload_n 1, 1) := by decide +kernel
theorem dX12_isDenied_59 : decode cX12_isDenied 59 = .ok (.iconst 5, 1) := by decide +kernel
theorem dX12_isDenied_60 : decode cX12_isDenied 60 = .ok (.aload_n 0, 1) := by decide +kernel
theorem dX12_isDenied_61 : decode cX12_isDenied 61 = .ok (.iload_n 1, 1) := by decide +kernel
theorem dX12_isDenied_62 : decode cX12_isDenied 62 = .ok (.iconst 5, 1) := by decide +kernel
theorem dX12_isDenied_63 : decode cX12_isDenied 63 = .ok (.invokevirtual 66, 3) := by decide +kernel
theorem dX12_isDenied_66 : decode cX12_isDenied 66 = .ok (.iconst 1, 1) := by decide +kernel
theorem dX12_isDenied_67 : decode cX12_isDenied 67 = .ok (.iload_n 3, 1) := by decide +kernel
theorem dX12_isDenied_68 : decode cX12_isDenied 68 = .ok (.ishl, 1) := by decide +kernel
theorem dX12_isDenied_69 : decode cX12_isDenied 69 = .ok (.iconst (-1), 1) := by decide +kernel
theorem dX12_isDenied_70 : decode cX12_isDenied 70 = .ok (.ixor, 1) := by decide +kernel
theorem dX12_isDenied_71 : decode cX12_isDenied 71 = .ok (.iand, 1) := by decide +kernel
theorem dX12_isDenied_72 : decode cX12_isDenied 72 = .ok (.invokevirtual 146, 3) := by decide +kernel
theorem dX12_isDenied_75 : decode cX12_isDenied 75 = .ok (.iconst 0, 1) := by decide +kernel
theorem dX12_isDenied_76 : decode cX12_isDenied 76 = .ok (.ireturn, 1) := by decide +kernel
theorem dX12_freezes_0 : decode cX12_freezes 0 = .ok (.aload_n 0, 1) := by decide +kernel
theorem dX12_freezes_1 : decode cX12_freezes 1 = .ok (.iload_n 1, 1) := by decide +kernel
theorem dX12_freezes_2 : decode cX12_freezes 2 = .ok (.iconst 3, 1) := by decide +kernel
theorem dX12_freezes_3 : decode cX12_freezes 3 = .ok (.iconst 3, 1) := by decide +kernel
theorem dX12_freezes_4 : decode cX12_freezes 4 = .ok (.invokevirtual 146, 3) := by decide +kernel
theorem dX12_freezes_7 : decode cX12_freezes 7 = .ok (.aload_n 0, 1) := by decide +kernel
theorem dX12_freezes_8 : decode cX12_freezes 8 = .ok (.iload_n 1, 1) := by decide +kernel
theorem dX12_freezes_9 : decode cX12_freezes 9 = .ok (.iload_n 2, 1) := by decide +kernel
theorem dX12_freezes_10 : decode cX12_freezes 10 = .ok (.aload_n 0, 1) := by decide +kernel
theorem dX12_freezes_11 : decode cX12_freezes 11 = .ok (.iload_n 1, 1) := by decide +kernel
theorem dX12_freezes_12 : decode cX12_freezes 12 = .ok (.bipush 7, 2) := by decide +kernel
theorem dX12_freezes_14 : decode cX12_freezes 14 = .ok (.invokevirtual 66, 3) := by decide +kernel
theorem dX12_freezes_17 : decode cX12_freezes 17 = .ok (.invokevirtual 288, 3) := by decide +kernel
theorem dX12_freezes_20 : decode cX12_freezes 20 = .ok (.aload_n 0, 1) := by decide +kernel
theorem dX12_freezes_21 : decode cX12_freezes 21 = .ok (.dup, 1) := by decide +kernel
theorem dX12_freezes_22 : decode cX12_freezes 22 = .ok (.getfield 297, 3) := by decide +kernel
theorem dX12_freezes_25 : decode cX12_freezes 25 = .ok (.iconst 1, 1) := by decide +kernel
theorem dX12_freezes_26 : decode cX12_freezes 26 = .ok (.iadd, 1) := by decide +kernel
theorem dX12_freezes_27 : decode cX12_freezes 27 = .ok (.putfield 297, 3) := by decide +kernel
theorem dX12_freezes_30 : decode cX12_freezes 30 = .ok (.return_, 1) := by decide +kernel
theorem dX12_judges_0 : decode cX12_judges 0 = .ok (.iconst 0, 1) := by decide +kernel
theorem dX12_judges_1 : decode cX12_judges 1 = .ok (.istore_n 3, 1) := by decide +kernel
theorem dX12_judges_2 : decode cX12_judges 2 = .ok (.iload_n 3, 1) := by decide +kernel
theorem dX12_judges_3 : decode cX12_judges 3 = .ok (.aload_n 0, 1) := by decide +kernel
theorem dX12_judges_4 : decode cX12_judges 4 = .ok (.getfield 7, 3) := by decide +kernel
theorem dX12_judges_7 : decode cX12_judges 7 = .ok (.iconst 3, 1) := by decide +kernel
theorem dX12_judges_8 : decode cX12_judges 8 = .ok (.iaload, 1) := by decide +kernel
theorem dX12_judges_9 : decode cX12_judges 9 = .ok (.if_icmp .ge 21, 3) := by decide +kernel
theorem dX12_judges_12 : decode cX12_judges 12 = .ok (.aload_n 0, 1) := by decide +kernel
theorem dX12_judges_13 : decode cX12_judges 13 = .ok (.getfield 44, 3) := by decide +kernel
theorem dX12_judges_16 : decode cX12_judges 16 = .ok (.iload_n 3, 1) := by decide +kernel
theorem dX12_judges_17 : decode cX12_judges 17 = .ok (.aload_n 0, 1) := by decide +kernel
theorem dX12_judges_18 : decode cX12_judges 18 = .ok (.iload_n 3, 1) := by decide +kernel
theorem dX12_judges_19 : decode cX12_judges 19 = .ok (.iconst 5, 1) := by decide +kernel
theorem dX12_judges_20 : decode cX12_judges 20 = .ok (.invokevirtual 66, 3) := by decide +kernel
theorem dX12_judges_23 : decode cX12_judges 23 = .ok (.iastore, 1) := by decide +kernel
theorem dX12_judges_24 : decode cX12_judges 24 = .ok (.iinc 3 1, 3) := by decide +kernel
theorem dX12_judges_27 : decode cX12_judges 27 = .ok (.goto (-25), 3) := by decide +kernel
theorem dX12_judges_30 : decode cX12_judges 30 = .ok (.iconst 0, 1) := by decide +kernel
theorem dX12_judges_31 : decode cX12_judges 31 = .ok (.istore_n 3, 1) := by decide +kernel
theorem dX12_judges_32 : decode cX12_judges 32 = .ok (.iload_n 3, 1) := by decide +kernel
theorem dX12_judges_33 : decode cX12_judges 33 = .ok (.aload_n 0, 1) := by decide +kernel
theorem dX12_judges_34 : decode cX12_judges 34 = .ok (.getfield 7, 3) := by decide +kernel
theorem dX12_judges_37 : decode cX12_judges 37 = .ok (.iconst 3, 1) := by decide +kernel
theorem dX12_judges_38 : decode cX12_judges 38 = .ok (.iaload, 1) := by decide +kernel
theorem dX12_judges_39 : decode cX12_judges 39 = .ok (.if_icmp .ge 32, 3) := by decide +kernel
theorem dX12_judges_42 : decode cX12_judges 42 = .ok (.iload_n 2, 1) := by decide +kernel
theorem dX12_judges_43 : decode cX12_judges 43 = .ok (.iload_n 3, 1) := by decide +kernel
theorem dX12_judges_44 : decode cX12_judges 44 = .ok (.invokestatic 274, 3) := by decide +kernel
theorem dX12_judges_47 : decode cX12_judges 47 = .ok (.ifCond .eq 18, 3) := by decide +kernel
theorem dX12_judges_50 : decode cX12_judges 50 = .ok (.aload_n 0, 1) := by decide +kernel
theorem dX12_judges_51 : decode cX12_judges 51 = .ok (.iload_n 3, 1) := by decide +kernel
theorem dX12_judges_52 : decode cX12_judges 52 = .ok (.iload_n 2, 1) := by decide +kernel
theorem dX12_judges_53 : decode cX12_judges 53 = .ok (.invokevirtual 300, 3) := by decide +kernel
theorem dX12_judges_56 : decode cX12_judges 56 = .ok (.ifCond .eq 9, 3) := by decide +kernel
theorem dX12_judges_59 : decode cX12_judges 59 = .ok (.aload_n 0, 1) := by decide +kernel
theorem dX12_judges_60 : decode cX12_judges 60 = .ok (.iload_n 3, 1) := by decide +kernel
theorem dX12_judges_61 : decode cX12_judges 61 = .ok (.iconst 3, 1) := by decide +kernel
theorem dX12_judges_62 : decode cX12_judges 62 = .ok (.invokevirtual 303, 3) := by decide +kernel
theorem dX12_judges_65 : decode cX12_judges 65 = .ok (.iinc 3 1, 3) := by decide +kernel
theorem dX12_judges_68 : decode cX12_judges 68 = .ok (.goto (-36), 3) := by decide +kernel
theorem dX12_judges_71 : decode cX12_judges 71 = .ok (.iconst 0, 1) := by decide +kernel
theorem dX12_judges_72 : decode cX12_judges 72 = .ok (.istore_n 3, 1) := by decide +kernel
theorem dX12_judges_73 : decode cX12_judges 73 = .ok (.iload_n 3, 1) := by decide +kernel
theorem dX12_judges_74 : decode cX12_judges 74 = .ok (.aload_n 0, 1) := by decide +kernel
theorem dX12_judges_75 : decode cX12_judges 75 = .ok (.getfield 7, 3) := by decide +kernel
theorem dX12_judges_78 : decode cX12_judges 78 = .ok (.iconst 3, 1) := by decide +kernel
theorem dX12_judges_79 : decode cX12_judges 79 = .ok (.iaload, 1) := by decide +kernel
theorem dX12_judges_80 : decode cX12_judges 80 = .ok (.if_icmp .ge 58, 3) := by decide +kernel
theorem dX12_judges_83 : decode cX12_judges 83 = .ok (.iload_n 1, 1) := by decide +kernel
theorem dX12_judges_84 : decode cX12_judges 84 = .ok (.iload_n 3, 1) := by decide +kernel
theorem dX12_judges_85 : decode cX12_judges 85 = .ok (.invokestatic 274, 3) := by decide +kernel
theorem dX12_judges_88 : decode cX12_judges 88 = .ok (.ifCond .eq 44, 3) := by decide +kernel
theorem dX12_judges_91 : decode cX12_judges 91 = .ok (.aload_n 0, 1) := by decide +kernel
theorem dX12_judges_92 : decode cX12_judges 92 = .ok (.iload_n 3, 1) := by decide +kernel
theorem dX12_judges_93 : decode cX12_judges 93 = .ok (.invokevirtual 262, 3) := by decide +kernel
theorem dX12_judges_96 : decode cX12_judges 96 = .ok (.ifCond .eq 36, 3) := by decide +kernel
theorem dX12_judges_99 : decode cX12_judges 99 = .ok (.aload_n 0, 1) := by decide +kernel
theorem dX12_judges_100 : decode cX12_judges 100 = .ok (.iload_n 3, 1) := by decide +kernel
theorem dX12_judges_101 : decode cX12_judges 101 = .ok (.bipush 7, 2) := by decide +kernel
theorem dX12_judges_103 : decode cX12_judges 103 = .ok (.invokevirtual 66, 3) := by decide +kernel
theorem dX12_judges_106 : decode cX12_judges 106 = .ok (.ifCond .le 26, 3) := by decide +kernel
theorem dX12_judges_109 : decode cX12_judges 109 = .ok (.aload_n 0, 1) := by decide +kernel
theorem dX12_judges_110 : decode cX12_judges 110 = .ok (.iload_n 3, 1) := by decide +kernel
theorem dX12_judges_111 : decode cX12_judges 111 = .ok (.bipush 6, 2) := by decide +kernel
theorem dX12_judges_113 : decode cX12_judges 113 = .ok (.invokevirtual 66, 3) := by decide +kernel
theorem dX12_judges_116 : decode cX12_judges 116 = .ok (.aload_n 0, 1) := by decide +kernel
theorem dX12_judges_117 : decode cX12_judges 117 = .ok (.iload_n 3, 1) := by decide +kernel
theorem dX12_judges_118 : decode cX12_judges 118 = .ok (.bipush 7, 2) := by decide +kernel
theorem dX12_judges_120 : decode cX12_judges 120 = .ok (.invokevirtual 66, 3) := by decide +kernel
theorem dX12_judges_123 : decode cX12_judges 123 = .ok (.if_icmp .gt 9, 3) := by decide +kernel
theorem dX12_judges_126 : decode cX12_judges 126 = .ok (.aload_n 0, 1) := by decide +kernel
theorem dX12_judges_127 : decode cX12_judges 127 = .ok (.iload_n 3, 1) := by decide +kernel
theorem dX12_judges_128 : decode cX12_judges 128 = .ok (.iconst 4, 1) := by decide +kernel
theorem dX12_judges_129 : decode cX12_judges 129 = .ok (.invokevirtual 303, 3) := by decide +kernel
theorem dX12_judges_132 : decode cX12_judges 132 = .ok (.iinc 3 1, 3) := by decide +kernel
theorem dX12_judges_135 : decode cX12_judges 135 = .ok (.goto (-62), 3) := by decide +kernel
theorem dX12_judges_138 : decode cX12_judges 138 = .ok (.return_, 1) := by decide +kernel
theorem dX12_corrects_0 : decode cX12_corrects 0 = .ok (.aload_n 0, 1) := by decide +kernel
theorem dX12_corrects_1 : decode cX12_corrects 1 = .ok (.iload_n 1, 1) := by decide +kernel
theorem dX12_corrects_2 : decode cX12_corrects 2 = .ok (.iload_n 2, 1) := by decide +kernel
theorem dX12_corrects_3 : decode cX12_corrects 3 = .ok (.invokevirtual 307, 3) := by decide +kernel
theorem dX12_corrects_6 : decode cX12_corrects 6 = .ok (.istore_n 3, 1) := by decide +kernel
theorem dX12_corrects_7 : decode cX12_corrects 7 = .ok (.aload_n 0, 1) := by decide +kernel
theorem dX12_corrects_8 : decode cX12_corrects 8 = .ok (.getfield 7, 3) := by decide +kernel
theorem dX12_corrects_11 : decode cX12_corrects 11 = .ok (.bipush 6, 2) := by decide +kernel
theorem dX12_corrects_13 : decode cX12_corrects 13 = .ok (.iaload, 1) := by decide +kernel
theorem dX12_corrects_14 : decode cX12_corrects 14 = .ok (.iconst 2, 1) := by decide +kernel
theorem dX12_corrects_15 : decode cX12_corrects 15 = .ok (.irem, 1) := by decide +kernel
theorem dX12_corrects_16 : decode cX12_corrects 16 = .ok (.ifCond .ne 20, 3) := by decide +kernel
theorem dX12_corrects_19 : decode cX12_corrects 19 = .ok (.aload_n 0, 1) := by decide +kernel
theorem dX12_corrects_20 : decode cX12_corrects 20 = .ok (.iload_n 1, 1) := by decide +kernel
theorem dX12_corrects_21 : decode cX12_corrects 21 = .ok (.iconst 0, 1) := by decide +kernel
theorem dX12_corrects_22 : decode cX12_corrects 22 = .ok (.aload_n 0, 1) := by decide +kernel
theorem dX12_corrects_23 : decode cX12_corrects 23 = .ok (.iload_n 1, 1) := by decide +kernel
theorem dX12_corrects_24 : decode cX12_corrects 24 = .ok (.iconst 0, 1) := by decide +kernel
theorem dX12_corrects_25 : decode cX12_corrects 25 = .ok (.invokevirtual 66, 3) := by decide +kernel
theorem dX12_corrects_28 : decode cX12_corrects 28 = .ok (.iload_n 3, 1) := by decide +kernel
theorem dX12_corrects_29 : decode cX12_corrects 29 = .ok (.iadd, 1) := by decide +kernel
theorem dX12_corrects_30 : decode cX12_corrects 30 = .ok (.invokevirtual 146, 3) := by decide +kernel
theorem dX12_corrects_33 : decode cX12_corrects 33 = .ok (.goto 24, 3) := by decide +kernel
theorem dX12_corrects_36 : decode cX12_corrects 36 = .ok (.aload_n 0, 1) := by decide +kernel
theorem dX12_corrects_37 : decode cX12_corrects 37 = .ok (.iload_n 1, 1) := by decide +kernel
theorem dX12_corrects_38 : decode cX12_corrects 38 = .ok (.iconst 2, 1) := by decide +kernel
theorem dX12_corrects_39 : decode cX12_corrects 39 = .ok (.aload_n 0, 1) := by decide +kernel
theorem dX12_corrects_40 : decode cX12_corrects 40 = .ok (.iload_n 1, 1) := by decide +kernel
theorem dX12_corrects_41 : decode cX12_corrects 41 = .ok (.iconst 2, 1) := by decide +kernel
theorem dX12_corrects_42 : decode cX12_corrects 42 = .ok (.invokevirtual 66, 3) := by decide +kernel
theorem dX12_corrects_45 : decode cX12_corrects 45 = .ok (.iload_n 3, 1) := by decide +kernel
theorem dX12_corrects_46 : decode cX12_corrects 46 = .ok (.iconst 4, 1) := by decide +kernel
theorem dX12_corrects_47 : decode cX12_corrects 47 = .ok (.idiv, 1) := by decide +kernel
theorem dX12_corrects_48 : decode cX12_corrects 48 = .ok (.iadd, 1) := by decide +kernel
theorem dX12_corrects_49 : decode cX12_corrects 49 = .ok (.bipush 9, 2) := by decide +kernel
theorem dX12_corrects_51 : decode cX12_corrects 51 = .ok (.invokestatic 291, 3) := by decide +kernel
theorem dX12_corrects_54 : decode cX12_corrects 54 = .ok (.invokevirtual 146, 3) := by decide +kernel
theorem dX12_corrects_57 : decode cX12_corrects 57 = .ok (.return_, 1) := by decide +kernel
theorem dX12_sendersOf_0 : decode cX12_sendersOf 0 = .ok (.iconst 0, 1) := by decide +kernel
theorem dX12_sendersOf_1 : decode cX12_sendersOf 1 = .ok (.istore_n 3, 1) := by decide +kernel
theorem dX12_sendersOf_2 : decode cX12_sendersOf 2 = .ok (.iconst 0, 1) := by decide +kernel
theorem dX12_sendersOf_3 : decode cX12_sendersOf 3 = .ok (.istore 4, 2) := by decide +kernel
theorem dX12_sendersOf_5 : decode cX12_sendersOf 5 = .ok (.iload 4, 2) := by decide +kernel
theorem dX12_sendersOf_7 : decode cX12_sendersOf 7 = .ok (.aload_n 0, 1) := by decide +kernel
theorem dX12_sendersOf_8 : decode cX12_sendersOf 8 = .ok (.getfield 7, 3) := by decide +kernel
theorem dX12_sendersOf_11 : decode cX12_sendersOf 11 = .ok (.iconst 3, 1) := by decide +kernel
theorem dX12_sendersOf_12 : decode cX12_sendersOf 12 = .ok (.iaload, 1) := by decide +kernel
theorem dX12_sendersOf_13 : decode cX12_sendersOf 13 = .ok (.if_icmp .ge 96, 3) := by decide +kernel
theorem dX12_sendersOf_16 : decode cX12_sendersOf 16 = .ok (.iload_n 1, 1) := by decide +kernel
theorem dX12_sendersOf_17 : decode cX12_sendersOf 17 = .ok (.iload 4, 2) := by decide +kernel
theorem dX12_sendersOf_19 : decode cX12_sendersOf 19 = .ok (.invokestatic 274, 3) := by decide +kernel
theorem dX12_sendersOf_22 : decode cX12_sendersOf 22 = .ok (.ifCond .ne 6, 3) := by decide +kernel
theorem dX12_sendersOf_25 : decode cX12_sendersOf 25 = .ok (.goto 78, 3) := by decide +kernel
theorem dX12_sendersOf_28 : decode cX12_sendersOf 28 = .ok (.iload_n 2, 1) := by decide +kernel
theorem dX12_sendersOf_29 : decode cX12_sendersOf 29 = .ok (.ifCond .eq 27, 3) := by decide +kernel
theorem dX12_sendersOf_32 : decode cX12_sendersOf 32 = .ok (.aload_n 0, 1) := by decide +kernel
theorem dX12_sendersOf_33 : decode cX12_sendersOf 33 = .ok (.bipush 100, 2) := by decide +kernel
theorem dX12_sendersOf_35 : decode cX12_sendersOf 35 = .ok (.invokevirtual 310, 3) := by decide +kernel
theorem dX12_sendersOf_38 : decode cX12_sendersOf 38 = .ok (.aload_n 0, 1) := by decide +kernel
theorem dX12_sendersOf_39 : decode cX12_sendersOf 39 = .ok (.getfield 38, 3) := by decide +kernel
theorem dX12_sendersOf_42 : decode cX12_sendersOf 42 = .ok (.iload 4, 2) := by decide +kernel
theorem dX12_sendersOf_44 : decode cX12_sendersOf 44 = .ok (.iaload, 1) := by decide +kernel
theorem dX12_sendersOf_45 : decode cX12_sendersOf 45 = .ok (.if_icmp .ge 7, 3) := by decide +kernel
theorem dX12_sendersOf_48 : decode cX12_sendersOf 48 = .ok (.iconst 1, 1) := by decide +kernel
theorem dX12_sendersOf_49 : decode cX12_sendersOf 49 = .ok (.goto 24, 3) := by decide +kernel
theorem dX12_sendersOf_52 : decode cX12_sendersOf 52 = .ok (.iconst 0, 1) := by decide +kernel
theorem dX12_sendersOf_53 : decode cX12_sendersOf 53 = .ok (.goto 20, 3) := by decide +kernel
theorem dX12_sendersOf_56 : decode cX12_sendersOf 56 = .ok (.aload_n 0, 1) := by decide +kernel
theorem dX12_sendersOf_57 : decode cX12_sendersOf 57 = .ok (.getfield 38, 3) := by decide +kernel
theorem dX12_sendersOf_60 : decode cX12_sendersOf 60 = .ok (.iload 4, 2) := by decide +kernel
theorem dX12_sendersOf_62 : decode cX12_sendersOf 62 = .ok (.iaload, 1) := by decide +kernel
theorem dX12_sendersOf_63 : decode cX12_sendersOf 63 = .ok (.bipush 100, 2) := by decide +kernel
theorem dX12_sendersOf_65 : decode cX12_sendersOf 65 = .ok (.if_icmp .ne 7, 3) := by decide +kernel
theorem dX12_sendersOf_68 : decode cX12_sendersOf 68 = .ok (.iconst 1, 1) := by decide +kernel
theorem dX12_sendersOf_69 : decode cX12_sendersOf 69 = .ok (.goto 4, 3) := by decide +kernel
theorem dX12_sendersOf_72 : decode cX12_sendersOf 72 = .ok (.iconst 0, 1) := by decide +kernel
theorem dX12_sendersOf_73 : decode cX12_sendersOf 73 = .ok (.istore 5, 2) := by decide +kernel
theorem dX12_sendersOf_75 : decode cX12_sendersOf 75 = .ok (.iload_n 3, 1) := by decide +kernel
theorem dX12_sendersOf_76 : decode cX12_sendersOf 76 = .ok (.aload_n 0, 1) := by decide +kernel
theorem dX12_sendersOf_77 : decode cX12_sendersOf 77 = .ok (.getfield 268, 3) := by decide +kernel
theorem dX12_sendersOf_80 : decode cX12_sendersOf 80 = .ok (.iload 4, 2) := by decide +kernel
theorem dX12_sendersOf_82 : decode cX12_sendersOf 82 = .ok (.invokestatic 274, 3) := by decide +kernel
theorem dX12_sendersOf_85 : decode cX12_sendersOf 85 = .ok (.ifCond .eq 15, 3) := by decide +kernel
theorem dX12_sendersOf_88 : decode cX12_sendersOf 88 = .ok (.iload 5, 2) := by decide +kernel
theorem dX12_sendersOf_90 : decode cX12_sendersOf 90 = .ok (.ifCond .ne 10, 3) := by decide +kernel
theorem dX12_sendersOf_93 : decode cX12_sendersOf 93 = .ok (.iconst 1, 1) := by decide +kernel
theorem dX12_sendersOf_94 : decode cX12_sendersOf 94 = .ok (.iload 4, 2) := by decide +kernel
theorem dX12_sendersOf_96 : decode cX12_sendersOf 96 = .ok (.ishl, 1) := by decide +kernel
theorem dX12_sendersOf_97 : decode cX12_sendersOf 97 = .ok (.goto 4, 3) := by decide +kernel
theorem dX12_sendersOf_100 : decode cX12_sendersOf 100 = .ok (.iconst 0, 1) := by decide +kernel
theorem dX12_sendersOf_101 : decode cX12_sendersOf 101 = .ok (.ior, 1) := by decide +kernel
theorem dX12_sendersOf_102 : decode cX12_sendersOf 102 = .ok (.istore_n 3, 1) := by decide +kernel
theorem dX12_sendersOf_103 : decode cX12_sendersOf 103 = .ok (.iinc 4 1, 3) := by decide +kernel
theorem dX12_sendersOf_106 : decode cX12_sendersOf 106 = .ok (.goto (-101), 3) := by decide +kernel
theorem dX12_sendersOf_109 : decode cX12_sendersOf 109 = .ok (.iload_n 3, 1) := by decide +kernel
theorem dX12_sendersOf_110 : decode cX12_sendersOf 110 = .ok (.ireturn, 1) := by decide +kernel
theorem dX12_passes_0 : decode cX12_passes 0 = .ok (.aload_n 0, 1) := by decide +kernel
theorem dX12_passes_1 : decode cX12_passes 1 = .ok (.iconst 2, 1) := by decide +kernel
theorem dX12_passes_2 : decode cX12_passes 2 = .ok (.invokevirtual 250, 3) := by decide +kernel
theorem dX12_passes_5 : decode cX12_passes 5 = .ok (.istore_n 2, 1) := by decide +kernel
theorem dX12_passes_6 : decode cX12_passes 6 = .ok (.aload_n 0, 1) := by decide +kernel
theorem dX12_passes_7 : decode cX12_passes 7 = .ok (.invokevirtual 313, 3) := by decide +kernel
theorem dX12_passes_10 : decode cX12_passes 10 = .ok (.aload_n 0, 1) := by decide +kernel
theorem dX12_passes_11 : decode cX12_passes 11 = .ok (.iload_n 2, 1) := by decide +kernel
theorem dX12_passes_12 : decode cX12_passes 12 = .ok (.iload_n 1, 1) := by decide +kernel
theorem dX12_passes_13 : decode cX12_passes 13 = .ok (.invokevirtual 316, 3) := by decide +kernel
theorem dX12_passes_16 : decode cX12_passes 16 = .ok (.istore_n 3, 1) := by decide +kernel
theorem dX12_passes_17 : decode cX12_passes 17 = .ok (.iload_n 3, 1) := by decide +kernel
theorem dX12_passes_18 : decode cX12_passes 18 = .ok (.ifCond .ne 10, 3) := by decide +kernel
theorem dX12_passes_21 : decode cX12_passes 21 = .ok (.aload_n 0, 1) := by decide +kernel
theorem dX12_passes_22 : decode cX12_passes 22 = .ok (.invokevirtual 320, 3) := by decide +kernel
theorem dX12_passes_25 : decode cX12_passes 25 = .ok (.goto 8, 3) := by decide +kernel
theorem dX12_passes_28 : decode cX12_passes 28 = .ok (.aload_n 0, 1) := by decide +kernel
theorem dX12_passes_29 : decode cX12_passes 29 = .ok (.iload_n 3, 1) := by decide +kernel
theorem dX12_passes_30 : decode cX12_passes 30 = .ok (.invokevirtual 323, 3) := by decide +kernel
theorem dX12_passes_33 : decode cX12_passes 33 = .ok (.iconst 0, 1) := by decide +kernel
theorem dX12_passes_34 : decode cX12_passes 34 = .ok (.istore 4, 2) := by decide +kernel
theorem dX12_passes_36 : decode cX12_passes 36 = .ok (.iload 4, 2) := by decide +kernel
theorem dX12_passes_38 : decode cX12_passes 38 = .ok (.aload_n 0, 1) := by decide +kernel
theorem dX12_passes_39 : decode cX12_passes 39 = .ok (.getfield 7, 3) := by decide +kernel
theorem dX12_passes_42 : decode cX12_passes 42 = .ok (.iconst 3, 1) := by decide +kernel
theorem dX12_passes_43 : decode cX12_passes 43 = .ok (.iaload, 1) := by decide +kernel
theorem dX12_passes_44 : decode cX12_passes 44 = .ok (.if_icmp .ge 25, 3) := by decide +kernel
theorem dX12_passes_47 : decode cX12_passes 47 = .ok (.iload_n 2, 1) := by decide +kernel
theorem dX12_passes_48 : decode cX12_passes 48 = .ok (.iload 4, 2) := by decide +kernel
theorem dX12_passes_50 : decode cX12_passes 50 = .ok (.invokestatic 274, 3) := by decide +kernel
theorem dX12_passes_53 : decode cX12_passes 53 = .ok (.ifCond .eq 10, 3) := by decide +kernel
theorem dX12_passes_56 : decode cX12_passes 56 = .ok (.aload_n 0, 1) := by decide +kernel
theorem dX12_passes_57 : decode cX12_passes 57 = .ok (.iload 4, 2) := by decide +kernel
theorem dX12_passes_59 : decode cX12_passes 59 = .ok (.iload_n 3, 1) := by decide +kernel
theorem dX12_passes_60 : decode cX12_passes 60 = .ok (.invokevirtual 326, 3) := by decide +kernel
theorem dX12_passes_63 : decode cX12_passes 63 = .ok (.iinc 4 1, 3) := by decide +kernel
theorem dX12_passes_66 : decode cX12_passes 66 = .ok (.goto (-30), 3) := by decide +kernel
theorem dX12_passes_69 : decode cX12_passes 69 = .ok (.aload_n 0, 1) := by decide +kernel
theorem dX12_passes_70 : decode cX12_passes 70 = .ok (.iload_n 2, 1) := by decide +kernel
theorem dX12_passes_71 : decode cX12_passes 71 = .ok (.iload_n 3, 1) := by decide +kernel
theorem dX12_passes_72 : decode cX12_passes 72 = .ok (.invokevirtual 329, 3) := by decide +kernel
theorem dX12_passes_75 : decode cX12_passes 75 = .ok (.iconst 0, 1) := by decide +kernel
theorem dX12_passes_76 : decode cX12_passes 76 = .ok (.istore 4, 2) := by decide +kernel
theorem dX12_passes_78 : decode cX12_passes 78 = .ok (.iload 4, 2) := by decide +kernel
theorem dX12_passes_80 : decode cX12_passes 80 = .ok (.aload_n 0, 1) := by decide +kernel
theorem dX12_passes_81 : decode cX12_passes 81 = .ok (.getfield 7, 3) := by decide +kernel
theorem dX12_passes_84 : decode cX12_passes 84 = .ok (.iconst 3, 1) := by decide +kernel
theorem dX12_passes_85 : decode cX12_passes 85 = .ok (.iaload, 1) := by decide +kernel
theorem dX12_passes_86 : decode cX12_passes 86 = .ok (.if_icmp .ge 34, 3) := by decide +kernel
theorem dX12_passes_89 : decode cX12_passes 89 = .ok (.iload_n 2, 1) := by decide +kernel
theorem dX12_passes_90 : decode cX12_passes 90 = .ok (.iload 4, 2) := by decide +kernel
theorem dX12_passes_92 : decode cX12_passes 92 = .ok (.invokestatic 274, 3) := by decide +kernel
theorem dX12_passes_95 : decode cX12_passes 95 = .ok (.ifCond .eq 19, 3) := by decide +kernel
theorem dX12_passes_98 : decode cX12_passes 98 = .ok (.aload_n 0, 1) := by decide +kernel
theorem dX12_passes_99 : decode cX12_passes 99 = .ok (.iload 4, 2) := by decide +kernel
theorem dX12_passes_101 : decode cX12_passes 101 = .ok (.invokevirtual 262, 3) := by decide +kernel
theorem dX12_passes_104 : decode cX12_passes 104 = .ok (.ifCond .eq 10, 3) := by decide +kernel
theorem dX12_passes_107 : decode cX12_passes 107 = .ok (.aload_n 0, 1) := by decide +kernel
theorem dX12_passes_108 : decode cX12_passes 108 = .ok (.iload 4, 2) := by decide +kernel
theorem dX12_passes_110 : decode cX12_passes 110 = .ok (.iload_n 3, 1) := by decide +kernel
theorem dX12_passes_111 : decode cX12_passes 111 = .ok (.invokevirtual 332, 3) := by decide +kernel
theorem dX12_passes_114 : decode cX12_passes 114 = .ok (.iinc 4 1, 3) := by decide +kernel
theorem dX12_passes_117 : decode cX12_passes 117 = .ok (.goto (-39), 3) := by decide +kernel
theorem dX12_passes_120 : decode cX12_passes 120 = .ok (.iconst 0, 1) := by decide +kernel
theorem dX12_passes_121 : decode cX12_passes 121 = .ok (.istore 4, 2) := by decide +kernel
theorem dX12_passes_123 : decode cX12_passes 123 = .ok (.iload 4, 2) := by decide +kernel
theorem dX12_passes_125 : decode cX12_passes 125 = .ok (.aload_n 0, 1) := by decide +kernel
theorem dX12_passes_126 : decode cX12_passes 126 = .ok (.getfield 7, 3) := by decide +kernel
theorem dX12_passes_129 : decode cX12_passes 129 = .ok (.iconst 3, 1) := by decide +kernel
theorem dX12_passes_130 : decode cX12_passes 130 = .ok (.iaload, 1) := by decide +kernel
theorem dX12_passes_131 : decode cX12_passes 131 = .ok (.if_icmp .ge 55, 3) := by decide +kernel
theorem dX12_passes_134 : decode cX12_passes 134 = .ok (.aload_n 0, 1) := by decide +kernel
theorem dX12_passes_135 : decode cX12_passes 135 = .ok (.iload 4, 2) := by decide +kernel
theorem dX12_passes_137 : decode cX12_passes 137 = .ok (.iconst 3, 1) := by decide +kernel
theorem dX12_passes_138 : decode cX12_passes 138 = .ok (.invokevirtual 66, 3) := by decide +kernel
theorem dX12_passes_141 : decode cX12_passes 141 = .ok (.ifCond .eq 39, 3) := by decide +kernel
theorem dX12_passes_144 : decode cX12_passes 144 = .ok (.aload_n 0, 1) := by decide +kernel
theorem dX12_passes_145 : decode cX12_passes 145 = .ok (.iload 4, 2) := by decide +kernel
theorem dX12_passes_147 : decode cX12_passes 147 = .ok (.iconst 0, 1) := by decide +kernel
theorem dX12_passes_148 : decode cX12_passes 148 = .ok (.aload_n 0, 1) := by decide +kernel
theorem dX12_passes_149 : decode cX12_passes 149 = .ok (.iload 4, 2) := by decide +kernel
theorem dX12_passes_151 : decode cX12_passes 151 = .ok (.iconst 0, 1) := by decide +kernel
theorem dX12_passes_152 : decode cX12_passes 152 = .ok (.invokevirtual 66, 3) := by decide +kernel
theorem dX12_passes_155 : decode cX12_passes 155 = .ok (.aload_n 0, 1) := by decide +kernel
theorem dX12_passes_156 : decode cX12_passes 156 = .ok (.iload 4, 2) := by decide +kernel
theorem dX12_passes_158 : decode cX12_passes 158 = .ok (.iconst 1, 1) := by decide +kernel
theorem dX12_passes_159 : decode cX12_passes 159 = .ok (.invokevirtual 66, 3) := by decide +kernel
theorem dX12_passes_162 : decode cX12_passes 162 = .ok (.iadd, 1) := by decide +kernel
theorem dX12_passes_163 : decode cX12_passes 163 = .ok (.aload_n 0, 1) := by decide +kernel
theorem dX12_passes_164 : decode cX12_passes 164 = .ok (.iload 4, 2) := by decide +kernel
theorem dX12_passes_166 : decode cX12_passes 166 = .ok (.iconst 2, 1) := by decide +kernel
theorem dX12_passes_167 : decode cX12_passes 167 = .ok (.invokevirtual 66, 3) := by decide +kernel
theorem dX12_passes_170 : decode cX12_passes 170 = .ok (.iadd, 1) := by decide +kernel
theorem dX12_passes_171 : decode cX12_passes 171 = .ok (.sipush 999, 3) := by decide +kernel
theorem dX12_passes_174 : decode cX12_passes 174 = .ok (.invokestatic 291, 3) := by decide +kernel
theorem dX12_passes_177 : decode cX12_passes 177 = .ok (.invokevirtual 146, 3) := by decide +kernel
theorem dX12_passes_180 : decode cX12_passes 180 = .ok (.iinc 4 1, 3) := by decide +kernel
theorem dX12_passes_183 : decode cX12_passes 183 = .ok (.goto (-60), 3) := by decide +kernel
theorem dX12_passes_186 : decode cX12_passes 186 = .ok (.aload_n 0, 1) := by decide +kernel
theorem dX12_passes_187 : decode cX12_passes 187 = .ok (.getfield 7, 3) := by decide +kernel
theorem dX12_passes_190 : decode cX12_passes 190 = .ok (.bipush 6, 2) := by decide +kernel
theorem dX12_passes_192 : decode cX12_passes 192 = .ok (.sipush 9999, 3) := by decide +kernel
theorem dX12_passes_195 : decode cX12_passes 195 = .ok (.aload_n 0, 1) := by decide +kernel
theorem dX12_passes_196 : decode cX12_passes 196 = .ok (.getfield 7, 3) := by decide +kernel
theorem dX12_passes_199 : decode cX12_passes 199 = .ok (.bipush 6, 2) := by decide +kernel
theorem dX12_passes_201 : decode cX12_passes 201 = .ok (.iaload, 1) := by decide +kernel
theorem dX12_passes_202 : decode cX12_passes 202 = .ok (.iconst 1, 1) := by decide +kernel
theorem dX12_passes_203 : decode cX12_passes 203 = .ok (.iadd, 1) := by decide +kernel
theorem dX12_passes_204 : decode cX12_passes 204 = .ok (.invokestatic 70, 3) := by decide +kernel
theorem dX12_passes_207 : decode cX12_passes 207 = .ok (.iastore, 1) := by decide +kernel
theorem dX12_passes_208 : decode cX12_passes 208 = .ok (.return_, 1) := by decide +kernel
theorem dX12_goes_0 : decode cX12_goes 0 = .ok (.aload_n 0, 1) := by decide +kernel
theorem dX12_goes_1 : decode cX12_goes 1 = .ok (.iconst 0, 1) := by decide +kernel
theorem dX12_goes_2 : decode cX12_goes 2 = .ok (.putfield 297, 3) := by decide +kernel
theorem dX12_goes_5 : decode cX12_goes 5 = .ok (.iconst 0, 1) := by decide +kernel
theorem dX12_goes_6 : decode cX12_goes 6 = .ok (.istore_n 3, 1) := by decide +kernel
theorem dX12_goes_7 : decode cX12_goes 7 = .ok (.iload_n 3, 1) := by decide +kernel
theorem dX12_goes_8 : decode cX12_goes 8 = .ok (.iload_n 1, 1) := by decide +kernel
theorem dX12_goes_9 : decode cX12_goes 9 = .ok (.if_icmp .ge 14, 3) := by decide +kernel
theorem dX12_goes_12 : decode cX12_goes 12 = .ok (.aload_n 0, 1) := by decide +kernel
theorem dX12_goes_13 : decode cX12_goes 13 = .ok (.iload_n 2, 1) := by decide +kernel
theorem dX12_goes_14 : decode cX12_goes 14 = .ok (.invokevirtual 335, 3) := by decide +kernel
theorem dX12_goes_17 : decode cX12_goes 17 = .ok (.iinc 3 1, 3) := by decide +kernel
theorem dX12_goes_20 : decode cX12_goes 20 = .ok (.goto (-13), 3) := by decide +kernel
theorem dX12_goes_23 : decode cX12_goes 23 = .ok (.aload_n 0, 1) := by decide +kernel
theorem dX12_goes_24 : decode cX12_goes 24 = .ok (.getfield 297, 3) := by decide +kernel
theorem dX12_goes_27 : decode cX12_goes 27 = .ok (.ireturn, 1) := by decide +kernel
theorem dX12_spreadNow_0 : decode cX12_spreadNow 0 = .ok (.ldc_w 339, 3) := by decide +kernel
theorem dX12_spreadNow_3 : decode cX12_spreadNow 3 = .ok (.istore_n 1, 1) := by decide +kernel
theorem dX12_spreadNow_4 : decode cX12_spreadNow 4 = .ok (.ldc_w 340, 3) := by decide +kernel
theorem dX12_spreadNow_7 : decode cX12_spreadNow 7 = .ok (.istore_n 2, 1) := by decide +kernel
theorem dX12_spreadNow_8 : decode cX12_spreadNow 8 = .ok (.iconst 0, 1) := by decide +kernel
theorem dX12_spreadNow_9 : decode cX12_spreadNow 9 = .ok (.istore_n 3, 1) := by decide +kernel
theorem dX12_spreadNow_10 : decode cX12_spreadNow 10 = .ok (.iload_n 3, 1) := by decide +kernel
theorem dX12_spreadNow_11 : decode cX12_spreadNow 11 = .ok (.aload_n 0, 1) := by decide +kernel
theorem dX12_spreadNow_12 : decode cX12_spreadNow 12 = .ok (.getfield 7, 3) := by decide +kernel
theorem dX12_spreadNow_15 : decode cX12_spreadNow 15 = .ok (.iconst 3, 1) := by decide +kernel
theorem dX12_spreadNow_16 : decode cX12_spreadNow 16 = .ok (.iaload, 1) := by decide +kernel
theorem dX12_spreadNow_17 : decode cX12_spreadNow 17 = .ok (.if_icmp .ge 42, 3) := by decide +kernel
theorem dX12_spreadNow_20 : decode cX12_spreadNow 20 = .ok (.aload_n 0, 1) := by decide +kernel
theorem dX12_spreadNow_21 : decode cX12_spreadNow 21 = .ok (.iload_n 3, 1) := by decide +kernel
theorem dX12_spreadNow_22 : decode cX12_spreadNow 22 = .ok (.invokevirtual 262, 3) := by decide +kernel
theorem dX12_spreadNow_25 : decode cX12_spreadNow 25 = .ok (.ifCond .ne 6, 3) := by decide +kernel
theorem dX12_spreadNow_28 : decode cX12_spreadNow 28 = .ok (.goto 25, 3) := by decide +kernel
theorem dX12_spreadNow_31 : decode cX12_spreadNow 31 = .ok (.iload_n 1, 1) := by decide +kernel
theorem dX12_spreadNow_32 : decode cX12_spreadNow 32 = .ok (.aload_n 0, 1) := by decide +kernel
theorem dX12_spreadNow_33 : decode cX12_spreadNow 33 = .ok (.iload_n 3, 1) := by decide +kernel
theorem dX12_spreadNow_34 : decode cX12_spreadNow 34 = .ok (.iconst 0, 1) := by decide +kernel
theorem dX12_spreadNow_35 : decode cX12_spreadNow 35 = .ok (.invokevirtual 66, 3) := by decide +kernel
theorem dX12_spreadNow_38 : decode cX12_spreadNow 38 = .ok (.invokestatic 70, 3) := by decide +kernel
theorem dX12_spreadNow_41 : decode cX12_spreadNow 41 = .ok (.istore_n 1, 1) := by decide +kernel
theorem dX12_spreadNow_42 : decode cX12_spreadNow 42 = .ok (.iload_n 2, 1) := by decide +kernel
theorem dX12_spreadNow_43 : decode cX12_spreadNow 43 = .ok (.aload_n 0, 1) := by decide +kernel
theorem dX12_spreadNow_44 : decode cX12_spreadNow 44 = .ok (.iload_n 3, 1) := by decide +kernel
theorem dX12_spreadNow_45 : decode cX12_spreadNow 45 = .ok (.iconst 0, 1) := by decide +kernel
theorem dX12_spreadNow_46 : decode cX12_spreadNow 46 = .ok (.invokevirtual 66, 3) := by decide +kernel
theorem dX12_spreadNow_49 : decode cX12_spreadNow 49 = .ok (.invokestatic 73, 3) := by decide +kernel
theorem dX12_spreadNow_52 : decode cX12_spreadNow 52 = .ok (.istore_n 2, 1) := by decide +kernel
theorem dX12_spreadNow_53 : decode cX12_spreadNow 53 = .ok (.iinc 3 1, 3) := by decide +kernel
theorem dX12_spreadNow_56 : decode cX12_spreadNow 56 = .ok (.goto (-46), 3) := by decide +kernel
theorem dX12_spreadNow_59 : decode cX12_spreadNow 59 = .ok (.aload_n 0, 1) := by decide +kernel
theorem dX12_spreadNow_60 : decode cX12_spreadNow 60 = .ok (.iconst 2, 1) := by decide +kernel
theorem dX12_spreadNow_61 : decode cX12_spreadNow 61 = .ok (.invokevirtual 250, 3) := by decide +kernel
theorem dX12_spreadNow_64 : decode cX12_spreadNow 64 = .ok (.invokestatic 247, 3) := by decide +kernel
theorem dX12_spreadNow_67 : decode cX12_spreadNow 67 = .ok (.iconst 2, 1) := by decide +kernel
theorem dX12_spreadNow_68 : decode cX12_spreadNow 68 = .ok (.if_icmp .ge 7, 3) := by decide +kernel
theorem dX12_spreadNow_71 : decode cX12_spreadNow 71 = .ok (.iconst 0, 1) := by decide +kernel
theorem dX12_spreadNow_72 : decode cX12_spreadNow 72 = .ok (.goto 6, 3) := by decide +kernel
theorem dX12_spreadNow_75 : decode cX12_spreadNow 75 = .ok (.iload_n 2, 1) := by decide +kernel
theorem dX12_spreadNow_76 : decode cX12_spreadNow 76 = .ok (.iload_n 1, 1) := by decide +kernel
theorem dX12_spreadNow_77 : decode cX12_spreadNow 77 = .ok (.isub, 1) := by decide +kernel
theorem dX12_spreadNow_78 : decode cX12_spreadNow 78 = .ok (.ireturn, 1) := by decide +kernel
theorem dX12_areFriends_0 : decode cX12_areFriends 0 = .ok (.iload_n 1, 1) := by decide +kernel
theorem dX12_areFriends_1 : decode cX12_areFriends 1 = .ok (.iload_n 2, 1) := by decide +kernel
theorem dX12_areFriends_2 : decode cX12_areFriends 2 = .ok (.if_icmp .eq 41, 3) := by decide +kernel
theorem dX12_areFriends_5 : decode cX12_areFriends 5 = .ok (.aload_n 0, 1) := by decide +kernel
theorem dX12_areFriends_6 : decode cX12_areFriends 6 = .ok (.iload_n 1, 1) := by decide +kernel
theorem dX12_areFriends_7 : decode cX12_areFriends 7 = .ok (.invokevirtual 262, 3) := by decide +kernel
theorem dX12_areFriends_10 : decode cX12_areFriends 10 = .ok (.ifCond .eq 33, 3) := by decide +kernel
theorem dX12_areFriends_13 : decode cX12_areFriends 13 = .ok (.aload_n 0, 1) := by decide +kernel
theorem dX12_areFriends_14 : decode cX12_areFriends 14 = .ok (.iload_n 2, 1) := by decide +kernel
theorem dX12_areFriends_15 : decode cX12_areFriends 15 = .ok (.invokevirtual 262, 3) := by decide +kernel
theorem dX12_areFriends_18 : decode cX12_areFriends 18 = .ok (.ifCond .eq 25, 3) := by decide +kernel
theorem dX12_areFriends_21 : decode cX12_areFriends 21 = .ok (.aload_n 0, 1) := by decide +kernel
theorem dX12_areFriends_22 : decode cX12_areFriends 22 = .ok (.iload_n 1, 1) := by decide +kernel
theorem dX12_areFriends_23 : decode cX12_areFriends 23 = .ok (.iload_n 2, 1) := by decide +kernel
theorem dX12_areFriends_24 : decode cX12_areFriends 24 = .ok (.invokevirtual 341, 3) := by decide +kernel
theorem dX12_areFriends_27 : decode cX12_areFriends 27 = .ok (.ifCond .eq 16, 3) := by decide +kernel
theorem dX12_areFriends_30 : decode cX12_areFriends 30 = .ok (.aload_n 0, 1) := by decide +kernel
theorem dX12_areFriends_31 : decode cX12_areFriends 31 = .ok (.iload_n 2, 1) := by decide +kernel
theorem dX12_areFriends_32 : decode cX12_areFriends 32 = .ok (.iload_n 1, 1) := by decide +kernel
theorem dX12_areFriends_33 : decode cX12_areFriends 33 = .ok (.invokevirtual 341, 3) := by decide +kernel
theorem dX12_areFriends_36 : decode cX12_areFriends 36 = .ok (.ifCond .eq 7, 3) := by decide +kernel
theorem dX12_areFriends_39 : decode cX12_areFriends 39 = .ok (.iconst 1, 1) := by decide +kernel
theorem dX12_areFriends_40 : decode cX12_areFriends 40 = .ok (.goto 4, 3) := by decide +kernel
theorem dX12_areFriends_43 : decode cX12_areFriends 43 = .ok (.iconst 0, 1) := by decide +kernel
theorem dX12_areFriends_44 : decode cX12_areFriends 44 = .ok (.ireturn, 1) := by decide +kernel
theorem dX12_cliqueOf_0 : decode cX12_cliqueOf 0 = .ok (.aload_n 0, 1) := by decide +kernel
theorem dX12_cliqueOf_1 : decode cX12_cliqueOf 1 = .ok (.iload_n 1, 1) := by decide +kernel
theorem dX12_cliqueOf_2 : decode cX12_cliqueOf 2 = .ok (.invokevirtual 262, 3) := by decide +kernel
theorem dX12_cliqueOf_5 : decode cX12_cliqueOf 5 = .ok (.ifCond .ne 5, 3) := by decide +kernel
theorem dX12_cliqueOf_8 : decode cX12_cliqueOf 8 = .ok (.iconst 0, 1) := by decide +kernel
theorem dX12_cliqueOf_9 : decode cX12_cliqueOf 9 = .ok (.ireturn, 1) := by decide +kernel
theorem dX12_cliqueOf_10 : decode cX12_cliqueOf 10 = .ok (.iconst 1, 1) := by decide +kernel
theorem dX12_cliqueOf_11 : decode cX12_cliqueOf 11 = .ok (.iload_n 1, 1) := by decide +kernel
theorem dX12_cliqueOf_12 : decode cX12_cliqueOf 12 = .ok (.ishl, 1) := by decide +kernel
theorem dX12_cliqueOf_13 : decode cX12_cliqueOf 13 = .ok (.istore_n 2, 1) := by decide +kernel
theorem dX12_cliqueOf_14 : decode cX12_cliqueOf 14 = .ok (.iconst 1, 1) := by decide +kernel
theorem dX12_cliqueOf_15 : decode cX12_cliqueOf 15 = .ok (.istore_n 3, 1) := by decide +kernel
theorem dX12_cliqueOf_16 : decode cX12_cliqueOf 16 = .ok (.iload_n 3, 1) := by decide +kernel
theorem dX12_cliqueOf_17 : decode cX12_cliqueOf 17 = .ok (.ifCond .eq 97, 3) := by decide +kernel
theorem dX12_cliqueOf_20 : decode cX12_cliqueOf 20 = .ok (.iload_n 2, 1) := by decide +kernel
theorem dX12_cliqueOf_21 : decode cX12_cliqueOf 21 = .ok (.istore 4, 2) := by decide +kernel
theorem dX12_cliqueOf_23 : decode cX12_cliqueOf 23 = .ok (.iconst 0, 1) := by decide +kernel
theorem dX12_cliqueOf_24 : decode cX12_cliqueOf 24 = .ok (.istore 5, 2) := by decide +kernel
theorem dX12_cliqueOf_26 : decode cX12_cliqueOf 26 = .ok (.iload 5, 2) := by decide +kernel
theorem dX12_cliqueOf_28 : decode cX12_cliqueOf 28 = .ok (.aload_n 0, 1) := by decide +kernel
theorem dX12_cliqueOf_29 : decode cX12_cliqueOf 29 = .ok (.getfield 7, 3) := by decide +kernel
theorem dX12_cliqueOf_32 : decode cX12_cliqueOf 32 = .ok (.iconst 3, 1) := by decide +kernel
theorem dX12_cliqueOf_33 : decode cX12_cliqueOf 33 = .ok (.iaload, 1) := by decide +kernel
theorem dX12_cliqueOf_34 : decode cX12_cliqueOf 34 = .ok (.if_icmp .ge 65, 3) := by decide +kernel
theorem dX12_cliqueOf_37 : decode cX12_cliqueOf 37 = .ok (.iconst 0, 1) := by decide +kernel
theorem dX12_cliqueOf_38 : decode cX12_cliqueOf 38 = .ok (.istore 6, 2) := by decide +kernel
theorem dX12_cliqueOf_40 : decode cX12_cliqueOf 40 = .ok (.iload 6, 2) := by decide +kernel
theorem dX12_cliqueOf_42 : decode cX12_cliqueOf 42 = .ok (.aload_n 0, 1) := by decide +kernel
theorem dX12_cliqueOf_43 : decode cX12_cliqueOf 43 = .ok (.getfield 7, 3) := by decide +kernel
theorem dX12_cliqueOf_46 : decode cX12_cliqueOf 46 = .ok (.iconst 3, 1) := by decide +kernel
theorem dX12_cliqueOf_47 : decode cX12_cliqueOf 47 = .ok (.iaload, 1) := by decide +kernel
theorem dX12_cliqueOf_48 : decode cX12_cliqueOf 48 = .ok (.if_icmp .ge 45, 3) := by decide +kernel
theorem dX12_cliqueOf_51 : decode cX12_cliqueOf 51 = .ok (.iload_n 2, 1) := by decide +kernel
theorem dX12_cliqueOf_52 : decode cX12_cliqueOf 52 = .ok (.iload 5, 2) := by decide +kernel
theorem dX12_cliqueOf_54 : decode cX12_cliqueOf 54 = .ok (.invokestatic 274, 3) := by decide +kernel
theorem dX12_cliqueOf_57 : decode cX12_cliqueOf 57 = .ok (.ifCond .eq 30, 3) := by decide +kernel
theorem dX12_cliqueOf_60 : decode cX12_cliqueOf 60 = .ok (.iload_n 2, 1) := by decide +kernel
theorem dX12_cliqueOf_61 : decode cX12_cliqueOf 61 = .ok (.iload 6, 2) := by decide +kernel
theorem dX12_cliqueOf_63 : decode cX12_cliqueOf 63 = .ok (.invokestatic 274, 3) := by decide +kernel
theorem dX12_cliqueOf_66 : decode cX12_cliqueOf 66 = .ok (.ifCond .ne 21, 3) := by decide +kernel
theorem dX12_cliqueOf_69 : decode cX12_cliqueOf 69 = .ok (.aload_n 0, 1) := by decide +kernel
theorem dX12_cliqueOf_70 : decode cX12_cliqueOf 70 = .ok (.iload 5, 2) := by decide +kernel
theorem dX12_cliqueOf_72 : decode cX12_cliqueOf 72 = .ok (.iload 6, 2) := by decide +kernel
theorem dX12_cliqueOf_74 : decode cX12_cliqueOf 74 = .ok (.invokevirtual 344, 3) := by decide +kernel
theorem dX12_cliqueOf_77 : decode cX12_cliqueOf 77 = .ok (.ifCond .eq 10, 3) := by decide +kernel
theorem dX12_cliqueOf_80 : decode cX12_cliqueOf 80 = .ok (.iload_n 2, 1) := by decide +kernel
theorem dX12_cliqueOf_81 : decode cX12_cliqueOf 81 = .ok (.iconst 1, 1) := by decide +kernel
theorem dX12_cliqueOf_82 : decode cX12_cliqueOf 82 = .ok (.iload 6, 2) := by decide +kernel
theorem dX12_cliqueOf_84 : decode cX12_cliqueOf 84 = .ok (.ishl, 1) := by decide +kernel
theorem dX12_cliqueOf_85 : decode cX12_cliqueOf 85 = .ok (.ior, 1) := by decide +kernel
theorem dX12_cliqueOf_86 : decode cX12_cliqueOf 86 = .ok (.istore_n 2, 1) := by decide +kernel
theorem dX12_cliqueOf_87 : decode cX12_cliqueOf 87 = .ok (.iinc 6 1, 3) := by decide +kernel
theorem dX12_cliqueOf_90 : decode cX12_cliqueOf 90 = .ok (.goto (-50), 3) := by decide +kernel
theorem dX12_cliqueOf_93 : decode cX12_cliqueOf 93 = .ok (.iinc 5 1, 3) := by decide +kernel
theorem dX12_cliqueOf_96 : decode cX12_cliqueOf 96 = .ok (.goto (-70), 3) := by decide +kernel
theorem dX12_cliqueOf_99 : decode cX12_cliqueOf 99 = .ok (.iload_n 2, 1) := by decide +kernel
theorem dX12_cliqueOf_100 : decode cX12_cliqueOf 100 = .ok (.iload 4, 2) := by decide +kernel
theorem dX12_cliqueOf_102 : decode cX12_cliqueOf 102 = .ok (.if_icmp .eq 7, 3) := by decide +kernel
theorem dX12_cliqueOf_105 : decode cX12_cliqueOf 105 = .ok (.iconst 1, 1) := by decide +kernel
theorem dX12_cliqueOf_106 : decode cX12_cliqueOf 106 = .ok (.goto 4, 3) := by decide +kernel
theorem dX12_cliqueOf_109 : decode cX12_cliqueOf 109 = .ok (.iconst 0, 1) := by decide +kernel
theorem dX12_cliqueOf_110 : decode cX12_cliqueOf 110 = .ok (.istore_n 3, 1) := by decide +kernel
theorem dX12_cliqueOf_111 : decode cX12_cliqueOf 111 = .ok (.goto (-95), 3) := by decide +kernel
theorem dX12_cliqueOf_114 : decode cX12_cliqueOf 114 = .ok (.iload_n 2, 1) := by decide +kernel
theorem dX12_cliqueOf_115 : decode cX12_cliqueOf 115 = .ok (.ireturn, 1) := by decide +kernel
theorem dX12_middleNow_0 : decode cX12_middleNow 0 = .ok (.aload_n 0, 1) := by decide +kernel
theorem dX12_middleNow_1 : decode cX12_middleNow 1 = .ok (.iload_n 1, 1) := by decide +kernel
theorem dX12_middleNow_2 : decode cX12_middleNow 2 = .ok (.invokevirtual 262, 3) := by decide +kernel
theorem dX12_middleNow_5 : decode cX12_middleNow 5 = .ok (.ifCond .ne 5, 3) := by decide +kernel
theorem dX12_middleNow_8 : decode cX12_middleNow 8 = .ok (.iconst 0, 1) := by decide +kernel
theorem dX12_middleNow_9 : decode cX12_middleNow 9 = .ok (.ireturn, 1) := by decide +kernel
theorem dX12_middleNow_10 : decode cX12_middleNow 10 = .ok (.aload_n 0, 1) := by decide +kernel
theorem dX12_middleNow_11 : decode cX12_middleNow 11 = .ok (.invokevirtual 313, 3) := by decide +kernel
theorem dX12_middleNow_14 : decode cX12_middleNow 14 = .ok (.aload_n 0, 1) := by decide +kernel
theorem dX12_middleNow_15 : decode cX12_middleNow 15 = .ok (.iload_n 1, 1) := by decide +kernel
theorem dX12_middleNow_16 : decode cX12_middleNow 16 = .ok (.aload_n 0, 1) := by decide +kernel
theorem dX12_middleNow_17 : decode cX12_middleNow 17 = .ok (.getfield 268, 3) := by decide +kernel
theorem dX12_middleNow_20 : decode cX12_middleNow 20 = .ok (.invokevirtual 307, 3) := by decide +kernel
theorem dX12_middleNow_23 : decode cX12_middleNow 23 = .ok (.ireturn, 1) := by decide +kernel
theorem dX12_knownOf_0 : decode cX12_knownOf 0 = .ok (.iconst 0, 1) := by decide +kernel
theorem dX12_knownOf_1 : decode cX12_knownOf 1 = .ok (.istore_n 2, 1) := by decide +kernel
theorem dX12_knownOf_2 : decode cX12_knownOf 2 = .ok (.iconst 0, 1) := by decide +kernel
