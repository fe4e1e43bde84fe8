theorem dX9_sendersOf_9 : decode cX9_sendersOf 9 = .ok (.getfield 75, 3) := by decide +kernel
theorem dX9_sendersOf_12 : decode cX9_sendersOf 12 = .ok (.if_icmp .ge 102, 3) := by decide +kernel
theorem dX9_sendersOf_15 : decode cX9_sendersOf 15 = .ok (.iload_n 2, 1) := by decide +kernel
theorem dX9_sendersOf_16 : decode cX9_sendersOf 16 = .ok (.iload 5, 2) := by decide +kernel
theorem dX9_sendersOf_18 : decode cX9_sendersOf 18 = .ok (.invokestatic 78, 3) := by decide +kernel
theorem dX9_sendersOf_21 : decode cX9_sendersOf 21 = .ok (.ifCond .eq 87, 3) := by decide +kernel
theorem dX9_sendersOf_24 : decode cX9_sendersOf 24 = .ok (.iload_n 3, 1) := by decide +kernel
theorem dX9_sendersOf_25 : decode cX9_sendersOf 25 = .ok (.ifCond .eq 31, 3) := by decide +kernel
theorem dX9_sendersOf_28 : decode cX9_sendersOf 28 = .ok (.aload_n 1, 1) := by decide +kernel
theorem dX9_sendersOf_29 : decode cX9_sendersOf 29 = .ok (.invokevirtual 82, 3) := by decide +kernel
theorem dX9_sendersOf_32 : decode cX9_sendersOf 32 = .ok (.bipush 100, 2) := by decide +kernel
theorem dX9_sendersOf_34 : decode cX9_sendersOf 34 = .ok (.irem, 1) := by decide +kernel
theorem dX9_sendersOf_35 : decode cX9_sendersOf 35 = .ok (.aload_n 0, 1) := by decide +kernel
theorem dX9_sendersOf_36 : decode cX9_sendersOf 36 = .ok (.getfield 12, 3) := by decide +kernel
theorem dX9_sendersOf_39 : decode cX9_sendersOf 39 = .ok (.getfield 86, 3) := by decide +kernel
theorem dX9_sendersOf_42 : decode cX9_sendersOf 42 = .ok (.iload 5, 2) := by decide +kernel
theorem dX9_sendersOf_44 : decode cX9_sendersOf 44 = .ok (.iaload, 1) := by decide +kernel
theorem dX9_sendersOf_45 : decode cX9_sendersOf 45 = .ok (.if_icmp .ge 7, 3) := by decide +kernel
theorem dX9_sendersOf_48 : decode cX9_sendersOf 48 = .ok (.iconst 1, 1) := by decide +kernel
theorem dX9_sendersOf_49 : decode cX9_sendersOf 49 = .ok (.goto 27, 3) := by decide +kernel
theorem dX9_sendersOf_52 : decode cX9_sendersOf 52 = .ok (.iconst 0, 1) := by decide +kernel
theorem dX9_sendersOf_53 : decode cX9_sendersOf 53 = .ok (.goto 23, 3) := by decide +kernel
theorem dX9_sendersOf_56 : decode cX9_sendersOf 56 = .ok (.aload_n 0, 1) := by decide +kernel
theorem dX9_sendersOf_57 : decode cX9_sendersOf 57 = .ok (.getfield 12, 3) := by decide +kernel
theorem dX9_sendersOf_60 : decode cX9_sendersOf 60 = .ok (.getfield 86, 3) := by decide +kernel
theorem dX9_sendersOf_63 : decode cX9_sendersOf 63 = .ok (.iload 5, 2) := by decide +kernel
theorem dX9_sendersOf_65 : decode cX9_sendersOf 65 = .ok (.iaload, 1) := by decide +kernel
theorem dX9_sendersOf_66 : decode cX9_sendersOf 66 = .ok (.bipush 100, 2) := by decide +kernel
theorem dX9_sendersOf_68 : decode cX9_sendersOf 68 = .ok (.if_icmp .lt 7, 3) := by decide +kernel
theorem dX9_sendersOf_71 : decode cX9_sendersOf 71 = .ok (.iconst 1, 1) := by decide +kernel
theorem dX9_sendersOf_72 : decode cX9_sendersOf 72 = .ok (.goto 4, 3) := by decide +kernel
theorem dX9_sendersOf_75 : decode cX9_sendersOf 75 = .ok (.iconst 0, 1) := by decide +kernel
theorem dX9_sendersOf_76 : decode cX9_sendersOf 76 = .ok (.istore 6, 2) := by decide +kernel
theorem dX9_sendersOf_78 : decode cX9_sendersOf 78 = .ok (.iload 6, 2) := by decide +kernel
theorem dX9_sendersOf_80 : decode cX9_sendersOf 80 = .ok (.ifCond .ne 28, 3) := by decide +kernel
theorem dX9_sendersOf_83 : decode cX9_sendersOf 83 = .ok (.aload_n 0, 1) := by decide +kernel
theorem dX9_sendersOf_84 : decode cX9_sendersOf 84 = .ok (.getfield 12, 3) := by decide +kernel
theorem dX9_sendersOf_87 : decode cX9_sendersOf 87 = .ok (.getfield 89, 3) := by decide +kernel
theorem dX9_sendersOf_90 : decode cX9_sendersOf 90 = .ok (.iload 5, 2) := by decide +kernel
theorem dX9_sendersOf_92 : decode cX9_sendersOf 92 = .ok (.invokestatic 78, 3) := by decide +kernel
theorem dX9_sendersOf_95 : decode cX9_sendersOf 95 = .ok (.ifCond .eq 13, 3) := by decide +kernel
theorem dX9_sendersOf_98 : decode cX9_sendersOf 98 = .ok (.iload 4, 2) := by decide +kernel
theorem dX9_sendersOf_100 : decode cX9_sendersOf 100 = .ok (.iload 5, 2) := by decide +kernel
theorem dX9_sendersOf_102 : decode cX9_sendersOf 102 = .ok (.invokestatic 92, 3) := by decide +kernel
theorem dX9_sendersOf_105 : decode cX9_sendersOf 105 = .ok (.ior, 1) := by decide +kernel
theorem dX9_sendersOf_106 : decode cX9_sendersOf 106 = .ok (.istore 4, 2) := by decide +kernel
theorem dX9_sendersOf_108 : decode cX9_sendersOf 108 = .ok (.iinc 5 1, 3) := by decide +kernel
theorem dX9_sendersOf_111 : decode cX9_sendersOf 111 = .ok (.goto (-105), 3) := by decide +kernel
theorem dX9_sendersOf_114 : decode cX9_sendersOf 114 = .ok (.iload 4, 2) := by decide +kernel
theorem dX9_sendersOf_116 : decode cX9_sendersOf 116 = .ok (.ireturn, 1) := by decide +kernel
theorem dX9_callOrWait_0 : decode cX9_callOrWait 0 = .ok (.iconst 0, 1) := by decide +kernel
theorem dX9_callOrWait_1 : decode cX9_callOrWait 1 = .ok (.istore_n 1, 1) := by decide +kernel
theorem dX9_callOrWait_2 : decode cX9_callOrWait 2 = .ok (.iconst 0, 1) := by decide +kernel
theorem dX9_callOrWait_3 : decode cX9_callOrWait 3 = .ok (.istore_n 2, 1) := by decide +kernel
theorem dX9_callOrWait_4 : decode cX9_callOrWait 4 = .ok (.iload_n 2, 1) := by decide +kernel
theorem dX9_callOrWait_5 : decode cX9_callOrWait 5 = .ok (.aload_n 0, 1) := by decide +kernel
theorem dX9_callOrWait_6 : decode cX9_callOrWait 6 = .ok (.getfield 75, 3) := by decide +kernel
theorem dX9_callOrWait_9 : decode cX9_callOrWait 9 = .ok (.if_icmp .ge 56, 3) := by decide +kernel
theorem dX9_callOrWait_12 : decode cX9_callOrWait 12 = .ok (.aload_n 0, 1) := by decide +kernel
theorem dX9_callOrWait_13 : decode cX9_callOrWait 13 = .ok (.getfield 95, 3) := by decide +kernel
theorem dX9_callOrWait_16 : decode cX9_callOrWait 16 = .ok (.iload_n 2, 1) := by decide +kernel
theorem dX9_callOrWait_17 : decode cX9_callOrWait 17 = .ok (.aaload, 1) := by decide +kernel
theorem dX9_callOrWait_18 : decode cX9_callOrWait 18 = .ok (.astore_n 3, 1) := by decide +kernel
theorem dX9_callOrWait_19 : decode cX9_callOrWait 19 = .ok (.aload_n 3, 1) := by decide +kernel
theorem dX9_callOrWait_20 : decode cX9_callOrWait 20 = .ok (.getfield 99, 3) := by decide +kernel
theorem dX9_callOrWait_23 : decode cX9_callOrWait 23 = .ok (.iconst 1, 1) := by decide +kernel
theorem dX9_callOrWait_24 : decode cX9_callOrWait 24 = .ok (.if_icmp .ne 35, 3) := by decide +kernel
theorem dX9_callOrWait_27 : decode cX9_callOrWait 27 = .ok (.aload_n 3, 1) := by decide +kernel
theorem dX9_callOrWait_28 : decode cX9_callOrWait 28 = .ok (.iconst 0, 1) := by decide +kernel
theorem dX9_callOrWait_29 : decode cX9_callOrWait 29 = .ok (.aload_n 3, 1) := by decide +kernel
theorem dX9_callOrWait_30 : decode cX9_callOrWait 30 = .ok (.getfield 104, 3) := by decide +kernel
theorem dX9_callOrWait_33 : decode cX9_callOrWait 33 = .ok (.iconst 1, 1) := by decide +kernel
theorem dX9_callOrWait_34 : decode cX9_callOrWait 34 = .ok (.isub, 1) := by decide +kernel
theorem dX9_callOrWait_35 : decode cX9_callOrWait 35 = .ok (.invokestatic 107, 3) := by decide +kernel
theorem dX9_callOrWait_38 : decode cX9_callOrWait 38 = .ok (.putfield 104, 3) := by decide +kernel
theorem dX9_callOrWait_41 : decode cX9_callOrWait 41 = .ok (.iload_n 1, 1) := by decide +kernel
theorem dX9_callOrWait_42 : decode cX9_callOrWait 42 = .ok (.aload_n 3, 1) := by decide +kernel
theorem dX9_callOrWait_43 : decode cX9_callOrWait 43 = .ok (.getfield 104, 3) := by decide +kernel
theorem dX9_callOrWait_46 : decode cX9_callOrWait 46 = .ok (.ifCond .ne 10, 3) := by decide +kernel
theorem dX9_callOrWait_49 : decode cX9_callOrWait 49 = .ok (.iload_n 2, 1) := by decide +kernel
theorem dX9_callOrWait_50 : decode cX9_callOrWait 50 = .ok (.invokestatic 92, 3) := by decide +kernel
theorem dX9_callOrWait_53 : decode cX9_callOrWait 53 = .ok (.goto 4, 3) := by decide +kernel
theorem dX9_callOrWait_56 : decode cX9_callOrWait 56 = .ok (.iconst 0, 1) := by decide +kernel
theorem dX9_callOrWait_57 : decode cX9_callOrWait 57 = .ok (.ior, 1) := by decide +kernel
theorem dX9_callOrWait_58 : decode cX9_callOrWait 58 = .ok (.istore_n 1, 1) := by decide +kernel
theorem dX9_callOrWait_59 : decode cX9_callOrWait 59 = .ok (.iinc 2 1, 3) := by decide +kernel
theorem dX9_callOrWait_62 : decode cX9_callOrWait 62 = .ok (.goto (-58), 3) := by decide +kernel
theorem dX9_callOrWait_65 : decode cX9_callOrWait 65 = .ok (.iload_n 1, 1) := by decide +kernel
theorem dX9_callOrWait_66 : decode cX9_callOrWait 66 = .ok (.invokestatic 69, 3) := by decide +kernel
theorem dX9_callOrWait_69 : decode cX9_callOrWait 69 = .ok (.iconst 1, 1) := by decide +kernel
theorem dX9_callOrWait_70 : decode cX9_callOrWait 70 = .ok (.if_icmp .le 7, 3) := by decide +kernel
theorem dX9_callOrWait_73 : decode cX9_callOrWait 73 = .ok (.iconst 1, 1) := by decide +kernel
theorem dX9_callOrWait_74 : decode cX9_callOrWait 74 = .ok (.goto 4, 3) := by decide +kernel
theorem dX9_callOrWait_77 : decode cX9_callOrWait 77 = .ok (.iconst 0, 1) := by decide +kernel
theorem dX9_callOrWait_78 : decode cX9_callOrWait 78 = .ok (.istore_n 2, 1) := by decide +kernel
theorem dX9_callOrWait_79 : decode cX9_callOrWait 79 = .ok (.iconst 0, 1) := by decide +kernel
theorem dX9_callOrWait_80 : decode cX9_callOrWait 80 = .ok (.istore_n 3, 1) := by decide +kernel
theorem dX9_callOrWait_81 : decode cX9_callOrWait 81 = .ok (.iload_n 3, 1) := by decide +kernel
theorem dX9_callOrWait_82 : decode cX9_callOrWait 82 = .ok (.aload_n 0, 1) := by decide +kernel
theorem dX9_callOrWait_83 : decode cX9_callOrWait 83 = .ok (.getfield 75, 3) := by decide +kernel
theorem dX9_callOrWait_86 : decode cX9_callOrWait 86 = .ok (.if_icmp .ge 105, 3) := by decide +kernel
theorem dX9_callOrWait_89 : decode cX9_callOrWait 89 = .ok (.aload_n 0, 1) := by decide +kernel
theorem dX9_callOrWait_90 : decode cX9_callOrWait 90 = .ok (.getfield 95, 3) := by decide +kernel
theorem dX9_callOrWait_93 : decode cX9_callOrWait 93 = .ok (.iload_n 3, 1) := by decide +kernel
theorem dX9_callOrWait_94 : decode cX9_callOrWait 94 = .ok (.aaload, 1) := by decide +kernel
theorem dX9_callOrWait_95 : decode cX9_callOrWait 95 = .ok (.astore 4, 2) := by decide +kernel
theorem dX9_callOrWait_97 : decode cX9_callOrWait 97 = .ok (.iload_n 1, 1) := by decide +kernel
theorem dX9_callOrWait_98 : decode cX9_callOrWait 98 = .ok (.iload_n 3, 1) := by decide +kernel
theorem dX9_callOrWait_99 : decode cX9_callOrWait 99 = .ok (.invokestatic 78, 3) := by decide +kernel
theorem dX9_callOrWait_102 : decode cX9_callOrWait 102 = .ok (.ifCond .eq 47, 3) := by decide +kernel
theorem dX9_callOrWait_105 : decode cX9_callOrWait 105 = .ok (.iload_n 2, 1) := by decide +kernel
theorem dX9_callOrWait_106 : decode cX9_callOrWait 106 = .ok (.ifCond .eq 43, 3) := by decide +kernel
theorem dX9_callOrWait_109 : decode cX9_callOrWait 109 = .ok (.aload 4, 2) := by decide +kernel
theorem dX9_callOrWait_111 : decode cX9_callOrWait 111 = .ok (.bipush 99, 2) := by decide +kernel
theorem dX9_callOrWait_113 : decode cX9_callOrWait 113 = .ok (.iconst 3, 1) := by decide +kernel
theorem dX9_callOrWait_114 : decode cX9_callOrWait 114 = .ok (.iload_n 3, 1) := by decide +kernel
theorem dX9_callOrWait_115 : decode cX9_callOrWait 115 = .ok (.iadd, 1) := by decide +kernel
theorem dX9_callOrWait_116 : decode cX9_callOrWait 116 = .ok (.aload_n 0, 1) := by decide +kernel
theorem dX9_callOrWait_117 : decode cX9_callOrWait 117 = .ok (.getfield 110, 3) := by decide +kernel
theorem dX9_callOrWait_120 : decode cX9_callOrWait 120 = .ok (.aload_n 0, 1) := by decide +kernel
theorem dX9_callOrWait_121 : decode cX9_callOrWait 121 = .ok (.iload_n 3, 1) := by decide +kernel
theorem dX9_callOrWait_122 : decode cX9_callOrWait 122 = .ok (.sipush 1012, 3) := by decide +kernel
theorem dX9_callOrWait_125 : decode cX9_callOrWait 125 = .ok (.invokevirtual 114, 3) := by decide +kernel
theorem dX9_callOrWait_128 : decode cX9_callOrWait 128 = .ok (.iadd, 1) := by decide +kernel
theorem dX9_callOrWait_129 : decode cX9_callOrWait 129 = .ok (.invokestatic 63, 3) := by decide +kernel
theorem dX9_callOrWait_132 : decode cX9_callOrWait 132 = .ok (.putfield 104, 3) := by decide +kernel
theorem dX9_callOrWait_135 : decode cX9_callOrWait 135 = .ok (.aload_n 0, 1) := by decide +kernel
theorem dX9_callOrWait_136 : decode cX9_callOrWait 136 = .ok (.iload_n 3, 1) := by decide +kernel
theorem dX9_callOrWait_137 : decode cX9_callOrWait 137 = .ok (.iconst 1, 1) := by decide +kernel
theorem dX9_callOrWait_138 : decode cX9_callOrWait 138 = .ok (.aload 4, 2) := by decide +kernel
theorem dX9_callOrWait_140 : decode cX9_callOrWait 140 = .ok (.getfield 104, 3) := by decide +kernel
theorem dX9_callOrWait_143 : decode cX9_callOrWait 143 = .ok (.invokevirtual 120, 3) := by decide +kernel
theorem dX9_callOrWait_146 : decode cX9_callOrWait 146 = .ok (.goto 39, 3) := by decide +kernel
theorem dX9_callOrWait_149 : decode cX9_callOrWait 149 = .ok (.iload_n 1, 1) := by decide +kernel
theorem dX9_callOrWait_150 : decode cX9_callOrWait 150 = .ok (.iload_n 3, 1) := by decide +kernel
theorem dX9_callOrWait_151 : decode cX9_callOrWait 151 = .ok (.invokestatic 78, 3) := by decide +kernel
theorem dX9_callOrWait_154 : decode cX9_callOrWait 154 = .ok (.ifCond .eq 31, 3) := by decide +kernel
theorem dX9_callOrWait_157 : decode cX9_callOrWait 157 = .ok (.aload 4, 2) := by decide +kernel
theorem dX9_callOrWait_159 : decode cX9_callOrWait 159 = .ok (.iconst 2, 1) := by decide +kernel
theorem dX9_callOrWait_160 : decode cX9_callOrWait 160 = .ok (.putfield 99, 3) := by decide +kernel
theorem dX9_callOrWait_163 : decode cX9_callOrWait 163 = .ok (.aload 4, 2) := by decide +kernel
theorem dX9_callOrWait_165 : decode cX9_callOrWait 165 = .ok (.iload_n 3, 1) := by decide +kernel
theorem dX9_callOrWait_166 : decode cX9_callOrWait 166 = .ok (.invokestatic 92, 3) := by decide +kernel
theorem dX9_callOrWait_169 : decode cX9_callOrWait 169 = .ok (.putfield 124, 3) := by decide +kernel
theorem dX9_callOrWait_172 : decode cX9_callOrWait 172 = .ok (.aload 4, 2) := by decide +kernel
theorem dX9_callOrWait_174 : decode cX9_callOrWait 174 = .ok (.iconst 0, 1) := by decide +kernel
theorem dX9_callOrWait_175 : decode cX9_callOrWait 175 = .ok (.putfield 127, 3) := by decide +kernel
theorem dX9_callOrWait_178 : decode cX9_callOrWait 178 = .ok (.aload_n 0, 1) := by decide +kernel
theorem dX9_callOrWait_179 : decode cX9_callOrWait 179 = .ok (.iload_n 3, 1) := by decide +kernel
theorem dX9_callOrWait_180 : decode cX9_callOrWait 180 = .ok (.iconst 0, 1) := by decide +kernel
theorem dX9_callOrWait_181 : decode cX9_callOrWait 181 = .ok (.iconst 0, 1) := by decide +kernel
theorem dX9_callOrWait_182 : decode cX9_callOrWait 182 = .ok (.invokevirtual 120, 3) := by decide +kernel
theorem dX9_callOrWait_185 : decode cX9_callOrWait 185 = .ok (.iinc 3 1, 3) := by decide +kernel
theorem dX9_callOrWait_188 : decode cX9_callOrWait 188 = .ok (.goto (-107), 3) := by decide +kernel
theorem dX9_callOrWait_191 : decode cX9_callOrWait 191 = .ok (.return_, 1) := by decide +kernel
theorem dX9_joinAll_0 : decode cX9_joinAll 0 = .ok (.iload_n 2, 1) := by decide +kernel
theorem dX9_joinAll_1 : decode cX9_joinAll 1 = .ok (.invokestatic 130, 3) := by decide +kernel
theorem dX9_joinAll_4 : decode cX9_joinAll 4 = .ok (.istore_n 3, 1) := by decide +kernel
theorem dX9_joinAll_5 : decode cX9_joinAll 5 = .ok (.iload_n 3, 1) := by decide +kernel
theorem dX9_joinAll_6 : decode cX9_joinAll 6 = .ok (.ifCond .lt 11, 3) := by decide +kernel
theorem dX9_joinAll_9 : decode cX9_joinAll 9 = .ok (.iload_n 3, 1) := by decide +kernel
theorem dX9_joinAll_10 : decode cX9_joinAll 10 = .ok (.aload_n 1, 1) := by decide +kernel
theorem dX9_joinAll_11 : decode cX9_joinAll 11 = .ok (.getfield 75, 3) := by decide +kernel
theorem dX9_joinAll_14 : decode cX9_joinAll 14 = .ok (.if_icmp .lt 4, 3) := by decide +kernel
theorem dX9_joinAll_17 : decode cX9_joinAll 17 = .ok (.return_, 1) := by decide +kernel
theorem dX9_joinAll_18 : decode cX9_joinAll 18 = .ok (.iconst 0, 1) := by decide +kernel
theorem dX9_joinAll_19 : decode cX9_joinAll 19 = .ok (.istore 4, 2) := by decide +kernel
theorem dX9_joinAll_21 : decode cX9_joinAll 21 = .ok (.iload 4, 2) := by decide +kernel
theorem dX9_joinAll_23 : decode cX9_joinAll 23 = .ok (.aload_n 1, 1) := by decide +kernel
theorem dX9_joinAll_24 : decode cX9_joinAll 24 = .ok (.getfield 75, 3) := by decide +kernel
theorem dX9_joinAll_27 : decode cX9_joinAll 27 = .ok (.if_icmp .ge 84, 3) := by decide +kernel
theorem dX9_joinAll_30 : decode cX9_joinAll 30 = .ok (.aload_n 1, 1) := by decide +kernel
theorem dX9_joinAll_31 : decode cX9_joinAll 31 = .ok (.getfield 95, 3) := by decide +kernel
theorem dX9_joinAll_34 : decode cX9_joinAll 34 = .ok (.iload 4, 2) := by decide +kernel
theorem dX9_joinAll_36 : decode cX9_joinAll 36 = .ok (.aaload, 1) := by decide +kernel
theorem dX9_joinAll_37 : decode cX9_joinAll 37 = .ok (.astore 5, 2) := by decide +kernel
theorem dX9_joinAll_39 : decode cX9_joinAll 39 = .ok (.aload 5, 2) := by decide +kernel
theorem dX9_joinAll_41 : decode cX9_joinAll 41 = .ok (.getfield 99, 3) := by decide +kernel
theorem dX9_joinAll_44 : decode cX9_joinAll 44 = .ok (.iconst 1, 1) := by decide +kernel
theorem dX9_joinAll_45 : decode cX9_joinAll 45 = .ok (.if_icmp .ne 60, 3) := by decide +kernel
theorem dX9_joinAll_48 : decode cX9_joinAll 48 = .ok (.aload 5, 2) := by decide +kernel
theorem dX9_joinAll_50 : decode cX9_joinAll 50 = .ok (.aload_n 0, 1) := by decide +kernel
theorem dX9_joinAll_51 : decode cX9_joinAll 51 = .ok (.getfield 12, 3) := by decide +kernel
theorem dX9_joinAll_54 : decode cX9_joinAll 54 = .ok (.getfield 133, 3) := by decide +kernel
theorem dX9_joinAll_57 : decode cX9_joinAll 57 = .ok (.iload_n 3, 1) := by decide +kernel
theorem dX9_joinAll_58 : decode cX9_joinAll 58 = .ok (.aaload, 1) := by decide +kernel
theorem dX9_joinAll_59 : decode cX9_joinAll 59 = .ok (.iload 4, 2) := by decide +kernel
theorem dX9_joinAll_61 : decode cX9_joinAll 61 = .ok (.iaload, 1) := by decide +kernel
theorem dX9_joinAll_62 : decode cX9_joinAll 62 = .ok (.sipush 999, 3) := by decide +kernel
theorem dX9_joinAll_65 : decode cX9_joinAll 65 = .ok (.invokestatic 137, 3) := by decide +kernel
theorem dX9_joinAll_68 : decode cX9_joinAll 68 = .ok (.putfield 140, 3) := by decide +kernel
theorem dX9_joinAll_71 : decode cX9_joinAll 71 = .ok (.aload 5, 2) := by decide +kernel
theorem dX9_joinAll_73 : decode cX9_joinAll 73 = .ok (.aload_n 1, 1) := by decide +kernel
theorem dX9_joinAll_74 : decode cX9_joinAll 74 = .ok (.getfield 95, 3) := by decide +kernel
theorem dX9_joinAll_77 : decode cX9_joinAll 77 = .ok (.iload_n 3, 1) := by decide +kernel
theorem dX9_joinAll_78 : decode cX9_joinAll 78 = .ok (.aaload, 1) := by decide +kernel
theorem dX9_joinAll_79 : decode cX9_joinAll 79 = .ok (.getfield 124, 3) := by decide +kernel
theorem dX9_joinAll_82 : decode cX9_joinAll 82 = .ok (.iload 4, 2) := by decide +kernel
theorem dX9_joinAll_84 : decode cX9_joinAll 84 = .ok (.invokestatic 92, 3) := by decide +kernel
theorem dX9_joinAll_87 : decode cX9_joinAll 87 = .ok (.ior, 1) := by decide +kernel
theorem dX9_joinAll_88 : decode cX9_joinAll 88 = .ok (.putfield 124, 3) := by decide +kernel
theorem dX9_joinAll_91 : decode cX9_joinAll 91 = .ok (.aload 5, 2) := by decide +kernel
theorem dX9_joinAll_93 : decode cX9_joinAll 93 = .ok (.iconst 2, 1) := by decide +kernel
theorem dX9_joinAll_94 : decode cX9_joinAll 94 = .ok (.putfield 99, 3) := by decide +kernel
theorem dX9_joinAll_97 : decode cX9_joinAll 97 = .ok (.aload_n 1, 1) := by decide +kernel
theorem dX9_joinAll_98 : decode cX9_joinAll 98 = .ok (.iload 4, 2) := by decide +kernel
theorem dX9_joinAll_100 : decode cX9_joinAll 100 = .ok (.iconst 2, 1) := by decide +kernel
theorem dX9_joinAll_101 : decode cX9_joinAll 101 = .ok (.iload_n 3, 1) := by decide +kernel
theorem dX9_joinAll_102 : decode cX9_joinAll 102 = .ok (.invokevirtual 120, 3) := by decide +kernel
theorem dX9_joinAll_105 : decode cX9_joinAll 105 = .ok (.iinc 4 1, 3) := by decide +kernel
theorem dX9_joinAll_108 : decode cX9_joinAll 108 = .ok (.goto (-87), 3) := by decide +kernel
theorem dX9_joinAll_111 : decode cX9_joinAll 111 = .ok (.return_, 1) := by decide +kernel
theorem dX9_judge_0 : decode cX9_judge 0 = .ok (.iconst 0, 1) := by decide +kernel
theorem dX9_judge_1 : decode cX9_judge 1 = .ok (.istore 4, 2) := by decide +kernel
theorem dX9_judge_3 : decode cX9_judge 3 = .ok (.iload 4, 2) := by decide +kernel
theorem dX9_judge_5 : decode cX9_judge 5 = .ok (.aload_n 1, 1) := by decide +kernel
theorem dX9_judge_6 : decode cX9_judge 6 = .ok (.getfield 75, 3) := by decide +kernel
theorem dX9_judge_9 : decode cX9_judge 9 = .ok (.if_icmp .ge 100, 3) := by decide +kernel
theorem dX9_judge_12 : decode cX9_judge 12 = .ok (.iload_n 2, 1) := by decide +kernel
theorem dX9_judge_13 : decode cX9_judge 13 = .ok (.iload 4, 2) := by decide +kernel
theorem dX9_judge_15 : decode cX9_judge 15 = .ok (.invokestatic 78, 3) := by decide +kernel
theorem dX9_judge_18 : decode cX9_judge 18 = .ok (.ifCond .eq 85, 3) := by decide +kernel
theorem dX9_judge_21 : decode cX9_judge 21 = .ok (.aload_n 1, 1) := by decide +kernel
theorem dX9_judge_22 : decode cX9_judge 22 = .ok (.getfield 95, 3) := by decide +kernel
theorem dX9_judge_25 : decode cX9_judge 25 = .ok (.iload 4, 2) := by decide +kernel
theorem dX9_judge_27 : decode cX9_judge 27 = .ok (.aaload, 1) := by decide +kernel
theorem dX9_judge_28 : decode cX9_judge 28 = .ok (.astore 5, 2) := by decide +kernel
theorem dX9_judge_30 : decode cX9_judge 30 = .ok (.iload_n 3, 1) := by decide +kernel
theorem dX9_judge_31 : decode cX9_judge 31 = .ok (.iload 4, 2) := by decide +kernel
theorem dX9_judge_33 : decode cX9_judge 33 = .ok (.invokestatic 92, 3) := by decide +kernel
theorem dX9_judge_36 : decode cX9_judge 36 = .ok (.iconst (-1), 1) := by decide +kernel
theorem dX9_judge_37 : decode cX9_judge 37 = .ok (.ixor, 1) := by decide +kernel
theorem dX9_judge_38 : decode cX9_judge 38 = .ok (.iand, 1) := by decide +kernel
theorem dX9_judge_39 : decode cX9_judge 39 = .ok (.istore 6, 2) := by decide +kernel
theorem dX9_judge_41 : decode cX9_judge 41 = .ok (.aload 5, 2) := by decide +kernel
theorem dX9_judge_43 : decode cX9_judge 43 = .ok (.iload 6, 2) := by decide +kernel
theorem dX9_judge_45 : decode cX9_judge 45 = .ok (.aload_n 0, 1) := by decide +kernel
theorem dX9_judge_46 : decode cX9_judge 46 = .ok (.getfield 12, 3) := by decide +kernel
theorem dX9_judge_49 : decode cX9_judge 49 = .ok (.getfield 143, 3) := by decide +kernel
theorem dX9_judge_52 : decode cX9_judge 52 = .ok (.iload 4, 2) := by decide +kernel
theorem dX9_judge_54 : decode cX9_judge 54 = .ok (.iaload, 1) := by decide +kernel
theorem dX9_judge_55 : decode cX9_judge 55 = .ok (.iand, 1) := by decide +kernel
theorem dX9_judge_56 : decode cX9_judge 56 = .ok (.iload_n 3, 1) := by decide +kernel
theorem dX9_judge_57 : decode cX9_judge 57 = .ok (.iload 4, 2) := by decide +kernel
theorem dX9_judge_59 : decode cX9_judge 59 = .ok (.invokestatic 92, 3) := by decide +kernel
theorem dX9_judge_62 : decode cX9_judge 62 = .ok (.iand, 1) := by decide +kernel
theorem dX9_judge_63 : decode cX9_judge 63 = .ok (.ior, 1) := by decide +kernel
theorem dX9_judge_64 : decode cX9_judge 64 = .ok (.putfield 124, 3) := by decide +kernel
theorem dX9_judge_67 : decode cX9_judge 67 = .ok (.aload 5, 2) := by decide +kernel
theorem dX9_judge_69 : decode cX9_judge 69 = .ok (.aload 5, 2) := by decide +kernel
theorem dX9_judge_71 : decode cX9_judge 71 = .ok (.getfield 124, 3) := by decide +kernel
theorem dX9_judge_74 : decode cX9_judge 74 = .ok (.invokestatic 69, 3) := by decide +kernel
theorem dX9_judge_77 : decode cX9_judge 77 = .ok (.putfield 146, 3) := by decide +kernel
theorem dX9_judge_80 : decode cX9_judge 80 = .ok (.aload 5, 2) := by decide +kernel
theorem dX9_judge_82 : decode cX9_judge 82 = .ok (.iload 6, 2) := by decide +kernel
theorem dX9_judge_84 : decode cX9_judge 84 = .ok (.aload_n 0, 1) := by decide +kernel
theorem dX9_judge_85 : decode cX9_judge 85 = .ok (.getfield 12, 3) := by decide +kernel
theorem dX9_judge_88 : decode cX9_judge 88 = .ok (.getfield 143, 3) := by decide +kernel
theorem dX9_judge_91 : decode cX9_judge 91 = .ok (.iload 4, 2) := by decide +kernel
theorem dX9_judge_93 : decode cX9_judge 93 = .ok (.iaload, 1) := by decide +kernel
theorem dX9_judge_94 : decode cX9_judge 94 = .ok (.iconst (-1), 1) := by decide +kernel
theorem dX9_judge_95 : decode cX9_judge 95 = .ok (.ixor, 1) := by decide +kernel
theorem dX9_judge_96 : decode cX9_judge 96 = .ok (.iand, 1) := by decide +kernel
theorem dX9_judge_97 : decode cX9_judge 97 = .ok (.invokestatic 69, 3) := by decide +kernel
theorem dX9_judge_100 : decode cX9_judge 100 = .ok (.putfield 149, 3) := by decide +kernel
theorem dX9_judge_103 : decode cX9_judge 103 = .ok (.iinc 4 1, 3) := by decide +kernel
theorem dX9_judge_106 : decode cX9_judge 106 = .ok (.goto (-103), 3) := by decide +kernel
theorem dX9_judge_109 : decode cX9_judge 109 = .ok (.return_, 1) := by decide +kernel
theorem dX9_acknowledge_0 : decode cX9_acknowledge 0 = .ok (.iconst 0, 1) := by decide +kernel
theorem dX9_acknowledge_1 : decode cX9_acknowledge 1 = .ok (.istore_n 3, 1) := by decide +kernel
theorem dX9_acknowledge_2 : decode cX9_acknowledge 2 = .ok (.iconst 0, 1) := by decide +kernel
theorem dX9_acknowledge_3 : decode cX9_acknowledge 3 = .ok (.istore 4, 2) := by decide +kernel
theorem dX9_acknowledge_5 : decode cX9_acknowledge 5 = .ok (.iload 4, 2) := by decide +kernel
theorem dX9_acknowledge_7 : decode cX9_acknowledge 7 = .ok (.aload_n 1, 1) := by decide +kernel
theorem dX9_acknowledge_8 : decode cX9_acknowledge 8 = .ok (.getfield 75, 3) := by decide +kernel
theorem dX9_acknowledge_11 : decode cX9_acknowledge 11 = .ok (.if_icmp .ge 26, 3) := by decide +kernel
theorem dX9_acknowledge_14 : decode cX9_acknowledge 14 = .ok (.aload_n 0, 1) := by decide +kernel
theorem dX9_acknowledge_15 : decode cX9_acknowledge 15 = .ok (.getfield 18, 3) := by decide +kernel
theorem dX9_acknowledge_18 : decode cX9_acknowledge 18 = .ok (.iload 4, 2) := by decide +kernel
theorem dX9_acknowledge_20 : decode cX9_acknowledge 20 = .ok (.aload_n 1, 1) := by decide +kernel
theorem dX9_acknowledge_21 : decode cX9_acknowledge 21 = .ok (.getfield 95, 3) := by decide +kernel
theorem dX9_acknowledge_24 : decode cX9_acknowledge 24 = .ok (.iload 4, 2) := by decide +kernel
theorem dX9_acknowledge_26 : decode cX9_acknowledge 26 = .ok (.aaload, 1) := by decide +kernel
theorem dX9_acknowledge_27 : decode cX9_acknowledge 27 = .ok (.getfield 124, 3) := by decide +kernel
theorem dX9_acknowledge_30 : decode cX9_acknowledge 30 = .ok (.iastore, 1) := by decide +kernel
theorem dX9_acknowledge_31 : decode cX9_acknowledge 31 = .ok (.iinc 4 1, 3) := by decide +kernel
theorem dX9_acknowledge_34 : decode cX9_acknowledge 34 = .ok (.goto (-29), 3) := by decide +kernel
theorem dX9_acknowledge_37 : decode cX9_acknowledge 37 = .ok (.iconst 0, 1) := by decide +kernel
theorem dX9_acknowledge_38 : decode cX9_acknowledge 38 = .ok (.istore 4, 2) := by decide +kernel
theorem dX9_acknowledge_40 : decode cX9_acknowledge 40 = .ok (.iload 4, 2) := by decide +kernel
theorem dX9_acknowledge_42 : decode cX9_acknowledge 42 = .ok (.aload_n 1, 1) := by decide +kernel
theorem dX9_acknowledge_43 : decode cX9_acknowledge 43 = .ok (.getfield 75, 3) := by decide +kernel
theorem dX9_acknowledge_46 : decode cX9_acknowledge 46 = .ok (.if_icmp .ge 118, 3) := by decide +kernel
theorem dX9_acknowledge_49 : decode cX9_acknowledge 49 = .ok (.iload_n 2, 1) := by decide +kernel
theorem dX9_acknowledge_50 : decode cX9_acknowledge 50 = .ok (.iload 4, 2) := by decide +kernel
theorem dX9_acknowledge_52 : decode cX9_acknowledge 52 = .ok (.invokestatic 152, 3) := by decide +kernel
theorem dX9_acknowledge_55 : decode cX9_acknowledge 55 = .ok (.istore 5, 2) := by decide +kernel
theorem dX9_acknowledge_57 : decode cX9_acknowledge 57 = .ok (.iload_n 2, 1) := by decide +kernel
theorem dX9_acknowledge_58 : decode cX9_acknowledge 58 = .ok (.iload 4, 2) := by decide +kernel
theorem dX9_acknowledge_60 : decode cX9_acknowledge 60 = .ok (.invokestatic 78, 3) := by decide +kernel
theorem dX9_acknowledge_63 : decode cX9_acknowledge 63 = .ok (.ifCond .eq 95, 3) := by decide +kernel
theorem dX9_acknowledge_66 : decode cX9_acknowledge 66 = .ok (.iload 5, 2) := by decide +kernel
theorem dX9_acknowledge_68 : decode cX9_acknowledge 68 = .ok (.iload 4, 2) := by decide +kernel
theorem dX9_acknowledge_70 : decode cX9_acknowledge 70 = .ok (.if_icmp .eq 88, 3) := by decide +kernel
theorem dX9_acknowledge_73 : decode cX9_acknowledge 73 = .ok (.aload_n 0, 1) := by decide +kernel
theorem dX9_acknowledge_74 : decode cX9_acknowledge 74 = .ok (.getfield 18, 3) := by decide +kernel
theorem dX9_acknowledge_77 : decode cX9_acknowledge 77 = .ok (.iload 5, 2) := by decide +kernel
theorem dX9_acknowledge_79 : decode cX9_acknowledge 79 = .ok (.iaload, 1) := by decide +kernel
theorem dX9_acknowledge_80 : decode cX9_acknowledge 80 = .ok (.iload 4, 2) := by decide +kernel
theorem dX9_acknowledge_82 : decode cX9_acknowledge 82 = .ok (.invokestatic 78, 3) := by decide +kernel
theorem dX9_acknowledge_85 : decode cX9_acknowledge 85 = .ok (.ifCond .ne 73, 3) := by decide +kernel
theorem dX9_acknowledge_88 : decode cX9_acknowledge 88 = .ok (.iload_n 2, 1) := by decide +kernel
theorem dX9_acknowledge_89 : decode cX9_acknowledge 89 = .ok (.iload 5, 2) := by decide +kernel
theorem dX9_acknowledge_91 : decode cX9_acknowledge 91 = .ok (.invokestatic 152, 3) := by decide +kernel
theorem dX9_acknowledge_94 : decode cX9_acknowledge 94 = .ok (.istore 6, 2) := by decide +kernel
theorem dX9_acknowledge_96 : decode cX9_acknowledge 96 = .ok (.iload 6, 2) := by decide +kernel
theorem dX9_acknowledge_98 : decode cX9_acknowledge 98 = .ok (.iload 4, 2) := by decide +kernel
theorem dX9_acknowledge_100 : decode cX9_acknowledge 100 = .ok (.if_icmp .eq 43, 3) := by decide +kernel
theorem dX9_acknowledge_103 : decode cX9_acknowledge 103 = .ok (.aload_n 0, 1) := by decide +kernel
theorem dX9_acknowledge_104 : decode cX9_acknowledge 104 = .ok (.getfield 18, 3) := by decide +kernel
theorem dX9_acknowledge_107 : decode cX9_acknowledge 107 = .ok (.iload 6, 2) := by decide +kernel
theorem dX9_acknowledge_109 : decode cX9_acknowledge 109 = .ok (.iaload, 1) := by decide +kernel
theorem dX9_acknowledge_110 : decode cX9_acknowledge 110 = .ok (.iload 4, 2) := by decide +kernel
theorem dX9_acknowledge_112 : decode cX9_acknowledge 112 = .ok (.invokestatic 78, 3) := by decide +kernel
theorem dX9_acknowledge_115 : decode cX9_acknowledge 115 = .ok (.ifCond .eq 28, 3) := by decide +kernel
theorem dX9_acknowledge_118 : decode cX9_acknowledge 118 = .ok (.aload_n 1, 1) := by decide +kernel
theorem dX9_acknowledge_119 : decode cX9_acknowledge 119 = .ok (.getfield 95, 3) := by decide +kernel
theorem dX9_acknowledge_122 : decode cX9_acknowledge 122 = .ok (.iload 4, 2) := by decide +kernel
theorem dX9_acknowledge_124 : decode cX9_acknowledge 124 = .ok (.aaload, 1) := by decide +kernel
theorem dX9_acknowledge_125 : decode cX9_acknowledge 125 = .ok (.dup, 1) := by decide +kernel
theorem dX9_acknowledge_126 : decode cX9_acknowledge 126 = .ok (.getfield 124, 3) := by decide +kernel
theorem dX9_acknowledge_129 : decode cX9_acknowledge 129 = .ok (.iload 5, 2) := by decide +kernel
theorem dX9_acknowledge_131 : decode cX9_acknowledge 131 = .ok (.invokestatic 92, 3) := by decide +kernel
theorem dX9_acknowledge_134 : decode cX9_acknowledge 134 = .ok (.iconst (-1), 1) := by decide +kernel
theorem dX9_acknowledge_135 : decode cX9_acknowledge 135 = .ok (.ixor, 1) := by decide +kernel
theorem dX9_acknowledge_136 : decode cX9_acknowledge 136 = .ok (.iand, 1) := by decide +kernel
theorem dX9_acknowledge_137 : decode cX9_acknowledge 137 = .ok (.putfield 124, 3) := by decide +kernel
theorem dX9_acknowledge_140 : decode cX9_acknowledge 140 = .ok (.goto 18, 3) := by decide +kernel
theorem dX9_acknowledge_143 : decode cX9_acknowledge 143 = .ok (.aload_n 1, 1) := by decide +kernel
theorem dX9_acknowledge_144 : decode cX9_acknowledge 144 = .ok (.iload 4, 2) := by decide +kernel
theorem dX9_acknowledge_146 : decode cX9_acknowledge 146 = .ok (.iconst 3, 1) := by decide +kernel
theorem dX9_acknowledge_147 : decode cX9_acknowledge 147 = .ok (.invokestatic 155, 3) := by decide +kernel
theorem dX9_acknowledge_150 : decode cX9_acknowledge 150 = .ok (.iload_n 3, 1) := by decide +kernel
theorem dX9_acknowledge_151 : decode cX9_acknowledge 151 = .ok (.iload 4, 2) := by decide +kernel
theorem dX9_acknowledge_153 : decode cX9_acknowledge 153 = .ok (.invokestatic 92, 3) := by decide +kernel
theorem dX9_acknowledge_156 : decode cX9_acknowledge 156 = .ok (.ior, 1) := by decide +kernel
theorem dX9_acknowledge_157 : decode cX9_acknowledge 157 = .ok (.istore_n 3, 1) := by decide +kernel
theorem dX9_acknowledge_158 : decode cX9_acknowledge 158 = .ok (.iinc 4 1, 3) := by decide +kernel
theorem dX9_acknowledge_161 : decode cX9_acknowledge 161 = .ok (.goto (-121), 3) := by decide +kernel
theorem dX9_acknowledge_164 : decode cX9_acknowledge 164 = .ok (.iload_n 3, 1) := by decide +kernel
theorem dX9_acknowledge_165 : decode cX9_acknowledge 165 = .ok (.ireturn, 1) := by decide +kernel
theorem dX9_nextOf_0 : decode cX9_nextOf 0 = .ok (.iconst 1, 1) := by decide +kernel
theorem dX9_nextOf_1 : decode cX9_nextOf 1 = .ok (.istore_n 2, 1) := by decide +kernel
theorem dX9_nextOf_2 : decode cX9_nextOf 2 = .ok (.iload_n 2, 1) := by decide +kernel
theorem dX9_nextOf_3 : decode cX9_nextOf 3 = .ok (.bipush 8, 2) := by decide +kernel
theorem dX9_nextOf_5 : decode cX9_nextOf 5 = .ok (.if_icmp .ge 26, 3) := by decide +kernel
theorem dX9_nextOf_8 : decode cX9_nextOf 8 = .ok (.iload_n 1, 1) := by decide +kernel
theorem dX9_nextOf_9 : decode cX9_nextOf 9 = .ok (.iload_n 2, 1) := by decide +kernel
theorem dX9_nextOf_10 : decode cX9_nextOf 10 = .ok (.iadd, 1) := by decide +kernel
theorem dX9_nextOf_11 : decode cX9_nextOf 11 = .ok (.bipush 7, 2) := by decide +kernel
theorem dX9_nextOf_13 : decode cX9_nextOf 13 = .ok (.iand, 1) := by decide +kernel
theorem dX9_nextOf_14 : decode cX9_nextOf 14 = .ok (.istore_n 3, 1) := by decide +kernel
theorem dX9_nextOf_15 : decode cX9_nextOf 15 = .ok (.iload_n 0, 1) := by decide +kernel
theorem dX9_nextOf_16 : decode cX9_nextOf 16 = .ok (.iload_n 3, 1) := by decide +kernel
theorem dX9_nextOf_17 : decode cX9_nextOf 17 = .ok (.invokestatic 78, 3) := by decide +kernel
theorem dX9_nextOf_20 : decode cX9_nextOf 20 = .ok (.ifCond .eq 5, 3) := by decide +kernel
theorem dX9_nextOf_23 : decode cX9_nextOf 23 = .ok (.iload_n 3, 1) := by decide +kernel
theorem dX9_nextOf_24 : decode cX9_nextOf 24 = .ok (.ireturn, 1) := by decide +kernel
theorem dX9_nextOf_25 : decode cX9_nextOf 25 = .ok (.iinc 2 1, 3) := by decide +kernel
theorem dX9_nextOf_28 : decode cX9_nextOf 28 = .ok (.goto (-26), 3) := by decide +kernel
theorem dX9_nextOf_31 : decode cX9_nextOf 31 = .ok (.iload_n 1, 1) := by decide +kernel
theorem dX9_nextOf_32 : decode cX9_nextOf 32 = .ok (.ireturn, 1) := by decide +kernel
theorem dX9_outvote_0 : decode cX9_outvote 0 = .ok (.iconst 0, 1) := by decide +kernel
theorem dX9_outvote_1 : decode cX9_outvote 1 = .ok (.istore_n 2, 1) := by decide +kernel
theorem dX9_outvote_2 : decode cX9_outvote 2 = .ok (.iconst 0, 1) := by decide +kernel
theorem dX9_outvote_3 : decode cX9_outvote 3 = .ok (.istore_n 3, 1) := by decide +kernel
theorem dX9_outvote_4 : decode cX9_outvote 4 = .ok (.iload_n 3, 1) := by decide +kernel
theorem dX9_outvote_5 : decode cX9_outvote 5 = .ok (.aload_n 0, 1) := by decide +kernel
theorem dX9_outvote_6 : decode cX9_outvote 6 = .ok (.getfield 75, 3) := by decide +kernel
theorem dX9_outvote_9 : decode cX9_outvote 9 = .ok (.if_icmp .ge 59, 3) := by decide +kernel
theorem dX9_outvote_12 : decode cX9_outvote 12 = .ok (.aload_n 0, 1) := by decide +kernel
theorem dX9_outvote_13 : decode cX9_outvote 13 = .ok (.getfield 95, 3) := by decide +kernel
theorem dX9_outvote_16 : decode cX9_outvote 16 = .ok (.iload_n 3, 1) := by decide +kernel
theorem dX9_outvote_17 : decode cX9_outvote 17 = .ok (.aaload, 1) := by decide +kernel
theorem dX9_outvote_18 : decode cX9_outvote 18 = .ok (.astore 4, 2) := by decide +kernel
theorem dX9_outvote_20 : decode cX9_outvote 20 = .ok (.iload_n 1, 1) := by decide +kernel
theorem dX9_outvote_21 : decode cX9_outvote 21 = .ok (.iload_n 3, 1) := by decide +kernel
theorem dX9_outvote_22 : decode cX9_outvote 22 = .ok (.invokestatic 78, 3) := by decide +kernel
theorem dX9_outvote_25 : decode cX9_outvote 25 = .ok (.ifCond .eq 37, 3) := by decide +kernel
theorem dX9_outvote_28 : decode cX9_outvote 28 = .ok (.aload 4, 2) := by decide +kernel
theorem dX9_outvote_30 : decode cX9_outvote 30 = .ok (.getfield 149, 3) := by decide +kernel
theorem dX9_outvote_33 : decode cX9_outvote 33 = .ok (.ifCond .le 29, 3) := by decide +kernel
theorem dX9_outvote_36 : decode cX9_outvote 36 = .ok (.aload 4, 2) := by decide +kernel
theorem dX9_outvote_38 : decode cX9_outvote 38 = .ok (.getfield 146, 3) := by decide +kernel
theorem dX9_outvote_41 : decode cX9_outvote 41 = .ok (.aload 4, 2) := by decide +kernel
theorem dX9_outvote_43 : decode cX9_outvote 43 = .ok (.getfield 149, 3) := by decide +kernel
theorem dX9_outvote_46 : decode cX9_outvote 46 = .ok (.if_icmp .gt 16, 3) := by decide +kernel
theorem dX9_outvote_49 : decode cX9_outvote 49 = .ok (.aload_n 0, 1) := by decide +kernel
theorem dX9_outvote_50 : decode cX9_outvote 50 = .ok (.iload_n 3, 1) := by decide +kernel
theorem dX9_outvote_51 : decode cX9_outvote 51 = .ok (.iconst 4, 1) := by decide +kernel
theorem dX9_outvote_52 : decode cX9_outvote 52 = .ok (.invokestatic 155, 3) := by decide +kernel
theorem dX9_outvote_55 : decode cX9_outvote 55 = .ok (.iload_n 2, 1) := by decide +kernel
theorem dX9_outvote_56 : decode cX9_outvote 56 = .ok (.iload_n 3, 1) := by decide +kernel
theorem dX9_outvote_57 : decode cX9_outvote 57 = .ok (.invokestatic 92, 3) := by decide +kernel
theorem dX9_outvote_60 : decode cX9_outvote 60 = .ok (.ior, 1) := by decide +kernel
theorem dX9_outvote_61 : decode cX9_outvote 61 = .ok (.istore_n 2, 1) := by decide +kernel
theorem dX9_outvote_62 : decode cX9_outvote 62 = .ok (.iinc 3 1, 3) := by decide +kernel
theorem dX9_outvote_65 : decode cX9_outvote 65 = .ok (.goto (-61), 3) := by decide +kernel
theorem dX9_outvote_68 : decode cX9_outvote 68 = .ok (.iload_n 2, 1) := by decide +kernel
theorem dX9_outvote_69 : decode cX9_outvote 69 = .ok (.ireturn, 1) := by decide +kernel
theorem dX9_freeze_0 : decode cX9_freeze 0 = .ok (.aload_n 0, 1) := by decide +kernel
theorem dX9_freeze_1 : decode cX9_freeze 1 = .ok (.getfield 95, 3) := by decide +kernel
theorem dX9_freeze_4 : decode cX9_freeze 4 = .ok (.iload_n 1, 1) := by decide +kernel
theorem dX9_freeze_5 : decode cX9_freeze 5 = .ok (.aaload, 1) := by decide +kernel
theorem dX9_freeze_6 : decode cX9_freeze 6 = .ok (.iconst 3, 1) := by decide +kernel
theorem dX9_freeze_7 : decode cX9_freeze 7 = .ok (.putfield 99, 3) := by decide +kernel
theorem dX9_freeze_10 : decode cX9_freeze 10 = .ok (.aload_n 0, 1) := by decide +kernel
theorem dX9_freeze_11 : decode cX9_freeze 11 = .ok (.iload_n 1, 1) := by decide +kernel
theorem dX9_freeze_12 : decode cX9_freeze 12 = .ok (.iload_n 2, 1) := by decide +kernel
theorem dX9_freeze_13 : decode cX9_freeze 13 = .ok (.aload_n 0, 1) := by decide +kernel
theorem dX9_freeze_14 : decode cX9_freeze 14 = .ok (.getfield 95, 3) := by decide +kernel
theorem dX9_freeze_17 : decode cX9_freeze 17 = .ok (.iload_n 1, 1) := by decide +kernel
theorem dX9_freeze_18 : decode cX9_freeze 18 = .ok (.aaload, 1) := by decide +kernel
theorem dX9_freeze_19 : decode cX9_freeze 19 = .ok (.getfield 149, 3) := by decide +kernel
theorem dX9_freeze_22 : decode cX9_freeze 22 = .ok (.invokevirtual 120, 3) := by decide +kernel
theorem dX9_freeze_25 : decode cX9_freeze 25 = .ok (.return_, 1) := by decide +kernel
theorem dX9_correct_0 : decode cX9_correct 0 = .ok (.iconst 0, 1) := by decide +kernel
theorem dX9_correct_1 : decode cX9_correct 1 = .ok (.istore 4, 2) := by decide +kernel
theorem dX9_correct_3 : decode cX9_correct 3 = .ok (.iload 4, 2) := by decide +kernel
theorem dX9_correct_5 : decode cX9_correct 5 = .ok (.aload_n 1, 1) := by decide +kernel
theorem dX9_correct_6 : decode cX9_correct 6 = .ok (.getfield 75, 3) := by decide +kernel
theorem dX9_correct_9 : decode cX9_correct 9 = .ok (.if_icmp .ge 84, 3) := by decide +kernel
theorem dX9_correct_12 : decode cX9_correct 12 = .ok (.iload_n 2, 1) := by decide +kernel
theorem dX9_correct_13 : decode cX9_correct 13 = .ok (.iload 4, 2) := by decide +kernel
theorem dX9_correct_15 : decode cX9_correct 15 = .ok (.invokestatic 78, 3) := by decide +kernel
theorem dX9_correct_18 : decode cX9_correct 18 = .ok (.ifCond .eq 69, 3) := by decide +kernel
theorem dX9_correct_21 : decode cX9_correct 21 = .ok (.aload_n 1, 1) := by decide +kernel
theorem dX9_correct_22 : decode cX9_correct 22 = .ok (.getfield 95, 3) := by decide +kernel
theorem dX9_correct_25 : decode cX9_correct 25 = .ok (.iload 4, 2) := by decide +kernel
theorem dX9_correct_27 : decode cX9_correct 27 = .ok (.aaload, 1) := by decide +kernel
theorem dX9_correct_28 : decode cX9_correct 28 = .ok (.astore 5, 2) := by decide +kernel
theorem dX9_correct_30 : decode cX9_correct 30 = .ok (.aload_n 0, 1) := by decide +kernel
theorem dX9_correct_31 : decode cX9_correct 31 = .ok (.getfield 12, 3) := by decide +kernel
theorem dX9_correct_34 : decode cX9_correct 34 = .ok (.aload_n 1, 1) := by decide +kernel
theorem dX9_correct_35 : decode cX9_correct 35 = .ok (.iload 4, 2) := by decide +kernel
theorem dX9_correct_37 : decode cX9_correct 37 = .ok (.iload_n 3, 1) := by decide +kernel
theorem dX9_correct_38 : decode cX9_correct 38 = .ok (.invokevirtual 158, 3) := by decide +kernel
theorem dX9_correct_41 : decode cX9_correct 41 = .ok (.istore 6, 2) := by decide +kernel
theorem dX9_correct_43 : decode cX9_correct 43 = .ok (.aload_n 1, 1) := by decide +kernel
theorem dX9_correct_44 : decode cX9_correct 44 = .ok (.getfield 58, 3) := by decide +kernel
theorem dX9_correct_47 : decode cX9_correct 47 = .ok (.iconst 2, 1) := by decide +kernel
theorem dX9_correct_48 : decode cX9_correct 48 = .ok (.irem, 1) := by decide +kernel
theorem dX9_correct_49 : decode cX9_correct 49 = .ok (.ifCond .ne 18, 3) := by decide +kernel
theorem dX9_correct_52 : decode cX9_correct 52 = .ok (.aload 5, 2) := by decide +kernel
theorem dX9_correct_54 : decode cX9_correct 54 = .ok (.dup, 1) := by decide +kernel
theorem dX9_correct_55 : decode cX9_correct 55 = .ok (.getfield 140, 3) := by decide +kernel
theorem dX9_correct_58 : decode cX9_correct 58 = .ok (.iload 6, 2) := by decide +kernel
theorem dX9_correct_60 : decode cX9_correct 60 = .ok (.iadd, 1) := by decide +kernel
theorem dX9_correct_61 : decode cX9_correct 61 = .ok (.putfield 140, 3) := by decide +kernel
theorem dX9_correct_64 : decode cX9_correct 64 = .ok (.goto 23, 3) := by decide +kernel
theorem dX9_correct_67 : decode cX9_correct 67 = .ok (.aload 5, 2) := by decide +kernel
theorem dX9_correct_69 : decode cX9_correct 69 = .ok (.aload 5, 2) := by decide +kernel
theorem dX9_correct_71 : decode cX9_correct 71 = .ok (.getfield 127, 3) := by decide +kernel
theorem dX9_correct_74 : decode cX9_correct 74 = .ok (.iload 6, 2) := by decide +kernel
theorem dX9_correct_76 : decode cX9_correct 76 = .ok (.iconst 4, 1) := by decide +kernel
theorem dX9_correct_77 : decode cX9_correct 77 = .ok (.idiv, 1) := by decide +kernel
theorem dX9_correct_78 : decode cX9_correct 78 = .ok (.iadd, 1) := by decide +kernel
theorem dX9_correct_79 : decode cX9_correct 79 = .ok (.bipush 9, 2) := by decide +kernel
theorem dX9_correct_81 : decode cX9_correct 81 = .ok (.invokestatic 137, 3) := by decide +kernel
theorem dX9_correct_84 : decode cX9_correct 84 = .ok (.putfield 127, 3) := by decide +kernel
theorem dX9_correct_87 : decode cX9_correct 87 = .ok (.iinc 4 1, 3) := by decide +kernel
theorem dX9_correct_90 : decode cX9_correct 90 = .ok (.goto (-87), 3) := by decide +kernel
theorem dX9_correct_93 : decode cX9_correct 93 = .ok (.return_, 1) := by decide +kernel
theorem dX9_runClocks_0 : decode cX9_runClocks 0 = .ok (.iconst 0, 1) := by decide +kernel
theorem dX9_runClocks_1 : decode cX9_runClocks 1 = .ok (.istore_n 1, 1) := by decide +kernel
theorem dX9_runClocks_2 : decode cX9_runClocks 2 = .ok (.iload_n 1, 1) := by decide +kernel
theorem dX9_runClocks_3 : decode cX9_runClocks 3 = .ok (.aload_n 0, 1) := by decide +kernel
theorem dX9_runClocks_4 : decode cX9_runClocks 4 = .ok (.getfield 75, 3) := by decide +kernel
theorem dX9_runClocks_7 : decode cX9_runClocks 7 = .ok (.if_icmp .ge 47, 3) := by decide +kernel
theorem dX9_runClocks_10 : decode cX9_runClocks 10 = .ok (.aload_n 0, 1) := by decide +kernel
theorem dX9_runClocks_11 : decode cX9_runClocks 11 = .ok (.getfield 95, 3) := by decide +kernel
theorem dX9_runClocks_14 : decode cX9_runClocks 14 = .ok (.iload_n 1, 1) := by decide +kernel
theorem dX9_runClocks_15 : decode cX9_runClocks 15 = .ok (.aaload, 1) := by decide +kernel
theorem dX9_runClocks_16 : decode cX9_runClocks 16 = .ok (.astore_n 2, 1) := by decide +kernel
theorem dX9_runClocks_17 : decode cX9_runClocks 17 = .ok (.aload_n 2, 1) := by decide +kernel
theorem dX9_runClocks_18 : decode cX9_runClocks 18 = .ok (.getfield 99, 3) := by decide +kernel
theorem dX9_runClocks_21 : decode cX9_runClocks 21 = .ok (.ifCond .eq 27, 3) := by decide +kernel
theorem dX9_runClocks_24 : decode cX9_runClocks 24 = .ok (.aload_n 2, 1) := by decide +kernel
theorem dX9_runClocks_25 : decode cX9_runClocks 25 = .ok (.aload_n 2, 1) := by decide +kernel
theorem dX9_runClocks_26 : decode cX9_runClocks 26 = .ok (.getfield 140, 3) := by decide +kernel
theorem dX9_runClocks_29 : decode cX9_runClocks 29 = .ok (.aload_n 2, 1) := by decide +kernel
theorem dX9_runClocks_30 : decode cX9_runClocks 30 = .ok (.getfield 161, 3) := by decide +kernel
theorem dX9_runClocks_33 : decode cX9_runClocks 33 = .ok (.iadd, 1) := by decide +kernel
theorem dX9_runClocks_34 : decode cX9_runClocks 34 = .ok (.aload_n 2, 1) := by decide +kernel
theorem dX9_runClocks_35 : decode cX9_runClocks 35 = .ok (.getfield 127, 3) := by decide +kernel
theorem dX9_runClocks_38 : decode cX9_runClocks 38 = .ok (.iadd, 1) := by decide +kernel
theorem dX9_runClocks_39 : decode cX9_runClocks 39 = .ok (.sipush 999, 3) := by decide +kernel
theorem dX9_runClocks_42 : decode cX9_runClocks 42 = .ok (.invokestatic 137, 3) := by decide +kernel
theorem dX9_runClocks_45 : decode cX9_runClocks 45 = .ok (.putfield 140, 3) := by decide +kernel
theorem dX9_runClocks_48 : decode cX9_runClocks 48 = .ok (.iinc 1 1, 3) := by decide +kernel
theorem dX9_runClocks_51 : decode cX9_runClocks 51 = .ok (.goto (-49), 3) := by decide +kernel
theorem dX9_runClocks_54 : decode cX9_runClocks 54 = .ok (.return_, 1) := by decide +kernel
theorem dX10_init_0 : decode cX10_init 0 = .ok (.aload_n 0, 1) := by decide +kernel
theorem dX10_init_1 : decode cX10_init 1 = .ok (.invokespecial 3, 3) := by decide +kernel
theorem dX10_init_4 : decode cX10_init 4 = .ok (.aload_n 0, 1) := by decide +kernel
theorem dX10_init_5 : decode cX10_init 5 = .ok (.bipush 8, 2) := by decide +kernel
theorem dX10_init_7 : decode cX10_init 7 = .ok (.bipush 8, 2) := by decide +kernel
theorem dX10_init_9 : decode cX10_init 9 = .ok (.multianewarray 9 2, 4) := by decide +kernel
theorem dX10_init_13 : decode cX10_init 13 = .ok (.putfield 11, 3) := by decide +kernel
theorem dX10_init_16 : decode cX10_init 16 = .ok (.aload_n 0, 1) := by decide +kernel
theorem dX10_init_17 : decode cX10_init 17 = .ok (.bipush 8, 2) := by decide +kernel
theorem dX10_init_19 : decode cX10_init 19 = .ok (.newarray .int, 2) := by decide +kernel
theorem dX10_init_21 : decode cX10_init 21 = .ok (.putfield 16, 3) := by decide +kernel
theorem dX10_init_24 : decode cX10_init 24 = .ok (.aload_n 0, 1) := by decide +kernel
theorem dX10_init_25 : decode cX10_init 25 = .ok (.bipush 8, 2) := by decide +kernel
theorem dX10_init_27 : decode cX10_init 27 = .ok (.newarray .int, 2) := by decide +kernel
theorem dX10_init_29 : decode cX10_init 29 = .ok (.putfield 20, 3) := by decide +kernel
theorem dX10_init_32 : decode cX10_init 32 = .ok (.aload_n 0, 1) := by decide +kernel
theorem dX10_init_33 : decode cX10_init 33 = .ok (.bipush 8, 2) := by decide +kernel
theorem dX10_init_35 : decode cX10_init 35 = .ok (.newarray .int, 2) := by decide +kernel
theorem dX10_init_37 : decode cX10_init 37 = .ok (.putfield 23, 3) := by decide +kernel
theorem dX10_init_40 : decode cX10_init 40 = .ok (.aload_n 0, 1) := by decide +kernel
theorem dX10_init_41 : decode cX10_init 41 = .ok (.bipush 8, 2) := by decide +kernel
theorem dX10_init_43 : decode cX10_init 43 = .ok (.newarray .int, 2) := by decide +kernel
theorem dX10_init_45 : decode cX10_init 45 = .ok (.putfield 26, 3) := by decide +kernel
theorem dX10_init_48 : decode cX10_init 48 = .ok (.return_, 1) := by decide +kernel
theorem dX10_look_0 : decode cX10_look 0 = .ok (.aload_n 0, 1) := by decide +kernel
theorem dX10_look_1 : decode cX10_look 1 = .ok (.aload_n 1, 1) := by decide +kernel
theorem dX10_look_2 : decode cX10_look 2 = .ok (.iconst 2, 1) := by decide +kernel
theorem dX10_look_3 : decode cX10_look 3 = .ok (.invokevirtual 29, 3) := by decide +kernel
theorem dX10_look_6 : decode cX10_look 6 = .ok (.putfield 35, 3) := by decide +kernel
theorem dX10_look_9 : decode cX10_look 9 = .ok (.aload_n 0, 1) := by decide +kernel
theorem dX10_look_10 : decode cX10_look 10 = .ok (.iconst 0, 1) := by decide +kernel
theorem dX10_look_11 : decode cX10_look 11 = .ok (.putfield 39, 3) := by decide +kernel
theorem dX10_look_14 : decode cX10_look 14 = .ok (.iconst 0, 1) := by decide +kernel
theorem dX10_look_15 : decode cX10_look 15 = .ok (.istore_n 2, 1) := by decide +kernel
theorem dX10_look_16 : decode cX10_look 16 = .ok (.iload_n 2, 1) := by decide +kernel
theorem dX10_look_17 : decode cX10_look 17 = .ok (.aload_n 1, 1) := by decide +kernel
theorem dX10_look_18 : decode cX10_look 18 = .ok (.getfield 42, 3) := by decide +kernel
theorem dX10_look_21 : decode cX10_look 21 = .ok (.if_icmp .ge 200, 3) := by decide +kernel
theorem dX10_look_24 : decode cX10_look 24 = .ok (.aload_n 1, 1) := by decide +kernel
theorem dX10_look_25 : decode cX10_look 25 = .ok (.getfield 45, 3) := by decide +kernel
theorem dX10_look_28 : decode cX10_look 28 = .ok (.iload_n 2, 1) := by decide +kernel
theorem dX10_look_29 : decode cX10_look 29 = .ok (.aaload, 1) := by decide +kernel
theorem dX10_look_30 : decode cX10_look 30 = .ok (.astore_n 3, 1) := by decide +kernel
theorem dX10_look_31 : decode cX10_look 31 = .ok (.aload_n 0, 1) := by decide +kernel
theorem dX10_look_32 : decode cX10_look 32 = .ok (.getfield 20, 3) := by decide +kernel
theorem dX10_look_35 : decode cX10_look 35 = .ok (.iload_n 2, 1) := by decide +kernel
theorem dX10_look_36 : decode cX10_look 36 = .ok (.aload_n 1, 1) := by decide +kernel
theorem dX10_look_37 : decode cX10_look 37 = .ok (.getfield 49, 3) := by decide +kernel
theorem dX10_look_40 : decode cX10_look 40 = .ok (.aload_n 1, 1) := by decide +kernel
theorem dX10_look_41 : decode cX10_look 41 = .ok (.iload_n 2, 1) := by decide +kernel
theorem dX10_look_42 : decode cX10_look 42 = .ok (.sipush 1010, 3) := by decide +kernel
theorem dX10_look_45 : decode cX10_look 45 = .ok (.invokevirtual 53, 3) := by decide +kernel
theorem dX10_look_48 : decode cX10_look 48 = .ok (.aload_n 3, 1) := by decide +kernel
theorem dX10_look_49 : decode cX10_look 49 = .ok (.getfield 59, 3) := by decide +kernel
theorem dX10_look_52 : decode cX10_look 52 = .ok (.iconst 1, 1) := by decide +kernel
theorem dX10_look_53 : decode cX10_look 53 = .ok (.if_icmp .ne 10, 3) := by decide +kernel
theorem dX10_look_56 : decode cX10_look 56 = .ok (.aload_n 3, 1) := by decide +kernel
theorem dX10_look_57 : decode cX10_look 57 = .ok (.getfield 64, 3) := by decide +kernel
theorem dX10_look_60 : decode cX10_look 60 = .ok (.goto 4, 3) := by decide +kernel
theorem dX10_look_63 : decode cX10_look 63 = .ok (.iconst 0, 1) := by decide +kernel
theorem dX10_look_64 : decode cX10_look 64 = .ok (.iadd, 1) := by decide +kernel
theorem dX10_look_65 : decode cX10_look 65 = .ok (.iastore, 1) := by decide +kernel
theorem dX10_look_66 : decode cX10_look 66 = .ok (.aload_n 0, 1) := by decide +kernel
theorem dX10_look_67 : decode cX10_look 67 = .ok (.getfield 23, 3) := by decide +kernel
theorem dX10_look_70 : decode cX10_look 70 = .ok (.iload_n 2, 1) := by decide +kernel
theorem dX10_look_71 : decode cX10_look 71 = .ok (.aload_n 3, 1) := by decide +kernel
theorem dX10_look_72 : decode cX10_look 72 = .ok (.getfield 59, 3) := by decide +kernel
theorem dX10_look_75 : decode cX10_look 75 = .ok (.iconst 2, 1) := by decide +kernel
theorem dX10_look_76 : decode cX10_look 76 = .ok (.if_icmp .ne 8, 3) := by decide +kernel
theorem dX10_look_79 : decode cX10_look 79 = .ok (.bipush 100, 2) := by decide +kernel
theorem dX10_look_81 : decode cX10_look 81 = .ok (.goto 25, 3) := by decide +kernel
theorem dX10_look_84 : decode cX10_look 84 = .ok (.bipush 100, 2) := by decide +kernel
theorem dX10_look_86 : decode cX10_look 86 = .ok (.aload_n 3, 1) := by decide +kernel
theorem dX10_look_87 : decode cX10_look 87 = .ok (.getfield 67, 3) := by decide +kernel
theorem dX10_look_90 : decode cX10_look 90 = .ok (.aload_n 1, 1) := by decide +kernel
theorem dX10_look_91 : decode cX10_look 91 = .ok (.getfield 49, 3) := by decide +kernel
theorem dX10_look_94 : decode cX10_look 94 = .ok (.aload_n 1, 1) := by decide +kernel
theorem dX10_look_95 : decode cX10_look 95 = .ok (.iload_n 2, 1) := by decide +kernel
theorem dX10_look_96 : decode cX10_look 96 = .ok (.sipush 1011, 3) := by decide +kernel
theorem dX10_look_99 : decode cX10_look 99 = .ok (.invokevirtual 53, 3) := by decide +kernel
theorem dX10_look_102 : decode cX10_look 102 = .ok (.iadd, 1) := by decide +kernel
theorem dX10_look_103 : decode cX10_look 103 = .ok (.invokestatic 70, 3) := by decide +kernel
theorem dX10_look_106 : decode cX10_look 106 = .ok (.iastore, 1) := by decide +kernel
theorem dX10_look_107 : decode cX10_look 107 = .ok (.aload_n 3, 1) := by decide +kernel
theorem dX10_look_108 : decode cX10_look 108 = .ok (.getfield 76, 3) := by decide +kernel
theorem dX10_look_111 : decode cX10_look 111 = .ok (.aload_n 0, 1) := by decide +kernel
theorem dX10_look_112 : decode cX10_look 112 = .ok (.getfield 20, 3) := by decide +kernel
theorem dX10_look_115 : decode cX10_look 115 = .ok (.iload_n 2, 1) := by decide +kernel
theorem dX10_look_116 : decode cX10_look 116 = .ok (.iaload, 1) := by decide +kernel
theorem dX10_look_117 : decode cX10_look 117 = .ok (.iadd, 1) := by decide +kernel
theorem dX10_look_118 : decode cX10_look 118 = .ok (.istore 4, 2) := by decide +kernel
theorem dX10_look_120 : decode cX10_look 120 = .ok (.iconst 0, 1) := by decide +kernel
theorem dX10_look_121 : decode cX10_look 121 = .ok (.istore 5, 2) := by decide +kernel
theorem dX10_look_123 : decode cX10_look 123 = .ok (.iload 5, 2) := by decide +kernel
theorem dX10_look_125 : decode cX10_look 125 = .ok (.aload_n 1, 1) := by decide +kernel
theorem dX10_look_126 : decode cX10_look 126 = .ok (.getfield 42, 3) := by decide +kernel
theorem dX10_look_129 : decode cX10_look 129 = .ok (.if_icmp .ge 45, 3) := by decide +kernel
theorem dX10_look_132 : decode cX10_look 132 = .ok (.aload_n 0, 1) := by decide +kernel
theorem dX10_look_133 : decode cX10_look 133 = .ok (.getfield 11, 3) := by decide +kernel
theorem dX10_look_136 : decode cX10_look 136 = .ok (.iload_n 2, 1) := by decide +kernel
theorem dX10_look_137 : decode cX10_look 137 = .ok (.aaload, 1) := by decide +kernel
theorem dX10_look_138 : decode cX10_look 138 = .ok (.iload 5, 2) := by decide +kernel
theorem dX10_look_140 : decode cX10_look 140 = .ok (.iload 4, 2) := by decide +kernel
theorem dX10_look_142 : decode cX10_look 142 = .ok (.aload_n 3, 1) := by decide +kernel
theorem dX10_look_143 : decode cX10_look 143 = .ok (.getfield 59, 3) := by decide +kernel
theorem dX10_look_146 : decode cX10_look 146 = .ok (.iconst 3, 1) := by decide +kernel
theorem dX10_look_147 : decode cX10_look 147 = .ok (.if_icmp .ne 18, 3) := by decide +kernel
theorem dX10_look_150 : decode cX10_look 150 = .ok (.iload 5, 2) := by decide +kernel
theorem dX10_look_152 : decode cX10_look 152 = .ok (.iconst 2, 1) := by decide +kernel
theorem dX10_look_153 : decode cX10_look 153 = .ok (.irem, 1) := by decide +kernel
theorem dX10_look_154 : decode cX10_look 154 = .ok (.iconst 1, 1) := by decide +kernel
theorem dX10_look_155 : decode cX10_look 155 = .ok (.if_icmp .ne 10, 3) := by decide +kernel
theorem dX10_look_158 : decode cX10_look 158 = .ok (.aload_n 3, 1) := by decide +kernel
theorem dX10_look_159 : decode cX10_look 159 = .ok (.getfield 64, 3) := by decide +kernel
theorem dX10_look_162 : decode cX10_look 162 = .ok (.goto 4, 3) := by decide +kernel
theorem dX10_look_165 : decode cX10_look 165 = .ok (.iconst 0, 1) := by decide +kernel
theorem dX10_look_166 : decode cX10_look 166 = .ok (.iadd, 1) := by decide +kernel
theorem dX10_look_167 : decode cX10_look 167 = .ok (.iastore, 1) := by decide +kernel
theorem dX10_look_168 : decode cX10_look 168 = .ok (.iinc 5 1, 3) := by decide +kernel
theorem dX10_look_171 : decode cX10_look 171 = .ok (.goto (-48), 3) := by decide +kernel
theorem dX10_look_174 : decode cX10_look 174 = .ok (.aload_n 3, 1) := by decide +kernel
theorem dX10_look_175 : decode cX10_look 175 = .ok (.getfield 79, 3) := by decide +kernel
theorem dX10_look_178 : decode cX10_look 178 = .ok (.iconst 2, 1) := by decide +kernel
theorem dX10_look_179 : decode cX10_look 179 = .ok (.if_icmp .ne 36, 3) := by decide +kernel
theorem dX10_look_182 : decode cX10_look 182 = .ok (.aload_n 3, 1) := by decide +kernel
theorem dX10_look_183 : decode cX10_look 183 = .ok (.getfield 59, 3) := by decide +kernel
theorem dX10_look_186 : decode cX10_look 186 = .ok (.iconst 2, 1) := by decide +kernel
theorem dX10_look_187 : decode cX10_look 187 = .ok (.if_icmp .eq 28, 3) := by decide +kernel
theorem dX10_look_190 : decode cX10_look 190 = .ok (.iload 4, 2) := by decide +kernel
theorem dX10_look_192 : decode cX10_look 192 = .ok (.invokestatic 82, 3) := by decide +kernel
theorem dX10_look_195 : decode cX10_look 195 = .ok (.aload_n 1, 1) := by decide +kernel
theorem dX10_look_196 : decode cX10_look 196 = .ok (.getfield 85, 3) := by decide +kernel
theorem dX10_look_199 : decode cX10_look 199 = .ok (.if_icmp .gt 16, 3) := by decide +kernel
theorem dX10_look_202 : decode cX10_look 202 = .ok (.aload_n 0, 1) := by decide +kernel
theorem dX10_look_203 : decode cX10_look 203 = .ok (.dup, 1) := by decide +kernel
theorem dX10_look_204 : decode cX10_look 204 = .ok (.getfield 39, 3) := by decide +kernel
theorem dX10_look_207 : decode cX10_look 207 = .ok (.iload_n 2, 1) := by decide +kernel
theorem dX10_look_208 : decode cX10_look 208 = .ok (.invokestatic 88, 3) := by decide +kernel
theorem dX10_look_211 : decode cX10_look 211 = .ok (.ior, 1) := by decide +kernel
theorem dX10_look_212 : decode cX10_look 212 = .ok (.putfield 39, 3) := by decide +kernel
theorem dX10_look_215 : decode cX10_look 215 = .ok (.iinc 2 1, 3) := by decide +kernel
theorem dX10_look_218 : decode cX10_look 218 = .ok (.goto (-202), 3) := by decide +kernel
theorem dX10_look_221 : decode cX10_look 221 = .ok (.iconst 0, 1) := by decide +kernel
theorem dX10_look_222 : decode cX10_look 222 = .ok (.istore_n 2, 1) := by decide +kernel
theorem dX10_look_223 : decode cX10_look 223 = .ok (.iload_n 2, 1) := by decide +kernel
theorem dX10_look_224 : decode cX10_look 224 = .ok (.aload_n 1, 1) := by decide +kernel
theorem dX10_look_225 : decode cX10_look 225 = .ok (.getfield 42, 3) := by decide +kernel
theorem dX10_look_228 : decode cX10_look 228 = .ok (.if_icmp .ge 78, 3) := by decide +kernel
theorem dX10_look_231 : decode cX10_look 231 = .ok (.aload_n 0, 1) := by decide +kernel
theorem dX10_look_232 : decode cX10_look 232 = .ok (.getfield 16, 3) := by decide +kernel
theorem dX10_look_235 : decode cX10_look 235 = .ok (.iload_n 2, 1) := by decide +kernel
theorem dX10_look_236 : decode cX10_look 236 = .ok (.iconst 0, 1) := by decide +kernel
theorem dX10_look_237 : decode cX10_look 237 = .ok (.iastore, 1) := by decide +kernel
theorem dX10_look_238 : decode cX10_look 238 = .ok (.iconst 0, 1) := by decide +kernel
theorem dX10_look_239 : decode cX10_look 239 = .ok (.istore_n 3, 1) := by decide +kernel
theorem dX10_look_240 : decode cX10_look 240 = .ok (.iload_n 3, 1) := by decide +kernel
theorem dX10_look_241 : decode cX10_look 241 = .ok (.aload_n 1, 1) := by decide +kernel
theorem dX10_look_242 : decode cX10_look 242 = .ok (.getfield 42, 3) := by decide +kernel
theorem dX10_look_245 : decode cX10_look 245 = .ok (.if_icmp .ge 55, 3) := by decide +kernel
theorem dX10_look_248 : decode cX10_look 248 = .ok (.iload_n 2, 1) := by decide +kernel
theorem dX10_look_249 : decode cX10_look 249 = .ok (.iload_n 3, 1) := by decide +kernel
theorem dX10_look_250 : decode cX10_look 250 = .ok (.if_icmp .eq 44, 3) := by decide +kernel
theorem dX10_look_253 : decode cX10_look 253 = .ok (.aload_n 0, 1) := by decide +kernel
theorem dX10_look_254 : decode cX10_look 254 = .ok (.getfield 11, 3) := by decide +kernel
theorem dX10_look_257 : decode cX10_look 257 = .ok (.iload_n 3, 1) := by decide +kernel
theorem dX10_look_258 : decode cX10_look 258 = .ok (.aaload, 1) := by decide +kernel
theorem dX10_look_259 : decode cX10_look 259 = .ok (.iload_n 2, 1) := by decide +kernel
theorem dX10_look_260 : decode cX10_look 260 = .ok (.iaload, 1) := by decide +kernel
theorem dX10_look_261 : decode cX10_look 261 = .ok (.aload_n 1, 1) := by decide +kernel
theorem dX10_look_262 : decode cX10_look 262 = .ok (.getfield 45, 3) := by decide +kernel
theorem dX10_look_265 : decode cX10_look 265 = .ok (.iload_n 2, 1) := by decide +kernel
theorem dX10_look_266 : decode cX10_look 266 = .ok (.aaload, 1) := by decide +kernel
theorem dX10_look_267 : decode cX10_look 267 = .ok (.getfield 76, 3) := by decide +kernel
theorem dX10_look_270 : decode cX10_look 270 = .ok (.isub, 1) := by decide +kernel
theorem dX10_look_271 : decode cX10_look 271 = .ok (.invokestatic 82, 3) := by decide +kernel
theorem dX10_look_274 : decode cX10_look 274 = .ok (.aload_n 1, 1) := by decide +kernel
theorem dX10_look_275 : decode cX10_look 275 = .ok (.getfield 91, 3) := by decide +kernel
theorem dX10_look_278 : decode cX10_look 278 = .ok (.if_icmp .gt 16, 3) := by decide +kernel
theorem dX10_look_281 : decode cX10_look 281 = .ok (.aload_n 0, 1) := by decide +kernel
theorem dX10_look_282 : decode cX10_look 282 = .ok (.getfield 16, 3) := by decide +kernel
theorem dX10_look_285 : decode cX10_look 285 = .ok (.iload_n 2, 1) := by decide +kernel
theorem dX10_look_286 : decode cX10_look 286 = .ok (.dup2, 1) := by decide +kernel
theorem dX10_look_287 : decode cX10_look 287 = .ok (.iaload, 1) := by decide +kernel
theorem dX10_look_288 : decode cX10_look 288 = .ok (.iload_n 3, 1) := by decide +kernel
theorem dX10_look_289 : decode cX10_look 289 = .ok (.invokestatic 88, 3) := by decide +kernel
theorem dX10_look_292 : decode cX10_look 292 = .ok (.ior, 1) := by decide +kernel
theorem dX10_look_293 : decode cX10_look 293 = .ok (.iastore, 1) := by decide +kernel
theorem dX10_look_294 : decode cX10_look 294 = .ok (.iinc 3 1, 3) := by decide +kernel
theorem dX10_look_297 : decode cX10_look 297 = .ok (.goto (-57), 3) := by decide +kernel
theorem dX10_look_300 : decode cX10_look 300 = .ok (.iinc 2 1, 3) := by decide +kernel
theorem dX10_look_303 : decode cX10_look 303 = .ok (.goto (-80), 3) := by decide +kernel
theorem dX10_look_306 : decode cX10_look 306 = .ok (.return_, 1) := by decide +kernel
theorem dX10_middleOf_0 : decode cX10_middleOf 0 = .ok (.iconst 0, 1) := by decide +kernel
theorem dX10_middleOf_1 : decode cX10_middleOf 1 = .ok (.istore 4, 2) := by decide +kernel
theorem dX10_middleOf_3 : decode cX10_middleOf 3 = .ok (.iconst 0, 1) := by decide +kernel
theorem dX10_middleOf_4 : decode cX10_middleOf 4 = .ok (.istore 5, 2) := by decide +kernel
theorem dX10_middleOf_6 : decode cX10_middleOf 6 = .ok (.iload 5, 2) := by decide +kernel
theorem dX10_middleOf_8 : decode cX10_middleOf 8 = .ok (.aload_n 1, 1) := by decide +kernel
theorem dX10_middleOf_9 : decode cX10_middleOf 9 = .ok (.getfield 42, 3) := by decide +kernel
theorem dX10_middleOf_12 : decode cX10_middleOf 12 = .ok (.if_icmp .ge 74, 3) := by decide +kernel
theorem dX10_middleOf_15 : decode cX10_middleOf 15 = .ok (.iload 5, 2) := by decide +kernel
theorem dX10_middleOf_17 : decode cX10_middleOf 17 = .ok (.iload_n 2, 1) := by decide +kernel
theorem dX10_middleOf_18 : decode cX10_middleOf 18 = .ok (.if_icmp .ne 17, 3) := by decide +kernel
theorem dX10_middleOf_21 : decode cX10_middleOf 21 = .ok (.aload_n 0, 1) := by decide +kernel
theorem dX10_middleOf_22 : decode cX10_middleOf 22 = .ok (.getfield 26, 3) := by decide +kernel
theorem dX10_middleOf_25 : decode cX10_middleOf 25 = .ok (.iload 4, 2) := by decide +kernel
theorem dX10_middleOf_27 : decode cX10_middleOf 27 = .ok (.iconst 0, 1) := by decide +kernel
theorem dX10_middleOf_28 : decode cX10_middleOf 28 = .ok (.iastore, 1) := by decide +kernel
theorem dX10_middleOf_29 : decode cX10_middleOf 29 = .ok (.iinc 4 1, 3) := by decide +kernel
theorem dX10_middleOf_32 : decode cX10_middleOf 32 = .ok (.goto 48, 3) := by decide +kernel
theorem dX10_middleOf_35 : decode cX10_middleOf 35 = .ok (.iload_n 3, 1) := by decide +kernel
theorem dX10_middleOf_36 : decode cX10_middleOf 36 = .ok (.aload_n 0, 1) := by decide +kernel
theorem dX10_middleOf_37 : decode cX10_middleOf 37 = .ok (.getfield 16, 3) := by decide +kernel
theorem dX10_middleOf_40 : decode cX10_middleOf 40 = .ok (.iload_n 2, 1) := by decide +kernel
theorem dX10_middleOf_41 : decode cX10_middleOf 41 = .ok (.iaload, 1) := by decide +kernel
theorem dX10_middleOf_42 : decode cX10_middleOf 42 = .ok (.iand, 1) := by decide +kernel
theorem dX10_middleOf_43 : decode cX10_middleOf 43 = .ok (.iload 5, 2) := by decide +kernel
theorem dX10_middleOf_45 : decode cX10_middleOf 45 = .ok (.invokestatic 94, 3) := by decide +kernel
theorem dX10_middleOf_48 : decode cX10_middleOf 48 = .ok (.ifCond .eq 32, 3) := by decide +kernel
theorem dX10_middleOf_51 : decode cX10_middleOf 51 = .ok (.aload_n 0, 1) := by decide +kernel
theorem dX10_middleOf_52 : decode cX10_middleOf 52 = .ok (.getfield 26, 3) := by decide +kernel
theorem dX10_middleOf_55 : decode cX10_middleOf 55 = .ok (.iload 4, 2) := by decide +kernel
theorem dX10_middleOf_57 : decode cX10_middleOf 57 = .ok (.aload_n 0, 1) := by decide +kernel
theorem dX10_middleOf_58 : decode cX10_middleOf 58 = .ok (.getfield 11, 3) := by decide +kernel
theorem dX10_middleOf_61 : decode cX10_middleOf 61 = .ok (.iload 5, 2) := by decide +kernel
theorem dX10_middleOf_63 : decode cX10_middleOf 63 = .ok (.aaload, 1) := by decide +kernel
theorem dX10_middleOf_64 : decode cX10_middleOf 64 = .ok (.iload_n 2, 1) := by decide +kernel
theorem dX10_middleOf_65 : decode cX10_middleOf 65 = .ok (.iaload, 1) := by decide +kernel
theorem dX10_middleOf_66 : decode cX10_middleOf 66 = .ok (.aload_n 1, 1) := by decide +kernel
theorem dX10_middleOf_67 : decode cX10_middleOf 67 = .ok (.getfield 45, 3) := by decide +kernel
theorem dX10_middleOf_70 : decode cX10_middleOf 70 = .ok (.iload_n 2, 1) := by decide +kernel
theorem dX10_middleOf_71 : decode cX10_middleOf 71 = .ok (.aaload, 1) := by decide +kernel
theorem dX10_middleOf_72 : decode cX10_middleOf 72 = .ok (.getfield 76, 3) := by decide +kernel
theorem dX10_middleOf_75 : decode cX10_middleOf 75 = .ok (.isub, 1) := by decide +kernel
theorem dX10_middleOf_76 : decode cX10_middleOf 76 = .ok (.iastore, 1) := by decide +kernel
theorem dX10_middleOf_77 : decode cX10_middleOf 77 = .ok (.iinc 4 1, 3) := by decide +kernel
theorem dX10_middleOf_80 : decode cX10_middleOf 80 = .ok (.iinc 5 1, 3) := by decide +kernel
theorem dX10_middleOf_83 : decode cX10_middleOf 83 = .ok (.goto (-77), 3) := by decide +kernel
theorem dX10_middleOf_86 : decode cX10_middleOf 86 = .ok (.aload_n 0, 1) := by decide +kernel
theorem dX10_middleOf_87 : decode cX10_middleOf 87 = .ok (.getfield 26, 3) := by decide +kernel
theorem dX10_middleOf_90 : decode cX10_middleOf 90 = .ok (.iload 4, 2) := by decide +kernel
theorem dX10_middleOf_92 : decode cX10_middleOf 92 = .ok (.invokestatic 98, 3) := by decide +kernel
theorem dX10_middleOf_95 : decode cX10_middleOf 95 = .ok (.ireturn, 1) := by decide +kernel
theorem dX11_init_0 : decode cX11_init 0 = .ok (.aload_n 0, 1) := by decide +kernel
theorem dX11_init_1 : decode cX11_init 1 = .ok (.invokespecial 3, 3) := by decide +kernel
theorem dX11_init_4 : decode cX11_init 4 = .ok (.aload_n 0, 1) := by decide +kernel
theorem dX11_init_5 : decode cX11_init 5 = .ok (.sipush 400, 3) := by decide +kernel
theorem dX11_init_8 : decode cX11_init 8 = .ok (.newarray .int, 2) := by decide +kernel
theorem dX11_init_10 : decode cX11_init 10 = .ok (.putfield 9, 3) := by decide +kernel
theorem dX11_init_13 : decode cX11_init 13 = .ok (.aload_n 0, 1) := by decide +kernel
theorem dX11_init_14 : decode cX11_init 14 = .ok (.iconst (-1), 1) := by decide +kernel
theorem dX11_init_15 : decode cX11_init 15 = .ok (.putfield 13, 3) := by decide +kernel
theorem dX11_init_18 : decode cX11_init 18 = .ok (.aload_n 0, 1) := by decide +kernel
theorem dX11_init_19 : decode cX11_init 19 = .ok (.new 17, 3) := by decide +kernel
theorem dX11_init_22 : decode cX11_init 22 = .ok (.dup, 1) := by decide +kernel
theorem dX11_init_23 : decode cX11_init 23 = .ok (.invokespecial 19, 3) := by decide +kernel
theorem dX11_init_26 : decode cX11_init 26 = .ok (.putfield 20, 3) := by decide +kernel
theorem dX11_init_29 : decode cX11_init 29 = .ok (.aload_n 0, 1) := by decide +kernel
theorem dX11_init_30 : decode cX11_init 30 = .ok (.new 24, 3) := by decide +kernel
theorem dX11_init_33 : decode cX11_init 33 = .ok (.dup, 1) := by decide +kernel
theorem dX11_init_34 : decode cX11_init 34 = .ok (.invokespecial 26, 3) := by decide +kernel
theorem dX11_init_37 : decode cX11_init 37 = .ok (.putfield 27, 3) := by decide +kernel
theorem dX11_init_40 : decode cX11_init 40 = .ok (.aload_n 0, 1) := by decide +kernel
theorem dX11_init_41 : decode cX11_init 41 = .ok (.new 31, 3) := by decide +kernel
theorem dX11_init_44 : decode cX11_init 44 = .ok (.dup, 1) := by decide +kernel
theorem dX11_init_45 : decode cX11_init 45 = .ok (.invokespecial 33, 3) := by decide +kernel
theorem dX11_init_48 : decode cX11_init 48 = .ok (.putfield 34, 3) := by decide +kernel
theorem dX11_init_51 : decode cX11_init 51 = .ok (.aload_n 0, 1) := by decide +kernel
theorem dX11_init_52 : decode cX11_init 52 = .ok (.new 38, 3) := by decide +kernel
theorem dX11_init_55 : decode cX11_init 55 = .ok (.dup, 1) := by decide +kernel
theorem dX11_init_56 : decode cX11_init 56 = .ok (.invokespecial 40, 3) := by decide +kernel
theorem dX11_init_59 : decode cX11_init 59 = .ok (.putfield 41, 3) := by decide +kernel
theorem dX11_init_62 : decode cX11_init 62 = .ok (.aload_n 0, 1) := by decide +kernel
theorem dX11_init_63 : decode cX11_init 63 = .ok (.new 45, 3) := by decide +kernel
theorem dX11_init_66 : decode cX11_init 66 = .ok (.dup, 1) := by decide +kernel
theorem dX11_init_67 : decode cX11_init 67 = .ok (.aload_n 0, 1) := by decide +kernel
theorem dX11_init_68 : decode cX11_init 68 = .ok (.getfield 41, 3) := by decide +kernel
theorem dX11_init_71 : decode cX11_init 71 = .ok (.invokespecial 47, 3) := by decide +kernel
theorem dX11_init_74 : decode cX11_init 74 = .ok (.putfield 50, 3) := by decide +kernel
theorem dX11_init_77 : decode cX11_init 77 = .ok (.aload_n 0, 1) := by decide +kernel
theorem dX11_init_78 : decode cX11_init 78 = .ok (.new 54, 3) := by decide +kernel
theorem dX11_init_81 : decode cX11_init 81 = .ok (.dup, 1) := by decide +kernel
theorem dX11_init_82 : decode cX11_init 82 = .ok (.aload_n 0, 1) := by decide +kernel
theorem dX11_init_83 : decode cX11_init 83 = .ok (.getfield 41, 3) := by decide +kernel
theorem dX11_init_86 : decode cX11_init 86 = .ok (.invokespecial 56, 3) := by decide +kernel
theorem dX11_init_89 : decode cX11_init 89 = .ok (.putfield 57, 3) := by decide +kernel
theorem dX11_init_92 : decode cX11_init 92 = .ok (.aload_n 0, 1) := by decide +kernel
theorem dX11_init_93 : decode cX11_init 93 = .ok (.bipush 20, 2) := by decide +kernel
theorem dX11_init_95 : decode cX11_init 95 = .ok (.newarray .int, 2) := by decide +kernel
theorem dX11_init_97 : decode cX11_init 97 = .ok (.putfield 61, 3) := by decide +kernel
theorem dX11_init_100 : decode cX11_init 100 = .ok (.aload_n 0, 1) := by decide +kernel
theorem dX11_init_101 : decode cX11_init 101 = .ok (.bipush 8, 2) := by decide +kernel
theorem dX11_init_103 : decode cX11_init 103 = .ok (.newarray .int, 2) := by decide +kernel
theorem dX11_init_105 : decode cX11_init 105 = .ok (.putfield 64, 3) := by decide +kernel
theorem dX11_init_108 : decode cX11_init 108 = .ok (.new 67, 3) := by decide +kernel
theorem dX11_init_111 : decode cX11_init 111 = .ok (.dup, 1) := by decide +kernel
theorem dX11_init_112 : decode cX11_init 112 = .ok (.iconst (-1), 1) := by decide +kernel
theorem dX11_init_113 : decode cX11_init 113 = .ok (.iconst 0, 1) := by decide +kernel
theorem dX11_init_114 : decode cX11_init 114 = .ok (.newarray .int, 2) := by decide +kernel
theorem dX11_init_116 : decode cX11_init 116 = .ok (.iconst 0, 1) := by decide +kernel
theorem dX11_init_117 : decode cX11_init 117 = .ok (.newarray .int, 2) := by decide +kernel
theorem dX11_init_119 : decode cX11_init 119 = .ok (.iconst 1, 1) := by decide +kernel
theorem dX11_init_120 : decode cX11_init 120 = .ok (.newarray .int, 2) := by decide +kernel
theorem dX11_init_122 : decode cX11_init 122 = .ok (.iconst 0, 1) := by decide +kernel
theorem dX11_init_123 : decode cX11_init 123 = .ok (.newarray .int, 2) := by decide +kernel
theorem dX11_init_125 : decode cX11_init 125 = .ok (.invokespecial 69, 3) := by decide +kernel
theorem dX11_init_128 : decode cX11_init 128 = .ok (.astore_n 1, 1) := by decide +kernel
theorem dX11_init_129 : decode cX11_init 129 = .ok (.aload_n 0, 1) := by decide +kernel
theorem dX11_init_130 : decode cX11_init 130 = .ok (.new 72, 3) := by decide +kernel
theorem dX11_init_133 : decode cX11_init 133 = .ok (.dup, 1) := by decide +kernel
theorem dX11_init_134 : decode cX11_init 134 = .ok (.aload_n 1, 1) := by decide +kernel
theorem dX11_init_135 : decode cX11_init 135 = .ok (.invokespecial 74, 3) := by decide +kernel
theorem dX11_init_138 : decode cX11_init 138 = .ok (.putfield 77, 3) := by decide +kernel
theorem dX11_init_141 : decode cX11_init 141 = .ok (.aload_n 0, 1) := by decide +kernel
theorem dX11_init_142 : decode cX11_init 142 = .ok (.new 72, 3) := by decide +kernel
theorem dX11_init_145 : decode cX11_init 145 = .ok (.dup, 1) := by decide +kernel
theorem dX11_init_146 : decode cX11_init 146 = .ok (.aload_n 1, 1) := by decide +kernel
theorem dX11_init_147 : decode cX11_init 147 = .ok (.invokespecial 74, 3) := by decide +kernel
theorem dX11_init_150 : decode cX11_init 150 = .ok (.putfield 81, 3) := by decide +kernel
theorem dX11_init_153 : decode cX11_init 153 = .ok (.aload_n 0, 1) := by decide +kernel
theorem dX11_init_154 : decode cX11_init 154 = .ok (.new 72, 3) := by decide +kernel
theorem dX11_init_157 : decode cX11_init 157 = .ok (.dup, 1) := by decide +kernel
theorem dX11_init_158 : decode cX11_init 158 = .ok (.aload_n 1, 1) := by decide +kernel
theorem dX11_init_159 : decode cX11_init 159 = .ok (.invokespecial 74, 3) := by decide +kernel
theorem dX11_init_162 : decode cX11_init 162 = .ok (.putfield 84, 3) := by decide +kernel
theorem dX11_init_165 : decode cX11_init 165 = .ok (.aload_n 0, 1) := by decide +kernel
theorem dX11_init_166 : decode cX11_init 166 = .ok (.new 87, 3) := by decide +kernel
theorem dX11_init_169 : decode cX11_init 169 = .ok (.dup, 1) := by decide +kernel
theorem dX11_init_170 : decode cX11_init 170 = .ok (.aload_n 1, 1) := by decide +kernel
theorem dX11_init_171 : decode cX11_init 171 = .ok (.invokespecial 89, 3) := by decide +kernel
theorem dX11_init_174 : decode cX11_init 174 = .ok (.putfield 90, 3) := by decide +kernel
theorem dX11_init_177 : decode cX11_init 177 = .ok (.return_, 1) := by decide +kernel
theorem dX11_feed_0 : decode cX11_feed 0 = .ok (.aload_n 0, 1) := by decide +kernel
theorem dX11_feed_1 : decode cX11_feed 1 = .ok (.getfield 94, 3) := by decide +kernel
theorem dX11_feed_4 : decode cX11_feed 4 = .ok (.bipush 20, 2) := by decide +kernel
theorem dX11_feed_6 : decode cX11_feed 6 = .ok (.iadd, 1) := by decide +kernel
theorem dX11_feed_7 : decode cX11_feed 7 = .ok (.sipush 400, 3) := by decide +kernel
theorem dX11_feed_10 : decode cX11_feed 10 = .ok (.if_icmp .le 5, 3) := by decide +kernel
theorem dX11_feed_13 : decode cX11_feed 13 = .ok (.iconst (-1), 1) := by decide +kernel
theorem dX11_feed_14 : decode cX11_feed 14 = .ok (.ireturn, 1) := by decide +kernel
theorem dX11_feed_15 : decode cX11_feed 15 = .ok (.aload_n 0, 1) := by decide +kernel
theorem dX11_feed_16 : decode cX11_feed 16 = .ok (.iload_n 1, 1) := by decide +kernel
theorem dX11_feed_17 : decode cX11_feed 17 = .ok (.invokevirtual 97, 3) := by decide +kernel
theorem dX11_feed_20 : decode cX11_feed 20 = .ok (.aload_n 0, 1) := by decide +kernel
theorem dX11_feed_21 : decode cX11_feed 21 = .ok (.iload_n 2, 1) := by decide +kernel
theorem dX11_feed_22 : decode cX11_feed 22 = .ok (.invokevirtual 97, 3) := by decide +kernel
theorem dX11_feed_25 : decode cX11_feed 25 = .ok (.aload_n 0, 1) := by decide +kernel
theorem dX11_feed_26 : decode cX11_feed 26 = .ok (.iload_n 3, 1) := by decide +kernel
theorem dX11_feed_27 : decode cX11_feed 27 = .ok (.invokevirtual 97, 3) := by decide +kernel
theorem dX11_feed_30 : decode cX11_feed 30 = .ok (.aload_n 0, 1) := by decide +kernel
theorem dX11_feed_31 : decode cX11_feed 31 = .ok (.iload 4, 2) := by decide +kernel
theorem dX11_feed_33 : decode cX11_feed 33 = .ok (.invokevirtual 97, 3) := by decide +kernel
theorem dX11_feed_36 : decode cX11_feed 36 = .ok (.aload_n 0, 1) := by decide +kernel
theorem dX11_feed_37 : decode cX11_feed 37 = .ok (.iload 5, 2) := by decide +kernel
theorem dX11_feed_39 : decode cX11_feed 39 = .ok (.invokevirtual 97, 3) := by decide +kernel
theorem dX11_feed_42 : decode cX11_feed 42 = .ok (.aload_n 0, 1) := by decide +kernel
theorem dX11_feed_43 : decode cX11_feed 43 = .ok (.getfield 94, 3) := by decide +kernel
theorem dX11_feed_46 : decode cX11_feed 46 = .ok (.ireturn, 1) := by decide +kernel
theorem dX11_putBytes_0 : decode cX11_putBytes 0 = .ok (.bipush 24, 2) := by decide +kernel
theorem dX11_putBytes_2 : decode cX11_putBytes 2 = .ok (.istore_n 2, 1) := by decide +kernel
theorem dX11_putBytes_3 : decode cX11_putBytes 3 = .ok (.iload_n 2, 1) := by decide +kernel
theorem dX11_putBytes_4 : decode cX11_putBytes 4 = .ok (.ifCond .lt 47, 3) := by decide +kernel
theorem dX11_putBytes_7 : decode cX11_putBytes 7 = .ok (.aload_n 0, 1) := by decide +kernel
theorem dX11_putBytes_8 : decode cX11_putBytes 8 = .ok (.getfield 94, 3) := by decide +kernel
theorem dX11_putBytes_11 : decode cX11_putBytes 11 = .ok (.aload_n 0, 1) := by decide +kernel
theorem dX11_putBytes_12 : decode cX11_putBytes 12 = .ok (.getfield 9, 3) := by decide +kernel
theorem dX11_putBytes_15 : decode cX11_putBytes 15 = .ok (.arraylength, 1) := by decide +kernel
theorem dX11_putBytes_16 : decode cX11_putBytes 16 = .ok (.if_icmp .ge 29, 3) := by decide +kernel
theorem dX11_putBytes_19 : decode cX11_putBytes 19 = .ok (.aload_n 0, 1) := by decide +kernel
theorem dX11_putBytes_20 : decode cX11_putBytes 20 = .ok (.getfield 9, 3) := by decide +kernel
theorem dX11_putBytes_23 : decode cX11_putBytes 23 = .ok (.aload_n 0, 1) := by decide +kernel
theorem dX11_putBytes_24 : decode cX11_putBytes 24 = .ok (.getfield 94, 3) := by decide +kernel
theorem dX11_putBytes_27 : decode cX11_putBytes 27 = .ok (.iload_n 1, 1) := by decide +kernel
theorem dX11_putBytes_28 : decode cX11_putBytes 28 = .ok (.iload_n 2, 1) := by decide +kernel
theorem dX11_putBytes_29 : decode cX11_putBytes 29 = .ok (.iushr, 1) := by decide +kernel
theorem dX11_putBytes_30 : decode cX11_putBytes 30 = .ok (.sipush 255, 3) := by decide +kernel
theorem dX11_putBytes_33 : decode cX11_putBytes 33 = .ok (.iand, 1) := by decide +kernel
theorem dX11_putBytes_34 : decode cX11_putBytes 34 = .ok (.iastore, 1) := by decide +kernel
theorem dX11_putBytes_35 : decode cX11_putBytes 35 = .ok (.aload_n 0, 1) := by decide +kernel
theorem dX11_putBytes_36 : decode cX11_putBytes 36 = .ok (.dup, 1) := by decide +kernel
theorem dX11_putBytes_37 : decode cX11_putBytes 37 = .ok (.getfield 94, 3) := by decide +kernel
theorem dX11_putBytes_40 : decode cX11_putBytes 40 = .ok (.iconst 1, 1) := by decide +kernel
theorem dX11_putBytes_41 : decode cX11_putBytes 41 = .ok (.iadd, 1) := by decide +kernel
theorem dX11_putBytes_42 : decode cX11_putBytes 42 = .ok (.putfield 94, 3) := by decide +kernel
theorem dX11_putBytes_45 : decode cX11_putBytes 45 = .ok (.iinc 2 (-8), 3) := by decide +kernel
theorem dX11_putBytes_48 : decode cX11_putBytes 48 = .ok (.goto (-45), 3) := by decide +kernel
theorem dX11_putBytes_51 : decode cX11_putBytes 51 = .ok (.return_, 1) := by decide +kernel
theorem dX11_end_0 : decode cX11_end 0 = .ok (.iload_n 1, 1) := by decide +kernel
theorem dX11_end_1 : decode cX11_end 1 = .ok (.ifCond .lt 11, 3) := by decide +kernel
theorem dX11_end_4 : decode cX11_end 4 = .ok (.iload_n 1, 1) := by decide +kernel
theorem dX11_end_5 : decode cX11_end 5 = .ok (.aload_n 0, 1) := by decide +kernel
theorem dX11_end_6 : decode cX11_end 6 = .ok (.getfield 94, 3) := by decide +kernel
theorem dX11_end_9 : decode cX11_end 9 = .ok (.if_icmp .le 5, 3) := by decide +kernel
theorem dX11_end_12 : decode cX11_end 12 = .ok (.iconst 0, 1) := by decide +kernel
theorem dX11_end_13 : decode cX11_end 13 = .ok (.ireturn, 1) := by decide +kernel
theorem dX11_end_14 : decode cX11_end 14 = .ok (.aload_n 0, 1) := by decide +kernel
theorem dX11_end_15 : decode cX11_end 15 = .ok (.iload_n 1, 1) := by decide +kernel
theorem dX11_end_16 : decode cX11_end 16 = .ok (.putfield 94, 3) := by decide +kernel
theorem dX11_end_19 : decode cX11_end 19 = .ok (.iconst 1, 1) := by decide +kernel
theorem dX11_end_20 : decode cX11_end 20 = .ok (.ireturn, 1) := by decide +kernel
theorem dX11_useTape_0 : decode cX11_useTape 0 = .ok (.aload_n 0, 1) := by decide +kernel
theorem dX11_useTape_1 : decode cX11_useTape 1 = .ok (.getfield 94, 3) := by decide +kernel
theorem dX11_useTape_4 : decode cX11_useTape 4 = .ok (.istore_n 1, 1) := by decide +kernel
theorem dX11_useTape_5 : decode cX11_useTape 5 = .ok (.aload_n 0, 1) := by decide +kernel
theorem dX11_useTape_6 : decode cX11_useTape 6 = .ok (.iconst 0, 1) := by decide +kernel
theorem dX11_useTape_7 : decode cX11_useTape 7 = .ok (.putfield 94, 3) := by decide +kernel
theorem dX11_useTape_10 : decode cX11_useTape 10 = .ok (.iload_n 1, 1) := by decide +kernel
theorem dX11_useTape_11 : decode cX11_useTape 11 = .ok (.ireturn, 1) := by decide +kernel
theorem dX11_cluster_0 : decode cX11_cluster 0 = .ok (.aload_n 0, 1) := by decide +kernel
theorem dX11_cluster_1 : decode cX11_cluster 1 = .ok (.getfield 41, 3) := by decide +kernel
theorem dX11_cluster_4 : decode cX11_cluster 4 = .ok (.aload_n 0, 1) := by decide +kernel
theorem dX11_cluster_5 : decode cX11_cluster 5 = .ok (.getfield 9, 3) := by decide +kernel
theorem dX11_cluster_8 : decode cX11_cluster 8 = .ok (.aload_n 0, 1) := by decide +kernel
theorem dX11_cluster_9 : decode cX11_cluster 9 = .ok (.invokevirtual 101, 3) := by decide +kernel
theorem dX11_cluster_12 : decode cX11_cluster 12 = .ok (.invokevirtual 105, 3) := by decide +kernel
theorem dX11_cluster_15 : decode cX11_cluster 15 = .ok (.aload_n 0, 1) := by decide +kernel
theorem dX11_cluster_16 : decode cX11_cluster 16 = .ok (.getfield 81, 3) := by decide +kernel
theorem dX11_cluster_19 : decode cX11_cluster 19 = .ok (.aload_n 0, 1) := by decide +kernel
theorem dX11_cluster_20 : decode cX11_cluster 20 = .ok (.getfield 77, 3) := by decide +kernel
theorem dX11_cluster_23 : decode cX11_cluster 23 = .ok (.invokevirtual 109, 3) := by decide +kernel
theorem dX11_cluster_26 : decode cX11_cluster 26 = .ok (.aload_n 0, 1) := by decide +kernel
theorem dX11_cluster_27 : decode cX11_cluster 27 = .ok (.getfield 50, 3) := by decide +kernel
theorem dX11_cluster_30 : decode cX11_cluster 30 = .ok (.aload_n 0, 1) := by decide +kernel
theorem dX11_cluster_31 : decode cX11_cluster 31 = .ok (.getfield 81, 3) := by decide +kernel
theorem dX11_cluster_34 : decode cX11_cluster 34 = .ok (.invokevirtual 113, 3) := by decide +kernel
theorem dX11_cluster_37 : decode cX11_cluster 37 = .ok (.aload_n 0, 1) := by decide +kernel
theorem dX11_cluster_38 : decode cX11_cluster 38 = .ok (.aload_n 0, 1) := by decide +kernel
theorem dX11_cluster_39 : decode cX11_cluster 39 = .ok (.getfield 41, 3) := by decide +kernel
theorem dX11_cluster_42 : decode cX11_cluster 42 = .ok (.getfield 116, 3) := by decide +kernel
theorem dX11_cluster_45 : decode cX11_cluster 45 = .ok (.putfield 13, 3) := by decide +kernel
theorem dX11_cluster_48 : decode cX11_cluster 48 = .ok (.aload_n 0, 1) := by decide +kernel
theorem dX11_cluster_49 : decode cX11_cluster 49 = .ok (.getfield 13, 3) := by decide +kernel
theorem dX11_cluster_52 : decode cX11_cluster 52 = .ok (.iconst (-1), 1) := by decide +kernel
theorem dX11_cluster_53 : decode cX11_cluster 53 = .ok (.if_icmp .eq 11, 3) := by decide +kernel
theorem dX11_cluster_56 : decode cX11_cluster 56 = .ok (.new 119, 3) := by decide +kernel
theorem dX11_cluster_59 : decode cX11_cluster 59 = .ok (.dup, 1) := by decide +kernel
theorem dX11_cluster_60 : decode cX11_cluster 60 = .ok (.invokespecial 121, 3) := by decide +kernel
theorem dX11_cluster_63 : decode cX11_cluster 63 = .ok (.athrow, 1) := by decide +kernel
theorem dX11_cluster_64 : decode cX11_cluster 64 = .ok (.aload_n 0, 1) := by decide +kernel
theorem dX11_cluster_65 : decode cX11_cluster 65 = .ok (.getfield 77, 3) := by decide +kernel
theorem dX11_cluster_68 : decode cX11_cluster 68 = .ok (.getfield 122, 3) := by decide +kernel
theorem dX11_cluster_71 : decode cX11_cluster 71 = .ok (.bipush 12, 2) := by decide +kernel
theorem dX11_cluster_73 : decode cX11_cluster 73 = .ok (.if_icmp .lt 11, 3) := by decide +kernel
theorem dX11_cluster_76 : decode cX11_cluster 76 = .ok (.new 125, 3) := by decide +kernel
theorem dX11_cluster_79 : decode cX11_cluster 79 = .ok (.dup, 1) := by decide +kernel
theorem dX11_cluster_80 : decode cX11_cluster 80 = .ok (.invokespecial 127, 3) := by decide +kernel
theorem dX11_cluster_83 : decode cX11_cluster 83 = .ok (.athrow, 1) := by decide +kernel
theorem dX11_cluster_84 : decode cX11_cluster 84 = .ok (.aload_n 0, 1) := by decide +kernel
theorem dX11_cluster_85 : decode cX11_cluster 85 = .ok (.getfield 77, 3) := by decide +kernel
theorem dX11_cluster_88 : decode cX11_cluster 88 = .ok (.aload_n 0, 1) := by decide +kernel
theorem dX11_cluster_89 : decode cX11_cluster 89 = .ok (.getfield 81, 3) := by decide +kernel
theorem dX11_cluster_92 : decode cX11_cluster 92 = .ok (.invokevirtual 109, 3) := by decide +kernel
theorem dX11_cluster_95 : decode cX11_cluster 95 = .ok (.aload_n 0, 1) := by decide +kernel
theorem dX11_cluster_96 : decode cX11_cluster 96 = .ok (.getfield 77, 3) := by decide +kernel
theorem dX11_cluster_99 : decode cX11_cluster 99 = .ok (.dup, 1) := by decide +kernel
theorem dX11_cluster_100 : decode cX11_cluster 100 = .ok (.getfield 122, 3) := by decide +kernel
theorem dX11_cluster_103 : decode cX11_cluster 103 = .ok (.iconst 1, 1) := by decide +kernel
theorem dX11_cluster_104 : decode cX11_cluster 104 = .ok (.iadd, 1) := by decide +kernel
theorem dX11_cluster_105 : decode cX11_cluster 105 = .ok (.putfield 122, 3) := by decide +kernel
theorem dX11_cluster_108 : decode cX11_cluster 108 = .ok (.aload_n 0, 1) := by decide +kernel
theorem dX11_cluster_109 : decode cX11_cluster 109 = .ok (.getfield 90, 3) := by decide +kernel
theorem dX11_cluster_112 : decode cX11_cluster 112 = .ok (.invokevirtual 128, 3) := by decide +kernel
theorem dX11_cluster_115 : decode cX11_cluster 115 = .ok (.aload_n 0, 1) := by decide +kernel
theorem dX11_cluster_116 : decode cX11_cluster 116 = .ok (.getfield 77, 3) := by decide +kernel
theorem dX11_cluster_119 : decode cX11_cluster 119 = .ok (.getfield 122, 3) := by decide +kernel
theorem dX11_cluster_122 : decode cX11_cluster 122 = .ok (.ireturn, 1) := by decide +kernel
theorem dX11_law_0 : decode cX11_law 0 = .ok (.aload_n 0, 1) := by decide +kernel
theorem dX11_law_1 : decode cX11_law 1 = .ok (.getfield 41, 3) := by decide +kernel
theorem dX11_law_4 : decode cX11_law 4 = .ok (.aload_n 0, 1) := by decide +kernel
theorem dX11_law_5 : decode cX11_law 5 = .ok (.getfield 9, 3) := by decide +kernel
theorem dX11_law_8 : decode cX11_law 8 = .ok (.aload_n 0, 1) := by decide +kernel
theorem dX11_law_9 : decode cX11_law 9 = .ok (.invokevirtual 101, 3) := by decide +kernel
theorem dX11_law_12 : decode cX11_law 12 = .ok (.invokevirtual 105, 3) := by decide +kernel
theorem dX11_law_15 : decode cX11_law 15 = .ok (.aload_n 0, 1) := by decide +kernel
theorem dX11_law_16 : decode cX11_law 16 = .ok (.getfield 57, 3) := by decide +kernel
theorem dX11_law_19 : decode cX11_law 19 = .ok (.invokevirtual 131, 3) := by decide +kernel
theorem dX11_law_22 : decode cX11_law 22 = .ok (.aload_n 0, 1) := by decide +kernel
theorem dX11_law_23 : decode cX11_law 23 = .ok (.aload_n 0, 1) := by decide +kernel
theorem dX11_law_24 : decode cX11_law 24 = .ok (.getfield 41, 3) := by decide +kernel
theorem dX11_law_27 : decode cX11_law 27 = .ok (.getfield 116, 3) := by decide +kernel
theorem dX11_law_30 : decode cX11_law 30 = .ok (.putfield 13, 3) := by decide +kernel
theorem dX11_law_33 : decode cX11_law 33 = .ok (.aload_n 0, 1) := by decide +kernel
theorem dX11_law_34 : decode cX11_law 34 = .ok (.getfield 13, 3) := by decide +kernel
theorem dX11_law_37 : decode cX11_law 37 = .ok (.iconst (-1), 1) := by decide +kernel
theorem dX11_law_38 : decode cX11_law 38 = .ok (.if_icmp .eq 11, 3) := by decide +kernel
theorem dX11_law_41 : decode cX11_law 41 = .ok (.new 119, 3) := by decide +kernel
theorem dX11_law_44 : decode cX11_law 44 = .ok (.dup, 1) := by decide +kernel
theorem dX11_law_45 : decode cX11_law 45 = .ok (.invokespecial 121, 3) := by decide +kernel
theorem dX11_law_48 : decode cX11_law 48 = .ok (.athrow, 1) := by decide +kernel
theorem dX11_law_49 : decode cX11_law 49 = .ok (.aload_n 0, 1) := by decide +kernel
theorem dX11_law_50 : decode cX11_law 50 = .ok (.getfield 77, 3) := by decide +kernel
theorem dX11_law_53 : decode cX11_law 53 = .ok (.aload_n 0, 1) := by decide +kernel
theorem dX11_law_54 : decode cX11_law 54 = .ok (.getfield 57, 3) := by decide +kernel
theorem dX11_law_57 : decode cX11_law 57 = .ok (.invokevirtual 134, 3) := by decide +kernel
theorem dX11_law_60 : decode cX11_law 60 = .ok (.putfield 138, 3) := by decide +kernel
theorem dX11_law_63 : decode cX11_law 63 = .ok (.aload_n 0, 1) := by decide +kernel
theorem dX11_law_64 : decode cX11_law 64 = .ok (.getfield 90, 3) := by decide +kernel
theorem dX11_law_67 : decode cX11_law 67 = .ok (.invokevirtual 128, 3) := by decide +kernel
theorem dX11_law_70 : decode cX11_law 70 = .ok (.aload_n 0, 1) := by decide +kernel
theorem dX11_law_71 : decode cX11_law 71 = .ok (.getfield 77, 3) := by decide +kernel
theorem dX11_law_74 : decode cX11_law 74 = .ok (.getfield 138, 3) := by decide +kernel
theorem dX11_law_77 : decode cX11_law 77 = .ok (.getfield 142, 3) := by decide +kernel
theorem dX11_law_80 : decode cX11_law 80 = .ok (.ireturn, 1) := by decide +kernel
theorem dX11_fault_0 : decode cX11_fault 0 = .ok (.aload_n 0, 1) := by decide +kernel
theorem dX11_fault_1 : decode cX11_fault 1 = .ok (.getfield 13, 3) := by decide +kernel
theorem dX11_fault_4 : decode cX11_fault 4 = .ok (.ireturn, 1) := by decide +kernel
theorem dX11_isNode_0 : decode cX11_isNode 0 = .ok (.iload_n 1, 1) := by decide +kernel
theorem dX11_isNode_1 : decode cX11_isNode 1 = .ok (.ifCond .lt 24, 3) := by decide +kernel
theorem dX11_isNode_4 : decode cX11_isNode 4 = .ok (.iload_n 1, 1) := by decide +kernel
theorem dX11_isNode_5 : decode cX11_isNode 5 = .ok (.aload_n 0, 1) := by decide +kernel
theorem dX11_isNode_6 : decode cX11_isNode 6 = .ok (.getfield 77, 3) := by decide +kernel
theorem dX11_isNode_9 : decode cX11_isNode 9 = .ok (.getfield 145, 3) := by decide +kernel
theorem dX11_isNode_12 : decode cX11_isNode 12 = .ok (.if_icmp .ge 13, 3) := by decide +kernel
theorem dX11_isNode_15 : decode cX11_isNode 15 = .ok (.iload_n 1, 1) := by decide +kernel
theorem dX11_isNode_16 : decode cX11_isNode 16 = .ok (.bipush 8, 2) := by decide +kernel
theorem dX11_isNode_18 : decode cX11_isNode 18 = .ok (.if_icmp .ge 7, 3) := by decide +kernel
theorem dX11_isNode_21 : decode cX11_isNode 21 = .ok (.iconst 1, 1) := by decide +kernel
theorem dX11_isNode_22 : decode cX11_isNode 22 = .ok (.goto 4, 3) := by decide +kernel
theorem dX11_isNode_25 : decode cX11_isNode 25 = .ok (.iconst 0, 1) := by decide +kernel
theorem dX11_isNode_26 : decode cX11_isNode 26 = .ok (.ireturn, 1) := by decide +kernel
theorem dX11_node_0 : decode cX11_node 0 = .ok (.aload_n 0, 1) := by decide +kernel
theorem dX11_node_1 : decode cX11_node 1 = .ok (.iload_n 1, 1) := by decide +kernel
theorem dX11_node_2 : decode cX11_node 2 = .ok (.invokevirtual 148, 3) := by decide +kernel
theorem dX11_node_5 : decode cX11_node 5 = .ok (.ifCond .ne 11, 3) := by decide +kernel
theorem dX11_node_8 : decode cX11_node 8 = .ok (.new 152, 3) := by decide +kernel
theorem dX11_node_11 : decode cX11_node 11 = .ok (.dup, 1) := by decide +kernel
theorem dX11_node_12 : decode cX11_node 12 = .ok (.invokespecial 154, 3) := by decide +kernel
theorem dX11_node_15 : decode cX11_node 15 = .ok (.athrow, 1) := by decide +kernel
theorem dX11_node_16 : decode cX11_node 16 = .ok (.iload_n 2, 1) := by decide +kernel
theorem dX11_node_17 : decode cX11_node 17 = .ok (.ifCond .lt 9, 3) := by decide +kernel
theorem dX11_node_20 : decode cX11_node 20 = .ok (.iload_n 2, 1) := by decide +kernel
theorem dX11_node_21 : decode cX11_node 21 = .ok (.bipush 17, 2) := by decide +kernel
theorem dX11_node_23 : decode cX11_node 23 = .ok (.if_icmp .le 11, 3) := by decide +kernel
theorem dX11_node_26 : decode cX11_node 26 = .ok (.new 155, 3) := by decide +kernel
theorem dX11_node_29 : decode cX11_node 29 = .ok (.dup, 1) := by decide +kernel
theorem dX11_node_30 : decode cX11_node 30 = .ok (.invokespecial 157, 3) := by decide +kernel
theorem dX11_node_33 : decode cX11_node 33 = .ok (.athrow, 1) := by decide +kernel
theorem dX11_node_34 : decode cX11_node 34 = .ok (.iload_n 2, 1) := by decide +kernel
theorem dX11_node_35 : decode cX11_node 35 = .ok (.bipush 10, 2) := by decide +kernel
theorem dX11_node_37 : decode cX11_node 37 = .ok (.if_icmp .gt 17, 3) := by decide +kernel
theorem dX11_node_40 : decode cX11_node 40 = .ok (.aload_n 0, 1) := by decide +kernel
theorem dX11_node_41 : decode cX11_node 41 = .ok (.getfield 77, 3) := by decide +kernel
theorem dX11_node_44 : decode cX11_node 44 = .ok (.getfield 158, 3) := by decide +kernel
theorem dX11_node_47 : decode cX11_node 47 = .ok (.iload_n 1, 1) := by decide +kernel
theorem dX11_node_48 : decode cX11_node 48 = .ok (.aaload, 1) := by decide +kernel
theorem dX11_node_49 : decode cX11_node 49 = .ok (.iload_n 2, 1) := by decide +kernel
theorem dX11_node_50 : decode cX11_node 50 = .ok (.invokevirtual 162, 3) := by decide +kernel
theorem dX11_node_53 : decode cX11_node 53 = .ok (.ireturn, 1) := by decide +kernel
theorem dX11_node_54 : decode cX11_node 54 = .ok (.aload_n 0, 1) := by decide +kernel
theorem dX11_node_55 : decode cX11_node 55 = .ok (.getfield 20, 3) := by decide +kernel
theorem dX11_node_58 : decode cX11_node 58 = .ok (.getfield 168, 3) := by decide +kernel
theorem dX11_node_61 : decode cX11_node 61 = .ok (.aload_n 0, 1) := by decide +kernel
theorem dX11_node_62 : decode cX11_node 62 = .ok (.getfield 77, 3) := by decide +kernel
theorem dX11_node_65 : decode cX11_node 65 = .ok (.invokevirtual 172, 3) := by decide +kernel
theorem dX11_node_68 : decode cX11_node 68 = .ok (.iload_n 2, 1) := by decide +kernel
theorem dX11_node_69 : decode cX11_node 69 = .ok (.tableswitch 168 11 16 #[39, 52, 65, 84, 99, 122], 39) := by decide +kernel
theorem dX11_node_108 : decode cX11_node 108 = .ok (.aload_n 0, 1) := by decide +kernel
theorem dX11_node_109 : decode cX11_node 109 = .ok (.getfield 20, 3) := by decide +kernel
theorem dX11_node_112 : decode cX11_node 112 = .ok (.getfield 168, 3) := by decide +kernel
theorem dX11_node_115 : decode cX11_node 115 = .ok (.getfield 177, 3) := by decide +kernel
theorem dX11_node_118 : decode cX11_node 118 = .ok (.iload_n 1, 1) := by decide +kernel
theorem dX11_node_119 : decode cX11_node 119 = .ok (.iaload, 1) := by decide +kernel
theorem dX11_node_120 : decode cX11_node 120 = .ok (.ireturn, 1) := by decide +kernel
theorem dX11_node_121 : decode cX11_node 121 = .ok (.aload_n 0, 1) := by decide +kernel
theorem dX11_node_122 : decode cX11_node 122 = .ok (.getfield 20, 3) := by decide +kernel
theorem dX11_node_125 : decode cX11_node 125 = .ok (.getfield 168, 3) := by decide +kernel
theorem dX11_node_128 : decode cX11_node 128 = .ok (.getfield 180, 3) := by decide +kernel
theorem dX11_node_131 : decode cX11_node 131 = .ok (.iload_n 1, 1) := by decide +kernel
theorem dX11_node_132 : decode cX11_node 132 = .ok (.iaload, 1) := by decide +kernel
theorem dX11_node_133 : decode cX11_node 133 = .ok (.ireturn, 1) := by decide +kernel
theorem dX11_node_134 : decode cX11_node 134 = .ok (.aload_n 0, 1) := by decide +kernel
theorem dX11_node_135 : decode cX11_node 135 = .ok (.getfield 77, 3) := by decide +kernel
theorem dX11_node_138 : decode cX11_node 138 = .ok (.getfield 138, 3) := by decide +kernel
theorem dX11_node_141 : decode cX11_node 141 = .ok (.aload_n 0, 1) := by decide +kernel
theorem dX11_node_142 : decode cX11_node 142 = .ok (.getfield 77, 3) := by decide +kernel
theorem dX11_node_145 : decode cX11_node 145 = .ok (.iload_n 1, 1) := by decide +kernel
theorem dX11_node_146 : decode cX11_node 146 = .ok (.sipush 1012, 3) := by decide +kernel
theorem dX11_node_149 : decode cX11_node 149 = .ok (.invokevirtual 183, 3) := by decide +kernel
theorem dX11_node_152 : decode cX11_node 152 = .ok (.ireturn, 1) := by decide +kernel
theorem dX11_node_153 : decode cX11_node 153 = .ok (.aload_n 0, 1) := by decide +kernel
theorem dX11_node_154 : decode cX11_node 154 = .ok (.getfield 20, 3) := by decide +kernel
theorem dX11_node_157 : decode cX11_node 157 = .ok (.getfield 168, 3) := by decide +kernel
theorem dX11_node_160 : decode cX11_node 160 = .ok (.getfield 187, 3) := by decide +kernel
theorem dX11_node_163 : decode cX11_node 163 = .ok (.iload_n 1, 1) := by decide +kernel
theorem dX11_node_164 : decode cX11_node 164 = .ok (.ishr, 1) := by decide +kernel
theorem dX11_node_165 : decode cX11_node 165 = .ok (.iconst 1, 1) := by decide +kernel
theorem dX11_node_166 : decode cX11_node 166 = .ok (.iand, 1) := by decide +kernel
theorem dX11_node_167 : decode cX11_node 167 = .ok (.ireturn, 1) := by decide +kernel
theorem dX11_node_168 : decode cX11_node 168 = .ok (.aload_n 0, 1) := by decide +kernel
theorem dX11_node_169 : decode cX11_node 169 = .ok (.getfield 27, 3) := by decide +kernel
theorem dX11_node_172 : decode cX11_node 172 = .ok (.aload_n 0, 1) := by decide +kernel
theorem dX11_node_173 : decode cX11_node 173 = .ok (.getfield 20, 3) := by decide +kernel
theorem dX11_node_176 : decode cX11_node 176 = .ok (.getfield 168, 3) := by decide +kernel
theorem dX11_node_179 : decode cX11_node 179 = .ok (.invokevirtual 190, 3) := by decide +kernel
theorem dX11_node_182 : decode cX11_node 182 = .ok (.aload_n 0, 1) := by decide +kernel
theorem dX11_node_183 : decode cX11_node 183 = .ok (.getfield 27, 3) := by decide +kernel
theorem dX11_node_186 : decode cX11_node 186 = .ok (.iload_n 1, 1) := by decide +kernel
theorem dX11_node_187 : decode cX11_node 187 = .ok (.invokevirtual 193, 3) := by decide +kernel
theorem dX11_node_190 : decode cX11_node 190 = .ok (.ireturn, 1) := by decide +kernel
theorem dX11_node_191 : decode cX11_node 191 = .ok (.aload_n 0, 1) := by decide +kernel
theorem dX11_node_192 : decode cX11_node 192 = .ok (.getfield 77, 3) := by decide +kernel
theorem dX11_node_195 : decode cX11_node 195 = .ok (.getfield 158, 3) := by decide +kernel
theorem dX11_node_198 : decode cX11_node 198 = .ok (.iload_n 1, 1) := by decide +kernel
theorem dX11_node_199 : decode cX11_node 199 = .ok (.aaload, 1) := by decide +kernel
theorem dX11_node_200 : decode cX11_node 200 = .ok (.getfield 196, 3) := by decide +kernel
theorem dX11_node_203 : decode cX11_node 203 = .ok (.iconst 2, 1) := by decide +kernel
theorem dX11_node_204 : decode cX11_node 204 = .ok (.if_icmp .ne 31, 3) := by decide +kernel
theorem dX11_node_207 : decode cX11_node 207 = .ok (.aload_n 0, 1) := by decide +kernel
theorem dX11_node_208 : decode cX11_node 208 = .ok (.getfield 20, 3) := by decide +kernel
theorem dX11_node_211 : decode cX11_node 211 = .ok (.getfield 168, 3) := by decide +kernel
theorem dX11_node_214 : decode cX11_node 214 = .ok (.aload_n 0, 1) := by decide +kernel
theorem dX11_node_215 : decode cX11_node 215 = .ok (.getfield 77, 3) := by decide +kernel
theorem dX11_node_218 : decode cX11_node 218 = .ok (.iload_n 1, 1) := by decide +kernel
theorem dX11_node_219 : decode cX11_node 219 = .ok (.aload_n 0, 1) := by decide +kernel
theorem dX11_node_220 : decode cX11_node 220 = .ok (.getfield 20, 3) := by decide +kernel
theorem dX11_node_223 : decode cX11_node 223 = .ok (.getfield 168, 3) := by decide +kernel
theorem dX11_node_226 : decode cX11_node 226 = .ok (.getfield 187, 3) := by decide +kernel
theorem dX11_node_229 : decode cX11_node 229 = .ok (.invokevirtual 199, 3) := by decide +kernel
theorem dX11_node_232 : decode cX11_node 232 = .ok (.goto 4, 3) := by decide +kernel
theorem dX11_node_235 : decode cX11_node 235 = .ok (.iconst 0, 1) := by decide +kernel
theorem dX11_node_236 : decode cX11_node 236 = .ok (.ireturn, 1) := by decide +kernel
theorem dX11_node_237 : decode cX11_node 237 = .ok (.aload_n 0, 1) := by decide +kernel
theorem dX11_node_238 : decode cX11_node 238 = .ok (.getfield 77, 3) := by decide +kernel
theorem dX11_node_241 : decode cX11_node 241 = .ok (.iload_n 1, 1) := by decide +kernel
theorem dX11_node_242 : decode cX11_node 242 = .ok (.invokevirtual 202, 3) := by decide +kernel
theorem dX11_node_245 : decode cX11_node 245 = .ok (.ireturn, 1) := by decide +kernel
theorem dX11_shift_0 : decode cX11_shift 0 = .ok (.aload_n 0, 1) := by decide +kernel
theorem dX11_shift_1 : decode cX11_shift 1 = .ok (.iload_n 1, 1) := by decide +kernel
theorem dX11_shift_2 : decode cX11_shift 2 = .ok (.invokevirtual 148, 3) := by decide +kernel
theorem dX11_shift_5 : decode cX11_shift 5 = .ok (.ifCond .eq 11, 3) := by decide +kernel
theorem dX11_shift_8 : decode cX11_shift 8 = .ok (.aload_n 0, 1) := by decide +kernel
theorem dX11_shift_9 : decode cX11_shift 9 = .ok (.iload_n 2, 1) := by decide +kernel
theorem dX11_shift_10 : decode cX11_shift 10 = .ok (.invokevirtual 148, 3) := by decide +kernel
theorem dX11_shift_13 : decode cX11_shift 13 = .ok (.ifCond .ne 11, 3) := by decide +kernel
theorem dX11_shift_16 : decode cX11_shift 16 = .ok (.new 152, 3) := by decide +kernel
theorem dX11_shift_19 : decode cX11_shift 19 = .ok (.dup, 1) := by decide +kernel
theorem dX11_shift_20 : decode cX11_shift 20 = .ok (.invokespecial 154, 3) := by decide +kernel
theorem dX11_shift_23 : decode cX11_shift 23 = .ok (.athrow, 1) := by decide +kernel
theorem dX11_shift_24 : decode cX11_shift 24 = .ok (.iload_n 1, 1) := by decide +kernel
theorem dX11_shift_25 : decode cX11_shift 25 = .ok (.iload_n 2, 1) := by decide +kernel
theorem dX11_shift_26 : decode cX11_shift 26 = .ok (.if_icmp .ne 11, 3) := by decide +kernel
theorem dX11_shift_29 : decode cX11_shift 29 = .ok (.new 119, 3) := by decide +kernel
theorem dX11_shift_32 : decode cX11_shift 32 = .ok (.dup, 1) := by decide +kernel
theorem dX11_shift_33 : decode cX11_shift 33 = .ok (.invokespecial 121, 3) := by decide +kernel
theorem dX11_shift_36 : decode cX11_shift 36 = .ok (.athrow, 1) := by decide +kernel
theorem dX11_shift_37 : decode cX11_shift 37 = .ok (.aload_n 0, 1) := by decide +kernel
theorem dX11_shift_38 : decode cX11_shift 38 = .ok (.getfield 20, 3) := by decide +kernel
theorem dX11_shift_41 : decode cX11_shift 41 = .ok (.getfield 168, 3) := by decide +kernel
theorem dX11_shift_44 : decode cX11_shift 44 = .ok (.aload_n 0, 1) := by decide +kernel
theorem dX11_shift_45 : decode cX11_shift 45 = .ok (.getfield 77, 3) := by decide +kernel
theorem dX11_shift_48 : decode cX11_shift 48 = .ok (.invokevirtual 172, 3) := by decide +kernel
theorem dX11_shift_51 : decode cX11_shift 51 = .ok (.aload_n 0, 1) := by decide +kernel
theorem dX11_shift_52 : decode cX11_shift 52 = .ok (.getfield 20, 3) := by decide +kernel
theorem dX11_shift_55 : decode cX11_shift 55 = .ok (.getfield 168, 3) := by decide +kernel
theorem dX11_shift_58 : decode cX11_shift 58 = .ok (.getfield 205, 3) := by decide +kernel
theorem dX11_shift_61 : decode cX11_shift 61 = .ok (.iload_n 1, 1) := by decide +kernel
theorem dX11_shift_62 : decode cX11_shift 62 = .ok (.aaload, 1) := by decide +kernel
theorem dX11_shift_63 : decode cX11_shift 63 = .ok (.iload_n 2, 1) := by decide +kernel
theorem dX11_shift_64 : decode cX11_shift 64 = .ok (.iaload, 1) := by decide +kernel
theorem dX11_shift_65 : decode cX11_shift 65 = .ok (.ireturn, 1) := by decide +kernel
theorem dX11_hears_0 : decode cX11_hears 0 = .ok (.aload_n 0, 1) := by decide +kernel
theorem dX11_hears_1 : decode cX11_hears 1 = .ok (.iload_n 1, 1) := by decide +kernel
theorem dX11_hears_2 : decode cX11_hears 2 = .ok (.invokevirtual 148, 3) := by decide +kernel
theorem dX11_hears_5 : decode cX11_hears 5 = .ok (.ifCond .eq 11, 3) := by decide +kernel
theorem dX11_hears_8 : decode cX11_hears 8 = .ok (.aload_n 0, 1) := by decide +kernel
theorem dX11_hears_9 : decode cX11_hears 9 = .ok (.iload_n 2, 1) := by decide +kernel
theorem dX11_hears_10 : decode cX11_hears 10 = .ok (.invokevirtual 148, 3) := by decide +kernel
theorem dX11_hears_13 : decode cX11_hears 13 = .ok (.ifCond .ne 11, 3) := by decide +kernel
theorem dX11_hears_16 : decode cX11_hears 16 = .ok (.new 152, 3) := by decide +kernel
theorem dX11_hears_19 : decode cX11_hears 19 = .ok (.dup, 1) := by decide +kernel
theorem dX11_hears_20 : decode cX11_hears 20 = .ok (.invokespecial 154, 3) := by decide +kernel
theorem dX11_hears_23 : decode cX11_hears 23 = .ok (.athrow, 1) := by decide +kernel
theorem dX11_hears_24 : decode cX11_hears 24 = .ok (.iload_n 1, 1) := by decide +kernel
theorem dX11_hears_25 : decode cX11_hears 25 = .ok (.iload_n 2, 1) := by decide +kernel
theorem dX11_hears_26 : decode cX11_hears 26 = .ok (.if_icmp .ne 11, 3) := by decide +kernel
theorem dX11_hears_29 : decode cX11_hears 29 = .ok (.new 119, 3) := by decide +kernel
theorem dX11_hears_32 : decode cX11_hears 32 = .ok (.dup, 1) := by decide +kernel
theorem dX11_hears_33 : decode cX11_hears 33 = .ok (.invokespecial 121, 3) := by decide +kernel
theorem dX11_hears_36 : decode cX11_hears 36 = .ok (.athrow, 1) := by decide +kernel
theorem dX11_hears_37 : decode cX11_hears 37 = .ok (.aload_n 0, 1) := by decide +kernel
theorem dX11_hears_38 : decode cX11_hears 38 = .ok (.getfield 20, 3) := by decide +kernel
theorem dX11_hears_41 : decode cX11_hears 41 = .ok (.getfield 168, 3) := by decide +kernel
theorem dX11_hears_44 : decode cX11_hears 44 = .ok (.aload_n 0, 1) := by decide +kernel
theorem dX11_hears_45 : decode cX11_hears 45 = .ok (.getfield 77, 3) := by decide +kernel
theorem dX11_hears_48 : decode cX11_hears 48 = .ok (.invokevirtual 172, 3) := by decide +kernel
theorem dX11_hears_51 : decode cX11_hears 51 = .ok (.aload_n 0, 1) := by decide +kernel
theorem dX11_hears_52 : decode cX11_hears 52 = .ok (.getfield 20, 3) := by decide +kernel
theorem dX11_hears_55 : decode cX11_hears 55 = .ok (.getfield 168, 3) := by decide +kernel
theorem dX11_hears_58 : decode cX11_hears 58 = .ok (.getfield 209, 3) := by decide +kernel
theorem dX11_hears_61 : decode cX11_hears 61 = .ok (.iload_n 1, 1) := by decide +kernel
theorem dX11_hears_62 : decode cX11_hears 62 = .ok (.iaload, 1) := by decide +kernel
theorem dX11_hears_63 : decode cX11_hears 63 = .ok (.iload_n 2, 1) := by decide +kernel
theorem dX11_hears_64 : decode cX11_hears 64 = .ok (.invokestatic 212, 3) := by decide +kernel
theorem dX11_hears_67 : decode cX11_hears 67 = .ok (.ireturn, 1) := by decide +kernel
theorem dX11_rounds_0 : decode cX11_rounds 0 = .ok (.iload_n 1, 1) := by decide +kernel
theorem dX11_rounds_1 : decode cX11_rounds 1 = .ok (.iconst 1, 1) := by decide +kernel
theorem dX11_rounds_2 : decode cX11_rounds 2 = .ok (.if_icmp .lt 9, 3) := by decide +kernel
theorem dX11_rounds_5 : decode cX11_rounds 5 = .ok (.iload_n 1, 1) := by decide +kernel
theorem dX11_rounds_6 : decode cX11_rounds 6 = .ok (.bipush 60, 2) := by decide +kernel
theorem dX11_rounds_8 : decode cX11_rounds 8 = .ok (.if_icmp .le 11, 3) := by decide +kernel
theorem dX11_rounds_11 : decode cX11_rounds 11 = .ok (.new 119, 3) := by decide +kernel
theorem dX11_rounds_14 : decode cX11_rounds 14 = .ok (.dup, 1) := by decide +kernel
theorem dX11_rounds_15 : decode cX11_rounds 15 = .ok (.invokespecial 121, 3) := by decide +kernel
theorem dX11_rounds_18 : decode cX11_rounds 18 = .ok (.athrow, 1) := by decide +kernel
theorem dX11_rounds_19 : decode cX11_rounds 19 = .ok (.aload_n 0, 1) := by decide +kernel
theorem dX11_rounds_20 : decode cX11_rounds 20 = .ok (.getfield 90, 3) := by decide +kernel
theorem dX11_rounds_23 : decode cX11_rounds 23 = .ok (.aload_n 0, 1) := by decide +kernel
theorem dX11_rounds_24 : decode cX11_rounds 24 = .ok (.getfield 77, 3) := by decide +kernel
theorem dX11_rounds_27 : decode cX11_rounds 27 = .ok (.invokevirtual 216, 3) := by decide +kernel
theorem dX11_rounds_30 : decode cX11_rounds 30 = .ok (.iconst 0, 1) := by decide +kernel
theorem dX11_rounds_31 : decode cX11_rounds 31 = .ok (.istore_n 2, 1) := by decide +kernel
theorem dX11_rounds_32 : decode cX11_rounds 32 = .ok (.iconst 0, 1) := by decide +kernel
theorem dX11_rounds_33 : decode cX11_rounds 33 = .ok (.istore_n 3, 1) := by decide +kernel
theorem dX11_rounds_34 : decode cX11_rounds 34 = .ok (.iload_n 3, 1) := by decide +kernel
theorem dX11_rounds_35 : decode cX11_rounds 35 = .ok (.iload_n 1, 1) := by decide +kernel
theorem dX11_rounds_36 : decode cX11_rounds 36 = .ok (.if_icmp .ge 24, 3) := by decide +kernel
theorem dX11_rounds_39 : decode cX11_rounds 39 = .ok (.iload_n 2, 1) := by decide +kernel
theorem dX11_rounds_40 : decode cX11_rounds 40 = .ok (.aload_n 0, 1) := by decide +kernel
theorem dX11_rounds_41 : decode cX11_rounds 41 = .ok (.getfield 20, 3) := by decide +kernel
theorem dX11_rounds_44 : decode cX11_rounds 44 = .ok (.aload_n 0, 1) := by decide +kernel
theorem dX11_rounds_45 : decode cX11_rounds 45 = .ok (.getfield 77, 3) := by decide +kernel
theorem dX11_rounds_48 : decode cX11_rounds 48 = .ok (.iconst 1, 1) := by decide +kernel
theorem dX11_rounds_49 : decode cX11_rounds 49 = .ok (.invokevirtual 219, 3) := by decide +kernel
theorem dX11_rounds_52 : decode cX11_rounds 52 = .ok (.iadd, 1) := by decide +kernel
theorem dX11_rounds_53 : decode cX11_rounds 53 = .ok (.istore_n 2, 1) := by decide +kernel
theorem dX11_rounds_54 : decode cX11_rounds 54 = .ok (.iinc 3 1, 3) := by decide +kernel
theorem dX11_rounds_57 : decode cX11_rounds 57 = .ok (.goto (-23), 3) := by decide +kernel
theorem dX11_rounds_60 : decode cX11_rounds 60 = .ok (.iload_n 2, 1) := by decide +kernel
theorem dX11_rounds_61 : decode cX11_rounds 61 = .ok (.ireturn, 1) := by decide +kernel
theorem dX11_add_0 : decode cX11_add 0 = .ok (.iload_n 1, 1) := by decide +kernel
theorem dX11_add_1 : decode cX11_add 1 = .ok (.bipush (-9), 2) := by decide +kernel
theorem dX11_add_3 : decode cX11_add 3 = .ok (.if_icmp .lt 9, 3) := by decide +kernel
theorem dX11_add_6 : decode cX11_add 6 = .ok (.iload_n 1, 1) := by decide +kernel
theorem dX11_add_7 : decode cX11_add 7 = .ok (.bipush 9, 2) := by decide +kernel
theorem dX11_add_9 : decode cX11_add 9 = .ok (.if_icmp .le 11, 3) := by decide +kernel
theorem dX11_add_12 : decode cX11_add 12 = .ok (.new 119, 3) := by decide +kernel
theorem dX11_add_15 : decode cX11_add 15 = .ok (.dup, 1) := by decide +kernel
theorem dX11_add_16 : decode cX11_add 16 = .ok (.invokespecial 121, 3) := by decide +kernel
theorem dX11_add_19 : decode cX11_add 19 = .ok (.athrow, 1) := by decide +kernel
theorem dX11_add_20 : decode cX11_add 20 = .ok (.aload_n 0, 1) := by decide +kernel
theorem dX11_add_21 : decode cX11_add 21 = .ok (.getfield 77, 3) := by decide +kernel
theorem dX11_add_24 : decode cX11_add 24 = .ok (.getfield 145, 3) := by decide +kernel
theorem dX11_add_27 : decode cX11_add 27 = .ok (.bipush 8, 2) := by decide +kernel
theorem dX11_add_29 : decode cX11_add 29 = .ok (.if_icmp .lt 11, 3) := by decide +kernel
theorem dX11_add_32 : decode cX11_add 32 = .ok (.new 223, 3) := by decide +kernel
theorem dX11_add_35 : decode cX11_add 35 = .ok (.dup, 1) := by decide +kernel
theorem dX11_add_36 : decode cX11_add 36 = .ok (.invokespecial 225, 3) := by decide +kernel
theorem dX11_add_39 : decode cX11_add 39 = .ok (.athrow, 1) := by decide +kernel
theorem dX11_add_40 : decode cX11_add 40 = .ok (.aload_n 0, 1) := by decide +kernel
theorem dX11_add_41 : decode cX11_add 41 = .ok (.getfield 90, 3) := by decide +kernel
theorem dX11_add_44 : decode cX11_add 44 = .ok (.aload_n 0, 1) := by decide +kernel
theorem dX11_add_45 : decode cX11_add 45 = .ok (.getfield 77, 3) := by decide +kernel
theorem dX11_add_48 : decode cX11_add 48 = .ok (.invokevirtual 216, 3) := by decide +kernel
theorem dX11_add_51 : decode cX11_add 51 = .ok (.aload_n 0, 1) := by decide +kernel
theorem dX11_add_52 : decode cX11_add 52 = .ok (.getfield 77, 3) := by decide +kernel
theorem dX11_add_55 : decode cX11_add 55 = .ok (.iload_n 1, 1) := by decide +kernel
theorem dX11_add_56 : decode cX11_add 56 = .ok (.invokevirtual 226, 3) := by decide +kernel
theorem dX11_add_59 : decode cX11_add 59 = .ok (.ireturn, 1) := by decide +kernel
theorem dX11_power_0 : decode cX11_power 0 = .ok (.aload_n 0, 1) := by decide +kernel
theorem dX11_power_1 : decode cX11_power 1 = .ok (.iload_n 1, 1) := by decide +kernel
theorem dX11_power_2 : decode cX11_power 2 = .ok (.invokevirtual 148, 3) := by decide +kernel
theorem dX11_power_5 : decode cX11_power 5 = .ok (.ifCond .ne 11, 3) := by decide +kernel
theorem dX11_power_8 : decode cX11_power 8 = .ok (.new 152, 3) := by decide +kernel
theorem dX11_power_11 : decode cX11_power 11 = .ok (.dup, 1) := by decide +kernel
theorem dX11_power_12 : decode cX11_power 12 = .ok (.invokespecial 154, 3) := by decide +kernel
theorem dX11_power_15 : decode cX11_power 15 = .ok (.athrow, 1) := by decide +kernel
theorem dX11_power_16 : decode cX11_power 16 = .ok (.aload_n 0, 1) := by decide +kernel
theorem dX11_power_17 : decode cX11_power 17 = .ok (.getfield 77, 3) := by decide +kernel
theorem dX11_power_20 : decode cX11_power 20 = .ok (.getfield 158, 3) := by decide +kernel
theorem dX11_power_23 : decode cX11_power 23 = .ok (.iload_n 1, 1) := by decide +kernel
theorem dX11_power_24 : decode cX11_power 24 = .ok (.aaload, 1) := by decide +kernel
theorem dX11_power_25 : decode cX11_power 25 = .ok (.astore_n 3, 1) := by decide +kernel
theorem dX11_power_26 : decode cX11_power 26 = .ok (.aload_n 3, 1) := by decide +kernel
theorem dX11_power_27 : decode cX11_power 27 = .ok (.getfield 196, 3) := by decide +kernel
theorem dX11_power_30 : decode cX11_power 30 = .ok (.istore 4, 2) := by decide +kernel
theorem dX11_power_32 : decode cX11_power 32 = .ok (.iload 4, 2) := by decide +kernel
theorem dX11_power_34 : decode cX11_power 34 = .ok (.iconst 1, 1) := by decide +kernel
theorem dX11_power_35 : decode cX11_power 35 = .ok (.if_icmp .eq 9, 3) := by decide +kernel
theorem dX11_power_38 : decode cX11_power 38 = .ok (.iload 4, 2) := by decide +kernel
theorem dX11_power_40 : decode cX11_power 40 = .ok (.iconst 2, 1) := by decide +kernel
theorem dX11_power_41 : decode cX11_power 41 = .ok (.if_icmp .ne 7, 3) := by decide +kernel
theorem dX11_power_44 : decode cX11_power 44 = .ok (.iconst 1, 1) := by decide +kernel
theorem dX11_power_45 : decode cX11_power 45 = .ok (.goto 4, 3) := by decide +kernel
theorem dX11_power_48 : decode cX11_power 48 = .ok (.iconst 0, 1) := by decide +kernel
theorem dX11_power_49 : decode cX11_power 49 = .ok (.istore 5, 2) := by decide +kernel
theorem dX11_power_51 : decode cX11_power 51 = .ok (.iload_n 2, 1) := by decide +kernel
theorem dX11_power_52 : decode cX11_power 52 = .ok (.ifCond .eq 11, 3) := by decide +kernel
theorem dX11_power_55 : decode cX11_power 55 = .ok (.iload 5, 2) := by decide +kernel
theorem dX11_power_57 : decode cX11_power 57 = .ok (.ifCond .eq 19, 3) := by decide +kernel
theorem dX11_power_60 : decode cX11_power 60 = .ok (.goto 8, 3) := by decide +kernel
theorem dX11_power_63 : decode cX11_power 63 = .ok (.iload 4, 2) := by decide +kernel
theorem dX11_power_65 : decode cX11_power 65 = .ok (.ifCond .ne 11, 3) := by decide +kernel
theorem dX11_power_68 : decode cX11_power 68 = .ok (.new 223, 3) := by decide +kernel
theorem dX11_power_71 : decode cX11_power 71 = .ok (.dup, 1) := by decide +kernel
theorem dX11_power_72 : decode cX11_power 72 = .ok (.invokespecial 225, 3) := by decide +kernel
theorem dX11_power_75 : decode cX11_power 75 = .ok (.athrow, 1) := by decide +kernel
theorem dX11_power_76 : decode cX11_power 76 = .ok (.aload_n 0, 1) := by decide +kernel
theorem dX11_power_77 : decode cX11_power 77 = .ok (.getfield 90, 3) := by decide +kernel
theorem dX11_power_80 : decode cX11_power 80 = .ok (.aload_n 0, 1) := by decide +kernel
theorem dX11_power_81 : decode cX11_power 81 = .ok (.getfield 77, 3) := by decide +kernel
theorem dX11_power_84 : decode cX11_power 84 = .ok (.invokevirtual 216, 3) := by decide +kernel
theorem dX11_power_87 : decode cX11_power 87 = .ok (.iload_n 2, 1) := by decide +kernel
theorem dX11_power_88 : decode cX11_power 88 = .ok (.ifCond .eq 44, 3) := by decide +kernel
theorem dX11_power_91 : decode cX11_power 91 = .ok (.aload_n 3, 1) := by decide +kernel
theorem dX11_power_92 : decode cX11_power 92 = .ok (.bipush 99, 2) := by decide +kernel
theorem dX11_power_94 : decode cX11_power 94 = .ok (.iconst 2, 1) := by decide +kernel
theorem dX11_power_95 : decode cX11_power 95 = .ok (.iload_n 1, 1) := by decide +kernel
theorem dX11_power_96 : decode cX11_power 96 = .ok (.iadd, 1) := by decide +kernel
theorem dX11_power_97 : decode cX11_power 97 = .ok (.aload_n 0, 1) := by decide +kernel
theorem dX11_power_98 : decode cX11_power 98 = .ok (.getfield 77, 3) := by decide +kernel
theorem dX11_power_101 : decode cX11_power 101 = .ok (.getfield 138, 3) := by decide +kernel
theorem dX11_power_104 : decode cX11_power 104 = .ok (.aload_n 0, 1) := by decide +kernel
theorem dX11_power_105 : decode cX11_power 105 = .ok (.getfield 77, 3) := by decide +kernel
theorem dX11_power_108 : decode cX11_power 108 = .ok (.iload_n 1, 1) := by decide +kernel
theorem dX11_power_109 : decode cX11_power 109 = .ok (.sipush 1012, 3) := by decide +kernel
theorem dX11_power_112 : decode cX11_power 112 = .ok (.invokevirtual 183, 3) := by decide +kernel
theorem dX11_power_115 : decode cX11_power 115 = .ok (.iadd, 1) := by decide +kernel
theorem dX11_power_116 : decode cX11_power 116 = .ok (.invokestatic 229, 3) := by decide +kernel
theorem dX11_power_119 : decode cX11_power 119 = .ok (.putfield 235, 3) := by decide +kernel
theorem dX11_power_122 : decode cX11_power 122 = .ok (.aload_n 3, 1) := by decide +kernel
theorem dX11_power_123 : decode cX11_power 123 = .ok (.iconst 0, 1) := by decide +kernel
theorem dX11_power_124 : decode cX11_power 124 = .ok (.putfield 238, 3) := by decide +kernel
theorem dX11_power_127 : decode cX11_power 127 = .ok (.aload_n 3, 1) := by decide +kernel
theorem dX11_power_128 : decode cX11_power 128 = .ok (.iconst 0, 1) := by decide +kernel
theorem dX11_power_129 : decode cX11_power 129 = .ok (.putfield 241, 3) := by decide +kernel
theorem dX11_power_132 : decode cX11_power 132 = .ok (.aload_n 3, 1) := by decide +kernel
theorem dX11_power_133 : decode cX11_power 133 = .ok (.iconst 0, 1) := by decide +kernel
theorem dX11_power_134 : decode cX11_power 134 = .ok (.putfield 244, 3) := by decide +kernel
theorem dX11_power_137 : decode cX11_power 137 = .ok (.aload_n 3, 1) := by decide +kernel
theorem dX11_power_138 : decode cX11_power 138 = .ok (.iload_n 2, 1) := by decide +kernel
theorem dX11_power_139 : decode cX11_power 139 = .ok (.ifCond .eq 7, 3) := by decide +kernel
theorem dX11_power_142 : decode cX11_power 142 = .ok (.iconst 1, 1) := by decide +kernel
theorem dX11_power_143 : decode cX11_power 143 = .ok (.goto 4, 3) := by decide +kernel
theorem dX11_power_146 : decode cX11_power 146 = .ok (.iconst 0, 1) := by decide +kernel
theorem dX11_power_147 : decode cX11_power 147 = .ok (.putfield 196, 3) := by decide +kernel
theorem dX11_power_150 : decode cX11_power 150 = .ok (.iload 4, 2) := by decide +kernel
theorem dX11_power_152 : decode cX11_power 152 = .ok (.ireturn, 1) := by decide +kernel
theorem dX11_spoil_0 : decode cX11_spoil 0 = .ok (.aload_n 0, 1) := by decide +kernel
theorem dX11_spoil_1 : decode cX11_spoil 1 = .ok (.iload_n 1, 1) := by decide +kernel
theorem dX11_spoil_2 : decode cX11_spoil 2 = .ok (.invokevirtual 148, 3) := by decide +kernel
theorem dX11_spoil_5 : decode cX11_spoil 5 = .ok (.ifCond .ne 11, 3) := by decide +kernel
theorem dX11_spoil_8 : decode cX11_spoil 8 = .ok (.new 152, 3) := by decide +kernel
theorem dX11_spoil_11 : decode cX11_spoil 11 = .ok (.dup, 1) := by decide +kernel
theorem dX11_spoil_12 : decode cX11_spoil 12 = .ok (.invokespecial 154, 3) := by decide +kernel
theorem dX11_spoil_15 : decode cX11_spoil 15 = .ok (.athrow, 1) := by decide +kernel
theorem dX11_spoil_16 : decode cX11_spoil 16 = .ok (.iload_n 2, 1) := by decide +kernel
theorem dX11_spoil_17 : decode cX11_spoil 17 = .ok (.ifCond .lt 8, 3) := by decide +kernel
theorem dX11_spoil_20 : decode cX11_spoil 20 = .ok (.iload_n 2, 1) := by decide +kernel
theorem dX11_spoil_21 : decode cX11_spoil 21 = .ok (.iconst 3, 1) := by decide +kernel
theorem dX11_spoil_22 : decode cX11_spoil 22 = .ok (.if_icmp .le 11, 3) := by decide +kernel
theorem dX11_spoil_25 : decode cX11_spoil 25 = .ok (.new 119, 3) := by decide +kernel
theorem dX11_spoil_28 : decode cX11_spoil 28 = .ok (.dup, 1) := by decide +kernel
theorem dX11_spoil_29 : decode cX11_spoil 29 = .ok (.invokespecial 121, 3) := by decide +kernel
theorem dX11_spoil_32 : decode cX11_spoil 32 = .ok (.athrow, 1) := by decide +kernel
theorem dX11_spoil_33 : decode cX11_spoil 33 = .ok (.iload_n 2, 1) := by decide +kernel
theorem dX11_spoil_34 : decode cX11_spoil 34 = .ok (.iconst 1, 1) := by decide +kernel
theorem dX11_spoil_35 : decode cX11_spoil 35 = .ok (.if_icmp .eq 8, 3) := by decide +kernel
theorem dX11_spoil_38 : decode cX11_spoil 38 = .ok (.iload_n 2, 1) := by decide +kernel
theorem dX11_spoil_39 : decode cX11_spoil 39 = .ok (.iconst 3, 1) := by decide +kernel
theorem dX11_spoil_40 : decode cX11_spoil 40 = .ok (.if_icmp .ne 7, 3) := by decide +kernel
theorem dX11_spoil_43 : decode cX11_spoil 43 = .ok (.iconst 1, 1) := by decide +kernel
theorem dX11_spoil_44 : decode cX11_spoil 44 = .ok (.goto 4, 3) := by decide +kernel
theorem dX11_spoil_47 : decode cX11_spoil 47 = .ok (.iconst 0, 1) := by decide +kernel
theorem dX11_spoil_48 : decode cX11_spoil 48 = .ok (.istore 4, 2) := by decide +kernel
theorem dX11_spoil_50 : decode cX11_spoil 50 = .ok (.iload 4, 2) := by decide +kernel
theorem dX11_spoil_52 : decode cX11_spoil 52 = .ok (.ifCond .eq 21, 3) := by decide +kernel
theorem dX11_spoil_55 : decode cX11_spoil 55 = .ok (.iload_n 3, 1) := by decide +kernel
theorem dX11_spoil_56 : decode cX11_spoil 56 = .ok (.ifCond .lt 9, 3) := by decide +kernel
theorem dX11_spoil_59 : decode cX11_spoil 59 = .ok (.iload_n 3, 1) := by decide +kernel
theorem dX11_spoil_60 : decode cX11_spoil 60 = .ok (.bipush 99, 2) := by decide +kernel
theorem dX11_spoil_62 : decode cX11_spoil 62 = .ok (.if_icmp .le 11, 3) := by decide +kernel
theorem dX11_spoil_65 : decode cX11_spoil 65 = .ok (.new 119, 3) := by decide +kernel
theorem dX11_spoil_68 : decode cX11_spoil 68 = .ok (.dup, 1) := by decide +kernel
theorem dX11_spoil_69 : decode cX11_spoil 69 = .ok (.invokespecial 121, 3) := by decide +kernel
theorem dX11_spoil_72 : decode cX11_spoil 72 = .ok (.athrow, 1) := by decide +kernel
theorem dX11_spoil_73 : decode cX11_spoil 73 = .ok (.aload_n 0, 1) := by decide +kernel
theorem dX11_spoil_74 : decode cX11_spoil 74 = .ok (.getfield 90, 3) := by decide +kernel
theorem dX11_spoil_77 : decode cX11_spoil 77 = .ok (.aload_n 0, 1) := by decide +kernel
theorem dX11_spoil_78 : decode cX11_spoil 78 = .ok (.getfield 77, 3) := by decide +kernel
theorem dX11_spoil_81 : decode cX11_spoil 81 = .ok (.invokevirtual 216, 3) := by decide +kernel
theorem dX11_spoil_84 : decode cX11_spoil 84 = .ok (.aload_n 0, 1) := by decide +kernel
theorem dX11_spoil_85 : decode cX11_spoil 85 = .ok (.getfield 77, 3) := by decide +kernel
theorem dX11_spoil_88 : decode cX11_spoil 88 = .ok (.getfield 158, 3) := by decide +kernel
theorem dX11_spoil_91 : decode cX11_spoil 91 = .ok (.iload_n 1, 1) := by decide +kernel
theorem dX11_spoil_92 : decode cX11_spoil 92 = .ok (.aaload, 1) := by decide +kernel
theorem dX11_spoil_93 : decode cX11_spoil 93 = .ok (.getfield 247, 3) := by decide +kernel
theorem dX11_spoil_96 : decode cX11_spoil 96 = .ok (.istore 5, 2) := by decide +kernel
theorem dX11_spoil_98 : decode cX11_spoil 98 = .ok (.aload_n 0, 1) := by decide +kernel
theorem dX11_spoil_99 : decode cX11_spoil 99 = .ok (.getfield 77, 3) := by decide +kernel
theorem dX11_spoil_102 : decode cX11_spoil 102 = .ok (.getfield 158, 3) := by decide +kernel
theorem dX11_spoil_105 : decode cX11_spoil 105 = .ok (.iload_n 1, 1) := by decide +kernel
theorem dX11_spoil_106 : decode cX11_spoil 106 = .ok (.aaload, 1) := by decide +kernel
theorem dX11_spoil_107 : decode cX11_spoil 107 = .ok (.iload_n 2, 1) := by decide +kernel
theorem dX11_spoil_108 : decode cX11_spoil 108 = .ok (.putfield 247, 3) := by decide +kernel
theorem dX11_spoil_111 : decode cX11_spoil 111 = .ok (.aload_n 0, 1) := by decide +kernel
theorem dX11_spoil_112 : decode cX11_spoil 112 = .ok (.getfield 77, 3) := by decide +kernel
theorem dX11_spoil_115 : decode cX11_spoil 115 = .ok (.getfield 158, 3) := by decide +kernel
theorem dX11_spoil_118 : decode cX11_spoil 118 = .ok (.iload_n 1, 1) := by decide +kernel
theorem dX11_spoil_119 : decode cX11_spoil 119 = .ok (.aaload, 1) := by decide +kernel
theorem dX11_spoil_120 : decode cX11_spoil 120 = .ok (.iload 4, 2) := by decide +kernel
theorem dX11_spoil_122 : decode cX11_spoil 122 = .ok (.ifCond .eq 7, 3) := by decide +kernel
theorem dX11_spoil_125 : decode cX11_spoil 125 = .ok (.iload_n 3, 1) := by decide +kernel
theorem dX11_spoil_126 : decode cX11_spoil 126 = .ok (.goto 4, 3) := by decide +kernel
theorem dX11_spoil_129 : decode cX11_spoil 129 = .ok (.iconst 0, 1) := by decide +kernel
theorem dX11_spoil_130 : decode cX11_spoil 130 = .ok (.putfield 250, 3) := by decide +kernel
theorem dX11_spoil_133 : decode cX11_spoil 133 = .ok (.iload 5, 2) := by decide +kernel
theorem dX11_spoil_135 : decode cX11_spoil 135 = .ok (.ireturn, 1) := by decide +kernel
theorem dX11_set_0 : decode cX11_set 0 = .ok (.aload_n 0, 1) := by decide +kernel
theorem dX11_set_1 : decode cX11_set 1 = .ok (.iload_n 1, 1) := by decide +kernel
theorem dX11_set_2 : decode cX11_set 2 = .ok (.invokevirtual 148, 3) := by decide +kernel
theorem dX11_set_5 : decode cX11_set 5 = .ok (.ifCond .ne 11, 3) := by decide +kernel
theorem dX11_set_8 : decode cX11_set 8 = .ok (.new 152, 3) := by decide +kernel
theorem dX11_set_11 : decode cX11_set 11 = .ok (.dup, 1) := by decide +kernel
theorem dX11_set_12 : decode cX11_set 12 = .ok (.invokespecial 154, 3) := by decide +kernel
theorem dX11_set_15 : decode cX11_set 15 = .ok (.athrow, 1) := by decide +kernel
theorem dX11_set_16 : decode cX11_set 16 = .ok (.iload_n 2, 1) := by decide +kernel
theorem dX11_set_17 : decode cX11_set 17 = .ok (.sipush (-999), 3) := by decide +kernel
theorem dX11_set_20 : decode cX11_set 20 = .ok (.if_icmp .lt 10, 3) := by decide +kernel
theorem dX11_set_23 : decode cX11_set 23 = .ok (.iload_n 2, 1) := by decide +kernel
theorem dX11_set_24 : decode cX11_set 24 = .ok (.sipush 999, 3) := by decide +kernel
theorem dX11_set_27 : decode cX11_set 27 = .ok (.if_icmp .le 11, 3) := by decide +kernel
theorem dX11_set_30 : decode cX11_set 30 = .ok (.new 119, 3) := by decide +kernel
theorem dX11_set_33 : decode cX11_set 33 = .ok (.dup, 1) := by decide +kernel
theorem dX11_set_34 : decode cX11_set 34 = .ok (.invokespecial 121, 3) := by decide +kernel
theorem dX11_set_37 : decode cX11_set 37 = .ok (.athrow, 1) := by decide +kernel
theorem dX11_set_38 : decode cX11_set 38 = .ok (.aload_n 0, 1) := by decide +kernel
theorem dX11_set_39 : decode cX11_set 39 = .ok (.getfield 90, 3) := by decide +kernel
theorem dX11_set_42 : decode cX11_set 42 = .ok (.aload_n 0, 1) := by decide +kernel
theorem dX11_set_43 : decode cX11_set 43 = .ok (.getfield 77, 3) := by decide +kernel
theorem dX11_set_46 : decode cX11_set 46 = .ok (.invokevirtual 216, 3) := by decide +kernel
theorem dX11_set_49 : decode cX11_set 49 = .ok (.aload_n 0, 1) := by decide +kernel
theorem dX11_set_50 : decode cX11_set 50 = .ok (.getfield 77, 3) := by decide +kernel
theorem dX11_set_53 : decode cX11_set 53 = .ok (.getfield 158, 3) := by decide +kernel
theorem dX11_set_56 : decode cX11_set 56 = .ok (.iload_n 1, 1) := by decide +kernel
theorem dX11_set_57 : decode cX11_set 57 = .ok (.aaload, 1) := by decide +kernel
theorem dX11_set_58 : decode cX11_set 58 = .ok (.getfield 253, 3) := by decide +kernel
theorem dX11_set_61 : decode cX11_set 61 = .ok (.istore_n 3, 1) := by decide +kernel
theorem dX11_set_62 : decode cX11_set 62 = .ok (.aload_n 0, 1) := by decide +kernel
theorem dX11_set_63 : decode cX11_set 63 = .ok (.getfield 77, 3) := by decide +kernel
theorem dX11_set_66 : decode cX11_set 66 = .ok (.getfield 158, 3) := by decide +kernel
theorem dX11_set_69 : decode cX11_set 69 = .ok (.iload_n 1, 1) := by decide +kernel
theorem dX11_set_70 : decode cX11_set 70 = .ok (.aaload, 1) := by decide +kernel
theorem dX11_set_71 : decode cX11_set 71 = .ok (.iload_n 2, 1) := by decide +kernel
theorem dX11_set_72 : decode cX11_set 72 = .ok (.putfield 253, 3) := by decide +kernel
theorem dX11_set_75 : decode cX11_set 75 = .ok (.iload_n 3, 1) := by decide +kernel
theorem dX11_set_76 : decode cX11_set 76 = .ok (.ireturn, 1) := by decide +kernel
theorem dX11_tune_0 : decode cX11_tune 0 = .ok (.iload_n 2, 1) := by decide +kernel
theorem dX11_tune_1 : decode cX11_tune 1 = .ok (.iconst 1, 1) := by decide +kernel
theorem dX11_tune_2 : decode cX11_tune 2 = .ok (.if_icmp .lt 10, 3) := by decide +kernel
theorem dX11_tune_5 : decode cX11_tune 5 = .ok (.iload_n 2, 1) := by decide +kernel
theorem dX11_tune_6 : decode cX11_tune 6 = .ok (.sipush 999, 3) := by decide +kernel
theorem dX11_tune_9 : decode cX11_tune 9 = .ok (.if_icmp .le 11, 3) := by decide +kernel
theorem dX11_tune_12 : decode cX11_tune 12 = .ok (.new 119, 3) := by decide +kernel
theorem dX11_tune_15 : decode cX11_tune 15 = .ok (.dup, 1) := by decide +kernel
theorem dX11_tune_16 : decode cX11_tune 16 = .ok (.invokespecial 121, 3) := by decide +kernel
theorem dX11_tune_19 : decode cX11_tune 19 = .ok (.athrow, 1) := by decide +kernel
theorem dX11_tune_20 : decode cX11_tune 20 = .ok (.aload_n 0, 1) := by decide +kernel
theorem dX11_tune_21 : decode cX11_tune 21 = .ok (.getfield 90, 3) := by decide +kernel
theorem dX11_tune_24 : decode cX11_tune 24 = .ok (.aload_n 0, 1) := by decide +kernel
theorem dX11_tune_25 : decode cX11_tune 25 = .ok (.getfield 77, 3) := by decide +kernel
theorem dX11_tune_28 : decode cX11_tune 28 = .ok (.invokevirtual 216, 3) := by decide +kernel
theorem dX11_tune_31 : decode cX11_tune 31 = .ok (.iload_n 1, 1) := by decide +kernel
theorem dX11_tune_32 : decode cX11_tune 32 = .ok (.ifCond .eq 13, 3) := by decide +kernel
theorem dX11_tune_35 : decode cX11_tune 35 = .ok (.aload_n 0, 1) := by decide +kernel
theorem dX11_tune_36 : decode cX11_tune 36 = .ok (.getfield 77, 3) := by decide +kernel
theorem dX11_tune_39 : decode cX11_tune 39 = .ok (.getfield 256, 3) := by decide +kernel
theorem dX11_tune_42 : decode cX11_tune 42 = .ok (.goto 10, 3) := by decide +kernel
theorem dX11_tune_45 : decode cX11_tune 45 = .ok (.aload_n 0, 1) := by decide +kernel
theorem dX11_tune_46 : decode cX11_tune 46 = .ok (.getfield 77, 3) := by decide +kernel
theorem dX11_tune_49 : decode cX11_tune 49 = .ok (.getfield 259, 3) := by decide +kernel
theorem dX11_tune_52 : decode cX11_tune 52 = .ok (.istore_n 3, 1) := by decide +kernel
theorem dX11_tune_53 : decode cX11_tune 53 = .ok (.iload_n 1, 1) := by decide +kernel
theorem dX11_tune_54 : decode cX11_tune 54 = .ok (.ifCond .eq 14, 3) := by decide +kernel
theorem dX11_tune_57 : decode cX11_tune 57 = .ok (.aload_n 0, 1) := by decide +kernel
theorem dX11_tune_58 : decode cX11_tune 58 = .ok (.getfield 77, 3) := by decide +kernel
theorem dX11_tune_61 : decode cX11_tune 61 = .ok (.iload_n 2, 1) := by decide +kernel
theorem dX11_tune_62 : decode cX11_tune 62 = .ok (.putfield 256, 3) := by decide +kernel
theorem dX11_tune_65 : decode cX11_tune 65 = .ok (.goto 11, 3) := by decide +kernel
theorem dX11_tune_68 : decode cX11_tune 68 = .ok (.aload_n 0, 1) := by decide +kernel
theorem dX11_tune_69 : decode cX11_tune 69 = .ok (.getfield 77, 3) := by decide +kernel
theorem dX11_tune_72 : decode cX11_tune 72 = .ok (.iload_n 2, 1) := by decide +kernel
theorem dX11_tune_73 : decode cX11_tune 73 = .ok (.putfield 259, 3) := by decide +kernel
theorem dX11_tune_76 : decode cX11_tune 76 = .ok (.iload_n 3, 1) := by decide +kernel
theorem dX11_tune_77 : decode cX11_tune 77 = .ok (.ireturn, 1) := by decide +kernel
theorem dX11_mid_0 : decode cX11_mid 0 = .ok (.aload_n 0, 1) := by decide +kernel
theorem dX11_mid_1 : decode cX11_mid 1 = .ok (.invokevirtual 101, 3) := by decide +kernel
theorem dX11_mid_4 : decode cX11_mid 4 = .ok (.istore_n 1, 1) := by decide +kernel
theorem dX11_mid_5 : decode cX11_mid 5 = .ok (.iload_n 1, 1) := by decide +kernel
theorem dX11_mid_6 : decode cX11_mid 6 = .ok (.bipush 20, 2) := by decide +kernel
theorem dX11_mid_8 : decode cX11_mid 8 = .ok (.if_icmp .le 11, 3) := by decide +kernel
theorem dX11_mid_11 : decode cX11_mid 11 = .ok (.new 119, 3) := by decide +kernel
theorem dX11_mid_14 : decode cX11_mid 14 = .ok (.dup, 1) := by decide +kernel
theorem dX11_mid_15 : decode cX11_mid 15 = .ok (.invokespecial 121, 3) := by decide +kernel
theorem dX11_mid_18 : decode cX11_mid 18 = .ok (.athrow, 1) := by decide +kernel
theorem dX11_mid_19 : decode cX11_mid 19 = .ok (.iconst 0, 1) := by decide +kernel
theorem dX11_mid_20 : decode cX11_mid 20 = .ok (.istore_n 2, 1) := by decide +kernel
theorem dX11_mid_21 : decode cX11_mid 21 = .ok (.iload_n 2, 1) := by decide +kernel
theorem dX11_mid_22 : decode cX11_mid 22 = .ok (.iload_n 1, 1) := by decide +kernel
theorem dX11_mid_23 : decode cX11_mid 23 = .ok (.if_icmp .ge 25, 3) := by decide +kernel
theorem dX11_mid_26 : decode cX11_mid 26 = .ok (.aload_n 0, 1) := by decide +kernel
theorem dX11_mid_27 : decode cX11_mid 27 = .ok (.getfield 61, 3) := by decide +kernel
theorem dX11_mid_30 : decode cX11_mid 30 = .ok (.iload_n 2, 1) := by decide +kernel
theorem dX11_mid_31 : decode cX11_mid 31 = .ok (.aload_n 0, 1) := by decide +kernel
theorem dX11_mid_32 : decode cX11_mid 32 = .ok (.getfield 9, 3) := by decide +kernel
theorem dX11_mid_35 : decode cX11_mid 35 = .ok (.iload_n 2, 1) := by decide +kernel
theorem dX11_mid_36 : decode cX11_mid 36 = .ok (.iaload, 1) := by decide +kernel
theorem dX11_mid_37 : decode cX11_mid 37 = .ok (.sipush 128, 3) := by decide +kernel
theorem dX11_mid_40 : decode cX11_mid 40 = .ok (.isub, 1) := by decide +kernel
theorem dX11_mid_41 : decode cX11_mid 41 = .ok (.iastore, 1) := by decide +kernel
theorem dX11_mid_42 : decode cX11_mid 42 = .ok (.iinc 2 1, 3) := by decide +kernel
theorem dX11_mid_45 : decode cX11_mid 45 = .ok (.goto (-24), 3) := by decide +kernel
theorem dX11_mid_48 : decode cX11_mid 48 = .ok (.aload_n 0, 1) := by decide +kernel
theorem dX11_mid_49 : decode cX11_mid 49 = .ok (.getfield 61, 3) := by decide +kernel
theorem dX11_mid_52 : decode cX11_mid 52 = .ok (.iload_n 1, 1) := by decide +kernel
theorem dX11_mid_53 : decode cX11_mid 53 = .ok (.invokestatic 262, 3) := by decide +kernel
theorem dX11_mid_56 : decode cX11_mid 56 = .ok (.ireturn, 1) := by decide +kernel
theorem dX11_spread_0 : decode cX11_spread 0 = .ok (.aload_n 0, 1) := by decide +kernel
theorem dX11_spread_1 : decode cX11_spread 1 = .ok (.getfield 77, 3) := by decide +kernel
theorem dX11_spread_4 : decode cX11_spread 4 = .ok (.invokevirtual 266, 3) := by decide +kernel
theorem dX11_spread_7 : decode cX11_spread 7 = .ok (.ireturn, 1) := by decide +kernel
theorem dX11_agreed_0 : decode cX11_agreed 0 = .ok (.iconst (-1), 1) := by decide +kernel
theorem dX11_agreed_1 : decode cX11_agreed 1 = .ok (.istore_n 1, 1) := by decide +kernel
theorem dX11_agreed_2 : decode cX11_agreed 2 = .ok (.iconst 0, 1) := by decide +kernel
theorem dX11_agreed_3 : decode cX11_agreed 3 = .ok (.istore_n 2, 1) := by decide +kernel
theorem dX11_agreed_4 : decode cX11_agreed 4 = .ok (.iload_n 2, 1) := by decide +kernel
theorem dX11_agreed_5 : decode cX11_agreed 5 = .ok (.aload_n 0, 1) := by decide +kernel
theorem dX11_agreed_6 : decode cX11_agreed 6 = .ok (.getfield 77, 3) := by decide +kernel
theorem dX11_agreed_9 : decode cX11_agreed 9 = .ok (.getfield 145, 3) := by decide +kernel
theorem dX11_agreed_12 : decode cX11_agreed 12 = .ok (.if_icmp .ge 61, 3) := by decide +kernel
theorem dX11_agreed_15 : decode cX11_agreed 15 = .ok (.aload_n 0, 1) := by decide +kernel
theorem dX11_agreed_16 : decode cX11_agreed 16 = .ok (.getfield 77, 3) := by decide +kernel
theorem dX11_agreed_19 : decode cX11_agreed 19 = .ok (.getfield 158, 3) := by decide +kernel
theorem dX11_agreed_22 : decode cX11_agreed 22 = .ok (.iload_n 2, 1) := by decide +kernel
theorem dX11_agreed_23 : decode cX11_agreed 23 = .ok (.aaload, 1) := by decide +kernel
theorem dX11_agreed_24 : decode cX11_agreed 24 = .ok (.getfield 196, 3) := by decide +kernel
theorem dX11_agreed_27 : decode cX11_agreed 27 = .ok (.iconst 2, 1) := by decide +kernel
theorem dX11_agreed_28 : decode cX11_agreed 28 = .ok (.if_icmp .ne 39, 3) := by decide +kernel
theorem dX11_agreed_31 : decode cX11_agreed 31 = .ok (.iload_n 1, 1) := by decide +kernel
theorem dX11_agreed_32 : decode cX11_agreed 32 = .ok (.iconst (-1), 1) := by decide +kernel
theorem dX11_agreed_33 : decode cX11_agreed 33 = .ok (.if_icmp .eq 21, 3) := by decide +kernel
theorem dX11_agreed_36 : decode cX11_agreed 36 = .ok (.iload_n 1, 1) := by decide +kernel
theorem dX11_agreed_37 : decode cX11_agreed 37 = .ok (.aload_n 0, 1) := by decide +kernel
theorem dX11_agreed_38 : decode cX11_agreed 38 = .ok (.getfield 77, 3) := by decide +kernel
theorem dX11_agreed_41 : decode cX11_agreed 41 = .ok (.getfield 158, 3) := by decide +kernel
theorem dX11_agreed_44 : decode cX11_agreed 44 = .ok (.iload_n 2, 1) := by decide +kernel
theorem dX11_agreed_45 : decode cX11_agreed 45 = .ok (.aaload, 1) := by decide +kernel
theorem dX11_agreed_46 : decode cX11_agreed 46 = .ok (.getfield 244, 3) := by decide +kernel
theorem dX11_agreed_49 : decode cX11_agreed 49 = .ok (.if_icmp .eq 5, 3) := by decide +kernel
theorem dX11_agreed_52 : decode cX11_agreed 52 = .ok (.iconst 0, 1) := by decide +kernel
theorem dX11_agreed_53 : decode cX11_agreed 53 = .ok (.ireturn, 1) := by decide +kernel
theorem dX11_agreed_54 : decode cX11_agreed 54 = .ok (.aload_n 0, 1) := by decide +kernel
theorem dX11_agreed_55 : decode cX11_agreed 55 = .ok (.getfield 77, 3) := by decide +kernel
theorem dX11_agreed_58 : decode cX11_agreed 58 = .ok (.getfield 158, 3) := by decide +kernel
theorem dX11_agreed_61 : decode cX11_agreed 61 = .ok (.iload_n 2, 1) := by decide +kernel
theorem dX11_agreed_62 : decode cX11_agreed 62 = .ok (.aaload, 1) := by decide +kernel
theorem dX11_agreed_63 : decode cX11_agreed 63 = .ok (.getfield 244, 3) := by decide +kernel
theorem dX11_agreed_66 : decode cX11_agreed 66 = .ok (.istore_n 1, 1) := by decide +kernel
theorem dX11_agreed_67 : decode cX11_agreed 67 = .ok (.iinc 2 1, 3) := by decide +kernel
theorem dX11_agreed_70 : decode cX11_agreed 70 = .ok (.goto (-66), 3) := by decide +kernel
theorem dX11_agreed_73 : decode cX11_agreed 73 = .ok (.iconst 1, 1) := by decide +kernel
theorem dX11_agreed_74 : decode cX11_agreed 74 = .ok (.ireturn, 1) := by decide +kernel
theorem dX11_cliques_0 : decode cX11_cliques 0 = .ok (.aload_n 0, 1) := by decide +kernel
theorem dX11_cliques_1 : decode cX11_cliques 1 = .ok (.getfield 20, 3) := by decide +kernel
theorem dX11_cliques_4 : decode cX11_cliques 4 = .ok (.getfield 168, 3) := by decide +kernel
theorem dX11_cliques_7 : decode cX11_cliques 7 = .ok (.aload_n 0, 1) := by decide +kernel
theorem dX11_cliques_8 : decode cX11_cliques 8 = .ok (.getfield 77, 3) := by decide +kernel
theorem dX11_cliques_11 : decode cX11_cliques 11 = .ok (.invokevirtual 172, 3) := by decide +kernel
theorem dX11_cliques_14 : decode cX11_cliques 14 = .ok (.aload_n 0, 1) := by decide +kernel
theorem dX11_cliques_15 : decode cX11_cliques 15 = .ok (.getfield 27, 3) := by decide +kernel
theorem dX11_cliques_18 : decode cX11_cliques 18 = .ok (.aload_n 0, 1) := by decide +kernel
theorem dX11_cliques_19 : decode cX11_cliques 19 = .ok (.getfield 20, 3) := by decide +kernel
theorem dX11_cliques_22 : decode cX11_cliques 22 = .ok (.getfield 168, 3) := by decide +kernel
theorem dX11_cliques_25 : decode cX11_cliques 25 = .ok (.invokevirtual 190, 3) := by decide +kernel
theorem dX11_cliques_28 : decode cX11_cliques 28 = .ok (.aload_n 0, 1) := by decide +kernel
theorem dX11_cliques_29 : decode cX11_cliques 29 = .ok (.getfield 27, 3) := by decide +kernel
theorem dX11_cliques_32 : decode cX11_cliques 32 = .ok (.invokevirtual 269, 3) := by decide +kernel
theorem dX11_cliques_35 : decode cX11_cliques 35 = .ok (.ireturn, 1) := by decide +kernel
theorem dX11_settles_0 : decode cX11_settles 0 = .ok (.iload_n 1, 1) := by decide +kernel
theorem dX11_settles_1 : decode cX11_settles 1 = .ok (.ifCond .lt 10, 3) := by decide +kernel
theorem dX11_settles_4 : decode cX11_settles 4 = .ok (.iload_n 1, 1) := by decide +kernel
theorem dX11_settles_5 : decode cX11_settles 5 = .ok (.sipush 999, 3) := by decide +kernel
theorem dX11_settles_8 : decode cX11_settles 8 = .ok (.if_icmp .le 11, 3) := by decide +kernel
theorem dX11_settles_11 : decode cX11_settles 11 = .ok (.new 119, 3) := by decide +kernel
theorem dX11_settles_14 : decode cX11_settles 14 = .ok (.dup, 1) := by decide +kernel
theorem dX11_settles_15 : decode cX11_settles 15 = .ok (.invokespecial 121, 3) := by decide +kernel
theorem dX11_settles_18 : decode cX11_settles 18 = .ok (.athrow, 1) := by decide +kernel
theorem dX11_settles_19 : decode cX11_settles 19 = .ok (.aload_n 0, 1) := by decide +kernel
theorem dX11_settles_20 : decode cX11_settles 20 = .ok (.getfield 81, 3) := by decide +kernel
theorem dX11_settles_23 : decode cX11_settles 23 = .ok (.aload_n 0, 1) := by decide +kernel
theorem dX11_settles_24 : decode cX11_settles 24 = .ok (.getfield 77, 3) := by decide +kernel
theorem dX11_settles_27 : decode cX11_settles 27 = .ok (.invokevirtual 109, 3) := by decide +kernel
theorem dX11_settles_30 : decode cX11_settles 30 = .ok (.iconst 0, 1) := by decide +kernel
theorem dX11_settles_31 : decode cX11_settles 31 = .ok (.istore_n 2, 1) := by decide +kernel
theorem dX11_settles_32 : decode cX11_settles 32 = .ok (.iload_n 2, 1) := by decide +kernel
theorem dX11_settles_33 : decode cX11_settles 33 = .ok (.bipush 60, 2) := by decide +kernel
theorem dX11_settles_35 : decode cX11_settles 35 = .ok (.if_icmp .gt 50, 3) := by decide +kernel
theorem dX11_settles_38 : decode cX11_settles 38 = .ok (.aload_n 0, 1) := by decide +kernel
theorem dX11_settles_39 : decode cX11_settles 39 = .ok (.getfield 81, 3) := by decide +kernel
theorem dX11_settles_42 : decode cX11_settles 42 = .ok (.iconst 2, 1) := by decide +kernel
theorem dX11_settles_43 : decode cX11_settles 43 = .ok (.invokevirtual 272, 3) := by decide +kernel
theorem dX11_settles_46 : decode cX11_settles 46 = .ok (.invokestatic 275, 3) := by decide +kernel
theorem dX11_settles_49 : decode cX11_settles 49 = .ok (.iconst 2, 1) := by decide +kernel
theorem dX11_settles_50 : decode cX11_settles 50 = .ok (.if_icmp .lt 16, 3) := by decide +kernel
theorem dX11_settles_53 : decode cX11_settles 53 = .ok (.aload_n 0, 1) := by decide +kernel
theorem dX11_settles_54 : decode cX11_settles 54 = .ok (.getfield 81, 3) := by decide +kernel
theorem dX11_settles_57 : decode cX11_settles 57 = .ok (.invokevirtual 266, 3) := by decide +kernel
theorem dX11_settles_60 : decode cX11_settles 60 = .ok (.iload_n 1, 1) := by decide +kernel
theorem dX11_settles_61 : decode cX11_settles 61 = .ok (.if_icmp .gt 5, 3) := by decide +kernel
theorem dX11_settles_64 : decode cX11_settles 64 = .ok (.iload_n 2, 1) := by decide +kernel
theorem dX11_settles_65 : decode cX11_settles 65 = .ok (.ireturn, 1) := by decide +kernel
theorem dX11_settles_66 : decode cX11_settles 66 = .ok (.aload_n 0, 1) := by decide +kernel
theorem dX11_settles_67 : decode cX11_settles 67 = .ok (.getfield 20, 3) := by decide +kernel
theorem dX11_settles_70 : decode cX11_settles 70 = .ok (.aload_n 0, 1) := by decide +kernel
theorem dX11_settles_71 : decode cX11_settles 71 = .ok (.getfield 81, 3) := by decide +kernel
theorem dX11_settles_74 : decode cX11_settles 74 = .ok (.iconst 0, 1) := by decide +kernel
theorem dX11_settles_75 : decode cX11_settles 75 = .ok (.invokevirtual 219, 3) := by decide +kernel
theorem dX11_settles_78 : decode cX11_settles 78 = .ok (.pop, 1) := by decide +kernel
theorem dX11_settles_79 : decode cX11_settles 79 = .ok (.iinc 2 1, 3) := by decide +kernel
theorem dX11_settles_82 : decode cX11_settles 82 = .ok (.goto (-50), 3) := by decide +kernel
theorem dX11_settles_85 : decode cX11_settles 85 = .ok (.iconst (-1), 1) := by decide +kernel
theorem dX11_settles_86 : decode cX11_settles 86 = .ok (.ireturn, 1) := by decide +kernel
theorem dX11_isAhead_0 : decode cX11_isAhead 0 = .ok (.iload_n 0, 1) := by decide +kernel
theorem dX11_isAhead_1 : decode cX11_isAhead 1 = .ok (.ifCond .lt 13, 3) := by decide +kernel
theorem dX11_isAhead_4 : decode cX11_isAhead 4 = .ok (.iload_n 0, 1) := by decide +kernel
theorem dX11_isAhead_5 : decode cX11_isAhead 5 = .ok (.bipush 60, 2) := by decide +kernel
theorem dX11_isAhead_7 : decode cX11_isAhead 7 = .ok (.if_icmp .gt 7, 3) := by decide +kernel
theorem dX11_isAhead_10 : decode cX11_isAhead 10 = .ok (.iconst 1, 1) := by decide +kernel
theorem dX11_isAhead_11 : decode cX11_isAhead 11 = .ok (.goto 4, 3) := by decide +kernel
theorem dX11_isAhead_14 : decode cX11_isAhead 14 = .ok (.iconst 0, 1) := by decide +kernel
theorem dX11_isAhead_15 : decode cX11_isAhead 15 = .ok (.ireturn, 1) := by decide +kernel
theorem dX11_widest_0 : decode cX11_widest 0 = .ok (.iload_n 1, 1) := by decide +kernel
theorem dX11_widest_1 : decode cX11_widest 1 = .ok (.invokestatic 280, 3) := by decide +kernel
theorem dX11_widest_4 : decode cX11_widest 4 = .ok (.ifCond .ne 11, 3) := by decide +kernel
theorem dX11_widest_7 : decode cX11_widest 7 = .ok (.new 119, 3) := by decide +kernel
theorem dX11_widest_10 : decode cX11_widest 10 = .ok (.dup, 1) := by decide +kernel
theorem dX11_widest_11 : decode cX11_widest 11 = .ok (.invokespecial 121, 3) := by decide +kernel
theorem dX11_widest_14 : decode cX11_widest 14 = .ok (.athrow, 1) := by decide +kernel
theorem dX11_widest_15 : decode cX11_widest 15 = .ok (.aload_n 0, 1) := by decide +kernel
theorem dX11_widest_16 : decode cX11_widest 16 = .ok (.getfield 81, 3) := by decide +kernel
theorem dX11_widest_19 : decode cX11_widest 19 = .ok (.aload_n 0, 1) := by decide +kernel
theorem dX11_widest_20 : decode cX11_widest 20 = .ok (.getfield 77, 3) := by decide +kernel
theorem dX11_widest_23 : decode cX11_widest 23 = .ok (.invokevirtual 109, 3) := by decide +kernel
theorem dX11_widest_26 : decode cX11_widest 26 = .ok (.aload_n 0, 1) := by decide +kernel
theorem dX11_widest_27 : decode cX11_widest 27 = .ok (.getfield 81, 3) := by decide +kernel
theorem dX11_widest_30 : decode cX11_widest 30 = .ok (.invokevirtual 266, 3) := by decide +kernel
theorem dX11_widest_33 : decode cX11_widest 33 = .ok (.istore_n 2, 1) := by decide +kernel
theorem dX11_widest_34 : decode cX11_widest 34 = .ok (.iconst 0, 1) := by decide +kernel
theorem dX11_widest_35 : decode cX11_widest 35 = .ok (.istore_n 3, 1) := by decide +kernel
theorem dX11_widest_36 : decode cX11_widest 36 = .ok (.iload_n 3, 1) := by decide +kernel
theorem dX11_widest_37 : decode cX11_widest 37 = .ok (.iload_n 1, 1) := by decide +kernel
theorem dX11_widest_38 : decode cX11_widest 38 = .ok (.if_icmp .ge 34, 3) := by decide +kernel
theorem dX11_widest_41 : decode cX11_widest 41 = .ok (.aload_n 0, 1) := by decide +kernel
theorem dX11_widest_42 : decode cX11_widest 42 = .ok (.getfield 20, 3) := by decide +kernel
theorem dX11_widest_45 : decode cX11_widest 45 = .ok (.aload_n 0, 1) := by decide +kernel
theorem dX11_widest_46 : decode cX11_widest 46 = .ok (.getfield 81, 3) := by decide +kernel
theorem dX11_widest_49 : decode cX11_widest 49 = .ok (.iconst 0, 1) := by decide +kernel
theorem dX11_widest_50 : decode cX11_widest 50 = .ok (.invokevirtual 219, 3) := by decide +kernel
theorem dX11_widest_53 : decode cX11_widest 53 = .ok (.pop, 1) := by decide +kernel
theorem dX11_widest_54 : decode cX11_widest 54 = .ok (.iload_n 2, 1) := by decide +kernel
theorem dX11_widest_55 : decode cX11_widest 55 = .ok (.aload_n 0, 1) := by decide +kernel
theorem dX11_widest_56 : decode cX11_widest 56 = .ok (.getfield 81, 3) := by decide +kernel
theorem dX11_widest_59 : decode cX11_widest 59 = .ok (.invokevirtual 266, 3) := by decide +kernel
theorem dX11_widest_62 : decode cX11_widest 62 = .ok (.invokestatic 283, 3) := by decide +kernel
theorem dX11_widest_65 : decode cX11_widest 65 = .ok (.istore_n 2, 1) := by decide +kernel
theorem dX11_widest_66 : decode cX11_widest 66 = .ok (.iinc 3 1, 3) := by decide +kernel
theorem dX11_widest_69 : decode cX11_widest 69 = .ok (.goto (-33), 3) := by decide +kernel
theorem dX11_widest_72 : decode cX11_widest 72 = .ok (.iload_n 2, 1) := by decide +kernel
theorem dX11_widest_73 : decode cX11_widest 73 = .ok (.ireturn, 1) := by decide +kernel
theorem dX11_leads_0 : decode cX11_leads 0 = .ok (.aload_n 0, 1) := by decide +kernel
theorem dX11_leads_1 : decode cX11_leads 1 = .ok (.getfield 81, 3) := by decide +kernel
theorem dX11_leads_4 : decode cX11_leads 4 = .ok (.aload_n 0, 1) := by decide +kernel
theorem dX11_leads_5 : decode cX11_leads 5 = .ok (.getfield 77, 3) := by decide +kernel
theorem dX11_leads_8 : decode cX11_leads 8 = .ok (.invokevirtual 109, 3) := by decide +kernel
theorem dX11_leads_11 : decode cX11_leads 11 = .ok (.iconst 0, 1) := by decide +kernel
theorem dX11_leads_12 : decode cX11_leads 12 = .ok (.istore_n 2, 1) := by decide +kernel
theorem dX11_leads_13 : decode cX11_leads 13 = .ok (.iload_n 2, 1) := by decide +kernel
theorem dX11_leads_14 : decode cX11_leads 14 = .ok (.bipush 60, 2) := by decide +kernel
theorem dX11_leads_16 : decode cX11_leads 16 = .ok (.if_icmp .gt 48, 3) := by decide +kernel
theorem dX11_leads_19 : decode cX11_leads 19 = .ok (.aload_n 0, 1) := by decide +kernel
theorem dX11_leads_20 : decode cX11_leads 20 = .ok (.getfield 81, 3) := by decide +kernel
theorem dX11_leads_23 : decode cX11_leads 23 = .ok (.iconst 2, 1) := by decide +kernel
theorem dX11_leads_24 : decode cX11_leads 24 = .ok (.invokevirtual 272, 3) := by decide +kernel
theorem dX11_leads_27 : decode cX11_leads 27 = .ok (.istore_n 3, 1) := by decide +kernel
theorem dX11_leads_28 : decode cX11_leads 28 = .ok (.iload_n 3, 1) := by decide +kernel
theorem dX11_leads_29 : decode cX11_leads 29 = .ok (.ifCond .eq 16, 3) := by decide +kernel
theorem dX11_leads_32 : decode cX11_leads 32 = .ok (.iload_n 1, 1) := by decide +kernel
theorem dX11_leads_33 : decode cX11_leads 33 = .ok (.ifCond .eq 10, 3) := by decide +kernel
theorem dX11_leads_36 : decode cX11_leads 36 = .ok (.iload_n 3, 1) := by decide +kernel
theorem dX11_leads_37 : decode cX11_leads 37 = .ok (.invokestatic 286, 3) := by decide +kernel
theorem dX11_leads_40 : decode cX11_leads 40 = .ok (.goto 4, 3) := by decide +kernel
theorem dX11_leads_43 : decode cX11_leads 43 = .ok (.iload_n 2, 1) := by decide +kernel
theorem dX11_leads_44 : decode cX11_leads 44 = .ok (.ireturn, 1) := by decide +kernel
theorem dX11_leads_45 : decode cX11_leads 45 = .ok (.aload_n 0, 1) := by decide +kernel
theorem dX11_leads_46 : decode cX11_leads 46 = .ok (.getfield 20, 3) := by decide +kernel
theorem dX11_leads_49 : decode cX11_leads 49 = .ok (.aload_n 0, 1) := by decide +kernel
theorem dX11_leads_50 : decode cX11_leads 50 = .ok (.getfield 81, 3) := by decide +kernel
theorem dX11_leads_53 : decode cX11_leads 53 = .ok (.iconst 0, 1) := by decide +kernel
theorem dX11_leads_54 : decode cX11_leads 54 = .ok (.invokevirtual 219, 3) := by decide +kernel
theorem dX11_leads_57 : decode cX11_leads 57 = .ok (.pop, 1) := by decide +kernel
theorem dX11_leads_58 : decode cX11_leads 58 = .ok (.iinc 2 1, 3) := by decide +kernel
theorem dX11_leads_61 : decode cX11_leads 61 = .ok (.goto (-48), 3) := by decide +kernel
theorem dX11_leads_64 : decode cX11_leads 64 = .ok (.iconst (-1), 1) := by decide +kernel
theorem dX11_leads_65 : decode cX11_leads 65 = .ok (.ireturn, 1) := by decide +kernel
theorem dX11_narrow_0 : decode cX11_narrow 0 = .ok (.aload_n 0, 1) := by decide +kernel
theorem dX11_narrow_1 : decode cX11_narrow 1 = .ok (.getfield 20, 3) := by decide +kernel
theorem dX11_narrow_4 : decode cX11_narrow 4 = .ok (.getfield 168, 3) := by decide +kernel
theorem dX11_narrow_7 : decode cX11_narrow 7 = .ok (.aload_n 0, 1) := by decide +kernel
theorem dX11_narrow_8 : decode cX11_narrow 8 = .ok (.getfield 77, 3) := by decide +kernel
theorem dX11_narrow_11 : decode cX11_narrow 11 = .ok (.invokevirtual 172, 3) := by decide +kernel
theorem dX11_narrow_14 : decode cX11_narrow 14 = .ok (.iconst 1, 1) := by decide +kernel
theorem dX11_narrow_15 : decode cX11_narrow 15 = .ok (.istore_n 1, 1) := by decide +kernel
theorem dX11_narrow_16 : decode cX11_narrow 16 = .ok (.iconst 0, 1) := by decide +kernel
theorem dX11_narrow_17 : decode cX11_narrow 17 = .ok (.istore_n 2, 1) := by decide +kernel
theorem dX11_narrow_18 : decode cX11_narrow 18 = .ok (.iload_n 2, 1) := by decide +kernel
theorem dX11_narrow_19 : decode cX11_narrow 19 = .ok (.aload_n 0, 1) := by decide +kernel
theorem dX11_narrow_20 : decode cX11_narrow 20 = .ok (.getfield 77, 3) := by decide +kernel
theorem dX11_narrow_23 : decode cX11_narrow 23 = .ok (.getfield 145, 3) := by decide +kernel
theorem dX11_narrow_26 : decode cX11_narrow 26 = .ok (.if_icmp .ge 60, 3) := by decide +kernel
theorem dX11_narrow_29 : decode cX11_narrow 29 = .ok (.aload_n 0, 1) := by decide +kernel
theorem dX11_narrow_30 : decode cX11_narrow 30 = .ok (.getfield 77, 3) := by decide +kernel
theorem dX11_narrow_33 : decode cX11_narrow 33 = .ok (.getfield 158, 3) := by decide +kernel
theorem dX11_narrow_36 : decode cX11_narrow 36 = .ok (.iload_n 2, 1) := by decide +kernel
theorem dX11_narrow_37 : decode cX11_narrow 37 = .ok (.aaload, 1) := by decide +kernel
theorem dX11_narrow_38 : decode cX11_narrow 38 = .ok (.astore_n 3, 1) := by decide +kernel
theorem dX11_narrow_39 : decode cX11_narrow 39 = .ok (.aload_n 3, 1) := by decide +kernel
theorem dX11_narrow_40 : decode cX11_narrow 40 = .ok (.getfield 196, 3) := by decide +kernel
theorem dX11_narrow_43 : decode cX11_narrow 43 = .ok (.iconst 2, 1) := by decide +kernel
theorem dX11_narrow_44 : decode cX11_narrow 44 = .ok (.if_icmp .ne 36, 3) := by decide +kernel
theorem dX11_narrow_47 : decode cX11_narrow 47 = .ok (.aload_n 3, 1) := by decide +kernel
theorem dX11_narrow_48 : decode cX11_narrow 48 = .ok (.getfield 247, 3) := by decide +kernel
theorem dX11_narrow_51 : decode cX11_narrow 51 = .ok (.iconst 2, 1) := by decide +kernel
theorem dX11_narrow_52 : decode cX11_narrow 52 = .ok (.if_icmp .eq 28, 3) := by decide +kernel
theorem dX11_narrow_55 : decode cX11_narrow 55 = .ok (.iload_n 1, 1) := by decide +kernel
theorem dX11_narrow_56 : decode cX11_narrow 56 = .ok (.aload_n 3, 1) := by decide +kernel
theorem dX11_narrow_57 : decode cX11_narrow 57 = .ok (.getfield 253, 3) := by decide +kernel
theorem dX11_narrow_60 : decode cX11_narrow 60 = .ok (.aload_n 0, 1) := by decide +kernel
theorem dX11_narrow_61 : decode cX11_narrow 61 = .ok (.getfield 20, 3) := by decide +kernel
theorem dX11_narrow_64 : decode cX11_narrow 64 = .ok (.getfield 168, 3) := by decide +kernel
theorem dX11_narrow_67 : decode cX11_narrow 67 = .ok (.getfield 177, 3) := by decide +kernel
theorem dX11_narrow_70 : decode cX11_narrow 70 = .ok (.iload_n 2, 1) := by decide +kernel
theorem dX11_narrow_71 : decode cX11_narrow 71 = .ok (.iaload, 1) := by decide +kernel
theorem dX11_narrow_72 : decode cX11_narrow 72 = .ok (.iadd, 1) := by decide +kernel
theorem dX11_narrow_73 : decode cX11_narrow 73 = .ok (.invokestatic 289, 3) := by decide +kernel
theorem dX11_narrow_76 : decode cX11_narrow 76 = .ok (.invokestatic 283, 3) := by decide +kernel
theorem dX11_narrow_79 : decode cX11_narrow 79 = .ok (.istore_n 1, 1) := by decide +kernel
theorem dX11_narrow_80 : decode cX11_narrow 80 = .ok (.iinc 2 1, 3) := by decide +kernel
theorem dX11_narrow_83 : decode cX11_narrow 83 = .ok (.goto (-65), 3) := by decide +kernel
theorem dX11_narrow_86 : decode cX11_narrow 86 = .ok (.iload_n 1, 1) := by decide +kernel
theorem dX11_narrow_87 : decode cX11_narrow 87 = .ok (.sipush 999, 3) := by decide +kernel
theorem dX11_narrow_90 : decode cX11_narrow 90 = .ok (.if_icmp .le 7, 3) := by decide +kernel
theorem dX11_narrow_93 : decode cX11_narrow 93 = .ok (.iconst (-1), 1) := by decide +kernel
theorem dX11_narrow_94 : decode cX11_narrow 94 = .ok (.goto 4, 3) := by decide +kernel
theorem dX11_narrow_97 : decode cX11_narrow 97 = .ok (.iload_n 1, 1) := by decide +kernel
theorem dX11_narrow_98 : decode cX11_narrow 98 = .ok (.ireturn, 1) := by decide +kernel
theorem dX11_tight_0 : decode cX11_tight 0 = .ok (.aload_n 0, 1) := by decide +kernel
theorem dX11_tight_1 : decode cX11_tight 1 = .ok (.getfield 20, 3) := by decide +kernel
theorem dX11_tight_4 : decode cX11_tight 4 = .ok (.getfield 168, 3) := by decide +kernel
theorem dX11_tight_7 : decode cX11_tight 7 = .ok (.aload_n 0, 1) := by decide +kernel
theorem dX11_tight_8 : decode cX11_tight 8 = .ok (.getfield 77, 3) := by decide +kernel
theorem dX11_tight_11 : decode cX11_tight 11 = .ok (.invokevirtual 172, 3) := by decide +kernel
theorem dX11_tight_14 : decode cX11_tight 14 = .ok (.aload_n 0, 1) := by decide +kernel
theorem dX11_tight_15 : decode cX11_tight 15 = .ok (.getfield 20, 3) := by decide +kernel
theorem dX11_tight_18 : decode cX11_tight 18 = .ok (.getfield 168, 3) := by decide +kernel
theorem dX11_tight_21 : decode cX11_tight 21 = .ok (.getfield 292, 3) := by decide +kernel
theorem dX11_tight_24 : decode cX11_tight 24 = .ok (.istore_n 1, 1) := by decide +kernel
theorem dX11_tight_25 : decode cX11_tight 25 = .ok (.iconst 1, 1) := by decide +kernel
theorem dX11_tight_26 : decode cX11_tight 26 = .ok (.istore_n 2, 1) := by decide +kernel
theorem dX11_tight_27 : decode cX11_tight 27 = .ok (.iconst 0, 1) := by decide +kernel
theorem dX11_tight_28 : decode cX11_tight 28 = .ok (.istore_n 3, 1) := by decide +kernel
theorem dX11_tight_29 : decode cX11_tight 29 = .ok (.iload_n 3, 1) := by decide +kernel
theorem dX11_tight_30 : decode cX11_tight 30 = .ok (.aload_n 0, 1) := by decide +kernel
theorem dX11_tight_31 : decode cX11_tight 31 = .ok (.getfield 77, 3) := by decide +kernel
theorem dX11_tight_34 : decode cX11_tight 34 = .ok (.getfield 145, 3) := by decide +kernel
theorem dX11_tight_37 : decode cX11_tight 37 = .ok (.if_icmp .ge 89, 3) := by decide +kernel
theorem dX11_tight_40 : decode cX11_tight 40 = .ok (.iconst 0, 1) := by decide +kernel
theorem dX11_tight_41 : decode cX11_tight 41 = .ok (.istore 4, 2) := by decide +kernel
theorem dX11_tight_43 : decode cX11_tight 43 = .ok (.iload 4, 2) := by decide +kernel
theorem dX11_tight_45 : decode cX11_tight 45 = .ok (.aload_n 0, 1) := by decide +kernel
theorem dX11_tight_46 : decode cX11_tight 46 = .ok (.getfield 77, 3) := by decide +kernel
theorem dX11_tight_49 : decode cX11_tight 49 = .ok (.getfield 145, 3) := by decide +kernel
theorem dX11_tight_52 : decode cX11_tight 52 = .ok (.if_icmp .ge 68, 3) := by decide +kernel
theorem dX11_tight_55 : decode cX11_tight 55 = .ok (.iload_n 3, 1) := by decide +kernel
theorem dX11_tight_56 : decode cX11_tight 56 = .ok (.iload 4, 2) := by decide +kernel
theorem dX11_tight_58 : decode cX11_tight 58 = .ok (.if_icmp .eq 56, 3) := by decide +kernel
theorem dX11_tight_61 : decode cX11_tight 61 = .ok (.iload_n 1, 1) := by decide +kernel
theorem dX11_tight_62 : decode cX11_tight 62 = .ok (.iload_n 3, 1) := by decide +kernel
theorem dX11_tight_63 : decode cX11_tight 63 = .ok (.invokestatic 212, 3) := by decide +kernel
theorem dX11_tight_66 : decode cX11_tight 66 = .ok (.ifCond .eq 48, 3) := by decide +kernel
theorem dX11_tight_69 : decode cX11_tight 69 = .ok (.iload_n 1, 1) := by decide +kernel
theorem dX11_tight_70 : decode cX11_tight 70 = .ok (.iload 4, 2) := by decide +kernel
theorem dX11_tight_72 : decode cX11_tight 72 = .ok (.invokestatic 212, 3) := by decide +kernel
theorem dX11_tight_75 : decode cX11_tight 75 = .ok (.ifCond .eq 39, 3) := by decide +kernel
theorem dX11_tight_78 : decode cX11_tight 78 = .ok (.iload_n 2, 1) := by decide +kernel
theorem dX11_tight_79 : decode cX11_tight 79 = .ok (.aload_n 0, 1) := by decide +kernel
theorem dX11_tight_80 : decode cX11_tight 80 = .ok (.getfield 20, 3) := by decide +kernel
theorem dX11_tight_83 : decode cX11_tight 83 = .ok (.getfield 168, 3) := by decide +kernel
theorem dX11_tight_86 : decode cX11_tight 86 = .ok (.getfield 205, 3) := by decide +kernel
theorem dX11_tight_89 : decode cX11_tight 89 = .ok (.iload 4, 2) := by decide +kernel
theorem dX11_tight_91 : decode cX11_tight 91 = .ok (.aaload, 1) := by decide +kernel
theorem dX11_tight_92 : decode cX11_tight 92 = .ok (.iload_n 3, 1) := by decide +kernel
theorem dX11_tight_93 : decode cX11_tight 93 = .ok (.iaload, 1) := by decide +kernel
theorem dX11_tight_94 : decode cX11_tight 94 = .ok (.aload_n 0, 1) := by decide +kernel
theorem dX11_tight_95 : decode cX11_tight 95 = .ok (.getfield 77, 3) := by decide +kernel
theorem dX11_tight_98 : decode cX11_tight 98 = .ok (.getfield 158, 3) := by decide +kernel
theorem dX11_tight_101 : decode cX11_tight 101 = .ok (.iload_n 3, 1) := by decide +kernel
theorem dX11_tight_102 : decode cX11_tight 102 = .ok (.aaload, 1) := by decide +kernel
theorem dX11_tight_103 : decode cX11_tight 103 = .ok (.getfield 253, 3) := by decide +kernel
theorem dX11_tight_106 : decode cX11_tight 106 = .ok (.isub, 1) := by decide +kernel
theorem dX11_tight_107 : decode cX11_tight 107 = .ok (.invokestatic 289, 3) := by decide +kernel
theorem dX11_tight_110 : decode cX11_tight 110 = .ok (.invokestatic 283, 3) := by decide +kernel
theorem dX11_tight_113 : decode cX11_tight 113 = .ok (.istore_n 2, 1) := by decide +kernel
theorem dX11_tight_114 : decode cX11_tight 114 = .ok (.iinc 4 1, 3) := by decide +kernel
theorem dX11_tight_117 : decode cX11_tight 117 = .ok (.goto (-74), 3) := by decide +kernel
theorem dX11_tight_120 : decode cX11_tight 120 = .ok (.iinc 3 1, 3) := by decide +kernel
theorem dX11_tight_123 : decode cX11_tight 123 = .ok (.goto (-94), 3) := by decide +kernel
theorem dX11_tight_126 : decode cX11_tight 126 = .ok (.iload_n 2, 1) := by decide +kernel
theorem dX11_tight_127 : decode cX11_tight 127 = .ok (.sipush 999, 3) := by decide +kernel
theorem dX11_tight_130 : decode cX11_tight 130 = .ok (.if_icmp .le 7, 3) := by decide +kernel
theorem dX11_tight_133 : decode cX11_tight 133 = .ok (.iconst (-1), 1) := by decide +kernel
theorem dX11_tight_134 : decode cX11_tight 134 = .ok (.goto 4, 3) := by decide +kernel
theorem dX11_tight_137 : decode cX11_tight 137 = .ok (.iload_n 2, 1) := by decide +kernel
theorem dX11_tight_138 : decode cX11_tight 138 = .ok (.ireturn, 1) := by decide +kernel
theorem dX11_spare_0 : decode cX11_spare 0 = .ok (.aload_n 0, 1) := by decide +kernel
theorem dX11_spare_1 : decode cX11_spare 1 = .ok (.getfield 20, 3) := by decide +kernel
theorem dX11_spare_4 : decode cX11_spare 4 = .ok (.getfield 168, 3) := by decide +kernel
theorem dX11_spare_7 : decode cX11_spare 7 = .ok (.aload_n 0, 1) := by decide +kernel
theorem dX11_spare_8 : decode cX11_spare 8 = .ok (.getfield 77, 3) := by decide +kernel
theorem dX11_spare_11 : decode cX11_spare 11 = .ok (.invokevirtual 172, 3) := by decide +kernel
theorem dX11_spare_14 : decode cX11_spare 14 = .ok (.aload_n 0, 1) := by decide +kernel
theorem dX11_spare_15 : decode cX11_spare 15 = .ok (.getfield 27, 3) := by decide +kernel
theorem dX11_spare_18 : decode cX11_spare 18 = .ok (.aload_n 0, 1) := by decide +kernel
theorem dX11_spare_19 : decode cX11_spare 19 = .ok (.getfield 20, 3) := by decide +kernel
theorem dX11_spare_22 : decode cX11_spare 22 = .ok (.getfield 168, 3) := by decide +kernel
theorem dX11_spare_25 : decode cX11_spare 25 = .ok (.invokevirtual 190, 3) := by decide +kernel
theorem dX11_spare_28 : decode cX11_spare 28 = .ok (.aload_n 0, 1) := by decide +kernel
theorem dX11_spare_29 : decode cX11_spare 29 = .ok (.getfield 27, 3) := by decide +kernel
theorem dX11_spare_32 : decode cX11_spare 32 = .ok (.invokevirtual 295, 3) := by decide +kernel
theorem dX11_spare_35 : decode cX11_spare 35 = .ok (.ireturn, 1) := by decide +kernel
theorem dX11_order_0 : decode cX11_order 0 = .ok (.iload_n 1, 1) := by decide +kernel
theorem dX11_order_1 : decode cX11_order 1 = .ok (.iconst (-1), 1) := by decide +kernel
theorem dX11_order_2 : decode cX11_order 2 = .ok (.if_icmp .ne 13, 3) := by decide +kernel
theorem dX11_order_5 : decode cX11_order 5 = .ok (.aload_n 0, 1) := by decide +kernel
theorem dX11_order_6 : decode cX11_order 6 = .ok (.getfield 77, 3) := by decide +kernel
theorem dX11_order_9 : decode cX11_order 9 = .ok (.invokevirtual 266, 3) := by decide +kernel
theorem dX11_order_12 : decode cX11_order 12 = .ok (.goto 15, 3) := by decide +kernel
theorem dX11_order_15 : decode cX11_order 15 = .ok (.aload_n 0, 1) := by decide +kernel
theorem dX11_order_16 : decode cX11_order 16 = .ok (.getfield 27, 3) := by decide +kernel
theorem dX11_order_19 : decode cX11_order 19 = .ok (.aload_n 0, 1) := by decide +kernel
theorem dX11_order_20 : decode cX11_order 20 = .ok (.getfield 77, 3) := by decide +kernel
theorem dX11_order_23 : decode cX11_order 23 = .ok (.iload_n 1, 1) := by decide +kernel
theorem dX11_order_24 : decode cX11_order 24 = .ok (.invokevirtual 298, 3) := by decide +kernel
theorem dX11_order_27 : decode cX11_order 27 = .ok (.ireturn, 1) := by decide +kernel
theorem dX11_courseRows_0 : decode cX11_courseRows 0 = .ok (.aload_n 0, 1) := by decide +kernel
theorem dX11_courseRows_1 : decode cX11_courseRows 1 = .ok (.invokevirtual 101, 3) := by decide +kernel
theorem dX11_courseRows_4 : decode cX11_courseRows 4 = .ok (.istore_n 1, 1) := by decide +kernel
theorem dX11_courseRows_5 : decode cX11_courseRows 5 = .ok (.iload_n 1, 1) := by decide +kernel
theorem dX11_courseRows_6 : decode cX11_courseRows 6 = .ok (.bipush 40, 2) := by decide +kernel
theorem dX11_courseRows_8 : decode cX11_courseRows 8 = .ok (.if_icmp .gt 9, 3) := by decide +kernel
theorem dX11_courseRows_11 : decode cX11_courseRows 11 = .ok (.iload_n 1, 1) := by decide +kernel
theorem dX11_courseRows_12 : decode cX11_courseRows 12 = .ok (.iconst 2, 1) := by decide +kernel
theorem dX11_courseRows_13 : decode cX11_courseRows 13 = .ok (.irem, 1) := by decide +kernel
theorem dX11_courseRows_14 : decode cX11_courseRows 14 = .ok (.ifCond .eq 5, 3) := by decide +kernel
theorem dX11_courseRows_17 : decode cX11_courseRows 17 = .ok (.iconst (-1), 1) := by decide +kernel
theorem dX11_courseRows_18 : decode cX11_courseRows 18 = .ok (.ireturn, 1) := by decide +kernel
theorem dX11_courseRows_19 : decode cX11_courseRows 19 = .ok (.iconst 0, 1) := by decide +kernel
theorem dX11_courseRows_20 : decode cX11_courseRows 20 = .ok (.istore_n 2, 1) := by decide +kernel
theorem dX11_courseRows_21 : decode cX11_courseRows 21 = .ok (.iload_n 2, 1) := by decide +kernel
theorem dX11_courseRows_22 : decode cX11_courseRows 22 = .ok (.iload_n 1, 1) := by decide +kernel
theorem dX11_courseRows_23 : decode cX11_courseRows 23 = .ok (.if_icmp .ge 22, 3) := by decide +kernel
theorem dX11_courseRows_26 : decode cX11_courseRows 26 = .ok (.aload_n 0, 1) := by decide +kernel
theorem dX11_courseRows_27 : decode cX11_courseRows 27 = .ok (.getfield 9, 3) := by decide +kernel
theorem dX11_courseRows_30 : decode cX11_courseRows 30 = .ok (.iload_n 2, 1) := by decide +kernel
theorem dX11_courseRows_31 : decode cX11_courseRows 31 = .ok (.iaload, 1) := by decide +kernel
theorem dX11_courseRows_32 : decode cX11_courseRows 32 = .ok (.bipush 99, 2) := by decide +kernel
theorem dX11_courseRows_34 : decode cX11_courseRows 34 = .ok (.if_icmp .le 5, 3) := by decide +kernel
theorem dX11_courseRows_37 : decode cX11_courseRows 37 = .ok (.iconst (-1), 1) := by decide +kernel
theorem dX11_courseRows_38 : decode cX11_courseRows 38 = .ok (.ireturn, 1) := by decide +kernel
theorem dX11_courseRows_39 : decode cX11_courseRows 39 = .ok (.iinc 2 2, 3) := by decide +kernel
theorem dX11_courseRows_42 : decode cX11_courseRows 42 = .ok (.goto (-21), 3) := by decide +kernel
theorem dX11_courseRows_45 : decode cX11_courseRows 45 = .ok (.iload_n 1, 1) := by decide +kernel
theorem dX11_courseRows_46 : decode cX11_courseRows 46 = .ok (.iconst 2, 1) := by decide +kernel
theorem dX11_courseRows_47 : decode cX11_courseRows 47 = .ok (.idiv, 1) := by decide +kernel
theorem dX11_courseRows_48 : decode cX11_courseRows 48 = .ok (.ireturn, 1) := by decide +kernel
theorem dX11_read_0 : decode cX11_read 0 = .ok (.aload_n 0, 1) := by decide +kernel
theorem dX11_read_1 : decode cX11_read 1 = .ok (.invokevirtual 302, 3) := by decide +kernel
theorem dX11_read_4 : decode cX11_read 4 = .ok (.istore_n 2, 1) := by decide +kernel
theorem dX11_read_5 : decode cX11_read 5 = .ok (.iload_n 2, 1) := by decide +kernel
theorem dX11_read_6 : decode cX11_read 6 = .ok (.iconst (-1), 1) := by decide +kernel
theorem dX11_read_7 : decode cX11_read 7 = .ok (.if_icmp .ne 11, 3) := by decide +kernel
theorem dX11_read_10 : decode cX11_read 10 = .ok (.new 119, 3) := by decide +kernel
theorem dX11_read_13 : decode cX11_read 13 = .ok (.dup, 1) := by decide +kernel
theorem dX11_read_14 : decode cX11_read 14 = .ok (.invokespecial 121, 3) := by decide +kernel
theorem dX11_read_17 : decode cX11_read 17 = .ok (.athrow, 1) := by decide +kernel
theorem dX11_read_18 : decode cX11_read 18 = .ok (.aload_n 0, 1) := by decide +kernel
theorem dX11_read_19 : decode cX11_read 19 = .ok (.getfield 34, 3) := by decide +kernel
theorem dX11_read_22 : decode cX11_read 22 = .ok (.aload_n 0, 1) := by decide +kernel
theorem dX11_read_23 : decode cX11_read 23 = .ok (.getfield 9, 3) := by decide +kernel
theorem dX11_read_26 : decode cX11_read 26 = .ok (.iload_n 2, 1) := by decide +kernel
theorem dX11_read_27 : decode cX11_read 27 = .ok (.invokevirtual 305, 3) := by decide +kernel
theorem dX11_read_30 : decode cX11_read 30 = .ok (.iload_n 1, 1) := by decide +kernel
theorem dX11_read_31 : decode cX11_read 31 = .ok (.ifCond .eq 13, 3) := by decide +kernel
theorem dX11_read_34 : decode cX11_read 34 = .ok (.aload_n 0, 1) := by decide +kernel
theorem dX11_read_35 : decode cX11_read 35 = .ok (.getfield 34, 3) := by decide +kernel
theorem dX11_read_38 : decode cX11_read 38 = .ok (.invokevirtual 308, 3) := by decide +kernel
theorem dX11_read_41 : decode cX11_read 41 = .ok (.goto 10, 3) := by decide +kernel
theorem dX11_read_44 : decode cX11_read 44 = .ok (.aload_n 0, 1) := by decide +kernel
theorem dX11_read_45 : decode cX11_read 45 = .ok (.getfield 34, 3) := by decide +kernel
theorem dX11_read_48 : decode cX11_read 48 = .ok (.invokevirtual 311, 3) := by decide +kernel
theorem dX11_read_51 : decode cX11_read 51 = .ok (.ireturn, 1) := by decide +kernel
theorem dX11_when_0 : decode cX11_when 0 = .ok (.aload_n 0, 1) := by decide +kernel
theorem dX11_when_1 : decode cX11_when 1 = .ok (.invokevirtual 302, 3) := by decide +kernel
theorem dX11_when_4 : decode cX11_when 4 = .ok (.istore_n 1, 1) := by decide +kernel
theorem dX11_when_5 : decode cX11_when 5 = .ok (.iload_n 1, 1) := by decide +kernel
theorem dX11_when_6 : decode cX11_when 6 = .ok (.iconst (-1), 1) := by decide +kernel
theorem dX11_when_7 : decode cX11_when 7 = .ok (.if_icmp .ne 11, 3) := by decide +kernel
theorem dX11_when_10 : decode cX11_when 10 = .ok (.new 119, 3) := by decide +kernel
theorem dX11_when_13 : decode cX11_when 13 = .ok (.dup, 1) := by decide +kernel
theorem dX11_when_14 : decode cX11_when 14 = .ok (.invokespecial 121, 3) := by decide +kernel
theorem dX11_when_17 : decode cX11_when 17 = .ok (.athrow, 1) := by decide +kernel
theorem dX11_when_18 : decode cX11_when 18 = .ok (.aload_n 0, 1) := by decide +kernel
theorem dX11_when_19 : decode cX11_when 19 = .ok (.getfield 34, 3) := by decide +kernel
theorem dX11_when_22 : decode cX11_when 22 = .ok (.aload_n 0, 1) := by decide +kernel
theorem dX11_when_23 : decode cX11_when 23 = .ok (.getfield 9, 3) := by decide +kernel
theorem dX11_when_26 : decode cX11_when 26 = .ok (.iload_n 1, 1) := by decide +kernel
theorem dX11_when_27 : decode cX11_when 27 = .ok (.invokevirtual 305, 3) := by decide +kernel
theorem dX11_when_30 : decode cX11_when 30 = .ok (.aload_n 0, 1) := by decide +kernel
theorem dX11_when_31 : decode cX11_when 31 = .ok (.getfield 34, 3) := by decide +kernel
theorem dX11_when_34 : decode cX11_when 34 = .ok (.invokevirtual 314, 3) := by decide +kernel
theorem dX11_when_37 : decode cX11_when 37 = .ok (.ireturn, 1) := by decide +kernel
theorem dX11_judgementRows_0 : decode cX11_judgementRows 0 = .ok (.aload_n 0, 1) := by decide +kernel
theorem dX11_judgementRows_1 : decode cX11_judgementRows 1 = .ok (.invokevirtual 101, 3) := by decide +kernel
theorem dX11_judgementRows_4 : decode cX11_judgementRows 4 = .ok (.istore_n 1, 1) := by decide +kernel
theorem dX11_judgementRows_5 : decode cX11_judgementRows 5 = .ok (.iload_n 1, 1) := by decide +kernel
theorem dX11_judgementRows_6 : decode cX11_judgementRows 6 = .ok (.bipush 60, 2) := by decide +kernel
theorem dX11_judgementRows_8 : decode cX11_judgementRows 8 = .ok (.if_icmp .gt 9, 3) := by decide +kernel
theorem dX11_judgementRows_11 : decode cX11_judgementRows 11 = .ok (.iload_n 1, 1) := by decide +kernel
theorem dX11_judgementRows_12 : decode cX11_judgementRows 12 = .ok (.iconst 3, 1) := by decide +kernel
theorem dX11_judgementRows_13 : decode cX11_judgementRows 13 = .ok (.irem, 1) := by decide +kernel
theorem dX11_judgementRows_14 : decode cX11_judgementRows 14 = .ok (.ifCond .eq 5, 3) := by decide +kernel
theorem dX11_judgementRows_17 : decode cX11_judgementRows 17 = .ok (.iconst (-1), 1) := by decide +kernel
theorem dX11_judgementRows_18 : decode cX11_judgementRows 18 = .ok (.ireturn, 1) := by decide +kernel
theorem dX11_judgementRows_19 : decode cX11_judgementRows 19 = .ok (.iconst 0, 1) := by decide +kernel
theorem dX11_judgementRows_20 : decode cX11_judgementRows 20 = .ok (.istore_n 2, 1) := by decide +kernel
theorem dX11_judgementRows_21 : decode cX11_judgementRows 21 = .ok (.iload_n 2, 1) := by decide +kernel
theorem dX11_judgementRows_22 : decode cX11_judgementRows 22 = .ok (.iconst 2, 1) := by decide +kernel
theorem dX11_judgementRows_23 : decode cX11_judgementRows 23 = .ok (.iadd, 1) := by decide +kernel
theorem dX11_judgementRows_24 : decode cX11_judgementRows 24 = .ok (.iload_n 1, 1) := by decide +kernel
theorem dX11_judgementRows_25 : decode cX11_judgementRows 25 = .ok (.if_icmp .ge 74, 3) := by decide +kernel
theorem dX11_judgementRows_28 : decode cX11_judgementRows 28 = .ok (.aload_n 0, 1) := by decide +kernel
theorem dX11_judgementRows_29 : decode cX11_judgementRows 29 = .ok (.getfield 9, 3) := by decide +kernel
theorem dX11_judgementRows_32 : decode cX11_judgementRows 32 = .ok (.iload_n 2, 1) := by decide +kernel
theorem dX11_judgementRows_33 : decode cX11_judgementRows 33 = .ok (.iaload, 1) := by decide +kernel
theorem dX11_judgementRows_34 : decode cX11_judgementRows 34 = .ok (.bipush 8, 2) := by decide +kernel
theorem dX11_judgementRows_36 : decode cX11_judgementRows 36 = .ok (.if_icmp .ge 37, 3) := by decide +kernel
theorem dX11_judgementRows_39 : decode cX11_judgementRows 39 = .ok (.aload_n 0, 1) := by decide +kernel
theorem dX11_judgementRows_40 : decode cX11_judgementRows 40 = .ok (.getfield 9, 3) := by decide +kernel
theorem dX11_judgementRows_43 : decode cX11_judgementRows 43 = .ok (.iload_n 2, 1) := by decide +kernel
theorem dX11_judgementRows_44 : decode cX11_judgementRows 44 = .ok (.iconst 1, 1) := by decide +kernel
theorem dX11_judgementRows_45 : decode cX11_judgementRows 45 = .ok (.iadd, 1) := by decide +kernel
theorem dX11_judgementRows_46 : decode cX11_judgementRows 46 = .ok (.iaload, 1) := by decide +kernel
theorem dX11_judgementRows_47 : decode cX11_judgementRows 47 = .ok (.bipush 8, 2) := by decide +kernel
theorem dX11_judgementRows_49 : decode cX11_judgementRows 49 = .ok (.if_icmp .ge 24, 3) := by decide +kernel
theorem dX11_judgementRows_52 : decode cX11_judgementRows 52 = .ok (.aload_n 0, 1) := by decide +kernel
theorem dX11_judgementRows_53 : decode cX11_judgementRows 53 = .ok (.getfield 9, 3) := by decide +kernel
theorem dX11_judgementRows_56 : decode cX11_judgementRows 56 = .ok (.iload_n 2, 1) := by decide +kernel
theorem dX11_judgementRows_57 : decode cX11_judgementRows 57 = .ok (.iaload, 1) := by decide +kernel
theorem dX11_judgementRows_58 : decode cX11_judgementRows 58 = .ok (.aload_n 0, 1) := by decide +kernel
theorem dX11_judgementRows_59 : decode cX11_judgementRows 59 = .ok (.getfield 9, 3) := by decide +kernel
theorem dX11_judgementRows_62 : decode cX11_judgementRows 62 = .ok (.iload_n 2, 1) := by decide +kernel
theorem dX11_judgementRows_63 : decode cX11_judgementRows 63 = .ok (.iconst 1, 1) := by decide +kernel
theorem dX11_judgementRows_64 : decode cX11_judgementRows 64 = .ok (.iadd, 1) := by decide +kernel
theorem dX11_judgementRows_65 : decode cX11_judgementRows 65 = .ok (.iaload, 1) := by decide +kernel
theorem dX11_judgementRows_66 : decode cX11_judgementRows 66 = .ok (.if_icmp .eq 7, 3) := by decide +kernel
theorem dX11_judgementRows_69 : decode cX11_judgementRows 69 = .ok (.iconst 1, 1) := by decide +kernel
theorem dX11_judgementRows_70 : decode cX11_judgementRows 70 = .ok (.goto 4, 3) := by decide +kernel
theorem dX11_judgementRows_73 : decode cX11_judgementRows 73 = .ok (.iconst 0, 1) := by decide +kernel
theorem dX11_judgementRows_74 : decode cX11_judgementRows 74 = .ok (.istore_n 3, 1) := by decide +kernel
theorem dX11_judgementRows_75 : decode cX11_judgementRows 75 = .ok (.iload_n 3, 1) := by decide +kernel
theorem dX11_judgementRows_76 : decode cX11_judgementRows 76 = .ok (.ifCond .eq 15, 3) := by decide +kernel
theorem dX11_judgementRows_79 : decode cX11_judgementRows 79 = .ok (.aload_n 0, 1) := by decide +kernel
theorem dX11_judgementRows_80 : decode cX11_judgementRows 80 = .ok (.getfield 9, 3) := by decide +kernel
theorem dX11_judgementRows_83 : decode cX11_judgementRows 83 = .ok (.iload_n 2, 1) := by decide +kernel
theorem dX11_judgementRows_84 : decode cX11_judgementRows 84 = .ok (.iconst 2, 1) := by decide +kernel
theorem dX11_judgementRows_85 : decode cX11_judgementRows 85 = .ok (.iadd, 1) := by decide +kernel
theorem dX11_judgementRows_86 : decode cX11_judgementRows 86 = .ok (.iaload, 1) := by decide +kernel
theorem dX11_judgementRows_87 : decode cX11_judgementRows 87 = .ok (.iconst 1, 1) := by decide +kernel
theorem dX11_judgementRows_88 : decode cX11_judgementRows 88 = .ok (.if_icmp .le 5, 3) := by decide +kernel
theorem dX11_judgementRows_91 : decode cX11_judgementRows 91 = .ok (.iconst (-1), 1) := by decide +kernel
theorem dX11_judgementRows_92 : decode cX11_judgementRows 92 = .ok (.ireturn, 1) := by decide +kernel
theorem dX11_judgementRows_93 : decode cX11_judgementRows 93 = .ok (.iinc 2 3, 3) := by decide +kernel
theorem dX11_judgementRows_96 : decode cX11_judgementRows 96 = .ok (.goto (-75), 3) := by decide +kernel
theorem dX11_judgementRows_99 : decode cX11_judgementRows 99 = .ok (.iload_n 1, 1) := by decide +kernel
theorem dX11_judgementRows_100 : decode cX11_judgementRows 100 = .ok (.iconst 3, 1) := by decide +kernel
theorem dX11_judgementRows_101 : decode cX11_judgementRows 101 = .ok (.idiv, 1) := by decide +kernel
theorem dX11_judgementRows_102 : decode cX11_judgementRows 102 = .ok (.ireturn, 1) := by decide +kernel
theorem dX11_blame_0 : decode cX11_blame 0 = .ok (.aload_n 0, 1) := by decide +kernel
theorem dX11_blame_1 : decode cX11_blame 1 = .ok (.invokevirtual 317, 3) := by decide +kernel
theorem dX11_blame_4 : decode cX11_blame 4 = .ok (.istore_n 1, 1) := by decide +kernel
theorem dX11_blame_5 : decode cX11_blame 5 = .ok (.iload_n 1, 1) := by decide +kernel
theorem dX11_blame_6 : decode cX11_blame 6 = .ok (.iconst (-1), 1) := by decide +kernel
theorem dX11_blame_7 : decode cX11_blame 7 = .ok (.if_icmp .ne 11, 3) := by decide +kernel
theorem dX11_blame_10 : decode cX11_blame 10 = .ok (.new 119, 3) := by decide +kernel
theorem dX11_blame_13 : decode cX11_blame 13 = .ok (.dup, 1) := by decide +kernel
theorem dX11_blame_14 : decode cX11_blame 14 = .ok (.invokespecial 121, 3) := by decide +kernel
theorem dX11_blame_17 : decode cX11_blame 17 = .ok (.athrow, 1) := by decide +kernel
theorem dX11_blame_18 : decode cX11_blame 18 = .ok (.aload_n 0, 1) := by decide +kernel
theorem dX11_blame_19 : decode cX11_blame 19 = .ok (.getfield 34, 3) := by decide +kernel
theorem dX11_blame_22 : decode cX11_blame 22 = .ok (.aload_n 0, 1) := by decide +kernel
theorem dX11_blame_23 : decode cX11_blame 23 = .ok (.getfield 9, 3) := by decide +kernel
theorem dX11_blame_26 : decode cX11_blame 26 = .ok (.iload_n 1, 1) := by decide +kernel
theorem dX11_blame_27 : decode cX11_blame 27 = .ok (.invokevirtual 320, 3) := by decide +kernel
theorem dX11_blame_30 : decode cX11_blame 30 = .ok (.aload_n 0, 1) := by decide +kernel
theorem dX11_blame_31 : decode cX11_blame 31 = .ok (.getfield 34, 3) := by decide +kernel
theorem dX11_blame_34 : decode cX11_blame 34 = .ok (.invokevirtual 311, 3) := by decide +kernel
theorem dX11_blame_37 : decode cX11_blame 37 = .ok (.ireturn, 1) := by decide +kernel
theorem dX11_guilty_0 : decode cX11_guilty 0 = .ok (.aload_n 0, 1) := by decide +kernel
theorem dX11_guilty_1 : decode cX11_guilty 1 = .ok (.invokevirtual 317, 3) := by decide +kernel
theorem dX11_guilty_4 : decode cX11_guilty 4 = .ok (.istore_n 1, 1) := by decide +kernel
theorem dX11_guilty_5 : decode cX11_guilty 5 = .ok (.iload_n 1, 1) := by decide +kernel
theorem dX11_guilty_6 : decode cX11_guilty 6 = .ok (.iconst (-1), 1) := by decide +kernel
theorem dX11_guilty_7 : decode cX11_guilty 7 = .ok (.if_icmp .ne 11, 3) := by decide +kernel
theorem dX11_guilty_10 : decode cX11_guilty 10 = .ok (.new 119, 3) := by decide +kernel
theorem dX11_guilty_13 : decode cX11_guilty 13 = .ok (.dup, 1) := by decide +kernel
theorem dX11_guilty_14 : decode cX11_guilty 14 = .ok (.invokespecial 121, 3) := by decide +kernel
theorem dX11_guilty_17 : decode cX11_guilty 17 = .ok (.athrow, 1) := by decide +kernel
theorem dX11_guilty_18 : decode cX11_guilty 18 = .ok (.aload_n 0, 1) := by decide +kernel
theorem dX11_guilty_19 : decode cX11_guilty 19 = .ok (.getfield 34, 3) := by decide +kernel
theorem dX11_guilty_22 : decode cX11_guilty 22 = .ok (.aload_n 0, 1) := by decide +kernel
theorem dX11_guilty_23 : decode cX11_guilty 23 = .ok (.getfield 9, 3) := by decide +kernel
theorem dX11_guilty_26 : decode cX11_guilty 26 = .ok (.iload_n 1, 1) := by decide +kernel
theorem dX11_guilty_27 : decode cX11_guilty 27 = .ok (.invokevirtual 320, 3) := by decide +kernel
theorem dX11_guilty_30 : decode cX11_guilty 30 = .ok (.aload_n 0, 1) := by decide +kernel
theorem dX11_guilty_31 : decode cX11_guilty 31 = .ok (.getfield 34, 3) := by decide +kernel
theorem dX11_guilty_34 : decode cX11_guilty 34 = .ok (.invokevirtual 308, 3) := by decide +kernel
theorem dX11_guilty_37 : decode cX11_guilty 37 = .ok (.ireturn, 1) := by decide +kernel
theorem dX11_probe_0 : decode cX11_probe 0 = .ok (.aload_n 0, 1) := by decide +kernel
theorem dX11_probe_1 : decode cX11_probe 1 = .ok (.invokevirtual 317, 3) := by decide +kernel
theorem dX11_probe_4 : decode cX11_probe 4 = .ok (.istore_n 1, 1) := by decide +kernel
theorem dX11_probe_5 : decode cX11_probe 5 = .ok (.iload_n 1, 1) := by decide +kernel
theorem dX11_probe_6 : decode cX11_probe 6 = .ok (.iconst (-1), 1) := by decide +kernel
theorem dX11_probe_7 : decode cX11_probe 7 = .ok (.if_icmp .ne 11, 3) := by decide +kernel
theorem dX11_probe_10 : decode cX11_probe 10 = .ok (.new 119, 3) := by decide +kernel
theorem dX11_probe_13 : decode cX11_probe 13 = .ok (.dup, 1) := by decide +kernel
theorem dX11_probe_14 : decode cX11_probe 14 = .ok (.invokespecial 121, 3) := by decide +kernel
theorem dX11_probe_17 : decode cX11_probe 17 = .ok (.athrow, 1) := by decide +kernel
theorem dX11_probe_18 : decode cX11_probe 18 = .ok (.aload_n 0, 1) := by decide +kernel
theorem dX11_probe_19 : decode cX11_probe 19 = .ok (.getfield 34, 3) := by decide +kernel
theorem dX11_probe_22 : decode cX11_probe 22 = .ok (.aload_n 0, 1) := by decide +kernel
theorem dX11_probe_23 : decode cX11_probe 23 = .ok (.getfield 9, 3) := by decide +kernel
theorem dX11_probe_26 : decode cX11_probe 26 = .ok (.iload_n 1, 1) := by decide +kernel
theorem dX11_probe_27 : decode cX11_probe 27 = .ok (.invokevirtual 320, 3) := by decide +kernel
theorem dX11_probe_30 : decode cX11_probe 30 = .ok (.aload_n 0, 1) := by decide +kernel
theorem dX11_probe_31 : decode cX11_probe 31 = .ok (.getfield 34, 3) := by decide +kernel
theorem dX11_probe_34 : decode cX11_probe 34 = .ok (.invokevirtual 323, 3) := by decide +kernel
theorem dX11_probe_37 : decode cX11_probe 37 = .ok (.ireturn, 1) := by decide +kernel
theorem dX11_pairs_0 : decode cX11_pairs 0 = .ok (.iload_n 1, 1) := by decide +kernel
theorem dX11_pairs_1 : decode cX11_pairs 1 = .ok (.iconst (-1), 1) := by decide +kernel
theorem dX11_pairs_2 : decode cX11_pairs 2 = .ok (.if_icmp .eq 19, 3) := by decide +kernel
theorem dX11_pairs_5 : decode cX11_pairs 5 = .ok (.aload_n 0, 1) := by decide +kernel
theorem dX11_pairs_6 : decode cX11_pairs 6 = .ok (.iload_n 1, 1) := by decide +kernel
theorem dX11_pairs_7 : decode cX11_pairs 7 = .ok (.invokevirtual 148, 3) := by decide +kernel
theorem dX11_pairs_10 : decode cX11_pairs 10 = .ok (.ifCond .ne 11, 3) := by decide +kernel
theorem dX11_pairs_13 : decode cX11_pairs 13 = .ok (.new 152, 3) := by decide +kernel
theorem dX11_pairs_16 : decode cX11_pairs 16 = .ok (.dup, 1) := by decide +kernel
theorem dX11_pairs_17 : decode cX11_pairs 17 = .ok (.invokespecial 154, 3) := by decide +kernel
theorem dX11_pairs_20 : decode cX11_pairs 20 = .ok (.athrow, 1) := by decide +kernel
theorem dX11_pairs_21 : decode cX11_pairs 21 = .ok (.aload_n 0, 1) := by decide +kernel
theorem dX11_pairs_22 : decode cX11_pairs 22 = .ok (.getfield 20, 3) := by decide +kernel
theorem dX11_pairs_25 : decode cX11_pairs 25 = .ok (.getfield 168, 3) := by decide +kernel
theorem dX11_pairs_28 : decode cX11_pairs 28 = .ok (.aload_n 0, 1) := by decide +kernel
theorem dX11_pairs_29 : decode cX11_pairs 29 = .ok (.getfield 77, 3) := by decide +kernel
theorem dX11_pairs_32 : decode cX11_pairs 32 = .ok (.invokevirtual 172, 3) := by decide +kernel
theorem dX11_pairs_35 : decode cX11_pairs 35 = .ok (.aload_n 0, 1) := by decide +kernel
theorem dX11_pairs_36 : decode cX11_pairs 36 = .ok (.getfield 27, 3) := by decide +kernel
theorem dX11_pairs_39 : decode cX11_pairs 39 = .ok (.aload_n 0, 1) := by decide +kernel
theorem dX11_pairs_40 : decode cX11_pairs 40 = .ok (.getfield 20, 3) := by decide +kernel
theorem dX11_pairs_43 : decode cX11_pairs 43 = .ok (.getfield 168, 3) := by decide +kernel
theorem dX11_pairs_46 : decode cX11_pairs 46 = .ok (.invokevirtual 190, 3) := by decide +kernel
theorem dX11_pairs_49 : decode cX11_pairs 49 = .ok (.aload_n 0, 1) := by decide +kernel
theorem dX11_pairs_50 : decode cX11_pairs 50 = .ok (.getfield 27, 3) := by decide +kernel
theorem dX11_pairs_53 : decode cX11_pairs 53 = .ok (.aload_n 0, 1) := by decide +kernel
theorem dX11_pairs_54 : decode cX11_pairs 54 = .ok (.getfield 77, 3) := by decide +kernel
theorem dX11_pairs_57 : decode cX11_pairs 57 = .ok (.invokevirtual 326, 3) := by decide +kernel
theorem dX11_pairs_60 : decode cX11_pairs 60 = .ok (.iload_n 1, 1) := by decide +kernel
theorem dX11_pairs_61 : decode cX11_pairs 61 = .ok (.iconst (-1), 1) := by decide +kernel
theorem dX11_pairs_62 : decode cX11_pairs 62 = .ok (.if_icmp .ne 13, 3) := by decide +kernel
theorem dX11_pairs_65 : decode cX11_pairs 65 = .ok (.aload_n 0, 1) := by decide +kernel
theorem dX11_pairs_66 : decode cX11_pairs 66 = .ok (.getfield 27, 3) := by decide +kernel
theorem dX11_pairs_69 : decode cX11_pairs 69 = .ok (.invokevirtual 329, 3) := by decide +kernel
theorem dX11_pairs_72 : decode cX11_pairs 72 = .ok (.goto 11, 3) := by decide +kernel
theorem dX11_pairs_75 : decode cX11_pairs 75 = .ok (.aload_n 0, 1) := by decide +kernel
theorem dX11_pairs_76 : decode cX11_pairs 76 = .ok (.getfield 27, 3) := by decide +kernel
theorem dX11_pairs_79 : decode cX11_pairs 79 = .ok (.iload_n 1, 1) := by decide +kernel
theorem dX11_pairs_80 : decode cX11_pairs 80 = .ok (.invokevirtual 332, 3) := by decide +kernel
theorem dX11_pairs_83 : decode cX11_pairs 83 = .ok (.ireturn, 1) := by decide +kernel
theorem dX11_share_0 : decode cX11_share 0 = .ok (.aload_n 0, 1) := by decide +kernel
theorem dX11_share_1 : decode cX11_share 1 = .ok (.iload_n 1, 1) := by decide +kernel
theorem dX11_share_2 : decode cX11_share 2 = .ok (.invokevirtual 148, 3) := by decide +kernel
theorem dX11_share_5 : decode cX11_share 5 = .ok (.ifCond .ne 11, 3) := by decide +kernel
theorem dX11_share_8 : decode cX11_share 8 = .ok (.new 152, 3) := by decide +kernel
theorem dX11_share_11 : decode cX11_share 11 = .ok (.dup, 1) := by decide +kernel
theorem dX11_share_12 : decode cX11_share 12 = .ok (.invokespecial 154, 3) := by decide +kernel
theorem dX11_share_15 : decode cX11_share 15 = .ok (.athrow, 1) := by decide +kernel
theorem dX11_share_16 : decode cX11_share 16 = .ok (.iload_n 2, 1) := by decide +kernel
theorem dX11_share_17 : decode cX11_share 17 = .ok (.ifCond .lt 9, 3) := by decide +kernel
theorem dX11_share_20 : decode cX11_share 20 = .ok (.iload_n 2, 1) := by decide +kernel
theorem dX11_share_21 : decode cX11_share 21 = .ok (.bipush 99, 2) := by decide +kernel
theorem dX11_share_23 : decode cX11_share 23 = .ok (.if_icmp .le 11, 3) := by decide +kernel
theorem dX11_share_26 : decode cX11_share 26 = .ok (.new 119, 3) := by decide +kernel
theorem dX11_share_29 : decode cX11_share 29 = .ok (.dup, 1) := by decide +kernel
theorem dX11_share_30 : decode cX11_share 30 = .ok (.invokespecial 121, 3) := by decide +kernel
theorem dX11_share_33 : decode cX11_share 33 = .ok (.athrow, 1) := by decide +kernel
theorem dX11_share_34 : decode cX11_share 34 = .ok (.iconst 0, 1) := by decide +kernel
theorem dX11_share_35 : decode cX11_share 35 = .ok (.istore_n 3, 1) := by decide +kernel
theorem dX11_share_36 : decode cX11_share 36 = .ok (.iload_n 3, 1) := by decide +kernel
theorem dX11_share_37 : decode cX11_share 37 = .ok (.aload_n 0, 1) := by decide +kernel
theorem dX11_share_38 : decode cX11_share 38 = .ok (.getfield 64, 3) := by decide +kernel
theorem dX11_share_41 : decode cX11_share 41 = .ok (.arraylength, 1) := by decide +kernel
theorem dX11_share_42 : decode cX11_share 42 = .ok (.if_icmp .ge 16, 3) := by decide +kernel
theorem dX11_share_45 : decode cX11_share 45 = .ok (.aload_n 0, 1) := by decide +kernel
theorem dX11_share_46 : decode cX11_share 46 = .ok (.getfield 64, 3) := by decide +kernel
theorem dX11_share_49 : decode cX11_share 49 = .ok (.iload_n 3, 1) := by decide +kernel
theorem dX11_share_50 : decode cX11_share 50 = .ok (.iconst 0, 1) := by decide +kernel
theorem dX11_share_51 : decode cX11_share 51 = .ok (.iastore, 1) := by decide +kernel
theorem dX11_share_52 : decode cX11_share 52 = .ok (.iinc 3 1, 3) := by decide +kernel
theorem dX11_share_55 : decode cX11_share 55 = .ok (.goto (-19), 3) := by decide +kernel
theorem dX11_share_58 : decode cX11_share 58 = .ok (.iconst 0, 1) := by decide +kernel
theorem dX11_share_59 : decode cX11_share 59 = .ok (.istore_n 3, 1) := by decide +kernel
theorem dX11_share_60 : decode cX11_share 60 = .ok (.iload_n 3, 1) := by decide +kernel
theorem dX11_share_61 : decode cX11_share 61 = .ok (.iload_n 2, 1) := by decide +kernel
theorem dX11_share_62 : decode cX11_share 62 = .ok (.if_icmp .ge 22, 3) := by decide +kernel
theorem dX11_share_65 : decode cX11_share 65 = .ok (.aload_n 0, 1) := by decide +kernel
theorem dX11_share_66 : decode cX11_share 66 = .ok (.getfield 64, 3) := by decide +kernel
theorem dX11_share_69 : decode cX11_share 69 = .ok (.aload_n 0, 1) := by decide +kernel
theorem dX11_share_70 : decode cX11_share 70 = .ok (.invokevirtual 335, 3) := by decide +kernel
theorem dX11_share_73 : decode cX11_share 73 = .ok (.dup2, 1) := by decide +kernel
theorem dX11_share_74 : decode cX11_share 74 = .ok (.iaload, 1) := by decide +kernel
theorem dX11_share_75 : decode cX11_share 75 = .ok (.iconst 1, 1) := by decide +kernel
theorem dX11_share_76 : decode cX11_share 76 = .ok (.iadd, 1) := by decide +kernel
theorem dX11_share_77 : decode cX11_share 77 = .ok (.iastore, 1) := by decide +kernel
theorem dX11_share_78 : decode cX11_share 78 = .ok (.iinc 3 1, 3) := by decide +kernel
theorem dX11_share_81 : decode cX11_share 81 = .ok (.goto (-21), 3) := by decide +kernel
theorem dX11_share_84 : decode cX11_share 84 = .ok (.aload_n 0, 1) := by decide +kernel
theorem dX11_share_85 : decode cX11_share 85 = .ok (.getfield 64, 3) := by decide +kernel
theorem dX11_share_88 : decode cX11_share 88 = .ok (.iload_n 1, 1) := by decide +kernel
theorem dX11_share_89 : decode cX11_share 89 = .ok (.iaload, 1) := by decide +kernel
theorem dX11_share_90 : decode cX11_share 90 = .ok (.ireturn, 1) := by decide +kernel
theorem dX11_nextOfShare_0 : decode cX11_nextOfShare 0 = .ok (.iconst 0, 1) := by decide +kernel
theorem dX11_nextOfShare_1 : decode cX11_nextOfShare 1 = .ok (.istore_n 1, 1) := by decide +kernel
theorem dX11_nextOfShare_2 : decode cX11_nextOfShare 2 = .ok (.iconst (-1), 1) := by decide +kernel
theorem dX11_nextOfShare_3 : decode cX11_nextOfShare 3 = .ok (.istore_n 2, 1) := by decide +kernel
theorem dX11_nextOfShare_4 : decode cX11_nextOfShare 4 = .ok (.iconst 0, 1) := by decide +kernel
theorem dX11_nextOfShare_5 : decode cX11_nextOfShare 5 = .ok (.istore_n 3, 1) := by decide +kernel
theorem dX11_nextOfShare_6 : decode cX11_nextOfShare 6 = .ok (.iload_n 3, 1) := by decide +kernel
theorem dX11_nextOfShare_7 : decode cX11_nextOfShare 7 = .ok (.aload_n 0, 1) := by decide +kernel
theorem dX11_nextOfShare_8 : decode cX11_nextOfShare 8 = .ok (.getfield 77, 3) := by decide +kernel
theorem dX11_nextOfShare_11 : decode cX11_nextOfShare 11 = .ok (.getfield 145, 3) := by decide +kernel
theorem dX11_nextOfShare_14 : decode cX11_nextOfShare 14 = .ok (.if_icmp .ge 50, 3) := by decide +kernel
theorem dX11_nextOfShare_17 : decode cX11_nextOfShare 17 = .ok (.bipush 100, 2) := by decide +kernel
theorem dX11_nextOfShare_19 : decode cX11_nextOfShare 19 = .ok (.aload_n 0, 1) := by decide +kernel
theorem dX11_nextOfShare_20 : decode cX11_nextOfShare 20 = .ok (.getfield 77, 3) := by decide +kernel
theorem dX11_nextOfShare_23 : decode cX11_nextOfShare 23 = .ok (.getfield 158, 3) := by decide +kernel
theorem dX11_nextOfShare_26 : decode cX11_nextOfShare 26 = .ok (.iload_n 3, 1) := by decide +kernel
theorem dX11_nextOfShare_27 : decode cX11_nextOfShare 27 = .ok (.aaload, 1) := by decide +kernel
theorem dX11_nextOfShare_28 : decode cX11_nextOfShare 28 = .ok (.getfield 338, 3) := by decide +kernel
theorem dX11_nextOfShare_31 : decode cX11_nextOfShare 31 = .ok (.isub, 1) := by decide +kernel
theorem dX11_nextOfShare_32 : decode cX11_nextOfShare 32 = .ok (.iconst 0, 1) := by decide +kernel
theorem dX11_nextOfShare_33 : decode cX11_nextOfShare 33 = .ok (.aload_n 0, 1) := by decide +kernel
theorem dX11_nextOfShare_34 : decode cX11_nextOfShare 34 = .ok (.getfield 64, 3) := by decide +kernel
theorem dX11_nextOfShare_37 : decode cX11_nextOfShare 37 = .ok (.iload_n 3, 1) := by decide +kernel
theorem dX11_nextOfShare_38 : decode cX11_nextOfShare 38 = .ok (.iaload, 1) := by decide +kernel
theorem dX11_nextOfShare_39 : decode cX11_nextOfShare 39 = .ok (.invokestatic 283, 3) := by decide +kernel
theorem dX11_nextOfShare_42 : decode cX11_nextOfShare 42 = .ok (.iconst 1, 1) := by decide +kernel
theorem dX11_nextOfShare_43 : decode cX11_nextOfShare 43 = .ok (.iadd, 1) := by decide +kernel
theorem dX11_nextOfShare_44 : decode cX11_nextOfShare 44 = .ok (.idiv, 1) := by decide +kernel
theorem dX11_nextOfShare_45 : decode cX11_nextOfShare 45 = .ok (.istore 4, 2) := by decide +kernel
theorem dX11_nextOfShare_47 : decode cX11_nextOfShare 47 = .ok (.iload 4, 2) := by decide +kernel
theorem dX11_nextOfShare_49 : decode cX11_nextOfShare 49 = .ok (.iload_n 2, 1) := by decide +kernel
theorem dX11_nextOfShare_50 : decode cX11_nextOfShare 50 = .ok (.if_icmp .le 8, 3) := by decide +kernel
theorem dX11_nextOfShare_53 : decode cX11_nextOfShare 53 = .ok (.iload 4, 2) := by decide +kernel
theorem dX11_nextOfShare_55 : decode cX11_nextOfShare 55 = .ok (.istore_n 2, 1) := by decide +kernel
theorem dX11_nextOfShare_56 : decode cX11_nextOfShare 56 = .ok (.iload_n 3, 1) := by decide +kernel
theorem dX11_nextOfShare_57 : decode cX11_nextOfShare 57 = .ok (.istore_n 1, 1) := by decide +kernel
theorem dX11_nextOfShare_58 : decode cX11_nextOfShare 58 = .ok (.iinc 3 1, 3) := by decide +kernel
theorem dX11_nextOfShare_61 : decode cX11_nextOfShare 61 = .ok (.goto (-55), 3) := by decide +kernel
theorem dX11_nextOfShare_64 : decode cX11_nextOfShare 64 = .ok (.iload_n 1, 1) := by decide +kernel
theorem dX11_nextOfShare_65 : decode cX11_nextOfShare 65 = .ok (.ireturn, 1) := by decide +kernel
theorem dX11_rests_0 : decode cX11_rests 0 = .ok (.aload_n 0, 1) := by decide +kernel
theorem dX11_rests_1 : decode cX11_rests 1 = .ok (.iload_n 1, 1) := by decide +kernel
theorem dX11_rests_2 : decode cX11_rests 2 = .ok (.invokevirtual 148, 3) := by decide +kernel
theorem dX11_rests_5 : decode cX11_rests 5 = .ok (.ifCond .ne 11, 3) := by decide +kernel
theorem dX11_rests_8 : decode cX11_rests 8 = .ok (.new 152, 3) := by decide +kernel
theorem dX11_rests_11 : decode cX11_rests 11 = .ok (.dup, 1) := by decide +kernel
theorem dX11_rests_12 : decode cX11_rests 12 = .ok (.invokespecial 154, 3) := by decide +kernel
theorem dX11_rests_15 : decode cX11_rests 15 = .ok (.athrow, 1) := by decide +kernel
theorem dX11_rests_16 : decode cX11_rests 16 = .ok (.iconst 0, 1) := by decide +kernel
theorem dX11_rests_17 : decode cX11_rests 17 = .ok (.istore_n 2, 1) := by decide +kernel
theorem dX11_rests_18 : decode cX11_rests 18 = .ok (.iconst 0, 1) := by decide +kernel
theorem dX11_rests_19 : decode cX11_rests 19 = .ok (.istore_n 3, 1) := by decide +kernel
theorem dX11_rests_20 : decode cX11_rests 20 = .ok (.iload_n 3, 1) := by decide +kernel
theorem dX11_rests_21 : decode cX11_rests 21 = .ok (.iconst 2, 1) := by decide +kernel
theorem dX11_rests_22 : decode cX11_rests 22 = .ok (.if_icmp .ge 86, 3) := by decide +kernel
theorem dX11_rests_25 : decode cX11_rests 25 = .ok (.iconst 0, 1) := by decide +kernel
theorem dX11_rests_26 : decode cX11_rests 26 = .ok (.istore 4, 2) := by decide +kernel
theorem dX11_rests_28 : decode cX11_rests 28 = .ok (.iload 4, 2) := by decide +kernel
theorem dX11_rests_30 : decode cX11_rests 30 = .ok (.iconst 2, 1) := by decide +kernel
theorem dX11_rests_31 : decode cX11_rests 31 = .ok (.if_icmp .ge 71, 3) := by decide +kernel
theorem dX11_rests_34 : decode cX11_rests 34 = .ok (.aload_n 0, 1) := by decide +kernel
theorem dX11_rests_35 : decode cX11_rests 35 = .ok (.iload_n 1, 1) := by decide +kernel
theorem dX11_rests_36 : decode cX11_rests 36 = .ok (.iload_n 3, 1) := by decide +kernel
theorem dX11_rests_37 : decode cX11_rests 37 = .ok (.iload 4, 2) := by decide +kernel
theorem dX11_rests_39 : decode cX11_rests 39 = .ok (.invokevirtual 341, 3) := by decide +kernel
theorem dX11_rests_42 : decode cX11_rests 42 = .ok (.aload_n 0, 1) := by decide +kernel
theorem dX11_rests_43 : decode cX11_rests 43 = .ok (.iload_n 1, 1) := by decide +kernel
theorem dX11_rests_44 : decode cX11_rests 44 = .ok (.iconst 1, 1) := by decide +kernel
theorem dX11_rests_45 : decode cX11_rests 45 = .ok (.iload_n 3, 1) := by decide +kernel
theorem dX11_rests_46 : decode cX11_rests 46 = .ok (.isub, 1) := by decide +kernel
theorem dX11_rests_47 : decode cX11_rests 47 = .ok (.iload 4, 2) := by decide +kernel
theorem dX11_rests_49 : decode cX11_rests 49 = .ok (.invokevirtual 341, 3) := by decide +kernel
theorem dX11_rests_52 : decode cX11_rests 52 = .ok (.if_icmp .lt 24, 3) := by decide +kernel
theorem dX11_rests_55 : decode cX11_rests 55 = .ok (.iload_n 3, 1) := by decide +kernel
theorem dX11_rests_56 : decode cX11_rests 56 = .ok (.iload 4, 2) := by decide +kernel
theorem dX11_rests_58 : decode cX11_rests 58 = .ok (.invokestatic 345, 3) := by decide +kernel
theorem dX11_rests_61 : decode cX11_rests 61 = .ok (.iload_n 3, 1) := by decide +kernel
theorem dX11_rests_62 : decode cX11_rests 62 = .ok (.iconst 1, 1) := by decide +kernel
theorem dX11_rests_63 : decode cX11_rests 63 = .ok (.iload 4, 2) := by decide +kernel
theorem dX11_rests_65 : decode cX11_rests 65 = .ok (.isub, 1) := by decide +kernel
theorem dX11_rests_66 : decode cX11_rests 66 = .ok (.invokestatic 345, 3) := by decide +kernel
theorem dX11_rests_69 : decode cX11_rests 69 = .ok (.if_icmp .lt 7, 3) := by decide +kernel
theorem dX11_rests_72 : decode cX11_rests 72 = .ok (.iconst 1, 1) := by decide +kernel
theorem dX11_rests_73 : decode cX11_rests 73 = .ok (.goto 4, 3) := by decide +kernel
theorem dX11_rests_76 : decode cX11_rests 76 = .ok (.iconst 0, 1) := by decide +kernel
theorem dX11_rests_77 : decode cX11_rests 77 = .ok (.istore 5, 2) := by decide +kernel
theorem dX11_rests_79 : decode cX11_rests 79 = .ok (.iload 5, 2) := by decide +kernel
theorem dX11_rests_81 : decode cX11_rests 81 = .ok (.ifCond .eq 15, 3) := by decide +kernel
theorem dX11_rests_84 : decode cX11_rests 84 = .ok (.iload_n 2, 1) := by decide +kernel
theorem dX11_rests_85 : decode cX11_rests 85 = .ok (.iconst 2, 1) := by decide +kernel
theorem dX11_rests_86 : decode cX11_rests 86 = .ok (.iload_n 3, 1) := by decide +kernel
theorem dX11_rests_87 : decode cX11_rests 87 = .ok (.imul, 1) := by decide +kernel
theorem dX11_rests_88 : decode cX11_rests 88 = .ok (.iload 4, 2) := by decide +kernel
theorem dX11_rests_90 : decode cX11_rests 90 = .ok (.iadd, 1) := by decide +kernel
theorem dX11_rests_91 : decode cX11_rests 91 = .ok (.invokestatic 348, 3) := by decide +kernel
theorem dX11_rests_94 : decode cX11_rests 94 = .ok (.ior, 1) := by decide +kernel
theorem dX11_rests_95 : decode cX11_rests 95 = .ok (.istore_n 2, 1) := by decide +kernel
theorem dX11_rests_96 : decode cX11_rests 96 = .ok (.iinc 4 1, 3) := by decide +kernel
theorem dX11_rests_99 : decode cX11_rests 99 = .ok (.goto (-71), 3) := by decide +kernel
theorem dX11_rests_102 : decode cX11_rests 102 = .ok (.iinc 3 1, 3) := by decide +kernel
theorem dX11_rests_105 : decode cX11_rests 105 = .ok (.goto (-85), 3) := by decide +kernel
theorem dX11_rests_108 : decode cX11_rests 108 = .ok (.iload_n 2, 1) := by decide +kernel
theorem dX11_rests_109 : decode cX11_rests 109 = .ok (.ireturn, 1) := by decide +kernel
theorem dX11_guardianHas_0 : decode cX11_guardianHas 0 = .ok (.aload_n 0, 1) := by decide +kernel
theorem dX11_guardianHas_1 : decode cX11_guardianHas 1 = .ok (.iload_n 1, 1) := by decide +kernel
theorem dX11_guardianHas_2 : decode cX11_guardianHas 2 = .ok (.invokevirtual 148, 3) := by decide +kernel
theorem dX11_guardianHas_5 : decode cX11_guardianHas 5 = .ok (.ifCond .ne 5, 3) := by decide +kernel
theorem dX11_guardianHas_8 : decode cX11_guardianHas 8 = .ok (.iconst 0, 1) := by decide +kernel
theorem dX11_guardianHas_9 : decode cX11_guardianHas 9 = .ok (.ireturn, 1) := by decide +kernel
theorem dX11_guardianHas_10 : decode cX11_guardianHas 10 = .ok (.aload_n 0, 1) := by decide +kernel
theorem dX11_guardianHas_11 : decode cX11_guardianHas 11 = .ok (.getfield 77, 3) := by decide +kernel
theorem dX11_guardianHas_14 : decode cX11_guardianHas 14 = .ok (.getfield 158, 3) := by decide +kernel
theorem dX11_guardianHas_17 : decode cX11_guardianHas 17 = .ok (.iload_n 1, 1) := by decide +kernel
theorem dX11_guardianHas_18 : decode cX11_guardianHas 18 = .ok (.aaload, 1) := by decide +kernel
theorem dX11_guardianHas_19 : decode cX11_guardianHas 19 = .ok (.astore 4, 2) := by decide +kernel
theorem dX11_guardianHas_21 : decode cX11_guardianHas 21 = .ok (.iload_n 2, 1) := by decide +kernel
theorem dX11_guardianHas_22 : decode cX11_guardianHas 22 = .ok (.ifCond .ne 22, 3) := by decide +kernel
theorem dX11_guardianHas_25 : decode cX11_guardianHas 25 = .ok (.iload_n 3, 1) := by decide +kernel
theorem dX11_guardianHas_26 : decode cX11_guardianHas 26 = .ok (.ifCond .ne 11, 3) := by decide +kernel
theorem dX11_guardianHas_29 : decode cX11_guardianHas 29 = .ok (.aload 4, 2) := by decide +kernel
theorem dX11_guardianHas_31 : decode cX11_guardianHas 31 = .ok (.getfield 238, 3) := by decide +kernel
theorem dX11_guardianHas_34 : decode cX11_guardianHas 34 = .ok (.goto 9, 3) := by decide +kernel
theorem dX11_guardianHas_37 : decode cX11_guardianHas 37 = .ok (.aload 4, 2) := by decide +kernel
theorem dX11_guardianHas_39 : decode cX11_guardianHas 39 = .ok (.getfield 238, 3) := by decide +kernel
theorem dX11_guardianHas_42 : decode cX11_guardianHas 42 = .ok (.ineg, 1) := by decide +kernel
theorem dX11_guardianHas_43 : decode cX11_guardianHas 43 = .ok (.ireturn, 1) := by decide +kernel
theorem dX11_guardianHas_44 : decode cX11_guardianHas 44 = .ok (.iload_n 3, 1) := by decide +kernel
theorem dX11_guardianHas_45 : decode cX11_guardianHas 45 = .ok (.ifCond .ne 14, 3) := by decide +kernel
theorem dX11_guardianHas_48 : decode cX11_guardianHas 48 = .ok (.aload 4, 2) := by decide +kernel
theorem dX11_guardianHas_50 : decode cX11_guardianHas 50 = .ok (.getfield 241, 3) := by decide +kernel
theorem dX11_guardianHas_53 : decode cX11_guardianHas 53 = .ok (.ineg, 1) := by decide +kernel
theorem dX11_guardianHas_54 : decode cX11_guardianHas 54 = .ok (.iconst 1, 1) := by decide +kernel
theorem dX11_guardianHas_55 : decode cX11_guardianHas 55 = .ok (.isub, 1) := by decide +kernel
theorem dX11_guardianHas_56 : decode cX11_guardianHas 56 = .ok (.goto 4, 3) := by decide +kernel
theorem dX11_guardianHas_59 : decode cX11_guardianHas 59 = .ok (.iconst 2, 1) := by decide +kernel
theorem dX11_guardianHas_60 : decode cX11_guardianHas 60 = .ok (.ireturn, 1) := by decide +kernel
theorem dX11_babblerHas_0 : decode cX11_babblerHas 0 = .ok (.iload_n 0, 1) := by decide +kernel
theorem dX11_babblerHas_1 : decode cX11_babblerHas 1 = .ok (.ifCond .ne 13, 3) := by decide +kernel
theorem dX11_babblerHas_4 : decode cX11_babblerHas 4 = .ok (.iload_n 1, 1) := by decide +kernel
theorem dX11_babblerHas_5 : decode cX11_babblerHas 5 = .ok (.ifCond .ne 7, 3) := by decide +kernel
theorem dX11_babblerHas_8 : decode cX11_babblerHas 8 = .ok (.iconst (-1), 1) := by decide +kernel
theorem dX11_babblerHas_9 : decode cX11_babblerHas 9 = .ok (.goto 4, 3) := by decide +kernel
theorem dX11_babblerHas_12 : decode cX11_babblerHas 12 = .ok (.iconst 0, 1) := by decide +kernel
theorem dX11_babblerHas_13 : decode cX11_babblerHas 13 = .ok (.ireturn, 1) := by decide +kernel
theorem dX11_babblerHas_14 : decode cX11_babblerHas 14 = .ok (.iload_n 1, 1) := by decide +kernel
theorem dX11_babblerHas_15 : decode cX11_babblerHas 15 = .ok (.ifCond .ne 7, 3) := by decide +kernel
theorem dX11_babblerHas_18 : decode cX11_babblerHas 18 = .ok (.iconst 2, 1) := by decide +kernel
theorem dX11_babblerHas_19 : decode cX11_babblerHas 19 = .ok (.goto 4, 3) := by decide +kernel
theorem dX11_babblerHas_22 : decode cX11_babblerHas 22 = .ok (.iconst 1, 1) := by decide +kernel
theorem dX11_babblerHas_23 : decode cX11_babblerHas 23 = .ok (.ireturn, 1) := by decide +kernel
theorem dX11_odds_0 : decode cX11_odds 0 = .ok (.aload_n 0, 1) := by decide +kernel
theorem dX11_odds_1 : decode cX11_odds 1 = .ok (.iload_n 1, 1) := by decide +kernel
theorem dX11_odds_2 : decode cX11_odds 2 = .ok (.invokevirtual 148, 3) := by decide +kernel
theorem dX11_odds_5 : decode cX11_odds 5 = .ok (.ifCond .ne 11, 3) := by decide +kernel
theorem dX11_odds_8 : decode cX11_odds 8 = .ok (.new 152, 3) := by decide +kernel
theorem dX11_odds_11 : decode cX11_odds 11 = .ok (.dup, 1) := by decide +kernel
theorem dX11_odds_12 : decode cX11_odds 12 = .ok (.invokespecial 154, 3) := by decide +kernel
theorem dX11_odds_15 : decode cX11_odds 15 = .ok (.athrow, 1) := by decide +kernel
theorem dX11_odds_16 : decode cX11_odds 16 = .ok (.iload_n 2, 1) := by decide +kernel
theorem dX11_odds_17 : decode cX11_odds 17 = .ok (.ifCond .lt 17, 3) := by decide +kernel
theorem dX11_odds_20 : decode cX11_odds 20 = .ok (.iload_n 2, 1) := by decide +kernel
theorem dX11_odds_21 : decode cX11_odds 21 = .ok (.iconst 5, 1) := by decide +kernel
theorem dX11_odds_22 : decode cX11_odds 22 = .ok (.if_icmp .gt 12, 3) := by decide +kernel
theorem dX11_odds_25 : decode cX11_odds 25 = .ok (.iload_n 3, 1) := by decide +kernel
theorem dX11_odds_26 : decode cX11_odds 26 = .ok (.ifCond .lt 8, 3) := by decide +kernel
theorem dX11_odds_29 : decode cX11_odds 29 = .ok (.iload_n 3, 1) := by decide +kernel
theorem dX11_odds_30 : decode cX11_odds 30 = .ok (.iconst 5, 1) := by decide +kernel
theorem dX11_odds_31 : decode cX11_odds 31 = .ok (.if_icmp .le 11, 3) := by decide +kernel
theorem dX11_odds_34 : decode cX11_odds 34 = .ok (.new 119, 3) := by decide +kernel
theorem dX11_odds_37 : decode cX11_odds 37 = .ok (.dup, 1) := by decide +kernel
theorem dX11_odds_38 : decode cX11_odds 38 = .ok (.invokespecial 121, 3) := by decide +kernel
theorem dX11_odds_41 : decode cX11_odds 41 = .ok (.athrow, 1) := by decide +kernel
theorem dX11_odds_42 : decode cX11_odds 42 = .ok (.aload_n 0, 1) := by decide +kernel
theorem dX11_odds_43 : decode cX11_odds 43 = .ok (.getfield 20, 3) := by decide +kernel
theorem dX11_odds_46 : decode cX11_odds 46 = .ok (.getfield 168, 3) := by decide +kernel
theorem dX11_odds_49 : decode cX11_odds 49 = .ok (.aload_n 0, 1) := by decide +kernel
theorem dX11_odds_50 : decode cX11_odds 50 = .ok (.getfield 77, 3) := by decide +kernel
theorem dX11_odds_53 : decode cX11_odds 53 = .ok (.invokevirtual 172, 3) := by decide +kernel
theorem dX11_odds_56 : decode cX11_odds 56 = .ok (.aload_n 0, 1) := by decide +kernel
theorem dX11_odds_57 : decode cX11_odds 57 = .ok (.getfield 20, 3) := by decide +kernel
theorem dX11_odds_60 : decode cX11_odds 60 = .ok (.getfield 168, 3) := by decide +kernel
theorem dX11_odds_63 : decode cX11_odds 63 = .ok (.getfield 180, 3) := by decide +kernel
theorem dX11_odds_66 : decode cX11_odds 66 = .ok (.iload_n 1, 1) := by decide +kernel
theorem dX11_odds_67 : decode cX11_odds 67 = .ok (.iaload, 1) := by decide +kernel
theorem dX11_odds_68 : decode cX11_odds 68 = .ok (.i2l, 1) := by decide +kernel
theorem dX11_odds_69 : decode cX11_odds 69 = .ok (.lstore 4, 2) := by decide +kernel
theorem dX11_odds_71 : decode cX11_odds 71 = .ok (.lconst 0, 1) := by decide +kernel
theorem dX11_odds_72 : decode cX11_odds 72 = .ok (.lstore 6, 2) := by decide +kernel
theorem dX11_odds_74 : decode cX11_odds 74 = .ok (.lconst 1, 1) := by decide +kernel
theorem dX11_odds_75 : decode cX11_odds 75 = .ok (.lstore 8, 2) := by decide +kernel
theorem dX11_odds_77 : decode cX11_odds 77 = .ok (.iconst 0, 1) := by decide +kernel
theorem dX11_odds_78 : decode cX11_odds 78 = .ok (.istore 10, 2) := by decide +kernel
theorem dX11_odds_80 : decode cX11_odds 80 = .ok (.iload 10, 2) := by decide +kernel
theorem dX11_odds_82 : decode cX11_odds 82 = .ok (.iload_n 2, 1) := by decide +kernel
theorem dX11_odds_83 : decode cX11_odds 83 = .ok (.if_icmp .ge 17, 3) := by decide +kernel
theorem dX11_odds_86 : decode cX11_odds 86 = .ok (.lload 8, 2) := by decide +kernel
theorem dX11_odds_88 : decode cX11_odds 88 = .ok (.ldc2_w 351, 3) := by decide +kernel
theorem dX11_odds_91 : decode cX11_odds 91 = .ok (.lmul, 1) := by decide +kernel
theorem dX11_odds_92 : decode cX11_odds 92 = .ok (.lstore 8, 2) := by decide +kernel
theorem dX11_odds_94 : decode cX11_odds 94 = .ok (.iinc 10 1, 3) := by decide +kernel
theorem dX11_odds_97 : decode cX11_odds 97 = .ok (.goto (-17), 3) := by decide +kernel
theorem dX11_odds_100 : decode cX11_odds 100 = .ok (.iload_n 3, 1) := by decide +kernel
theorem dX11_odds_101 : decode cX11_odds 101 = .ok (.istore 10, 2) := by decide +kernel
theorem dX11_odds_103 : decode cX11_odds 103 = .ok (.iload 10, 2) := by decide +kernel
theorem dX11_odds_105 : decode cX11_odds 105 = .ok (.iload_n 2, 1) := by decide +kernel
theorem dX11_odds_106 : decode cX11_odds 106 = .ok (.if_icmp .gt 65, 3) := by decide +kernel
theorem dX11_odds_109 : decode cX11_odds 109 = .ok (.lconst 1, 1) := by decide +kernel
theorem dX11_odds_110 : decode cX11_odds 110 = .ok (.lstore 11, 2) := by decide +kernel
theorem dX11_odds_112 : decode cX11_odds 112 = .ok (.iconst 0, 1) := by decide +kernel
theorem dX11_odds_113 : decode cX11_odds 113 = .ok (.istore 13, 2) := by decide +kernel
theorem dX11_odds_115 : decode cX11_odds 115 = .ok (.iload 13, 2) := by decide +kernel
theorem dX11_odds_117 : decode cX11_odds 117 = .ok (.iload_n 2, 1) := by decide +kernel
theorem dX11_odds_118 : decode cX11_odds 118 = .ok (.if_icmp .ge 32, 3) := by decide +kernel
theorem dX11_odds_121 : decode cX11_odds 121 = .ok (.lload 11, 2) := by decide +kernel
theorem dX11_odds_123 : decode cX11_odds 123 = .ok (.iload 13, 2) := by decide +kernel
theorem dX11_odds_125 : decode cX11_odds 125 = .ok (.iload 10, 2) := by decide +kernel
theorem dX11_odds_127 : decode cX11_odds 127 = .ok (.if_icmp .ge 8, 3) := by decide +kernel
theorem dX11_odds_130 : decode cX11_odds 130 = .ok (.lload 4, 2) := by decide +kernel
theorem dX11_odds_132 : decode cX11_odds 132 = .ok (.goto 9, 3) := by decide +kernel
theorem dX11_odds_135 : decode cX11_odds 135 = .ok (.ldc2_w 351, 3) := by decide +kernel
theorem dX11_odds_138 : decode cX11_odds 138 = .ok (.lload 4, 2) := by decide +kernel
theorem dX11_odds_140 : decode cX11_odds 140 = .ok (.lsub, 1) := by decide +kernel
theorem dX11_odds_141 : decode cX11_odds 141 = .ok (.lmul, 1) := by decide +kernel
theorem dX11_odds_142 : decode cX11_odds 142 = .ok (.lstore 11, 2) := by decide +kernel
theorem dX11_odds_144 : decode cX11_odds 144 = .ok (.iinc 13 1, 3) := by decide +kernel
theorem dX11_odds_147 : decode cX11_odds 147 = .ok (.goto (-32), 3) := by decide +kernel
theorem dX11_odds_150 : decode cX11_odds 150 = .ok (.lload 6, 2) := by decide +kernel
theorem dX11_odds_152 : decode cX11_odds 152 = .ok (.lload 11, 2) := by decide +kernel
theorem dX11_odds_154 : decode cX11_odds 154 = .ok (.iload_n 2, 1) := by decide +kernel
theorem dX11_odds_155 : decode cX11_odds 155 = .ok (.iload 10, 2) := by decide +kernel
theorem dX11_odds_157 : decode cX11_odds 157 = .ok (.invokestatic 353, 3) := by decide +kernel
theorem dX11_odds_160 : decode cX11_odds 160 = .ok (.i2l, 1) := by decide +kernel
theorem dX11_odds_161 : decode cX11_odds 161 = .ok (.lmul, 1) := by decide +kernel
theorem dX11_odds_162 : decode cX11_odds 162 = .ok (.ladd, 1) := by decide +kernel
theorem dX11_odds_163 : decode cX11_odds 163 = .ok (.lstore 6, 2) := by decide +kernel
theorem dX11_odds_165 : decode cX11_odds 165 = .ok (.iinc 10 1, 3) := by decide +kernel
theorem dX11_odds_168 : decode cX11_odds 168 = .ok (.goto (-65), 3) := by decide +kernel
theorem dX11_odds_171 : decode cX11_odds 171 = .ok (.lload 6, 2) := by decide +kernel
theorem dX11_odds_173 : decode cX11_odds 173 = .ok (.ldc2_w 356, 3) := by decide +kernel
theorem dX11_odds_176 : decode cX11_odds 176 = .ok (.lmul, 1) := by decide +kernel
theorem dX11_odds_177 : decode cX11_odds 177 = .ok (.lconst 1, 1) := by decide +kernel
theorem dX11_odds_178 : decode cX11_odds 178 = .ok (.lload 8, 2) := by decide +kernel
theorem dX11_odds_180 : decode cX11_odds 180 = .ok (.invokestatic 358, 3) := by decide +kernel
theorem dX11_odds_183 : decode cX11_odds 183 = .ok (.ldiv, 1) := by decide +kernel
theorem dX11_odds_184 : decode cX11_odds 184 = .ok (.l2i, 1) := by decide +kernel
theorem dX11_odds_185 : decode cX11_odds 185 = .ok (.ireturn, 1) := by decide +kernel
theorem dX11_choose_0 : decode cX11_choose 0 = .ok (.iconst 1, 1) := by decide +kernel
theorem dX11_choose_1 : decode cX11_choose 1 = .ok (.istore_n 2, 1) := by decide +kernel
theorem dX11_choose_2 : decode cX11_choose 2 = .ok (.iconst 1, 1) := by decide +kernel
theorem dX11_choose_3 : decode cX11_choose 3 = .ok (.istore_n 3, 1) := by decide +kernel
theorem dX11_choose_4 : decode cX11_choose 4 = .ok (.iload_n 3, 1) := by decide +kernel
theorem dX11_choose_5 : decode cX11_choose 5 = .ok (.iload_n 1, 1) := by decide +kernel
theorem dX11_choose_6 : decode cX11_choose 6 = .ok (.if_icmp .gt 19, 3) := by decide +kernel
theorem dX11_choose_9 : decode cX11_choose 9 = .ok (.iload_n 2, 1) := by decide +kernel
theorem dX11_choose_10 : decode cX11_choose 10 = .ok (.iload_n 0, 1) := by decide +kernel
theorem dX11_choose_11 : decode cX11_choose 11 = .ok (.iload_n 1, 1) := by decide +kernel
theorem dX11_choose_12 : decode cX11_choose 12 = .ok (.isub, 1) := by decide +kernel
theorem dX11_choose_13 : decode cX11_choose 13 = .ok (.iload_n 3, 1) := by decide +kernel
theorem dX11_choose_14 : decode cX11_choose 14 = .ok (.iadd, 1) := by decide +kernel
theorem dX11_choose_15 : decode cX11_choose 15 = .ok (.imul, 1) := by decide +kernel
theorem dX11_choose_16 : decode cX11_choose 16 = .ok (.iload_n 3, 1) := by decide +kernel
theorem dX11_choose_17 : decode cX11_choose 17 = .ok (.idiv, 1) := by decide +kernel
theorem dX11_choose_18 : decode cX11_choose 18 = .ok (.istore_n 2, 1) := by decide +kernel
theorem dX11_choose_19 : decode cX11_choose 19 = .ok (.iinc 3 1, 3) := by decide +kernel
theorem dX11_choose_22 : decode cX11_choose 22 = .ok (.goto (-18), 3) := by decide +kernel
theorem dX11_choose_25 : decode cX11_choose 25 = .ok (.iload_n 2, 1) := by decide +kernel
theorem dX11_choose_26 : decode cX11_choose 26 = .ok (.ireturn, 1) := by decide +kernel
theorem dX11_most_0 : decode cX11_most 0 = .ok (.iload_n 1, 1) := by decide +kernel
theorem dX11_most_1 : decode cX11_most 1 = .ok (.ifCond .lt 8, 3) := by decide +kernel
theorem dX11_most_4 : decode cX11_most 4 = .ok (.iload_n 1, 1) := by decide +kernel
theorem dX11_most_5 : decode cX11_most 5 = .ok (.iconst 2, 1) := by decide +kernel
theorem dX11_most_6 : decode cX11_most 6 = .ok (.if_icmp .le 11, 3) := by decide +kernel
theorem dX11_most_9 : decode cX11_most 9 = .ok (.new 155, 3) := by decide +kernel
theorem dX11_most_12 : decode cX11_most 12 = .ok (.dup, 1) := by decide +kernel
theorem dX11_most_13 : decode cX11_most 13 = .ok (.invokespecial 157, 3) := by decide +kernel
theorem dX11_most_16 : decode cX11_most 16 = .ok (.athrow, 1) := by decide +kernel
theorem dX11_most_17 : decode cX11_most 17 = .ok (.iconst (-1), 1) := by decide +kernel
theorem dX11_most_18 : decode cX11_most 18 = .ok (.istore_n 2, 1) := by decide +kernel
theorem dX11_most_19 : decode cX11_most 19 = .ok (.iconst 0, 1) := by decide +kernel
theorem dX11_most_20 : decode cX11_most 20 = .ok (.istore_n 3, 1) := by decide +kernel
theorem dX11_most_21 : decode cX11_most 21 = .ok (.iconst 0, 1) := by decide +kernel
theorem dX11_most_22 : decode cX11_most 22 = .ok (.istore 4, 2) := by decide +kernel
theorem dX11_most_24 : decode cX11_most 24 = .ok (.iload 4, 2) := by decide +kernel
theorem dX11_most_26 : decode cX11_most 26 = .ok (.aload_n 0, 1) := by decide +kernel
theorem dX11_most_27 : decode cX11_most 27 = .ok (.getfield 77, 3) := by decide +kernel
theorem dX11_most_30 : decode cX11_most 30 = .ok (.getfield 145, 3) := by decide +kernel
theorem dX11_most_33 : decode cX11_most 33 = .ok (.if_icmp .ge 81, 3) := by decide +kernel
theorem dX11_most_36 : decode cX11_most 36 = .ok (.aload_n 0, 1) := by decide +kernel
theorem dX11_most_37 : decode cX11_most 37 = .ok (.getfield 77, 3) := by decide +kernel
theorem dX11_most_40 : decode cX11_most 40 = .ok (.getfield 158, 3) := by decide +kernel
theorem dX11_most_43 : decode cX11_most 43 = .ok (.iload 4, 2) := by decide +kernel
theorem dX11_most_45 : decode cX11_most 45 = .ok (.aaload, 1) := by decide +kernel
theorem dX11_most_46 : decode cX11_most 46 = .ok (.astore 5, 2) := by decide +kernel
theorem dX11_most_48 : decode cX11_most 48 = .ok (.aload 5, 2) := by decide +kernel
theorem dX11_most_50 : decode cX11_most 50 = .ok (.getfield 361, 3) := by decide +kernel
theorem dX11_most_53 : decode cX11_most 53 = .ok (.aload 5, 2) := by decide +kernel
theorem dX11_most_55 : decode cX11_most 55 = .ok (.getfield 364, 3) := by decide +kernel
theorem dX11_most_58 : decode cX11_most 58 = .ok (.iadd, 1) := by decide +kernel
theorem dX11_most_59 : decode cX11_most 59 = .ok (.istore 6, 2) := by decide +kernel
theorem dX11_most_61 : decode cX11_most 61 = .ok (.iload_n 1, 1) := by decide +kernel
theorem dX11_most_62 : decode cX11_most 62 = .ok (.ifCond .ne 8, 3) := by decide +kernel
theorem dX11_most_65 : decode cX11_most 65 = .ok (.iload 6, 2) := by decide +kernel
theorem dX11_most_67 : decode cX11_most 67 = .ok (.goto 22, 3) := by decide +kernel
theorem dX11_most_70 : decode cX11_most 70 = .ok (.iload_n 1, 1) := by decide +kernel
theorem dX11_most_71 : decode cX11_most 71 = .ok (.iconst 1, 1) := by decide +kernel
theorem dX11_most_72 : decode cX11_most 72 = .ok (.if_icmp .ne 9, 3) := by decide +kernel
theorem dX11_most_75 : decode cX11_most 75 = .ok (.iload 6, 2) := by decide +kernel
theorem dX11_most_77 : decode cX11_most 77 = .ok (.ineg, 1) := by decide +kernel
theorem dX11_most_78 : decode cX11_most 78 = .ok (.goto 11, 3) := by decide +kernel
theorem dX11_most_81 : decode cX11_most 81 = .ok (.aload 5, 2) := by decide +kernel
theorem dX11_most_83 : decode cX11_most 83 = .ok (.getfield 253, 3) := by decide +kernel
theorem dX11_most_86 : decode cX11_most 86 = .ok (.invokestatic 289, 3) := by decide +kernel
theorem dX11_most_89 : decode cX11_most 89 = .ok (.istore 7, 2) := by decide +kernel
theorem dX11_most_91 : decode cX11_most 91 = .ok (.iload_n 2, 1) := by decide +kernel
theorem dX11_most_92 : decode cX11_most 92 = .ok (.iconst (-1), 1) := by decide +kernel
theorem dX11_most_93 : decode cX11_most 93 = .ok (.if_icmp .eq 9, 3) := by decide +kernel
theorem dX11_most_96 : decode cX11_most 96 = .ok (.iload 7, 2) := by decide +kernel
theorem dX11_most_98 : decode cX11_most 98 = .ok (.iload_n 3, 1) := by decide +kernel
theorem dX11_most_99 : decode cX11_most 99 = .ok (.if_icmp .le 9, 3) := by decide +kernel
theorem dX11_most_102 : decode cX11_most 102 = .ok (.iload 4, 2) := by decide +kernel
theorem dX11_most_104 : decode cX11_most 104 = .ok (.istore_n 2, 1) := by decide +kernel
theorem dX11_most_105 : decode cX11_most 105 = .ok (.iload 7, 2) := by decide +kernel
theorem dX11_most_107 : decode cX11_most 107 = .ok (.istore_n 3, 1) := by decide +kernel
theorem dX11_most_108 : decode cX11_most 108 = .ok (.iinc 4 1, 3) := by decide +kernel
theorem dX11_most_111 : decode cX11_most 111 = .ok (.goto (-87), 3) := by decide +kernel
theorem dX11_most_114 : decode cX11_most 114 = .ok (.iload_n 2, 1) := by decide +kernel
theorem dX11_most_115 : decode cX11_most 115 = .ok (.ireturn, 1) := by decide +kernel
theorem dX11_byState_0 : decode cX11_byState 0 = .ok (.iload_n 1, 1) := by decide +kernel
theorem dX11_byState_1 : decode cX11_byState 1 = .ok (.ifCond .lt 8, 3) := by decide +kernel
theorem dX11_byState_4 : decode cX11_byState 4 = .ok (.iload_n 1, 1) := by decide +kernel
theorem dX11_byState_5 : decode cX11_byState 5 = .ok (.iconst 3, 1) := by decide +kernel
theorem dX11_byState_6 : decode cX11_byState 6 = .ok (.if_icmp .le 11, 3) := by decide +kernel
theorem dX11_byState_9 : decode cX11_byState 9 = .ok (.new 155, 3) := by decide +kernel
theorem dX11_byState_12 : decode cX11_byState 12 = .ok (.dup, 1) := by decide +kernel
theorem dX11_byState_13 : decode cX11_byState 13 = .ok (.invokespecial 157, 3) := by decide +kernel
theorem dX11_byState_16 : decode cX11_byState 16 = .ok (.athrow, 1) := by decide +kernel
theorem dX11_byState_17 : decode cX11_byState 17 = .ok (.aload_n 0, 1) := by decide +kernel
theorem dX11_byState_18 : decode cX11_byState 18 = .ok (.getfield 77, 3) := by decide +kernel
theorem dX11_byState_21 : decode cX11_byState 21 = .ok (.iload_n 1, 1) := by decide +kernel
theorem dX11_byState_22 : decode cX11_byState 22 = .ok (.invokevirtual 272, 3) := by decide +kernel
theorem dX11_byState_25 : decode cX11_byState 25 = .ok (.ireturn, 1) := by decide +kernel
theorem dX11_twins_0 : decode cX11_twins 0 = .ok (.iconst 0, 1) := by decide +kernel
theorem dX11_twins_1 : decode cX11_twins 1 = .ok (.istore_n 1, 1) := by decide +kernel
theorem dX11_twins_2 : decode cX11_twins 2 = .ok (.iconst 0, 1) := by decide +kernel
theorem dX11_twins_3 : decode cX11_twins 3 = .ok (.istore_n 2, 1) := by decide +kernel
theorem dX11_twins_4 : decode cX11_twins 4 = .ok (.iload_n 2, 1) := by decide +kernel
theorem dX11_twins_5 : decode cX11_twins 5 = .ok (.aload_n 0, 1) := by decide +kernel
theorem dX11_twins_6 : decode cX11_twins 6 = .ok (.getfield 77, 3) := by decide +kernel
theorem dX11_twins_9 : decode cX11_twins 9 = .ok (.getfield 145, 3) := by decide +kernel
theorem dX11_twins_12 : decode cX11_twins 12 = .ok (.if_icmp .ge 104, 3) := by decide +kernel
theorem dX11_twins_15 : decode cX11_twins 15 = .ok (.iload_n 2, 1) := by decide +kernel
theorem dX11_twins_16 : decode cX11_twins 16 = .ok (.iconst 1, 1) := by decide +kernel
theorem dX11_twins_17 : decode cX11_twins 17 = .ok (.iadd, 1) := by decide +kernel
theorem dX11_twins_18 : decode cX11_twins 18 = .ok (.istore_n 3, 1) := by decide +kernel
theorem dX11_twins_19 : decode cX11_twins 19 = .ok (.iload_n 3, 1) := by decide +kernel
theorem dX11_twins_20 : decode cX11_twins 20 = .ok (.aload_n 0, 1) := by decide +kernel
theorem dX11_twins_21 : decode cX11_twins 21 = .ok (.getfield 77, 3) := by decide +kernel
theorem dX11_twins_24 : decode cX11_twins 24 = .ok (.getfield 145, 3) := by decide +kernel
theorem dX11_twins_27 : decode cX11_twins 27 = .ok (.if_icmp .ge 83, 3) := by decide +kernel
theorem dX11_twins_30 : decode cX11_twins 30 = .ok (.aload_n 0, 1) := by decide +kernel
theorem dX11_twins_31 : decode cX11_twins 31 = .ok (.getfield 77, 3) := by decide +kernel
theorem dX11_twins_34 : decode cX11_twins 34 = .ok (.getfield 158, 3) := by decide +kernel
theorem dX11_twins_37 : decode cX11_twins 37 = .ok (.iload_n 2, 1) := by decide +kernel
theorem dX11_twins_38 : decode cX11_twins 38 = .ok (.aaload, 1) := by decide +kernel
theorem dX11_twins_39 : decode cX11_twins 39 = .ok (.getfield 361, 3) := by decide +kernel
theorem dX11_twins_42 : decode cX11_twins 42 = .ok (.aload_n 0, 1) := by decide +kernel
theorem dX11_twins_43 : decode cX11_twins 43 = .ok (.getfield 77, 3) := by decide +kernel
theorem dX11_twins_46 : decode cX11_twins 46 = .ok (.getfield 158, 3) := by decide +kernel
theorem dX11_twins_49 : decode cX11_twins 49 = .ok (.iload_n 3, 1) := by decide +kernel
theorem dX11_twins_50 : decode cX11_twins 50 = .ok (.aaload, 1) := by decide +kernel
theorem dX11_twins_51 : decode cX11_twins 51 = .ok (.getfield 361, 3) := by decide +kernel
theorem dX11_twins_54 : decode cX11_twins 54 = .ok (.if_icmp .ne 34, 3) := by decide +kernel
theorem dX11_twins_57 : decode cX11_twins 57 = .ok (.aload_n 0, 1) := by decide +kernel
theorem dX11_twins_58 : decode cX11_twins 58 = .ok (.getfield 77, 3) := by decide +kernel
theorem dX11_twins_61 : decode cX11_twins 61 = .ok (.getfield 158, 3) := by decide +kernel
theorem dX11_twins_64 : decode cX11_twins 64 = .ok (.iload_n 2, 1) := by decide +kernel
theorem dX11_twins_65 : decode cX11_twins 65 = .ok (.aaload, 1) := by decide +kernel
theorem dX11_twins_66 : decode cX11_twins 66 = .ok (.getfield 196, 3) := by decide +kernel
theorem dX11_twins_69 : decode cX11_twins 69 = .ok (.aload_n 0, 1) := by decide +kernel
theorem dX11_twins_70 : decode cX11_twins 70 = .ok (.getfield 77, 3) := by decide +kernel
theorem dX11_twins_73 : decode cX11_twins 73 = .ok (.getfield 158, 3) := by decide +kernel
theorem dX11_twins_76 : decode cX11_twins 76 = .ok (.iload_n 3, 1) := by decide +kernel
theorem dX11_twins_77 : decode cX11_twins 77 = .ok (.aaload, 1) := by decide +kernel
theorem dX11_twins_78 : decode cX11_twins 78 = .ok (.getfield 196, 3) := by decide +kernel
theorem dX11_twins_81 : decode cX11_twins 81 = .ok (.if_icmp .ne 7, 3) := by decide +kernel
theorem dX11_twins_84 : decode cX11_twins 84 = .ok (.iconst 1, 1) := by decide +kernel
theorem dX11_twins_85 : decode cX11_twins 85 = .ok (.goto 4, 3) := by decide +kernel
theorem dX11_twins_88 : decode cX11_twins 88 = .ok (.iconst 0, 1) := by decide +kernel
theorem dX11_twins_89 : decode cX11_twins 89 = .ok (.istore 4, 2) := by decide +kernel
theorem dX11_twins_91 : decode cX11_twins 91 = .ok (.iload_n 1, 1) := by decide +kernel
theorem dX11_twins_92 : decode cX11_twins 92 = .ok (.iload 4, 2) := by decide +kernel
theorem dX11_twins_94 : decode cX11_twins 94 = .ok (.ifCond .eq 7, 3) := by decide +kernel
theorem dX11_twins_97 : decode cX11_twins 97 = .ok (.iconst 1, 1) := by decide +kernel
theorem dX11_twins_98 : decode cX11_twins 98 = .ok (.goto 4, 3) := by decide +kernel
theorem dX11_twins_101 : decode cX11_twins 101 = .ok (.iconst 0, 1) := by decide +kernel
theorem dX11_twins_102 : decode cX11_twins 102 = .ok (.iadd, 1) := by decide +kernel
theorem dX11_twins_103 : decode cX11_twins 103 = .ok (.istore_n 1, 1) := by decide +kernel
theorem dX11_twins_104 : decode cX11_twins 104 = .ok (.iinc 3 1, 3) := by decide +kernel
theorem dX11_twins_107 : decode cX11_twins 107 = .ok (.goto (-88), 3) := by decide +kernel
theorem dX11_twins_110 : decode cX11_twins 110 = .ok (.iinc 2 1, 3) := by decide +kernel
theorem dX11_twins_113 : decode cX11_twins 113 = .ok (.goto (-109), 3) := by decide +kernel
theorem dX11_twins_116 : decode cX11_twins 116 = .ok (.iload_n 1, 1) := by decide +kernel
theorem dX11_twins_117 : decode cX11_twins 117 = .ok (.ireturn, 1) := by decide +kernel
theorem dX11_ahead_0 : decode cX11_ahead 0 = .ok (.aload_n 0, 1) := by decide +kernel
theorem dX11_ahead_1 : decode cX11_ahead 1 = .ok (.iload_n 1, 1) := by decide +kernel
theorem dX11_ahead_2 : decode cX11_ahead 2 = .ok (.invokevirtual 148, 3) := by decide +kernel
theorem dX11_ahead_5 : decode cX11_ahead 5 = .ok (.ifCond .ne 11, 3) := by decide +kernel
theorem dX11_ahead_8 : decode cX11_ahead 8 = .ok (.new 152, 3) := by decide +kernel
theorem dX11_ahead_11 : decode cX11_ahead 11 = .ok (.dup, 1) := by decide +kernel
theorem dX11_ahead_12 : decode cX11_ahead 12 = .ok (.invokespecial 154, 3) := by decide +kernel
theorem dX11_ahead_15 : decode cX11_ahead 15 = .ok (.athrow, 1) := by decide +kernel
theorem dX11_ahead_16 : decode cX11_ahead 16 = .ok (.iload_n 2, 1) := by decide +kernel
theorem dX11_ahead_17 : decode cX11_ahead 17 = .ok (.invokestatic 280, 3) := by decide +kernel
theorem dX11_ahead_20 : decode cX11_ahead 20 = .ok (.ifCond .ne 11, 3) := by decide +kernel
theorem dX11_ahead_23 : decode cX11_ahead 23 = .ok (.new 119, 3) := by decide +kernel
theorem dX11_ahead_26 : decode cX11_ahead 26 = .ok (.dup, 1) := by decide +kernel
theorem dX11_ahead_27 : decode cX11_ahead 27 = .ok (.invokespecial 121, 3) := by decide +kernel
theorem dX11_ahead_30 : decode cX11_ahead 30 = .ok (.athrow, 1) := by decide +kernel
theorem dX11_ahead_31 : decode cX11_ahead 31 = .ok (.aload_n 0, 1) := by decide +kernel
theorem dX11_ahead_32 : decode cX11_ahead 32 = .ok (.getfield 81, 3) := by decide +kernel
theorem dX11_ahead_35 : decode cX11_ahead 35 = .ok (.aload_n 0, 1) := by decide +kernel
theorem dX11_ahead_36 : decode cX11_ahead 36 = .ok (.getfield 77, 3) := by decide +kernel
theorem dX11_ahead_39 : decode cX11_ahead 39 = .ok (.invokevirtual 109, 3) := by decide +kernel
theorem dX11_ahead_42 : decode cX11_ahead 42 = .ok (.aload_n 0, 1) := by decide +kernel
theorem dX11_ahead_43 : decode cX11_ahead 43 = .ok (.iload_n 2, 1) := by decide +kernel
theorem dX11_ahead_44 : decode cX11_ahead 44 = .ok (.iconst 0, 1) := by decide +kernel
theorem dX11_ahead_45 : decode cX11_ahead 45 = .ok (.invokevirtual 367, 3) := by decide +kernel
theorem dX11_ahead_48 : decode cX11_ahead 48 = .ok (.iload_n 3, 1) := by decide +kernel
theorem dX11_ahead_49 : decode cX11_ahead 49 = .ok (.ifCond .eq 18, 3) := by decide +kernel
theorem dX11_ahead_52 : decode cX11_ahead 52 = .ok (.aload_n 0, 1) := by decide +kernel
theorem dX11_ahead_53 : decode cX11_ahead 53 = .ok (.getfield 81, 3) := by decide +kernel
theorem dX11_ahead_56 : decode cX11_ahead 56 = .ok (.getfield 158, 3) := by decide +kernel
theorem dX11_ahead_59 : decode cX11_ahead 59 = .ok (.iload_n 1, 1) := by decide +kernel
theorem dX11_ahead_60 : decode cX11_ahead 60 = .ok (.aaload, 1) := by decide +kernel
theorem dX11_ahead_61 : decode cX11_ahead 61 = .ok (.getfield 196, 3) := by decide +kernel
theorem dX11_ahead_64 : decode cX11_ahead 64 = .ok (.goto 15, 3) := by decide +kernel
theorem dX11_ahead_67 : decode cX11_ahead 67 = .ok (.aload_n 0, 1) := by decide +kernel
theorem dX11_ahead_68 : decode cX11_ahead 68 = .ok (.getfield 81, 3) := by decide +kernel
theorem dX11_ahead_71 : decode cX11_ahead 71 = .ok (.getfield 158, 3) := by decide +kernel
theorem dX11_ahead_74 : decode cX11_ahead 74 = .ok (.iload_n 1, 1) := by decide +kernel
theorem dX11_ahead_75 : decode cX11_ahead 75 = .ok (.aaload, 1) := by decide +kernel
theorem dX11_ahead_76 : decode cX11_ahead 76 = .ok (.getfield 253, 3) := by decide +kernel
theorem dX11_ahead_79 : decode cX11_ahead 79 = .ok (.ireturn, 1) := by decide +kernel
theorem dX11_playDraft_0 : decode cX11_playDraft 0 = .ok (.iconst 0, 1) := by decide +kernel
theorem dX11_playDraft_1 : decode cX11_playDraft 1 = .ok (.istore_n 3, 1) := by decide +kernel
theorem dX11_playDraft_2 : decode cX11_playDraft 2 = .ok (.iload_n 3, 1) := by decide +kernel
theorem dX11_playDraft_3 : decode cX11_playDraft 3 = .ok (.iload_n 1, 1) := by decide +kernel
theorem dX11_playDraft_4 : decode cX11_playDraft 4 = .ok (.if_icmp .ge 22, 3) := by decide +kernel
theorem dX11_playDraft_7 : decode cX11_playDraft 7 = .ok (.aload_n 0, 1) := by decide +kernel
theorem dX11_playDraft_8 : decode cX11_playDraft 8 = .ok (.getfield 20, 3) := by decide +kernel
theorem dX11_playDraft_11 : decode cX11_playDraft 11 = .ok (.aload_n 0, 1) := by decide +kernel
theorem dX11_playDraft_12 : decode cX11_playDraft 12 = .ok (.getfield 81, 3) := by decide +kernel
theorem dX11_playDraft_15 : decode cX11_playDraft 15 = .ok (.iload_n 2, 1) := by decide +kernel
theorem dX11_playDraft_16 : decode cX11_playDraft 16 = .ok (.invokevirtual 219, 3) := by decide +kernel
theorem dX11_playDraft_19 : decode cX11_playDraft 19 = .ok (.pop, 1) := by decide +kernel
theorem dX11_playDraft_20 : decode cX11_playDraft 20 = .ok (.iinc 3 1, 3) := by decide +kernel
theorem dX11_playDraft_23 : decode cX11_playDraft 23 = .ok (.goto (-21), 3) := by decide +kernel
theorem dX11_playDraft_26 : decode cX11_playDraft 26 = .ok (.return_, 1) := by decide +kernel
theorem dX11_trial_0 : decode cX11_trial 0 = .ok (.iload_n 1, 1) := by decide +kernel
theorem dX11_trial_1 : decode cX11_trial 1 = .ok (.invokestatic 280, 3) := by decide +kernel
theorem dX11_trial_4 : decode cX11_trial 4 = .ok (.ifCond .ne 11, 3) := by decide +kernel
theorem dX11_trial_7 : decode cX11_trial 7 = .ok (.new 119, 3) := by decide +kernel
theorem dX11_trial_10 : decode cX11_trial 10 = .ok (.dup, 1) := by decide +kernel
theorem dX11_trial_11 : decode cX11_trial 11 = .ok (.invokespecial 121, 3) := by decide +kernel
theorem dX11_trial_14 : decode cX11_trial 14 = .ok (.athrow, 1) := by decide +kernel
theorem dX11_trial_15 : decode cX11_trial 15 = .ok (.aload_n 0, 1) := by decide +kernel
theorem dX11_trial_16 : decode cX11_trial 16 = .ok (.getfield 81, 3) := by decide +kernel
theorem dX11_trial_19 : decode cX11_trial 19 = .ok (.aload_n 0, 1) := by decide +kernel
theorem dX11_trial_20 : decode cX11_trial 20 = .ok (.getfield 77, 3) := by decide +kernel
theorem dX11_trial_23 : decode cX11_trial 23 = .ok (.invokevirtual 109, 3) := by decide +kernel
theorem dX11_trial_26 : decode cX11_trial 26 = .ok (.aload_n 0, 1) := by decide +kernel
theorem dX11_trial_27 : decode cX11_trial 27 = .ok (.iload_n 1, 1) := by decide +kernel
theorem dX11_trial_28 : decode cX11_trial 28 = .ok (.iconst 1, 1) := by decide +kernel
theorem dX11_trial_29 : decode cX11_trial 29 = .ok (.invokevirtual 367, 3) := by decide +kernel
theorem dX11_trial_32 : decode cX11_trial 32 = .ok (.iload_n 2, 1) := by decide +kernel
theorem dX11_trial_33 : decode cX11_trial 33 = .ok (.ifCond .eq 13, 3) := by decide +kernel
theorem dX11_trial_36 : decode cX11_trial 36 = .ok (.aload_n 0, 1) := by decide +kernel
theorem dX11_trial_37 : decode cX11_trial 37 = .ok (.getfield 81, 3) := by decide +kernel
theorem dX11_trial_40 : decode cX11_trial 40 = .ok (.invokevirtual 266, 3) := by decide +kernel
theorem dX11_trial_43 : decode cX11_trial 43 = .ok (.goto 11, 3) := by decide +kernel
theorem dX11_trial_46 : decode cX11_trial 46 = .ok (.aload_n 0, 1) := by decide +kernel
theorem dX11_trial_47 : decode cX11_trial 47 = .ok (.getfield 81, 3) := by decide +kernel
theorem dX11_trial_50 : decode cX11_trial 50 = .ok (.iconst 2, 1) := by decide +kernel
theorem dX11_trial_51 : decode cX11_trial 51 = .ok (.invokevirtual 272, 3) := by decide +kernel
theorem dX11_trial_54 : decode cX11_trial 54 = .ok (.ireturn, 1) := by decide +kernel
theorem dX11_span_0 : decode cX11_span 0 = .ok (.iload_n 1, 1) := by decide +kernel
theorem dX11_span_1 : decode cX11_span 1 = .ok (.invokestatic 280, 3) := by decide +kernel
theorem dX11_span_4 : decode cX11_span 4 = .ok (.ifCond .ne 11, 3) := by decide +kernel
theorem dX11_span_7 : decode cX11_span 7 = .ok (.new 119, 3) := by decide +kernel
theorem dX11_span_10 : decode cX11_span 10 = .ok (.dup, 1) := by decide +kernel
theorem dX11_span_11 : decode cX11_span 11 = .ok (.invokespecial 121, 3) := by decide +kernel
theorem dX11_span_14 : decode cX11_span 14 = .ok (.athrow, 1) := by decide +kernel
theorem dX11_span_15 : decode cX11_span 15 = .ok (.iload_n 2, 1) := by decide +kernel
theorem dX11_span_16 : decode cX11_span 16 = .ok (.ifCond .eq 7, 3) := by decide +kernel
theorem dX11_span_19 : decode cX11_span 19 = .ok (.iconst 0, 1) := by decide +kernel
theorem dX11_span_20 : decode cX11_span 20 = .ok (.goto 5, 3) := by decide +kernel
theorem dX11_span_23 : decode cX11_span 23 = .ok (.bipush 8, 2) := by decide +kernel
theorem dX11_span_25 : decode cX11_span 25 = .ok (.istore_n 3, 1) := by decide +kernel
theorem dX11_span_26 : decode cX11_span 26 = .ok (.iconst 1, 1) := by decide +kernel
theorem dX11_span_27 : decode cX11_span 27 = .ok (.istore 4, 2) := by decide +kernel
theorem dX11_span_29 : decode cX11_span 29 = .ok (.iload 4, 2) := by decide +kernel
theorem dX11_span_31 : decode cX11_span 31 = .ok (.bipush 6, 2) := by decide +kernel
theorem dX11_span_33 : decode cX11_span 33 = .ok (.if_icmp .gt 68, 3) := by decide +kernel
theorem dX11_span_36 : decode cX11_span 36 = .ok (.aload_n 0, 1) := by decide +kernel
theorem dX11_span_37 : decode cX11_span 37 = .ok (.getfield 81, 3) := by decide +kernel
theorem dX11_span_40 : decode cX11_span 40 = .ok (.aload_n 0, 1) := by decide +kernel
theorem dX11_span_41 : decode cX11_span 41 = .ok (.getfield 77, 3) := by decide +kernel
theorem dX11_span_44 : decode cX11_span 44 = .ok (.invokevirtual 109, 3) := by decide +kernel
theorem dX11_span_47 : decode cX11_span 47 = .ok (.aload_n 0, 1) := by decide +kernel
theorem dX11_span_48 : decode cX11_span 48 = .ok (.getfield 81, 3) := by decide +kernel
theorem dX11_span_51 : decode cX11_span 51 = .ok (.iload 4, 2) := by decide +kernel
theorem dX11_span_53 : decode cX11_span 53 = .ok (.putfield 371, 3) := by decide +kernel
theorem dX11_span_56 : decode cX11_span 56 = .ok (.aload_n 0, 1) := by decide +kernel
theorem dX11_span_57 : decode cX11_span 57 = .ok (.iload_n 1, 1) := by decide +kernel
theorem dX11_span_58 : decode cX11_span 58 = .ok (.iconst 1, 1) := by decide +kernel
theorem dX11_span_59 : decode cX11_span 59 = .ok (.invokevirtual 367, 3) := by decide +kernel
theorem dX11_span_62 : decode cX11_span 62 = .ok (.aload_n 0, 1) := by decide +kernel
theorem dX11_span_63 : decode cX11_span 63 = .ok (.getfield 81, 3) := by decide +kernel
theorem dX11_span_66 : decode cX11_span 66 = .ok (.iconst 2, 1) := by decide +kernel
theorem dX11_span_67 : decode cX11_span 67 = .ok (.invokevirtual 272, 3) := by decide +kernel
theorem dX11_span_70 : decode cX11_span 70 = .ok (.invokestatic 275, 3) := by decide +kernel
theorem dX11_span_73 : decode cX11_span 73 = .ok (.istore 5, 2) := by decide +kernel
theorem dX11_span_75 : decode cX11_span 75 = .ok (.iload_n 2, 1) := by decide +kernel
theorem dX11_span_76 : decode cX11_span 76 = .ok (.ifCond .eq 12, 3) := by decide +kernel
theorem dX11_span_79 : decode cX11_span 79 = .ok (.iload_n 3, 1) := by decide +kernel
theorem dX11_span_80 : decode cX11_span 80 = .ok (.iload 5, 2) := by decide +kernel
theorem dX11_span_82 : decode cX11_span 82 = .ok (.invokestatic 283, 3) := by decide +kernel
theorem dX11_span_85 : decode cX11_span 85 = .ok (.goto 9, 3) := by decide +kernel
theorem dX11_span_88 : decode cX11_span 88 = .ok (.iload_n 3, 1) := by decide +kernel
theorem dX11_span_89 : decode cX11_span 89 = .ok (.iload 5, 2) := by decide +kernel
theorem dX11_span_91 : decode cX11_span 91 = .ok (.invokestatic 229, 3) := by decide +kernel
theorem dX11_span_94 : decode cX11_span 94 = .ok (.istore_n 3, 1) := by decide +kernel
theorem dX11_span_95 : decode cX11_span 95 = .ok (.iinc 4 1, 3) := by decide +kernel
theorem dX11_span_98 : decode cX11_span 98 = .ok (.goto (-69), 3) := by decide +kernel
theorem dX11_span_101 : decode cX11_span 101 = .ok (.iload_n 3, 1) := by decide +kernel
theorem dX11_span_102 : decode cX11_span 102 = .ok (.ireturn, 1) := by decide +kernel
theorem dX11_led_0 : decode cX11_led 0 = .ok (.aload_n 0, 1) := by decide +kernel
theorem dX11_led_1 : decode cX11_led 1 = .ok (.iload_n 1, 1) := by decide +kernel
theorem dX11_led_2 : decode cX11_led 2 = .ok (.invokevirtual 148, 3) := by decide +kernel
theorem dX11_led_5 : decode cX11_led 5 = .ok (.ifCond .ne 11, 3) := by decide +kernel
theorem dX11_led_8 : decode cX11_led 8 = .ok (.new 152, 3) := by decide +kernel
theorem dX11_led_11 : decode cX11_led 11 = .ok (.dup, 1) := by decide +kernel
theorem dX11_led_12 : decode cX11_led 12 = .ok (.invokespecial 154, 3) := by decide +kernel
theorem dX11_led_15 : decode cX11_led 15 = .ok (.athrow, 1) := by decide +kernel
theorem dX11_led_16 : decode cX11_led 16 = .ok (.iconst 0, 1) := by decide +kernel
theorem dX11_led_17 : decode cX11_led 17 = .ok (.istore_n 3, 1) := by decide +kernel
theorem dX11_led_18 : decode cX11_led 18 = .ok (.iconst (-1), 1) := by decide +kernel
theorem dX11_led_19 : decode cX11_led 19 = .ok (.istore 4, 2) := by decide +kernel
theorem dX11_led_21 : decode cX11_led 21 = .ok (.aload_n 0, 1) := by decide +kernel
theorem dX11_led_22 : decode cX11_led 22 = .ok (.getfield 77, 3) := by decide +kernel
theorem dX11_led_25 : decode cX11_led 25 = .ok (.getfield 374, 3) := by decide +kernel
theorem dX11_led_28 : decode cX11_led 28 = .ok (.iconst 1, 1) := by decide +kernel
theorem dX11_led_29 : decode cX11_led 29 = .ok (.isub, 1) := by decide +kernel
theorem dX11_led_30 : decode cX11_led 30 = .ok (.istore 5, 2) := by decide +kernel
theorem dX11_led_32 : decode cX11_led 32 = .ok (.iload 5, 2) := by decide +kernel
theorem dX11_led_34 : decode cX11_led 34 = .ok (.ifCond .lt 38, 3) := by decide +kernel
theorem dX11_led_37 : decode cX11_led 37 = .ok (.aload_n 0, 1) := by decide +kernel
theorem dX11_led_38 : decode cX11_led 38 = .ok (.getfield 77, 3) := by decide +kernel
theorem dX11_led_41 : decode cX11_led 41 = .ok (.iload 5, 2) := by decide +kernel
theorem dX11_led_43 : decode cX11_led 43 = .ok (.iconst 1, 1) := by decide +kernel
theorem dX11_led_44 : decode cX11_led 44 = .ok (.invokevirtual 377, 3) := by decide +kernel
theorem dX11_led_47 : decode cX11_led 47 = .ok (.iload_n 1, 1) := by decide +kernel
theorem dX11_led_48 : decode cX11_led 48 = .ok (.if_icmp .ne 18, 3) := by decide +kernel
theorem dX11_led_51 : decode cX11_led 51 = .ok (.iinc 3 1, 3) := by decide +kernel
theorem dX11_led_54 : decode cX11_led 54 = .ok (.aload_n 0, 1) := by decide +kernel
theorem dX11_led_55 : decode cX11_led 55 = .ok (.getfield 77, 3) := by decide +kernel
theorem dX11_led_58 : decode cX11_led 58 = .ok (.iload 5, 2) := by decide +kernel
theorem dX11_led_60 : decode cX11_led 60 = .ok (.iconst 0, 1) := by decide +kernel
theorem dX11_led_61 : decode cX11_led 61 = .ok (.invokevirtual 377, 3) := by decide +kernel
theorem dX11_led_64 : decode cX11_led 64 = .ok (.istore 4, 2) := by decide +kernel
theorem dX11_led_66 : decode cX11_led 66 = .ok (.iinc 5 (-1), 3) := by decide +kernel
theorem dX11_led_69 : decode cX11_led 69 = .ok (.goto (-37), 3) := by decide +kernel
theorem dX11_led_72 : decode cX11_led 72 = .ok (.iload_n 2, 1) := by decide +kernel
theorem dX11_led_73 : decode cX11_led 73 = .ok (.ifCond .eq 8, 3) := by decide +kernel
theorem dX11_led_76 : decode cX11_led 76 = .ok (.iload 4, 2) := by decide +kernel
theorem dX11_led_78 : decode cX11_led 78 = .ok (.goto 4, 3) := by decide +kernel
theorem dX11_led_81 : decode cX11_led 81 = .ok (.iload_n 3, 1) := by decide +kernel
theorem dX11_led_82 : decode cX11_led 82 = .ok (.ireturn, 1) := by decide +kernel
theorem dX11_log_0 : decode cX11_log 0 = .ok (.iload_n 2, 1) := by decide +kernel
theorem dX11_log_1 : decode cX11_log 1 = .ok (.ifCond .lt 8, 3) := by decide +kernel
theorem dX11_log_4 : decode cX11_log 4 = .ok (.iload_n 2, 1) := by decide +kernel
theorem dX11_log_5 : decode cX11_log 5 = .ok (.iconst 3, 1) := by decide +kernel
theorem dX11_log_6 : decode cX11_log 6 = .ok (.if_icmp .le 11, 3) := by decide +kernel
theorem dX11_log_9 : decode cX11_log 9 = .ok (.new 155, 3) := by decide +kernel
theorem dX11_log_12 : decode cX11_log 12 = .ok (.dup, 1) := by decide +kernel
theorem dX11_log_13 : decode cX11_log 13 = .ok (.invokespecial 157, 3) := by decide +kernel
theorem dX11_log_16 : decode cX11_log 16 = .ok (.athrow, 1) := by decide +kernel
theorem dX11_log_17 : decode cX11_log 17 = .ok (.aload_n 0, 1) := by decide +kernel
theorem dX11_log_18 : decode cX11_log 18 = .ok (.getfield 77, 3) := by decide +kernel
theorem dX11_log_21 : decode cX11_log 21 = .ok (.iload_n 1, 1) := by decide +kernel
theorem dX11_log_22 : decode cX11_log 22 = .ok (.iload_n 2, 1) := by decide +kernel
theorem dX11_log_23 : decode cX11_log 23 = .ok (.invokevirtual 377, 3) := by decide +kernel
theorem dX11_log_26 : decode cX11_log 26 = .ok (.ireturn, 1) := by decide +kernel
theorem dX11_seed_0 : decode cX11_seed 0 = .ok (.aload_n 0, 1) := by decide +kernel
theorem dX11_seed_1 : decode cX11_seed 1 = .ok (.getfield 77, 3) := by decide +kernel
theorem dX11_seed_4 : decode cX11_seed 4 = .ok (.getfield 371, 3) := by decide +kernel
theorem dX11_seed_7 : decode cX11_seed 7 = .ok (.istore_n 2, 1) := by decide +kernel
theorem dX11_seed_8 : decode cX11_seed 8 = .ok (.aload_n 0, 1) := by decide +kernel
theorem dX11_seed_9 : decode cX11_seed 9 = .ok (.getfield 77, 3) := by decide +kernel
theorem dX11_seed_12 : decode cX11_seed 12 = .ok (.iload_n 1, 1) := by decide +kernel
theorem dX11_seed_13 : decode cX11_seed 13 = .ok (.putfield 371, 3) := by decide +kernel
theorem dX11_seed_16 : decode cX11_seed 16 = .ok (.iload_n 2, 1) := by decide +kernel
theorem dX11_seed_17 : decode cX11_seed 17 = .ok (.ireturn, 1) := by decide +kernel
theorem dX11_undo_0 : decode cX11_undo 0 = .ok (.aload_n 0, 1) := by decide +kernel
theorem dX11_undo_1 : decode cX11_undo 1 = .ok (.getfield 90, 3) := by decide +kernel
theorem dX11_undo_4 : decode cX11_undo 4 = .ok (.aload_n 0, 1) := by decide +kernel
theorem dX11_undo_5 : decode cX11_undo 5 = .ok (.getfield 77, 3) := by decide +kernel
theorem dX11_undo_8 : decode cX11_undo 8 = .ok (.invokevirtual 380, 3) := by decide +kernel
theorem dX11_undo_11 : decode cX11_undo 11 = .ok (.ireturn, 1) := by decide +kernel
theorem dX11_image_0 : decode cX11_image 0 = .ok (.aload_n 0, 1) := by decide +kernel
theorem dX11_image_1 : decode cX11_image 1 = .ok (.getfield 84, 3) := by decide +kernel
theorem dX11_image_4 : decode cX11_image 4 = .ok (.aload_n 0, 1) := by decide +kernel
theorem dX11_image_5 : decode cX11_image 5 = .ok (.getfield 77, 3) := by decide +kernel
theorem dX11_image_8 : decode cX11_image 8 = .ok (.invokevirtual 109, 3) := by decide +kernel
theorem dX11_image_11 : decode cX11_image 11 = .ok (.aload_n 0, 1) := by decide +kernel
theorem dX11_image_12 : decode cX11_image 12 = .ok (.iconst 1, 1) := by decide +kernel
theorem dX11_image_13 : decode cX11_image 13 = .ok (.putfield 384, 3) := by decide +kernel
theorem dX11_image_16 : decode cX11_image 16 = .ok (.return_, 1) := by decide +kernel
theorem dX11_back_0 : decode cX11_back 0 = .ok (.aload_n 0, 1) := by decide +kernel
theorem dX11_back_1 : decode cX11_back 1 = .ok (.getfield 384, 3) := by decide +kernel
theorem dX11_back_4 : decode cX11_back 4 = .ok (.ifCond .ne 5, 3) := by decide +kernel
theorem dX11_back_7 : decode cX11_back 7 = .ok (.iconst 0, 1) := by decide +kernel
theorem dX11_back_8 : decode cX11_back 8 = .ok (.ireturn, 1) := by decide +kernel
theorem dX11_back_9 : decode cX11_back 9 = .ok (.aload_n 0, 1) := by decide +kernel
theorem dX11_back_10 : decode cX11_back 10 = .ok (.getfield 77, 3) := by decide +kernel
theorem dX11_back_13 : decode cX11_back 13 = .ok (.aload_n 0, 1) := by decide +kernel
theorem dX11_back_14 : decode cX11_back 14 = .ok (.getfield 84, 3) := by decide +kernel
theorem dX11_back_17 : decode cX11_back 17 = .ok (.invokevirtual 109, 3) := by decide +kernel
theorem dX11_back_20 : decode cX11_back 20 = .ok (.aload_n 0, 1) := by decide +kernel
theorem dX11_back_21 : decode cX11_back 21 = .ok (.getfield 90, 3) := by decide +kernel
theorem dX11_back_24 : decode cX11_back 24 = .ok (.invokevirtual 128, 3) := by decide +kernel
theorem dX11_back_27 : decode cX11_back 27 = .ok (.iconst 1, 1) := by decide +kernel
theorem dX11_back_28 : decode cX11_back 28 = .ok (.ireturn, 1) := by decide +kernel
theorem dX11_count_0 : decode cX11_count 0 = .ok (.iload_n 1, 1) := by decide +kernel
theorem dX11_count_1 : decode cX11_count 1 = .ok (.tableswitch 130 0 8 #[51, 59, 67, 78, 86, 94, 102, 114, 122], 51) := by decide +kernel
theorem dX11_count_52 : decode cX11_count 52 = .ok (.aload_n 0, 1) := by decide +kernel
theorem dX11_count_53 : decode cX11_count 53 = .ok (.getfield 77, 3) := by decide +kernel
theorem dX11_count_56 : decode cX11_count 56 = .ok (.getfield 145, 3) := by decide +kernel
theorem dX11_count_59 : decode cX11_count 59 = .ok (.ireturn, 1) := by decide +kernel
theorem dX11_count_60 : decode cX11_count 60 = .ok (.aload_n 0, 1) := by decide +kernel
theorem dX11_count_61 : decode cX11_count 61 = .ok (.getfield 77, 3) := by decide +kernel
theorem dX11_count_64 : decode cX11_count 64 = .ok (.getfield 122, 3) := by decide +kernel
theorem dX11_count_67 : decode cX11_count 67 = .ok (.ireturn, 1) := by decide +kernel
theorem dX11_count_68 : decode cX11_count 68 = .ok (.aload_n 0, 1) := by decide +kernel
theorem dX11_count_69 : decode cX11_count 69 = .ok (.getfield 77, 3) := by decide +kernel
theorem dX11_count_72 : decode cX11_count 72 = .ok (.getfield 138, 3) := by decide +kernel
theorem dX11_count_75 : decode cX11_count 75 = .ok (.getfield 142, 3) := by decide +kernel
theorem dX11_count_78 : decode cX11_count 78 = .ok (.ireturn, 1) := by decide +kernel
theorem dX11_count_79 : decode cX11_count 79 = .ok (.aload_n 0, 1) := by decide +kernel
theorem dX11_count_80 : decode cX11_count 80 = .ok (.getfield 77, 3) := by decide +kernel
theorem dX11_count_83 : decode cX11_count 83 = .ok (.getfield 259, 3) := by decide +kernel
theorem dX11_count_86 : decode cX11_count 86 = .ok (.ireturn, 1) := by decide +kernel
theorem dX11_count_87 : decode cX11_count 87 = .ok (.aload_n 0, 1) := by decide +kernel
theorem dX11_count_88 : decode cX11_count 88 = .ok (.getfield 77, 3) := by decide +kernel
theorem dX11_count_91 : decode cX11_count 91 = .ok (.getfield 256, 3) := by decide +kernel
theorem dX11_count_94 : decode cX11_count 94 = .ok (.ireturn, 1) := by decide +kernel
theorem dX11_count_95 : decode cX11_count 95 = .ok (.aload_n 0, 1) := by decide +kernel
theorem dX11_count_96 : decode cX11_count 96 = .ok (.getfield 77, 3) := by decide +kernel
theorem dX11_count_99 : decode cX11_count 99 = .ok (.getfield 388, 3) := by decide +kernel
theorem dX11_count_102 : decode cX11_count 102 = .ok (.ireturn, 1) := by decide +kernel
theorem dX11_count_103 : decode cX11_count 103 = .ok (.aload_n 0, 1) := by decide +kernel
theorem dX11_count_104 : decode cX11_count 104 = .ok (.getfield 77, 3) := by decide +kernel
theorem dX11_count_107 : decode cX11_count 107 = .ok (.iconst 2, 1) := by decide +kernel
theorem dX11_count_108 : decode cX11_count 108 = .ok (.invokevirtual 272, 3) := by decide +kernel
theorem dX11_count_111 : decode cX11_count 111 = .ok (.invokestatic 275, 3) := by decide +kernel
theorem dX11_count_114 : decode cX11_count 114 = .ok (.ireturn, 1) := by decide +kernel
theorem dX11_count_115 : decode cX11_count 115 = .ok (.aload_n 0, 1) := by decide +kernel
theorem dX11_count_116 : decode cX11_count 116 = .ok (.getfield 77, 3) := by decide +kernel
theorem dX11_count_119 : decode cX11_count 119 = .ok (.getfield 374, 3) := by decide +kernel
theorem dX11_count_122 : decode cX11_count 122 = .ok (.ireturn, 1) := by decide +kernel
theorem dX11_count_123 : decode cX11_count 123 = .ok (.aload_n 0, 1) := by decide +kernel
theorem dX11_count_124 : decode cX11_count 124 = .ok (.getfield 90, 3) := by decide +kernel
theorem dX11_count_127 : decode cX11_count 127 = .ok (.getfield 391, 3) := by decide +kernel
theorem dX11_count_130 : decode cX11_count 130 = .ok (.ireturn, 1) := by decide +kernel
theorem dX11_count_131 : decode cX11_count 131 = .ok (.iconst (-1), 1) := by decide +kernel
theorem dX11_count_132 : decode cX11_count 132 = .ok (.ireturn, 1) := by decide +kernel
theorem dX11_bit_0 : decode cX11_bit 0 = .ok (.iconst 1, 1) := by decide +kernel
theorem dX11_bit_1 : decode cX11_bit 1 = .ok (.iload_n 0, 1) := by decide +kernel
theorem dX11_bit_2 : decode cX11_bit 2 = .ok (.ishl, 1) := by decide +kernel
theorem dX11_bit_3 : decode cX11_bit 3 = .ok (.ireturn, 1) := by decide +kernel
theorem dX11_isIn_0 : decode cX11_isIn 0 = .ok (.iload_n 0, 1) := by decide +kernel
theorem dX11_isIn_1 : decode cX11_isIn 1 = .ok (.iload_n 1, 1) := by decide +kernel
theorem dX11_isIn_2 : decode cX11_isIn 2 = .ok (.ishr, 1) := by decide +kernel
theorem dX11_isIn_3 : decode cX11_isIn 3 = .ok (.iconst 1, 1) := by decide +kernel
theorem dX11_isIn_4 : decode cX11_isIn 4 = .ok (.iand, 1) := by decide +kernel
theorem dX11_isIn_5 : decode cX11_isIn 5 = .ok (.ifCond .eq 7, 3) := by decide +kernel
theorem dX11_isIn_8 : decode cX11_isIn 8 = .ok (.iconst 1, 1) := by decide +kernel
theorem dX11_isIn_9 : decode cX11_isIn 9 = .ok (.goto 4, 3) := by decide +kernel
theorem dX11_isIn_12 : decode cX11_isIn 12 = .ok (.iconst 0, 1) := by decide +kernel
theorem dX11_isIn_13 : decode cX11_isIn 13 = .ok (.ireturn, 1) := by decide +kernel
theorem dX11_lowest_0 : decode cX11_lowest 0 = .ok (.iconst 0, 1) := by decide +kernel
theorem dX11_lowest_1 : decode cX11_lowest 1 = .ok (.istore_n 1, 1) := by decide +kernel
theorem dX11_lowest_2 : decode cX11_lowest 2 = .ok (.iload_n 1, 1) := by decide +kernel
theorem dX11_lowest_3 : decode cX11_lowest 3 = .ok (.bipush 8, 2) := by decide +kernel
theorem dX11_lowest_5 : decode cX11_lowest 5 = .ok (.if_icmp .ge 19, 3) := by decide +kernel
theorem dX11_lowest_8 : decode cX11_lowest 8 = .ok (.iload_n 0, 1) := by decide +kernel
theorem dX11_lowest_9 : decode cX11_lowest 9 = .ok (.iload_n 1, 1) := by decide +kernel
theorem dX11_lowest_10 : decode cX11_lowest 10 = .ok (.invokestatic 212, 3) := by decide +kernel
theorem dX11_lowest_13 : decode cX11_lowest 13 = .ok (.ifCond .eq 5, 3) := by decide +kernel
theorem dX11_lowest_16 : decode cX11_lowest 16 = .ok (.iload_n 1, 1) := by decide +kernel
theorem dX11_lowest_17 : decode cX11_lowest 17 = .ok (.ireturn, 1) := by decide +kernel
theorem dX11_lowest_18 : decode cX11_lowest 18 = .ok (.iinc 1 1, 3) := by decide +kernel
theorem dX11_lowest_21 : decode cX11_lowest 21 = .ok (.goto (-19), 3) := by decide +kernel
theorem dX11_lowest_24 : decode cX11_lowest 24 = .ok (.iconst (-1), 1) := by decide +kernel
theorem dX11_lowest_25 : decode cX11_lowest 25 = .ok (.ireturn, 1) := by decide +kernel
theorem dX11_keepWithin_0 : decode cX11_keepWithin 0 = .ok (.iload_n 1, 1) := by decide +kernel
theorem dX11_keepWithin_1 : decode cX11_keepWithin 1 = .ok (.ineg, 1) := by decide +kernel
theorem dX11_keepWithin_2 : decode cX11_keepWithin 2 = .ok (.iload_n 1, 1) := by decide +kernel
theorem dX11_keepWithin_3 : decode cX11_keepWithin 3 = .ok (.iload_n 0, 1) := by decide +kernel
theorem dX11_keepWithin_4 : decode cX11_keepWithin 4 = .ok (.invokestatic 229, 3) := by decide +kernel
theorem dX11_keepWithin_7 : decode cX11_keepWithin 7 = .ok (.invokestatic 283, 3) := by decide +kernel
theorem dX11_keepWithin_10 : decode cX11_keepWithin 10 = .ok (.ireturn, 1) := by decide +kernel
theorem dX11_midOf_0 : decode cX11_midOf 0 = .ok (.iload_n 1, 1) := by decide +kernel
