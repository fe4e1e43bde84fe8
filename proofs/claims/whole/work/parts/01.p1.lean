theorem dX0_init_0 : decode cX0_init 0 = .ok (.aload_n 0, 1) := by decide +kernel
theorem dX0_init_1 : decode cX0_init 1 = .ok (.invokespecial 3, 3) := by decide +kernel
theorem dX0_init_4 : decode cX0_init 4 = .ok (.aload_n 0, 1) := by decide +kernel
theorem dX0_init_5 : decode cX0_init 5 = .ok (.aload_n 1, 1) := by decide +kernel
theorem dX0_init_6 : decode cX0_init 6 = .ok (.putfield 9, 3) := by decide +kernel
theorem dX0_init_9 : decode cX0_init 9 = .ok (.return_, 1) := by decide +kernel
theorem dX0_readInto_0 : decode cX0_readInto 0 = .ok (.aload_n 0, 1) := by decide +kernel
theorem dX0_readInto_1 : decode cX0_readInto 1 = .ok (.getfield 9, 3) := by decide +kernel
theorem dX0_readInto_4 : decode cX0_readInto 4 = .ok (.sipush 3001, 3) := by decide +kernel
theorem dX0_readInto_7 : decode cX0_readInto 7 = .ok (.invokevirtual 15, 3) := by decide +kernel
theorem dX0_readInto_10 : decode cX0_readInto 10 = .ok (.ifCond .eq 4, 3) := by decide +kernel
theorem dX0_readInto_13 : decode cX0_readInto 13 = .ok (.return_, 1) := by decide +kernel
theorem dX0_readInto_14 : decode cX0_readInto 14 = .ok (.iconst 0, 1) := by decide +kernel
theorem dX0_readInto_15 : decode cX0_readInto 15 = .ok (.istore_n 2, 1) := by decide +kernel
theorem dX0_readInto_16 : decode cX0_readInto 16 = .ok (.iload_n 2, 1) := by decide +kernel
theorem dX0_readInto_17 : decode cX0_readInto 17 = .ok (.bipush 14, 2) := by decide +kernel
theorem dX0_readInto_19 : decode cX0_readInto 19 = .ok (.if_icmp .ge 48, 3) := by decide +kernel
theorem dX0_readInto_22 : decode cX0_readInto 22 = .ok (.aload_n 0, 1) := by decide +kernel
theorem dX0_readInto_23 : decode cX0_readInto 23 = .ok (.aload_n 1, 1) := by decide +kernel
theorem dX0_readInto_24 : decode cX0_readInto 24 = .ok (.invokevirtual 21, 3) := by decide +kernel
theorem dX0_readInto_27 : decode cX0_readInto 27 = .ok (.aload_n 0, 1) := by decide +kernel
theorem dX0_readInto_28 : decode cX0_readInto 28 = .ok (.getfield 9, 3) := by decide +kernel
theorem dX0_readInto_31 : decode cX0_readInto 31 = .ok (.sipush 2059, 3) := by decide +kernel
theorem dX0_readInto_34 : decode cX0_readInto 34 = .ok (.invokevirtual 25, 3) := by decide +kernel
theorem dX0_readInto_37 : decode cX0_readInto 37 = .ok (.ifCond .ne 24, 3) := by decide +kernel
theorem dX0_readInto_40 : decode cX0_readInto 40 = .ok (.aload_n 0, 1) := by decide +kernel
theorem dX0_readInto_41 : decode cX0_readInto 41 = .ok (.getfield 9, 3) := by decide +kernel
theorem dX0_readInto_44 : decode cX0_readInto 44 = .ok (.sipush 3001, 3) := by decide +kernel
theorem dX0_readInto_47 : decode cX0_readInto 47 = .ok (.invokevirtual 15, 3) := by decide +kernel
theorem dX0_readInto_50 : decode cX0_readInto 50 = .ok (.ifCond .ne 10, 3) := by decide +kernel
theorem dX0_readInto_53 : decode cX0_readInto 53 = .ok (.aload_n 0, 1) := by decide +kernel
theorem dX0_readInto_54 : decode cX0_readInto 54 = .ok (.getfield 9, 3) := by decide +kernel
theorem dX0_readInto_57 : decode cX0_readInto 57 = .ok (.invokevirtual 28, 3) := by decide +kernel
theorem dX0_readInto_60 : decode cX0_readInto 60 = .ok (.return_, 1) := by decide +kernel
theorem dX0_readInto_61 : decode cX0_readInto 61 = .ok (.iinc 2 1, 3) := by decide +kernel
theorem dX0_readInto_64 : decode cX0_readInto 64 = .ok (.goto (-48), 3) := by decide +kernel
theorem dX0_readInto_67 : decode cX0_readInto 67 = .ok (.aload_n 0, 1) := by decide +kernel
theorem dX0_readInto_68 : decode cX0_readInto 68 = .ok (.getfield 9, 3) := by decide +kernel
theorem dX0_readInto_71 : decode cX0_readInto 71 = .ok (.invokevirtual 28, 3) := by decide +kernel
theorem dX0_readInto_74 : decode cX0_readInto 74 = .ok (.return_, 1) := by decide +kernel
theorem dX0_readLine_0 : decode cX0_readLine 0 = .ok (.aload_n 1, 1) := by decide +kernel
theorem dX0_readLine_1 : decode cX0_readLine 1 = .ok (.getfield 31, 3) := by decide +kernel
theorem dX0_readLine_4 : decode cX0_readLine 4 = .ok (.bipush 8, 2) := by decide +kernel
theorem dX0_readLine_6 : decode cX0_readLine 6 = .ok (.if_icmp .ge 29, 3) := by decide +kernel
theorem dX0_readLine_9 : decode cX0_readLine 9 = .ok (.aload_n 0, 1) := by decide +kernel
theorem dX0_readLine_10 : decode cX0_readLine 10 = .ok (.getfield 9, 3) := by decide +kernel
theorem dX0_readLine_13 : decode cX0_readLine 13 = .ok (.sipush 1000, 3) := by decide +kernel
theorem dX0_readLine_16 : decode cX0_readLine 16 = .ok (.invokevirtual 25, 3) := by decide +kernel
theorem dX0_readLine_19 : decode cX0_readLine 19 = .ok (.ifCond .eq 16, 3) := by decide +kernel
theorem dX0_readLine_22 : decode cX0_readLine 22 = .ok (.aload_n 0, 1) := by decide +kernel
theorem dX0_readLine_23 : decode cX0_readLine 23 = .ok (.aload_n 1, 1) := by decide +kernel
theorem dX0_readLine_24 : decode cX0_readLine 24 = .ok (.aload_n 1, 1) := by decide +kernel
theorem dX0_readLine_25 : decode cX0_readLine 25 = .ok (.iconst 0, 1) := by decide +kernel
theorem dX0_readLine_26 : decode cX0_readLine 26 = .ok (.invokevirtual 37, 3) := by decide +kernel
theorem dX0_readLine_29 : decode cX0_readLine 29 = .ok (.invokevirtual 41, 3) := by decide +kernel
theorem dX0_readLine_32 : decode cX0_readLine 32 = .ok (.goto 103, 3) := by decide +kernel
theorem dX0_readLine_35 : decode cX0_readLine 35 = .ok (.aload_n 0, 1) := by decide +kernel
theorem dX0_readLine_36 : decode cX0_readLine 36 = .ok (.getfield 9, 3) := by decide +kernel
theorem dX0_readLine_39 : decode cX0_readLine 39 = .ok (.sipush 1023, 3) := by decide +kernel
theorem dX0_readLine_42 : decode cX0_readLine 42 = .ok (.invokevirtual 25, 3) := by decide +kernel
theorem dX0_readLine_45 : decode cX0_readLine 45 = .ok (.ifCond .eq 21, 3) := by decide +kernel
theorem dX0_readLine_48 : decode cX0_readLine 48 = .ok (.aload_n 1, 1) := by decide +kernel
theorem dX0_readLine_49 : decode cX0_readLine 49 = .ok (.aload_n 0, 1) := by decide +kernel
theorem dX0_readLine_50 : decode cX0_readLine 50 = .ok (.getfield 9, 3) := by decide +kernel
theorem dX0_readLine_53 : decode cX0_readLine 53 = .ok (.iconst 1, 1) := by decide +kernel
theorem dX0_readLine_54 : decode cX0_readLine 54 = .ok (.sipush 999, 3) := by decide +kernel
theorem dX0_readLine_57 : decode cX0_readLine 57 = .ok (.invokevirtual 45, 3) := by decide +kernel
theorem dX0_readLine_60 : decode cX0_readLine 60 = .ok (.putfield 49, 3) := by decide +kernel
theorem dX0_readLine_63 : decode cX0_readLine 63 = .ok (.goto 72, 3) := by decide +kernel
theorem dX0_readLine_66 : decode cX0_readLine 66 = .ok (.aload_n 0, 1) := by decide +kernel
theorem dX0_readLine_67 : decode cX0_readLine 67 = .ok (.getfield 9, 3) := by decide +kernel
theorem dX0_readLine_70 : decode cX0_readLine 70 = .ok (.sipush 1024, 3) := by decide +kernel
theorem dX0_readLine_73 : decode cX0_readLine 73 = .ok (.invokevirtual 25, 3) := by decide +kernel
theorem dX0_readLine_76 : decode cX0_readLine 76 = .ok (.ifCond .eq 21, 3) := by decide +kernel
theorem dX0_readLine_79 : decode cX0_readLine 79 = .ok (.aload_n 1, 1) := by decide +kernel
theorem dX0_readLine_80 : decode cX0_readLine 80 = .ok (.aload_n 0, 1) := by decide +kernel
theorem dX0_readLine_81 : decode cX0_readLine 81 = .ok (.getfield 9, 3) := by decide +kernel
theorem dX0_readLine_84 : decode cX0_readLine 84 = .ok (.iconst 1, 1) := by decide +kernel
theorem dX0_readLine_85 : decode cX0_readLine 85 = .ok (.sipush 999, 3) := by decide +kernel
theorem dX0_readLine_88 : decode cX0_readLine 88 = .ok (.invokevirtual 45, 3) := by decide +kernel
theorem dX0_readLine_91 : decode cX0_readLine 91 = .ok (.putfield 52, 3) := by decide +kernel
theorem dX0_readLine_94 : decode cX0_readLine 94 = .ok (.goto 41, 3) := by decide +kernel
theorem dX0_readLine_97 : decode cX0_readLine 97 = .ok (.aload_n 0, 1) := by decide +kernel
theorem dX0_readLine_98 : decode cX0_readLine 98 = .ok (.getfield 9, 3) := by decide +kernel
theorem dX0_readLine_101 : decode cX0_readLine 101 = .ok (.sipush 1025, 3) := by decide +kernel
theorem dX0_readLine_104 : decode cX0_readLine 104 = .ok (.invokevirtual 25, 3) := by decide +kernel
theorem dX0_readLine_107 : decode cX0_readLine 107 = .ok (.ifCond .eq 21, 3) := by decide +kernel
theorem dX0_readLine_110 : decode cX0_readLine 110 = .ok (.aload_n 1, 1) := by decide +kernel
theorem dX0_readLine_111 : decode cX0_readLine 111 = .ok (.aload_n 0, 1) := by decide +kernel
theorem dX0_readLine_112 : decode cX0_readLine 112 = .ok (.getfield 9, 3) := by decide +kernel
theorem dX0_readLine_115 : decode cX0_readLine 115 = .ok (.iconst 0, 1) := by decide +kernel
theorem dX0_readLine_116 : decode cX0_readLine 116 = .ok (.sipush 999, 3) := by decide +kernel
theorem dX0_readLine_119 : decode cX0_readLine 119 = .ok (.invokevirtual 45, 3) := by decide +kernel
theorem dX0_readLine_122 : decode cX0_readLine 122 = .ok (.putfield 55, 3) := by decide +kernel
theorem dX0_readLine_125 : decode cX0_readLine 125 = .ok (.goto 10, 3) := by decide +kernel
theorem dX0_readLine_128 : decode cX0_readLine 128 = .ok (.aload_n 0, 1) := by decide +kernel
theorem dX0_readLine_129 : decode cX0_readLine 129 = .ok (.getfield 9, 3) := by decide +kernel
theorem dX0_readLine_132 : decode cX0_readLine 132 = .ok (.invokevirtual 28, 3) := by decide +kernel
theorem dX0_readLine_135 : decode cX0_readLine 135 = .ok (.return_, 1) := by decide +kernel
theorem dX0_readNode_0 : decode cX0_readNode 0 = .ok (.iload_n 2, 1) := by decide +kernel
theorem dX0_readNode_1 : decode cX0_readNode 1 = .ok (.ifCond .lt 11, 3) := by decide +kernel
theorem dX0_readNode_4 : decode cX0_readNode 4 = .ok (.iload_n 2, 1) := by decide +kernel
theorem dX0_readNode_5 : decode cX0_readNode 5 = .ok (.aload_n 1, 1) := by decide +kernel
theorem dX0_readNode_6 : decode cX0_readNode 6 = .ok (.getfield 31, 3) := by decide +kernel
theorem dX0_readNode_9 : decode cX0_readNode 9 = .ok (.if_icmp .lt 4, 3) := by decide +kernel
theorem dX0_readNode_12 : decode cX0_readNode 12 = .ok (.return_, 1) := by decide +kernel
theorem dX0_readNode_13 : decode cX0_readNode 13 = .ok (.aload_n 1, 1) := by decide +kernel
theorem dX0_readNode_14 : decode cX0_readNode 14 = .ok (.getfield 58, 3) := by decide +kernel
theorem dX0_readNode_17 : decode cX0_readNode 17 = .ok (.iload_n 2, 1) := by decide +kernel
theorem dX0_readNode_18 : decode cX0_readNode 18 = .ok (.aaload, 1) := by decide +kernel
theorem dX0_readNode_19 : decode cX0_readNode 19 = .ok (.astore_n 3, 1) := by decide +kernel
theorem dX0_readNode_20 : decode cX0_readNode 20 = .ok (.aload_n 0, 1) := by decide +kernel
theorem dX0_readNode_21 : decode cX0_readNode 21 = .ok (.getfield 9, 3) := by decide +kernel
theorem dX0_readNode_24 : decode cX0_readNode 24 = .ok (.sipush 1017, 3) := by decide +kernel
theorem dX0_readNode_27 : decode cX0_readNode 27 = .ok (.invokevirtual 25, 3) := by decide +kernel
theorem dX0_readNode_30 : decode cX0_readNode 30 = .ok (.ifCond .eq 21, 3) := by decide +kernel
theorem dX0_readNode_33 : decode cX0_readNode 33 = .ok (.aload_n 3, 1) := by decide +kernel
theorem dX0_readNode_34 : decode cX0_readNode 34 = .ok (.aload_n 0, 1) := by decide +kernel
theorem dX0_readNode_35 : decode cX0_readNode 35 = .ok (.getfield 9, 3) := by decide +kernel
theorem dX0_readNode_38 : decode cX0_readNode 38 = .ok (.iconst 0, 1) := by decide +kernel
theorem dX0_readNode_39 : decode cX0_readNode 39 = .ok (.sipush 999, 3) := by decide +kernel
theorem dX0_readNode_42 : decode cX0_readNode 42 = .ok (.invokevirtual 45, 3) := by decide +kernel
theorem dX0_readNode_45 : decode cX0_readNode 45 = .ok (.putfield 62, 3) := by decide +kernel
theorem dX0_readNode_48 : decode cX0_readNode 48 = .ok (.goto 32, 3) := by decide +kernel
theorem dX0_readNode_51 : decode cX0_readNode 51 = .ok (.aload_n 0, 1) := by decide +kernel
theorem dX0_readNode_52 : decode cX0_readNode 52 = .ok (.getfield 9, 3) := by decide +kernel
theorem dX0_readNode_55 : decode cX0_readNode 55 = .ok (.sipush 1018, 3) := by decide +kernel
theorem dX0_readNode_58 : decode cX0_readNode 58 = .ok (.invokevirtual 25, 3) := by decide +kernel
theorem dX0_readNode_61 : decode cX0_readNode 61 = .ok (.ifCond .eq 19, 3) := by decide +kernel
theorem dX0_readNode_64 : decode cX0_readNode 64 = .ok (.aload_n 3, 1) := by decide +kernel
theorem dX0_readNode_65 : decode cX0_readNode 65 = .ok (.aload_n 0, 1) := by decide +kernel
theorem dX0_readNode_66 : decode cX0_readNode 66 = .ok (.getfield 9, 3) := by decide +kernel
theorem dX0_readNode_69 : decode cX0_readNode 69 = .ok (.iconst 0, 1) := by decide +kernel
theorem dX0_readNode_70 : decode cX0_readNode 70 = .ok (.sipush 999, 3) := by decide +kernel
theorem dX0_readNode_73 : decode cX0_readNode 73 = .ok (.invokevirtual 45, 3) := by decide +kernel
theorem dX0_readNode_76 : decode cX0_readNode 76 = .ok (.ineg, 1) := by decide +kernel
theorem dX0_readNode_77 : decode cX0_readNode 77 = .ok (.putfield 62, 3) := by decide +kernel
theorem dX0_readNode_80 : decode cX0_readNode 80 = .ok (.aload_n 0, 1) := by decide +kernel
theorem dX0_readNode_81 : decode cX0_readNode 81 = .ok (.getfield 9, 3) := by decide +kernel
theorem dX0_readNode_84 : decode cX0_readNode 84 = .ok (.sipush 1001, 3) := by decide +kernel
theorem dX0_readNode_87 : decode cX0_readNode 87 = .ok (.invokevirtual 25, 3) := by decide +kernel
theorem dX0_readNode_90 : decode cX0_readNode 90 = .ok (.ifCond .eq 20, 3) := by decide +kernel
theorem dX0_readNode_93 : decode cX0_readNode 93 = .ok (.aload_n 3, 1) := by decide +kernel
theorem dX0_readNode_94 : decode cX0_readNode 94 = .ok (.aload_n 0, 1) := by decide +kernel
theorem dX0_readNode_95 : decode cX0_readNode 95 = .ok (.getfield 9, 3) := by decide +kernel
theorem dX0_readNode_98 : decode cX0_readNode 98 = .ok (.iconst 0, 1) := by decide +kernel
theorem dX0_readNode_99 : decode cX0_readNode 99 = .ok (.bipush 9, 2) := by decide +kernel
theorem dX0_readNode_101 : decode cX0_readNode 101 = .ok (.invokevirtual 45, 3) := by decide +kernel
theorem dX0_readNode_104 : decode cX0_readNode 104 = .ok (.putfield 67, 3) := by decide +kernel
theorem dX0_readNode_107 : decode cX0_readNode 107 = .ok (.goto 31, 3) := by decide +kernel
theorem dX0_readNode_110 : decode cX0_readNode 110 = .ok (.aload_n 0, 1) := by decide +kernel
theorem dX0_readNode_111 : decode cX0_readNode 111 = .ok (.getfield 9, 3) := by decide +kernel
theorem dX0_readNode_114 : decode cX0_readNode 114 = .ok (.sipush 1002, 3) := by decide +kernel
theorem dX0_readNode_117 : decode cX0_readNode 117 = .ok (.invokevirtual 25, 3) := by decide +kernel
theorem dX0_readNode_120 : decode cX0_readNode 120 = .ok (.ifCond .eq 18, 3) := by decide +kernel
theorem dX0_readNode_123 : decode cX0_readNode 123 = .ok (.aload_n 3, 1) := by decide +kernel
theorem dX0_readNode_124 : decode cX0_readNode 124 = .ok (.aload_n 0, 1) := by decide +kernel
theorem dX0_readNode_125 : decode cX0_readNode 125 = .ok (.getfield 9, 3) := by decide +kernel
theorem dX0_readNode_128 : decode cX0_readNode 128 = .ok (.iconst 0, 1) := by decide +kernel
theorem dX0_readNode_129 : decode cX0_readNode 129 = .ok (.bipush 9, 2) := by decide +kernel
theorem dX0_readNode_131 : decode cX0_readNode 131 = .ok (.invokevirtual 45, 3) := by decide +kernel
theorem dX0_readNode_134 : decode cX0_readNode 134 = .ok (.ineg, 1) := by decide +kernel
theorem dX0_readNode_135 : decode cX0_readNode 135 = .ok (.putfield 67, 3) := by decide +kernel
theorem dX0_readNode_138 : decode cX0_readNode 138 = .ok (.aload_n 0, 1) := by decide +kernel
theorem dX0_readNode_139 : decode cX0_readNode 139 = .ok (.getfield 9, 3) := by decide +kernel
theorem dX0_readNode_142 : decode cX0_readNode 142 = .ok (.sipush 1009, 3) := by decide +kernel
theorem dX0_readNode_145 : decode cX0_readNode 145 = .ok (.invokevirtual 25, 3) := by decide +kernel
theorem dX0_readNode_148 : decode cX0_readNode 148 = .ok (.ifCond .eq 17, 3) := by decide +kernel
theorem dX0_readNode_151 : decode cX0_readNode 151 = .ok (.aload_n 3, 1) := by decide +kernel
theorem dX0_readNode_152 : decode cX0_readNode 152 = .ok (.aload_n 0, 1) := by decide +kernel
theorem dX0_readNode_153 : decode cX0_readNode 153 = .ok (.getfield 9, 3) := by decide +kernel
theorem dX0_readNode_156 : decode cX0_readNode 156 = .ok (.iconst 0, 1) := by decide +kernel
theorem dX0_readNode_157 : decode cX0_readNode 157 = .ok (.bipush 100, 2) := by decide +kernel
theorem dX0_readNode_159 : decode cX0_readNode 159 = .ok (.invokevirtual 45, 3) := by decide +kernel
theorem dX0_readNode_162 : decode cX0_readNode 162 = .ok (.putfield 70, 3) := by decide +kernel
theorem dX0_readNode_165 : decode cX0_readNode 165 = .ok (.aload_n 0, 1) := by decide +kernel
theorem dX0_readNode_166 : decode cX0_readNode 166 = .ok (.getfield 9, 3) := by decide +kernel
theorem dX0_readNode_169 : decode cX0_readNode 169 = .ok (.sipush 1010, 3) := by decide +kernel
theorem dX0_readNode_172 : decode cX0_readNode 172 = .ok (.invokevirtual 25, 3) := by decide +kernel
theorem dX0_readNode_175 : decode cX0_readNode 175 = .ok (.ifCond .eq 25, 3) := by decide +kernel
theorem dX0_readNode_178 : decode cX0_readNode 178 = .ok (.aload_n 3, 1) := by decide +kernel
theorem dX0_readNode_179 : decode cX0_readNode 179 = .ok (.iconst 1, 1) := by decide +kernel
theorem dX0_readNode_180 : decode cX0_readNode 180 = .ok (.putfield 73, 3) := by decide +kernel
theorem dX0_readNode_183 : decode cX0_readNode 183 = .ok (.aload_n 3, 1) := by decide +kernel
theorem dX0_readNode_184 : decode cX0_readNode 184 = .ok (.aload_n 0, 1) := by decide +kernel
theorem dX0_readNode_185 : decode cX0_readNode 185 = .ok (.getfield 9, 3) := by decide +kernel
theorem dX0_readNode_188 : decode cX0_readNode 188 = .ok (.iconst 0, 1) := by decide +kernel
theorem dX0_readNode_189 : decode cX0_readNode 189 = .ok (.bipush 99, 2) := by decide +kernel
theorem dX0_readNode_191 : decode cX0_readNode 191 = .ok (.invokevirtual 45, 3) := by decide +kernel
theorem dX0_readNode_194 : decode cX0_readNode 194 = .ok (.putfield 76, 3) := by decide +kernel
theorem dX0_readNode_197 : decode cX0_readNode 197 = .ok (.goto 56, 3) := by decide +kernel
theorem dX0_readNode_200 : decode cX0_readNode 200 = .ok (.aload_n 0, 1) := by decide +kernel
theorem dX0_readNode_201 : decode cX0_readNode 201 = .ok (.getfield 9, 3) := by decide +kernel
theorem dX0_readNode_204 : decode cX0_readNode 204 = .ok (.sipush 1019, 3) := by decide +kernel
theorem dX0_readNode_207 : decode cX0_readNode 207 = .ok (.invokevirtual 25, 3) := by decide +kernel
theorem dX0_readNode_210 : decode cX0_readNode 210 = .ok (.ifCond .eq 11, 3) := by decide +kernel
theorem dX0_readNode_213 : decode cX0_readNode 213 = .ok (.aload_n 3, 1) := by decide +kernel
theorem dX0_readNode_214 : decode cX0_readNode 214 = .ok (.iconst 2, 1) := by decide +kernel
theorem dX0_readNode_215 : decode cX0_readNode 215 = .ok (.putfield 73, 3) := by decide +kernel
theorem dX0_readNode_218 : decode cX0_readNode 218 = .ok (.goto 35, 3) := by decide +kernel
theorem dX0_readNode_221 : decode cX0_readNode 221 = .ok (.aload_n 0, 1) := by decide +kernel
theorem dX0_readNode_222 : decode cX0_readNode 222 = .ok (.getfield 9, 3) := by decide +kernel
theorem dX0_readNode_225 : decode cX0_readNode 225 = .ok (.sipush 1020, 3) := by decide +kernel
theorem dX0_readNode_228 : decode cX0_readNode 228 = .ok (.invokevirtual 25, 3) := by decide +kernel
theorem dX0_readNode_231 : decode cX0_readNode 231 = .ok (.ifCond .eq 22, 3) := by decide +kernel
theorem dX0_readNode_234 : decode cX0_readNode 234 = .ok (.aload_n 3, 1) := by decide +kernel
theorem dX0_readNode_235 : decode cX0_readNode 235 = .ok (.iconst 3, 1) := by decide +kernel
theorem dX0_readNode_236 : decode cX0_readNode 236 = .ok (.putfield 73, 3) := by decide +kernel
theorem dX0_readNode_239 : decode cX0_readNode 239 = .ok (.aload_n 3, 1) := by decide +kernel
theorem dX0_readNode_240 : decode cX0_readNode 240 = .ok (.aload_n 0, 1) := by decide +kernel
theorem dX0_readNode_241 : decode cX0_readNode 241 = .ok (.getfield 9, 3) := by decide +kernel
theorem dX0_readNode_244 : decode cX0_readNode 244 = .ok (.iconst 0, 1) := by decide +kernel
theorem dX0_readNode_245 : decode cX0_readNode 245 = .ok (.bipush 99, 2) := by decide +kernel
theorem dX0_readNode_247 : decode cX0_readNode 247 = .ok (.invokevirtual 45, 3) := by decide +kernel
theorem dX0_readNode_250 : decode cX0_readNode 250 = .ok (.putfield 76, 3) := by decide +kernel
theorem dX0_readNode_253 : decode cX0_readNode 253 = .ok (.aload_n 0, 1) := by decide +kernel
theorem dX0_readNode_254 : decode cX0_readNode 254 = .ok (.getfield 9, 3) := by decide +kernel
theorem dX0_readNode_257 : decode cX0_readNode 257 = .ok (.sipush 1021, 3) := by decide +kernel
theorem dX0_readNode_260 : decode cX0_readNode 260 = .ok (.invokevirtual 25, 3) := by decide +kernel
theorem dX0_readNode_263 : decode cX0_readNode 263 = .ok (.ifCond .eq 11, 3) := by decide +kernel
theorem dX0_readNode_266 : decode cX0_readNode 266 = .ok (.aload_n 3, 1) := by decide +kernel
theorem dX0_readNode_267 : decode cX0_readNode 267 = .ok (.iconst 0, 1) := by decide +kernel
theorem dX0_readNode_268 : decode cX0_readNode 268 = .ok (.putfield 79, 3) := by decide +kernel
theorem dX0_readNode_271 : decode cX0_readNode 271 = .ok (.goto 29, 3) := by decide +kernel
theorem dX0_readNode_274 : decode cX0_readNode 274 = .ok (.aload_n 0, 1) := by decide +kernel
theorem dX0_readNode_275 : decode cX0_readNode 275 = .ok (.getfield 9, 3) := by decide +kernel
theorem dX0_readNode_278 : decode cX0_readNode 278 = .ok (.sipush 1022, 3) := by decide +kernel
theorem dX0_readNode_281 : decode cX0_readNode 281 = .ok (.invokevirtual 25, 3) := by decide +kernel
theorem dX0_readNode_284 : decode cX0_readNode 284 = .ok (.ifCond .eq 16, 3) := by decide +kernel
theorem dX0_readNode_287 : decode cX0_readNode 287 = .ok (.aload_n 3, 1) := by decide +kernel
theorem dX0_readNode_288 : decode cX0_readNode 288 = .ok (.iconst 2, 1) := by decide +kernel
theorem dX0_readNode_289 : decode cX0_readNode 289 = .ok (.putfield 79, 3) := by decide +kernel
theorem dX0_readNode_292 : decode cX0_readNode 292 = .ok (.aload_n 3, 1) := by decide +kernel
theorem dX0_readNode_293 : decode cX0_readNode 293 = .ok (.iload_n 2, 1) := by decide +kernel
theorem dX0_readNode_294 : decode cX0_readNode 294 = .ok (.invokestatic 82, 3) := by decide +kernel
theorem dX0_readNode_297 : decode cX0_readNode 297 = .ok (.putfield 85, 3) := by decide +kernel
theorem dX0_readNode_300 : decode cX0_readNode 300 = .ok (.return_, 1) := by decide +kernel
theorem dX1_init_0 : decode cX1_init 0 = .ok (.aload_n 0, 1) := by decide +kernel
theorem dX1_init_1 : decode cX1_init 1 = .ok (.invokespecial 3, 3) := by decide +kernel
theorem dX1_init_4 : decode cX1_init 4 = .ok (.aload_n 0, 1) := by decide +kernel
theorem dX1_init_5 : decode cX1_init 5 = .ok (.bipush 8, 2) := by decide +kernel
theorem dX1_init_7 : decode cX1_init 7 = .ok (.newarray .int, 2) := by decide +kernel
theorem dX1_init_9 : decode cX1_init 9 = .ok (.putfield 9, 3) := by decide +kernel
theorem dX1_init_12 : decode cX1_init 12 = .ok (.aload_n 0, 1) := by decide +kernel
theorem dX1_init_13 : decode cX1_init 13 = .ok (.sipush 256, 3) := by decide +kernel
theorem dX1_init_16 : decode cX1_init 16 = .ok (.newarray .int, 2) := by decide +kernel
theorem dX1_init_18 : decode cX1_init 18 = .ok (.putfield 15, 3) := by decide +kernel
theorem dX1_init_21 : decode cX1_init 21 = .ok (.aload_n 0, 1) := by decide +kernel
theorem dX1_init_22 : decode cX1_init 22 = .ok (.bipush 64, 2) := by decide +kernel
theorem dX1_init_24 : decode cX1_init 24 = .ok (.newarray .int, 2) := by decide +kernel
theorem dX1_init_26 : decode cX1_init 26 = .ok (.putfield 18, 3) := by decide +kernel
theorem dX1_init_29 : decode cX1_init 29 = .ok (.aload_n 0, 1) := by decide +kernel
theorem dX1_init_30 : decode cX1_init 30 = .ok (.bipush 8, 2) := by decide +kernel
theorem dX1_init_32 : decode cX1_init 32 = .ok (.newarray .int, 2) := by decide +kernel
theorem dX1_init_34 : decode cX1_init 34 = .ok (.putfield 21, 3) := by decide +kernel
theorem dX1_init_37 : decode cX1_init 37 = .ok (.return_, 1) := by decide +kernel
theorem dX1_load_0 : decode cX1_load 0 = .ok (.aload_n 0, 1) := by decide +kernel
theorem dX1_load_1 : decode cX1_load 1 = .ok (.aload_n 1, 1) := by decide +kernel
theorem dX1_load_2 : decode cX1_load 2 = .ok (.getfield 24, 3) := by decide +kernel
theorem dX1_load_5 : decode cX1_load 5 = .ok (.putfield 30, 3) := by decide +kernel
theorem dX1_load_8 : decode cX1_load 8 = .ok (.iconst 0, 1) := by decide +kernel
theorem dX1_load_9 : decode cX1_load 9 = .ok (.istore_n 2, 1) := by decide +kernel
theorem dX1_load_10 : decode cX1_load 10 = .ok (.iload_n 2, 1) := by decide +kernel
theorem dX1_load_11 : decode cX1_load 11 = .ok (.bipush 8, 2) := by decide +kernel
theorem dX1_load_13 : decode cX1_load 13 = .ok (.if_icmp .ge 108, 3) := by decide +kernel
theorem dX1_load_16 : decode cX1_load 16 = .ok (.aload_n 0, 1) := by decide +kernel
theorem dX1_load_17 : decode cX1_load 17 = .ok (.getfield 9, 3) := by decide +kernel
theorem dX1_load_20 : decode cX1_load 20 = .ok (.iload_n 2, 1) := by decide +kernel
theorem dX1_load_21 : decode cX1_load 21 = .ok (.iconst 0, 1) := by decide +kernel
theorem dX1_load_22 : decode cX1_load 22 = .ok (.iastore, 1) := by decide +kernel
theorem dX1_load_23 : decode cX1_load 23 = .ok (.iconst 0, 1) := by decide +kernel
theorem dX1_load_24 : decode cX1_load 24 = .ok (.istore_n 3, 1) := by decide +kernel
theorem dX1_load_25 : decode cX1_load 25 = .ok (.iload_n 3, 1) := by decide +kernel
theorem dX1_load_26 : decode cX1_load 26 = .ok (.bipush 8, 2) := by decide +kernel
theorem dX1_load_28 : decode cX1_load 28 = .ok (.if_icmp .ge 87, 3) := by decide +kernel
theorem dX1_load_31 : decode cX1_load 31 = .ok (.iload_n 2, 1) := by decide +kernel
theorem dX1_load_32 : decode cX1_load 32 = .ok (.iload_n 3, 1) := by decide +kernel
theorem dX1_load_33 : decode cX1_load 33 = .ok (.if_icmp .eq 29, 3) := by decide +kernel
theorem dX1_load_36 : decode cX1_load 36 = .ok (.aload_n 0, 1) := by decide +kernel
theorem dX1_load_37 : decode cX1_load 37 = .ok (.getfield 30, 3) := by decide +kernel
theorem dX1_load_40 : decode cX1_load 40 = .ok (.iload_n 2, 1) := by decide +kernel
theorem dX1_load_41 : decode cX1_load 41 = .ok (.invokestatic 31, 3) := by decide +kernel
theorem dX1_load_44 : decode cX1_load 44 = .ok (.ifCond .eq 18, 3) := by decide +kernel
theorem dX1_load_47 : decode cX1_load 47 = .ok (.aload_n 0, 1) := by decide +kernel
theorem dX1_load_48 : decode cX1_load 48 = .ok (.getfield 30, 3) := by decide +kernel
theorem dX1_load_51 : decode cX1_load 51 = .ok (.iload_n 3, 1) := by decide +kernel
theorem dX1_load_52 : decode cX1_load 52 = .ok (.invokestatic 31, 3) := by decide +kernel
theorem dX1_load_55 : decode cX1_load 55 = .ok (.ifCond .eq 7, 3) := by decide +kernel
theorem dX1_load_58 : decode cX1_load 58 = .ok (.iconst 1, 1) := by decide +kernel
theorem dX1_load_59 : decode cX1_load 59 = .ok (.goto 4, 3) := by decide +kernel
theorem dX1_load_62 : decode cX1_load 62 = .ok (.iconst 0, 1) := by decide +kernel
theorem dX1_load_63 : decode cX1_load 63 = .ok (.istore 4, 2) := by decide +kernel
theorem dX1_load_65 : decode cX1_load 65 = .ok (.iload 4, 2) := by decide +kernel
theorem dX1_load_67 : decode cX1_load 67 = .ok (.ifCond .eq 42, 3) := by decide +kernel
theorem dX1_load_70 : decode cX1_load 70 = .ok (.aload_n 1, 1) := by decide +kernel
theorem dX1_load_71 : decode cX1_load 71 = .ok (.getfield 35, 3) := by decide +kernel
theorem dX1_load_74 : decode cX1_load 74 = .ok (.iload_n 2, 1) := by decide +kernel
theorem dX1_load_75 : decode cX1_load 75 = .ok (.iaload, 1) := by decide +kernel
theorem dX1_load_76 : decode cX1_load 76 = .ok (.iload_n 3, 1) := by decide +kernel
theorem dX1_load_77 : decode cX1_load 77 = .ok (.invokestatic 31, 3) := by decide +kernel
theorem dX1_load_80 : decode cX1_load 80 = .ok (.ifCond .eq 29, 3) := by decide +kernel
theorem dX1_load_83 : decode cX1_load 83 = .ok (.aload_n 1, 1) := by decide +kernel
theorem dX1_load_84 : decode cX1_load 84 = .ok (.getfield 35, 3) := by decide +kernel
theorem dX1_load_87 : decode cX1_load 87 = .ok (.iload_n 3, 1) := by decide +kernel
theorem dX1_load_88 : decode cX1_load 88 = .ok (.iaload, 1) := by decide +kernel
theorem dX1_load_89 : decode cX1_load 89 = .ok (.iload_n 2, 1) := by decide +kernel
theorem dX1_load_90 : decode cX1_load 90 = .ok (.invokestatic 31, 3) := by decide +kernel
theorem dX1_load_93 : decode cX1_load 93 = .ok (.ifCond .eq 16, 3) := by decide +kernel
theorem dX1_load_96 : decode cX1_load 96 = .ok (.aload_n 0, 1) := by decide +kernel
theorem dX1_load_97 : decode cX1_load 97 = .ok (.getfield 9, 3) := by decide +kernel
theorem dX1_load_100 : decode cX1_load 100 = .ok (.iload_n 2, 1) := by decide +kernel
theorem dX1_load_101 : decode cX1_load 101 = .ok (.dup2, 1) := by decide +kernel
theorem dX1_load_102 : decode cX1_load 102 = .ok (.iaload, 1) := by decide +kernel
theorem dX1_load_103 : decode cX1_load 103 = .ok (.iload_n 3, 1) := by decide +kernel
theorem dX1_load_104 : decode cX1_load 104 = .ok (.invokestatic 38, 3) := by decide +kernel
theorem dX1_load_107 : decode cX1_load 107 = .ok (.ior, 1) := by decide +kernel
theorem dX1_load_108 : decode cX1_load 108 = .ok (.iastore, 1) := by decide +kernel
theorem dX1_load_109 : decode cX1_load 109 = .ok (.iinc 3 1, 3) := by decide +kernel
theorem dX1_load_112 : decode cX1_load 112 = .ok (.goto (-87), 3) := by decide +kernel
theorem dX1_load_115 : decode cX1_load 115 = .ok (.iinc 2 1, 3) := by decide +kernel
theorem dX1_load_118 : decode cX1_load 118 = .ok (.goto (-108), 3) := by decide +kernel
theorem dX1_load_121 : decode cX1_load 121 = .ok (.return_, 1) := by decide +kernel
theorem dX1_cliqueOf_0 : decode cX1_cliqueOf 0 = .ok (.aload_n 0, 1) := by decide +kernel
theorem dX1_cliqueOf_1 : decode cX1_cliqueOf 1 = .ok (.getfield 30, 3) := by decide +kernel
theorem dX1_cliqueOf_4 : decode cX1_cliqueOf 4 = .ok (.iload_n 1, 1) := by decide +kernel
theorem dX1_cliqueOf_5 : decode cX1_cliqueOf 5 = .ok (.invokestatic 38, 3) := by decide +kernel
theorem dX1_cliqueOf_8 : decode cX1_cliqueOf 8 = .ok (.iand, 1) := by decide +kernel
theorem dX1_cliqueOf_9 : decode cX1_cliqueOf 9 = .ok (.istore_n 2, 1) := by decide +kernel
theorem dX1_cliqueOf_10 : decode cX1_cliqueOf 10 = .ok (.iconst 0, 1) := by decide +kernel
theorem dX1_cliqueOf_11 : decode cX1_cliqueOf 11 = .ok (.istore_n 3, 1) := by decide +kernel
theorem dX1_cliqueOf_12 : decode cX1_cliqueOf 12 = .ok (.iload_n 3, 1) := by decide +kernel
theorem dX1_cliqueOf_13 : decode cX1_cliqueOf 13 = .ok (.bipush 8, 2) := by decide +kernel
theorem dX1_cliqueOf_15 : decode cX1_cliqueOf 15 = .ok (.if_icmp .ge 44, 3) := by decide +kernel
theorem dX1_cliqueOf_18 : decode cX1_cliqueOf 18 = .ok (.iconst 0, 1) := by decide +kernel
theorem dX1_cliqueOf_19 : decode cX1_cliqueOf 19 = .ok (.istore 4, 2) := by decide +kernel
theorem dX1_cliqueOf_21 : decode cX1_cliqueOf 21 = .ok (.iload 4, 2) := by decide +kernel
theorem dX1_cliqueOf_23 : decode cX1_cliqueOf 23 = .ok (.bipush 8, 2) := by decide +kernel
theorem dX1_cliqueOf_25 : decode cX1_cliqueOf 25 = .ok (.if_icmp .ge 28, 3) := by decide +kernel
theorem dX1_cliqueOf_28 : decode cX1_cliqueOf 28 = .ok (.iload_n 2, 1) := by decide +kernel
theorem dX1_cliqueOf_29 : decode cX1_cliqueOf 29 = .ok (.iload 4, 2) := by decide +kernel
theorem dX1_cliqueOf_31 : decode cX1_cliqueOf 31 = .ok (.invokestatic 31, 3) := by decide +kernel
theorem dX1_cliqueOf_34 : decode cX1_cliqueOf 34 = .ok (.ifCond .eq 13, 3) := by decide +kernel
theorem dX1_cliqueOf_37 : decode cX1_cliqueOf 37 = .ok (.iload_n 2, 1) := by decide +kernel
theorem dX1_cliqueOf_38 : decode cX1_cliqueOf 38 = .ok (.aload_n 0, 1) := by decide +kernel
theorem dX1_cliqueOf_39 : decode cX1_cliqueOf 39 = .ok (.getfield 9, 3) := by decide +kernel
theorem dX1_cliqueOf_42 : decode cX1_cliqueOf 42 = .ok (.iload 4, 2) := by decide +kernel
theorem dX1_cliqueOf_44 : decode cX1_cliqueOf 44 = .ok (.iaload, 1) := by decide +kernel
theorem dX1_cliqueOf_45 : decode cX1_cliqueOf 45 = .ok (.ior, 1) := by decide +kernel
theorem dX1_cliqueOf_46 : decode cX1_cliqueOf 46 = .ok (.istore_n 2, 1) := by decide +kernel
theorem dX1_cliqueOf_47 : decode cX1_cliqueOf 47 = .ok (.iinc 4 1, 3) := by decide +kernel
theorem dX1_cliqueOf_50 : decode cX1_cliqueOf 50 = .ok (.goto (-29), 3) := by decide +kernel
theorem dX1_cliqueOf_53 : decode cX1_cliqueOf 53 = .ok (.iinc 3 1, 3) := by decide +kernel
theorem dX1_cliqueOf_56 : decode cX1_cliqueOf 56 = .ok (.goto (-44), 3) := by decide +kernel
theorem dX1_cliqueOf_59 : decode cX1_cliqueOf 59 = .ok (.iload_n 2, 1) := by decide +kernel
theorem dX1_cliqueOf_60 : decode cX1_cliqueOf 60 = .ok (.ireturn, 1) := by decide +kernel
theorem dX1_countCliques_0 : decode cX1_countCliques 0 = .ok (.aload_n 0, 1) := by decide +kernel
theorem dX1_countCliques_1 : decode cX1_countCliques 1 = .ok (.getfield 30, 3) := by decide +kernel
theorem dX1_countCliques_4 : decode cX1_countCliques 4 = .ok (.istore_n 1, 1) := by decide +kernel
theorem dX1_countCliques_5 : decode cX1_countCliques 5 = .ok (.iconst 0, 1) := by decide +kernel
theorem dX1_countCliques_6 : decode cX1_countCliques 6 = .ok (.istore_n 2, 1) := by decide +kernel
theorem dX1_countCliques_7 : decode cX1_countCliques 7 = .ok (.iconst 0, 1) := by decide +kernel
theorem dX1_countCliques_8 : decode cX1_countCliques 8 = .ok (.istore_n 3, 1) := by decide +kernel
theorem dX1_countCliques_9 : decode cX1_countCliques 9 = .ok (.iload_n 3, 1) := by decide +kernel
theorem dX1_countCliques_10 : decode cX1_countCliques 10 = .ok (.bipush 8, 2) := by decide +kernel
theorem dX1_countCliques_12 : decode cX1_countCliques 12 = .ok (.if_icmp .ge 30, 3) := by decide +kernel
theorem dX1_countCliques_15 : decode cX1_countCliques 15 = .ok (.iload_n 1, 1) := by decide +kernel
theorem dX1_countCliques_16 : decode cX1_countCliques 16 = .ok (.iload_n 3, 1) := by decide +kernel
theorem dX1_countCliques_17 : decode cX1_countCliques 17 = .ok (.invokestatic 31, 3) := by decide +kernel
theorem dX1_countCliques_20 : decode cX1_countCliques 20 = .ok (.ifCond .eq 16, 3) := by decide +kernel
theorem dX1_countCliques_23 : decode cX1_countCliques 23 = .ok (.iload_n 1, 1) := by decide +kernel
theorem dX1_countCliques_24 : decode cX1_countCliques 24 = .ok (.aload_n 0, 1) := by decide +kernel
theorem dX1_countCliques_25 : decode cX1_countCliques 25 = .ok (.iload_n 3, 1) := by decide +kernel
theorem dX1_countCliques_26 : decode cX1_countCliques 26 = .ok (.invokevirtual 42, 3) := by decide +kernel
theorem dX1_countCliques_29 : decode cX1_countCliques 29 = .ok (.iconst (-1), 1) := by decide +kernel
theorem dX1_countCliques_30 : decode cX1_countCliques 30 = .ok (.ixor, 1) := by decide +kernel
theorem dX1_countCliques_31 : decode cX1_countCliques 31 = .ok (.iand, 1) := by decide +kernel
theorem dX1_countCliques_32 : decode cX1_countCliques 32 = .ok (.istore_n 1, 1) := by decide +kernel
theorem dX1_countCliques_33 : decode cX1_countCliques 33 = .ok (.iinc 2 1, 3) := by decide +kernel
theorem dX1_countCliques_36 : decode cX1_countCliques 36 = .ok (.iinc 3 1, 3) := by decide +kernel
theorem dX1_countCliques_39 : decode cX1_countCliques 39 = .ok (.goto (-30), 3) := by decide +kernel
theorem dX1_countCliques_42 : decode cX1_countCliques 42 = .ok (.iload_n 2, 1) := by decide +kernel
theorem dX1_countCliques_43 : decode cX1_countCliques 43 = .ok (.ireturn, 1) := by decide +kernel
theorem dX1_fewestToSpare_0 : decode cX1_fewestToSpare 0 = .ok (.aload_n 0, 1) := by decide +kernel
theorem dX1_fewestToSpare_1 : decode cX1_fewestToSpare 1 = .ok (.getfield 30, 3) := by decide +kernel
theorem dX1_fewestToSpare_4 : decode cX1_fewestToSpare 4 = .ok (.istore_n 1, 1) := by decide +kernel
theorem dX1_fewestToSpare_5 : decode cX1_fewestToSpare 5 = .ok (.iconst 0, 1) := by decide +kernel
theorem dX1_fewestToSpare_6 : decode cX1_fewestToSpare 6 = .ok (.istore_n 2, 1) := by decide +kernel
theorem dX1_fewestToSpare_7 : decode cX1_fewestToSpare 7 = .ok (.iload_n 2, 1) := by decide +kernel
theorem dX1_fewestToSpare_8 : decode cX1_fewestToSpare 8 = .ok (.sipush 256, 3) := by decide +kernel
theorem dX1_fewestToSpare_11 : decode cX1_fewestToSpare 11 = .ok (.if_icmp .ge 58, 3) := by decide +kernel
theorem dX1_fewestToSpare_14 : decode cX1_fewestToSpare 14 = .ok (.iload_n 2, 1) := by decide +kernel
theorem dX1_fewestToSpare_15 : decode cX1_fewestToSpare 15 = .ok (.invokestatic 45, 3) := by decide +kernel
theorem dX1_fewestToSpare_18 : decode cX1_fewestToSpare 18 = .ok (.iload_n 1, 1) := by decide +kernel
theorem dX1_fewestToSpare_19 : decode cX1_fewestToSpare 19 = .ok (.invokestatic 45, 3) := by decide +kernel
theorem dX1_fewestToSpare_22 : decode cX1_fewestToSpare 22 = .ok (.if_icmp .ge 7, 3) := by decide +kernel
theorem dX1_fewestToSpare_25 : decode cX1_fewestToSpare 25 = .ok (.iconst 1, 1) := by decide +kernel
theorem dX1_fewestToSpare_26 : decode cX1_fewestToSpare 26 = .ok (.goto 4, 3) := by decide +kernel
theorem dX1_fewestToSpare_29 : decode cX1_fewestToSpare 29 = .ok (.iconst 0, 1) := by decide +kernel
theorem dX1_fewestToSpare_30 : decode cX1_fewestToSpare 30 = .ok (.istore_n 3, 1) := by decide +kernel
theorem dX1_fewestToSpare_31 : decode cX1_fewestToSpare 31 = .ok (.iload_n 3, 1) := by decide +kernel
theorem dX1_fewestToSpare_32 : decode cX1_fewestToSpare 32 = .ok (.ifCond .eq 31, 3) := by decide +kernel
theorem dX1_fewestToSpare_35 : decode cX1_fewestToSpare 35 = .ok (.iload_n 2, 1) := by decide +kernel
theorem dX1_fewestToSpare_36 : decode cX1_fewestToSpare 36 = .ok (.aload_n 0, 1) := by decide +kernel
theorem dX1_fewestToSpare_37 : decode cX1_fewestToSpare 37 = .ok (.getfield 30, 3) := by decide +kernel
theorem dX1_fewestToSpare_40 : decode cX1_fewestToSpare 40 = .ok (.iconst (-1), 1) := by decide +kernel
theorem dX1_fewestToSpare_41 : decode cX1_fewestToSpare 41 = .ok (.ixor, 1) := by decide +kernel
theorem dX1_fewestToSpare_42 : decode cX1_fewestToSpare 42 = .ok (.iand, 1) := by decide +kernel
theorem dX1_fewestToSpare_43 : decode cX1_fewestToSpare 43 = .ok (.ifCond .ne 20, 3) := by decide +kernel
theorem dX1_fewestToSpare_46 : decode cX1_fewestToSpare 46 = .ok (.aload_n 0, 1) := by decide +kernel
theorem dX1_fewestToSpare_47 : decode cX1_fewestToSpare 47 = .ok (.aload_n 0, 1) := by decide +kernel
theorem dX1_fewestToSpare_48 : decode cX1_fewestToSpare 48 = .ok (.getfield 30, 3) := by decide +kernel
theorem dX1_fewestToSpare_51 : decode cX1_fewestToSpare 51 = .ok (.iload_n 2, 1) := by decide +kernel
theorem dX1_fewestToSpare_52 : decode cX1_fewestToSpare 52 = .ok (.iconst (-1), 1) := by decide +kernel
theorem dX1_fewestToSpare_53 : decode cX1_fewestToSpare 53 = .ok (.ixor, 1) := by decide +kernel
theorem dX1_fewestToSpare_54 : decode cX1_fewestToSpare 54 = .ok (.iand, 1) := by decide +kernel
theorem dX1_fewestToSpare_55 : decode cX1_fewestToSpare 55 = .ok (.invokevirtual 50, 3) := by decide +kernel
theorem dX1_fewestToSpare_58 : decode cX1_fewestToSpare 58 = .ok (.ifCond .eq 5, 3) := by decide +kernel
theorem dX1_fewestToSpare_61 : decode cX1_fewestToSpare 61 = .ok (.iload_n 2, 1) := by decide +kernel
theorem dX1_fewestToSpare_62 : decode cX1_fewestToSpare 62 = .ok (.istore_n 1, 1) := by decide +kernel
theorem dX1_fewestToSpare_63 : decode cX1_fewestToSpare 63 = .ok (.iinc 2 1, 3) := by decide +kernel
theorem dX1_fewestToSpare_66 : decode cX1_fewestToSpare 66 = .ok (.goto (-59), 3) := by decide +kernel
theorem dX1_fewestToSpare_69 : decode cX1_fewestToSpare 69 = .ok (.iload_n 1, 1) := by decide +kernel
theorem dX1_fewestToSpare_70 : decode cX1_fewestToSpare 70 = .ok (.ireturn, 1) := by decide +kernel
theorem dX1_areFriends_0 : decode cX1_areFriends 0 = .ok (.iconst 0, 1) := by decide +kernel
theorem dX1_areFriends_1 : decode cX1_areFriends 1 = .ok (.istore_n 2, 1) := by decide +kernel
theorem dX1_areFriends_2 : decode cX1_areFriends 2 = .ok (.iload_n 2, 1) := by decide +kernel
theorem dX1_areFriends_3 : decode cX1_areFriends 3 = .ok (.bipush 8, 2) := by decide +kernel
theorem dX1_areFriends_5 : decode cX1_areFriends 5 = .ok (.if_icmp .ge 39, 3) := by decide +kernel
theorem dX1_areFriends_8 : decode cX1_areFriends 8 = .ok (.iload_n 1, 1) := by decide +kernel
theorem dX1_areFriends_9 : decode cX1_areFriends 9 = .ok (.iload_n 2, 1) := by decide +kernel
theorem dX1_areFriends_10 : decode cX1_areFriends 10 = .ok (.invokestatic 31, 3) := by decide +kernel
theorem dX1_areFriends_13 : decode cX1_areFriends 13 = .ok (.ifCond .eq 25, 3) := by decide +kernel
theorem dX1_areFriends_16 : decode cX1_areFriends 16 = .ok (.iload_n 1, 1) := by decide +kernel
theorem dX1_areFriends_17 : decode cX1_areFriends 17 = .ok (.iload_n 2, 1) := by decide +kernel
theorem dX1_areFriends_18 : decode cX1_areFriends 18 = .ok (.invokestatic 38, 3) := by decide +kernel
theorem dX1_areFriends_21 : decode cX1_areFriends 21 = .ok (.iconst (-1), 1) := by decide +kernel
theorem dX1_areFriends_22 : decode cX1_areFriends 22 = .ok (.ixor, 1) := by decide +kernel
theorem dX1_areFriends_23 : decode cX1_areFriends 23 = .ok (.iand, 1) := by decide +kernel
theorem dX1_areFriends_24 : decode cX1_areFriends 24 = .ok (.aload_n 0, 1) := by decide +kernel
theorem dX1_areFriends_25 : decode cX1_areFriends 25 = .ok (.getfield 9, 3) := by decide +kernel
theorem dX1_areFriends_28 : decode cX1_areFriends 28 = .ok (.iload_n 2, 1) := by decide +kernel
theorem dX1_areFriends_29 : decode cX1_areFriends 29 = .ok (.iaload, 1) := by decide +kernel
theorem dX1_areFriends_30 : decode cX1_areFriends 30 = .ok (.iconst (-1), 1) := by decide +kernel
theorem dX1_areFriends_31 : decode cX1_areFriends 31 = .ok (.ixor, 1) := by decide +kernel
theorem dX1_areFriends_32 : decode cX1_areFriends 32 = .ok (.iand, 1) := by decide +kernel
theorem dX1_areFriends_33 : decode cX1_areFriends 33 = .ok (.ifCond .eq 5, 3) := by decide +kernel
theorem dX1_areFriends_36 : decode cX1_areFriends 36 = .ok (.iconst 0, 1) := by decide +kernel
theorem dX1_areFriends_37 : decode cX1_areFriends 37 = .ok (.ireturn, 1) := by decide +kernel
theorem dX1_areFriends_38 : decode cX1_areFriends 38 = .ok (.iinc 2 1, 3) := by decide +kernel
theorem dX1_areFriends_41 : decode cX1_areFriends 41 = .ok (.goto (-39), 3) := by decide +kernel
theorem dX1_areFriends_44 : decode cX1_areFriends 44 = .ok (.iconst 1, 1) := by decide +kernel
theorem dX1_areFriends_45 : decode cX1_areFriends 45 = .ok (.ireturn, 1) := by decide +kernel
theorem dX1_inOrder_0 : decode cX1_inOrder 0 = .ok (.aload_n 0, 1) := by decide +kernel
theorem dX1_inOrder_1 : decode cX1_inOrder 1 = .ok (.aload_n 1, 1) := by decide +kernel
theorem dX1_inOrder_2 : decode cX1_inOrder 2 = .ok (.iconst 1, 1) := by decide +kernel
theorem dX1_inOrder_3 : decode cX1_inOrder 3 = .ok (.invokevirtual 54, 3) := by decide +kernel
theorem dX1_inOrder_6 : decode cX1_inOrder 6 = .ok (.istore_n 3, 1) := by decide +kernel
theorem dX1_inOrder_7 : decode cX1_inOrder 7 = .ok (.iload_n 2, 1) := by decide +kernel
theorem dX1_inOrder_8 : decode cX1_inOrder 8 = .ok (.ifCond .lt 8, 3) := by decide +kernel
theorem dX1_inOrder_11 : decode cX1_inOrder 11 = .ok (.iload_n 2, 1) := by decide +kernel
theorem dX1_inOrder_12 : decode cX1_inOrder 12 = .ok (.iload_n 3, 1) := by decide +kernel
theorem dX1_inOrder_13 : decode cX1_inOrder 13 = .ok (.if_icmp .lt 5, 3) := by decide +kernel
theorem dX1_inOrder_16 : decode cX1_inOrder 16 = .ok (.iconst (-1), 1) := by decide +kernel
theorem dX1_inOrder_17 : decode cX1_inOrder 17 = .ok (.ireturn, 1) := by decide +kernel
theorem dX1_inOrder_18 : decode cX1_inOrder 18 = .ok (.aload_n 0, 1) := by decide +kernel
theorem dX1_inOrder_19 : decode cX1_inOrder 19 = .ok (.getfield 21, 3) := by decide +kernel
theorem dX1_inOrder_22 : decode cX1_inOrder 22 = .ok (.iconst 0, 1) := by decide +kernel
theorem dX1_inOrder_23 : decode cX1_inOrder 23 = .ok (.iaload, 1) := by decide +kernel
theorem dX1_inOrder_24 : decode cX1_inOrder 24 = .ok (.istore 4, 2) := by decide +kernel
theorem dX1_inOrder_26 : decode cX1_inOrder 26 = .ok (.aload_n 0, 1) := by decide +kernel
theorem dX1_inOrder_27 : decode cX1_inOrder 27 = .ok (.aload_n 1, 1) := by decide +kernel
theorem dX1_inOrder_28 : decode cX1_inOrder 28 = .ok (.iconst (-1), 1) := by decide +kernel
theorem dX1_inOrder_29 : decode cX1_inOrder 29 = .ok (.invokevirtual 54, 3) := by decide +kernel
theorem dX1_inOrder_32 : decode cX1_inOrder 32 = .ok (.pop, 1) := by decide +kernel
theorem dX1_inOrder_33 : decode cX1_inOrder 33 = .ok (.iload 4, 2) := by decide +kernel
theorem dX1_inOrder_35 : decode cX1_inOrder 35 = .ok (.aload_n 0, 1) := by decide +kernel
theorem dX1_inOrder_36 : decode cX1_inOrder 36 = .ok (.getfield 21, 3) := by decide +kernel
theorem dX1_inOrder_39 : decode cX1_inOrder 39 = .ok (.iconst 0, 1) := by decide +kernel
theorem dX1_inOrder_40 : decode cX1_inOrder 40 = .ok (.iaload, 1) := by decide +kernel
theorem dX1_inOrder_41 : decode cX1_inOrder 41 = .ok (.if_icmp .ge 10, 3) := by decide +kernel
theorem dX1_inOrder_44 : decode cX1_inOrder 44 = .ok (.aload_n 0, 1) := by decide +kernel
theorem dX1_inOrder_45 : decode cX1_inOrder 45 = .ok (.aload_n 1, 1) := by decide +kernel
theorem dX1_inOrder_46 : decode cX1_inOrder 46 = .ok (.iconst 1, 1) := by decide +kernel
theorem dX1_inOrder_47 : decode cX1_inOrder 47 = .ok (.invokevirtual 54, 3) := by decide +kernel
theorem dX1_inOrder_50 : decode cX1_inOrder 50 = .ok (.pop, 1) := by decide +kernel
theorem dX1_inOrder_51 : decode cX1_inOrder 51 = .ok (.aload_n 0, 1) := by decide +kernel
theorem dX1_inOrder_52 : decode cX1_inOrder 52 = .ok (.getfield 21, 3) := by decide +kernel
theorem dX1_inOrder_55 : decode cX1_inOrder 55 = .ok (.iload_n 2, 1) := by decide +kernel
theorem dX1_inOrder_56 : decode cX1_inOrder 56 = .ok (.iaload, 1) := by decide +kernel
theorem dX1_inOrder_57 : decode cX1_inOrder 57 = .ok (.ireturn, 1) := by decide +kernel
theorem dX1_putInOrder_0 : decode cX1_putInOrder 0 = .ok (.iconst 0, 1) := by decide +kernel
theorem dX1_putInOrder_1 : decode cX1_putInOrder 1 = .ok (.istore_n 3, 1) := by decide +kernel
theorem dX1_putInOrder_2 : decode cX1_putInOrder 2 = .ok (.iconst 0, 1) := by decide +kernel
theorem dX1_putInOrder_3 : decode cX1_putInOrder 3 = .ok (.istore 4, 2) := by decide +kernel
theorem dX1_putInOrder_5 : decode cX1_putInOrder 5 = .ok (.iload 4, 2) := by decide +kernel
theorem dX1_putInOrder_7 : decode cX1_putInOrder 7 = .ok (.aload_n 1, 1) := by decide +kernel
theorem dX1_putInOrder_8 : decode cX1_putInOrder 8 = .ok (.getfield 58, 3) := by decide +kernel
theorem dX1_putInOrder_11 : decode cX1_putInOrder 11 = .ok (.if_icmp .ge 106, 3) := by decide +kernel
theorem dX1_putInOrder_14 : decode cX1_putInOrder 14 = .ok (.aload_n 1, 1) := by decide +kernel
theorem dX1_putInOrder_15 : decode cX1_putInOrder 15 = .ok (.getfield 63, 3) := by decide +kernel
theorem dX1_putInOrder_18 : decode cX1_putInOrder 18 = .ok (.iload 4, 2) := by decide +kernel
theorem dX1_putInOrder_20 : decode cX1_putInOrder 20 = .ok (.aaload, 1) := by decide +kernel
theorem dX1_putInOrder_21 : decode cX1_putInOrder 21 = .ok (.getfield 67, 3) := by decide +kernel
theorem dX1_putInOrder_24 : decode cX1_putInOrder 24 = .ok (.iconst 2, 1) := by decide +kernel
theorem dX1_putInOrder_25 : decode cX1_putInOrder 25 = .ok (.if_icmp .ne 86, 3) := by decide +kernel
theorem dX1_putInOrder_28 : decode cX1_putInOrder 28 = .ok (.iload_n 3, 1) := by decide +kernel
theorem dX1_putInOrder_29 : decode cX1_putInOrder 29 = .ok (.istore 5, 2) := by decide +kernel
theorem dX1_putInOrder_31 : decode cX1_putInOrder 31 = .ok (.iload_n 3, 1) := by decide +kernel
theorem dX1_putInOrder_32 : decode cX1_putInOrder 32 = .ok (.iconst 1, 1) := by decide +kernel
theorem dX1_putInOrder_33 : decode cX1_putInOrder 33 = .ok (.isub, 1) := by decide +kernel
theorem dX1_putInOrder_34 : decode cX1_putInOrder 34 = .ok (.istore 6, 2) := by decide +kernel
theorem dX1_putInOrder_36 : decode cX1_putInOrder 36 = .ok (.iload 6, 2) := by decide +kernel
theorem dX1_putInOrder_38 : decode cX1_putInOrder 38 = .ok (.ifCond .lt 61, 3) := by decide +kernel
theorem dX1_putInOrder_41 : decode cX1_putInOrder 41 = .ok (.aload_n 1, 1) := by decide +kernel
theorem dX1_putInOrder_42 : decode cX1_putInOrder 42 = .ok (.getfield 63, 3) := by decide +kernel
theorem dX1_putInOrder_45 : decode cX1_putInOrder 45 = .ok (.aload_n 0, 1) := by decide +kernel
theorem dX1_putInOrder_46 : decode cX1_putInOrder 46 = .ok (.getfield 21, 3) := by decide +kernel
theorem dX1_putInOrder_49 : decode cX1_putInOrder 49 = .ok (.iload 6, 2) := by decide +kernel
theorem dX1_putInOrder_51 : decode cX1_putInOrder 51 = .ok (.iaload, 1) := by decide +kernel
theorem dX1_putInOrder_52 : decode cX1_putInOrder 52 = .ok (.aaload, 1) := by decide +kernel
theorem dX1_putInOrder_53 : decode cX1_putInOrder 53 = .ok (.getfield 72, 3) := by decide +kernel
theorem dX1_putInOrder_56 : decode cX1_putInOrder 56 = .ok (.iload_n 2, 1) := by decide +kernel
theorem dX1_putInOrder_57 : decode cX1_putInOrder 57 = .ok (.imul, 1) := by decide +kernel
theorem dX1_putInOrder_58 : decode cX1_putInOrder 58 = .ok (.aload_n 1, 1) := by decide +kernel
theorem dX1_putInOrder_59 : decode cX1_putInOrder 59 = .ok (.getfield 63, 3) := by decide +kernel
theorem dX1_putInOrder_62 : decode cX1_putInOrder 62 = .ok (.iload 4, 2) := by decide +kernel
theorem dX1_putInOrder_64 : decode cX1_putInOrder 64 = .ok (.aaload, 1) := by decide +kernel
theorem dX1_putInOrder_65 : decode cX1_putInOrder 65 = .ok (.getfield 72, 3) := by decide +kernel
theorem dX1_putInOrder_68 : decode cX1_putInOrder 68 = .ok (.iload_n 2, 1) := by decide +kernel
theorem dX1_putInOrder_69 : decode cX1_putInOrder 69 = .ok (.imul, 1) := by decide +kernel
theorem dX1_putInOrder_70 : decode cX1_putInOrder 70 = .ok (.if_icmp .le 29, 3) := by decide +kernel
theorem dX1_putInOrder_73 : decode cX1_putInOrder 73 = .ok (.aload_n 0, 1) := by decide +kernel
theorem dX1_putInOrder_74 : decode cX1_putInOrder 74 = .ok (.getfield 21, 3) := by decide +kernel
theorem dX1_putInOrder_77 : decode cX1_putInOrder 77 = .ok (.iload 6, 2) := by decide +kernel
theorem dX1_putInOrder_79 : decode cX1_putInOrder 79 = .ok (.iconst 1, 1) := by decide +kernel
theorem dX1_putInOrder_80 : decode cX1_putInOrder 80 = .ok (.iadd, 1) := by decide +kernel
theorem dX1_putInOrder_81 : decode cX1_putInOrder 81 = .ok (.aload_n 0, 1) := by decide +kernel
theorem dX1_putInOrder_82 : decode cX1_putInOrder 82 = .ok (.getfield 21, 3) := by decide +kernel
theorem dX1_putInOrder_85 : decode cX1_putInOrder 85 = .ok (.iload 6, 2) := by decide +kernel
theorem dX1_putInOrder_87 : decode cX1_putInOrder 87 = .ok (.iaload, 1) := by decide +kernel
theorem dX1_putInOrder_88 : decode cX1_putInOrder 88 = .ok (.iastore, 1) := by decide +kernel
theorem dX1_putInOrder_89 : decode cX1_putInOrder 89 = .ok (.iload 6, 2) := by decide +kernel
theorem dX1_putInOrder_91 : decode cX1_putInOrder 91 = .ok (.istore 5, 2) := by decide +kernel
theorem dX1_putInOrder_93 : decode cX1_putInOrder 93 = .ok (.iinc 6 (-1), 3) := by decide +kernel
theorem dX1_putInOrder_96 : decode cX1_putInOrder 96 = .ok (.goto (-60), 3) := by decide +kernel
theorem dX1_putInOrder_99 : decode cX1_putInOrder 99 = .ok (.aload_n 0, 1) := by decide +kernel
theorem dX1_putInOrder_100 : decode cX1_putInOrder 100 = .ok (.getfield 21, 3) := by decide +kernel
theorem dX1_putInOrder_103 : decode cX1_putInOrder 103 = .ok (.iload 5, 2) := by decide +kernel
theorem dX1_putInOrder_105 : decode cX1_putInOrder 105 = .ok (.iload 4, 2) := by decide +kernel
theorem dX1_putInOrder_107 : decode cX1_putInOrder 107 = .ok (.iastore, 1) := by decide +kernel
theorem dX1_putInOrder_108 : decode cX1_putInOrder 108 = .ok (.iinc 3 1, 3) := by decide +kernel
theorem dX1_putInOrder_111 : decode cX1_putInOrder 111 = .ok (.iinc 4 1, 3) := by decide +kernel
theorem dX1_putInOrder_114 : decode cX1_putInOrder 114 = .ok (.goto (-109), 3) := by decide +kernel
theorem dX1_putInOrder_117 : decode cX1_putInOrder 117 = .ok (.iload_n 3, 1) := by decide +kernel
theorem dX1_putInOrder_118 : decode cX1_putInOrder 118 = .ok (.ireturn, 1) := by decide +kernel
theorem dX1_weighPairs_0 : decode cX1_weighPairs 0 = .ok (.iconst 0, 1) := by decide +kernel
theorem dX1_weighPairs_1 : decode cX1_weighPairs 1 = .ok (.istore_n 2, 1) := by decide +kernel
theorem dX1_weighPairs_2 : decode cX1_weighPairs 2 = .ok (.iload_n 2, 1) := by decide +kernel
theorem dX1_weighPairs_3 : decode cX1_weighPairs 3 = .ok (.bipush 8, 2) := by decide +kernel
theorem dX1_weighPairs_5 : decode cX1_weighPairs 5 = .ok (.if_icmp .ge 84, 3) := by decide +kernel
theorem dX1_weighPairs_8 : decode cX1_weighPairs 8 = .ok (.iconst 0, 1) := by decide +kernel
theorem dX1_weighPairs_9 : decode cX1_weighPairs 9 = .ok (.istore_n 3, 1) := by decide +kernel
theorem dX1_weighPairs_10 : decode cX1_weighPairs 10 = .ok (.iload_n 3, 1) := by decide +kernel
theorem dX1_weighPairs_11 : decode cX1_weighPairs 11 = .ok (.bipush 8, 2) := by decide +kernel
theorem dX1_weighPairs_13 : decode cX1_weighPairs 13 = .ok (.if_icmp .ge 70, 3) := by decide +kernel
theorem dX1_weighPairs_16 : decode cX1_weighPairs 16 = .ok (.aload_n 1, 1) := by decide +kernel
theorem dX1_weighPairs_17 : decode cX1_weighPairs 17 = .ok (.getfield 63, 3) := by decide +kernel
theorem dX1_weighPairs_20 : decode cX1_weighPairs 20 = .ok (.iload_n 2, 1) := by decide +kernel
theorem dX1_weighPairs_21 : decode cX1_weighPairs 21 = .ok (.aaload, 1) := by decide +kernel
theorem dX1_weighPairs_22 : decode cX1_weighPairs 22 = .ok (.getfield 72, 3) := by decide +kernel
theorem dX1_weighPairs_25 : decode cX1_weighPairs 25 = .ok (.aload_n 1, 1) := by decide +kernel
theorem dX1_weighPairs_26 : decode cX1_weighPairs 26 = .ok (.getfield 63, 3) := by decide +kernel
theorem dX1_weighPairs_29 : decode cX1_weighPairs 29 = .ok (.iload_n 3, 1) := by decide +kernel
theorem dX1_weighPairs_30 : decode cX1_weighPairs 30 = .ok (.aaload, 1) := by decide +kernel
theorem dX1_weighPairs_31 : decode cX1_weighPairs 31 = .ok (.getfield 72, 3) := by decide +kernel
theorem dX1_weighPairs_34 : decode cX1_weighPairs 34 = .ok (.isub, 1) := by decide +kernel
theorem dX1_weighPairs_35 : decode cX1_weighPairs 35 = .ok (.invokestatic 75, 3) := by decide +kernel
theorem dX1_weighPairs_38 : decode cX1_weighPairs 38 = .ok (.istore 4, 2) := by decide +kernel
theorem dX1_weighPairs_40 : decode cX1_weighPairs 40 = .ok (.aload_n 0, 1) := by decide +kernel
theorem dX1_weighPairs_41 : decode cX1_weighPairs 41 = .ok (.getfield 18, 3) := by decide +kernel
theorem dX1_weighPairs_44 : decode cX1_weighPairs 44 = .ok (.bipush 8, 2) := by decide +kernel
theorem dX1_weighPairs_46 : decode cX1_weighPairs 46 = .ok (.iload_n 2, 1) := by decide +kernel
theorem dX1_weighPairs_47 : decode cX1_weighPairs 47 = .ok (.imul, 1) := by decide +kernel
theorem dX1_weighPairs_48 : decode cX1_weighPairs 48 = .ok (.iload_n 3, 1) := by decide +kernel
theorem dX1_weighPairs_49 : decode cX1_weighPairs 49 = .ok (.iadd, 1) := by decide +kernel
theorem dX1_weighPairs_50 : decode cX1_weighPairs 50 = .ok (.aload_n 0, 1) := by decide +kernel
theorem dX1_weighPairs_51 : decode cX1_weighPairs 51 = .ok (.getfield 9, 3) := by decide +kernel
theorem dX1_weighPairs_54 : decode cX1_weighPairs 54 = .ok (.iload_n 2, 1) := by decide +kernel
theorem dX1_weighPairs_55 : decode cX1_weighPairs 55 = .ok (.iaload, 1) := by decide +kernel
theorem dX1_weighPairs_56 : decode cX1_weighPairs 56 = .ok (.iload_n 3, 1) := by decide +kernel
theorem dX1_weighPairs_57 : decode cX1_weighPairs 57 = .ok (.invokestatic 31, 3) := by decide +kernel
theorem dX1_weighPairs_60 : decode cX1_weighPairs 60 = .ok (.ifCond .eq 15, 3) := by decide +kernel
theorem dX1_weighPairs_63 : decode cX1_weighPairs 63 = .ok (.iconst 0, 1) := by decide +kernel
theorem dX1_weighPairs_64 : decode cX1_weighPairs 64 = .ok (.bipush 100, 2) := by decide +kernel
theorem dX1_weighPairs_66 : decode cX1_weighPairs 66 = .ok (.iload 4, 2) := by decide +kernel
theorem dX1_weighPairs_68 : decode cX1_weighPairs 68 = .ok (.isub, 1) := by decide +kernel
theorem dX1_weighPairs_69 : decode cX1_weighPairs 69 = .ok (.invokestatic 80, 3) := by decide +kernel
theorem dX1_weighPairs_72 : decode cX1_weighPairs 72 = .ok (.goto 4, 3) := by decide +kernel
theorem dX1_weighPairs_75 : decode cX1_weighPairs 75 = .ok (.iconst 0, 1) := by decide +kernel
theorem dX1_weighPairs_76 : decode cX1_weighPairs 76 = .ok (.iastore, 1) := by decide +kernel
theorem dX1_weighPairs_77 : decode cX1_weighPairs 77 = .ok (.iinc 3 1, 3) := by decide +kernel
theorem dX1_weighPairs_80 : decode cX1_weighPairs 80 = .ok (.goto (-70), 3) := by decide +kernel
theorem dX1_weighPairs_83 : decode cX1_weighPairs 83 = .ok (.iinc 2 1, 3) := by decide +kernel
theorem dX1_weighPairs_86 : decode cX1_weighPairs 86 = .ok (.goto (-84), 3) := by decide +kernel
theorem dX1_weighPairs_89 : decode cX1_weighPairs 89 = .ok (.aload_n 0, 1) := by decide +kernel
theorem dX1_weighPairs_90 : decode cX1_weighPairs 90 = .ok (.getfield 15, 3) := by decide +kernel
theorem dX1_weighPairs_93 : decode cX1_weighPairs 93 = .ok (.iconst 0, 1) := by decide +kernel
theorem dX1_weighPairs_94 : decode cX1_weighPairs 94 = .ok (.iconst 0, 1) := by decide +kernel
theorem dX1_weighPairs_95 : decode cX1_weighPairs 95 = .ok (.iastore, 1) := by decide +kernel
theorem dX1_weighPairs_96 : decode cX1_weighPairs 96 = .ok (.iconst 1, 1) := by decide +kernel
theorem dX1_weighPairs_97 : decode cX1_weighPairs 97 = .ok (.istore_n 2, 1) := by decide +kernel
theorem dX1_weighPairs_98 : decode cX1_weighPairs 98 = .ok (.iload_n 2, 1) := by decide +kernel
theorem dX1_weighPairs_99 : decode cX1_weighPairs 99 = .ok (.aload_n 0, 1) := by decide +kernel
theorem dX1_weighPairs_100 : decode cX1_weighPairs 100 = .ok (.getfield 15, 3) := by decide +kernel
theorem dX1_weighPairs_103 : decode cX1_weighPairs 103 = .ok (.arraylength, 1) := by decide +kernel
theorem dX1_weighPairs_104 : decode cX1_weighPairs 104 = .ok (.if_icmp .ge 104, 3) := by decide +kernel
theorem dX1_weighPairs_107 : decode cX1_weighPairs 107 = .ok (.iload_n 2, 1) := by decide +kernel
theorem dX1_weighPairs_108 : decode cX1_weighPairs 108 = .ok (.invokestatic 84, 3) := by decide +kernel
theorem dX1_weighPairs_111 : decode cX1_weighPairs 111 = .ok (.istore_n 3, 1) := by decide +kernel
theorem dX1_weighPairs_112 : decode cX1_weighPairs 112 = .ok (.iload_n 2, 1) := by decide +kernel
theorem dX1_weighPairs_113 : decode cX1_weighPairs 113 = .ok (.iload_n 3, 1) := by decide +kernel
theorem dX1_weighPairs_114 : decode cX1_weighPairs 114 = .ok (.invokestatic 38, 3) := by decide +kernel
theorem dX1_weighPairs_117 : decode cX1_weighPairs 117 = .ok (.iconst (-1), 1) := by decide +kernel
theorem dX1_weighPairs_118 : decode cX1_weighPairs 118 = .ok (.ixor, 1) := by decide +kernel
theorem dX1_weighPairs_119 : decode cX1_weighPairs 119 = .ok (.iand, 1) := by decide +kernel
theorem dX1_weighPairs_120 : decode cX1_weighPairs 120 = .ok (.istore 4, 2) := by decide +kernel
theorem dX1_weighPairs_122 : decode cX1_weighPairs 122 = .ok (.aload_n 0, 1) := by decide +kernel
theorem dX1_weighPairs_123 : decode cX1_weighPairs 123 = .ok (.getfield 15, 3) := by decide +kernel
theorem dX1_weighPairs_126 : decode cX1_weighPairs 126 = .ok (.iload 4, 2) := by decide +kernel
theorem dX1_weighPairs_128 : decode cX1_weighPairs 128 = .ok (.iaload, 1) := by decide +kernel
theorem dX1_weighPairs_129 : decode cX1_weighPairs 129 = .ok (.istore 5, 2) := by decide +kernel
theorem dX1_weighPairs_131 : decode cX1_weighPairs 131 = .ok (.iload_n 3, 1) := by decide +kernel
theorem dX1_weighPairs_132 : decode cX1_weighPairs 132 = .ok (.iconst 1, 1) := by decide +kernel
theorem dX1_weighPairs_133 : decode cX1_weighPairs 133 = .ok (.iadd, 1) := by decide +kernel
theorem dX1_weighPairs_134 : decode cX1_weighPairs 134 = .ok (.istore 6, 2) := by decide +kernel
theorem dX1_weighPairs_136 : decode cX1_weighPairs 136 = .ok (.iload 6, 2) := by decide +kernel
theorem dX1_weighPairs_138 : decode cX1_weighPairs 138 = .ok (.bipush 8, 2) := by decide +kernel
theorem dX1_weighPairs_140 : decode cX1_weighPairs 140 = .ok (.if_icmp .ge 54, 3) := by decide +kernel
theorem dX1_weighPairs_143 : decode cX1_weighPairs 143 = .ok (.iload 4, 2) := by decide +kernel
theorem dX1_weighPairs_145 : decode cX1_weighPairs 145 = .ok (.iload 6, 2) := by decide +kernel
theorem dX1_weighPairs_147 : decode cX1_weighPairs 147 = .ok (.invokestatic 31, 3) := by decide +kernel
theorem dX1_weighPairs_150 : decode cX1_weighPairs 150 = .ok (.ifCond .eq 38, 3) := by decide +kernel
theorem dX1_weighPairs_153 : decode cX1_weighPairs 153 = .ok (.iload 5, 2) := by decide +kernel
theorem dX1_weighPairs_155 : decode cX1_weighPairs 155 = .ok (.aload_n 0, 1) := by decide +kernel
theorem dX1_weighPairs_156 : decode cX1_weighPairs 156 = .ok (.getfield 18, 3) := by decide +kernel
theorem dX1_weighPairs_159 : decode cX1_weighPairs 159 = .ok (.bipush 8, 2) := by decide +kernel
theorem dX1_weighPairs_161 : decode cX1_weighPairs 161 = .ok (.iload_n 3, 1) := by decide +kernel
theorem dX1_weighPairs_162 : decode cX1_weighPairs 162 = .ok (.imul, 1) := by decide +kernel
theorem dX1_weighPairs_163 : decode cX1_weighPairs 163 = .ok (.iload 6, 2) := by decide +kernel
theorem dX1_weighPairs_165 : decode cX1_weighPairs 165 = .ok (.iadd, 1) := by decide +kernel
theorem dX1_weighPairs_166 : decode cX1_weighPairs 166 = .ok (.iaload, 1) := by decide +kernel
theorem dX1_weighPairs_167 : decode cX1_weighPairs 167 = .ok (.aload_n 0, 1) := by decide +kernel
theorem dX1_weighPairs_168 : decode cX1_weighPairs 168 = .ok (.getfield 15, 3) := by decide +kernel
theorem dX1_weighPairs_171 : decode cX1_weighPairs 171 = .ok (.iload 4, 2) := by decide +kernel
theorem dX1_weighPairs_173 : decode cX1_weighPairs 173 = .ok (.iload 6, 2) := by decide +kernel
theorem dX1_weighPairs_175 : decode cX1_weighPairs 175 = .ok (.invokestatic 38, 3) := by decide +kernel
theorem dX1_weighPairs_178 : decode cX1_weighPairs 178 = .ok (.iconst (-1), 1) := by decide +kernel
theorem dX1_weighPairs_179 : decode cX1_weighPairs 179 = .ok (.ixor, 1) := by decide +kernel
theorem dX1_weighPairs_180 : decode cX1_weighPairs 180 = .ok (.iand, 1) := by decide +kernel
theorem dX1_weighPairs_181 : decode cX1_weighPairs 181 = .ok (.iaload, 1) := by decide +kernel
theorem dX1_weighPairs_182 : decode cX1_weighPairs 182 = .ok (.iadd, 1) := by decide +kernel
theorem dX1_weighPairs_183 : decode cX1_weighPairs 183 = .ok (.invokestatic 80, 3) := by decide +kernel
theorem dX1_weighPairs_186 : decode cX1_weighPairs 186 = .ok (.istore 5, 2) := by decide +kernel
theorem dX1_weighPairs_188 : decode cX1_weighPairs 188 = .ok (.iinc 6 1, 3) := by decide +kernel
theorem dX1_weighPairs_191 : decode cX1_weighPairs 191 = .ok (.goto (-55), 3) := by decide +kernel
theorem dX1_weighPairs_194 : decode cX1_weighPairs 194 = .ok (.aload_n 0, 1) := by decide +kernel
theorem dX1_weighPairs_195 : decode cX1_weighPairs 195 = .ok (.getfield 15, 3) := by decide +kernel
theorem dX1_weighPairs_198 : decode cX1_weighPairs 198 = .ok (.iload_n 2, 1) := by decide +kernel
theorem dX1_weighPairs_199 : decode cX1_weighPairs 199 = .ok (.iload 5, 2) := by decide +kernel
theorem dX1_weighPairs_201 : decode cX1_weighPairs 201 = .ok (.iastore, 1) := by decide +kernel
theorem dX1_weighPairs_202 : decode cX1_weighPairs 202 = .ok (.iinc 2 1, 3) := by decide +kernel
theorem dX1_weighPairs_205 : decode cX1_weighPairs 205 = .ok (.goto (-107), 3) := by decide +kernel
theorem dX1_weighPairs_208 : decode cX1_weighPairs 208 = .ok (.return_, 1) := by decide +kernel
theorem dX1_mostOfPairs_0 : decode cX1_mostOfPairs 0 = .ok (.aload_n 0, 1) := by decide +kernel
theorem dX1_mostOfPairs_1 : decode cX1_mostOfPairs 1 = .ok (.getfield 15, 3) := by decide +kernel
theorem dX1_mostOfPairs_4 : decode cX1_mostOfPairs 4 = .ok (.aload_n 0, 1) := by decide +kernel
theorem dX1_mostOfPairs_5 : decode cX1_mostOfPairs 5 = .ok (.getfield 15, 3) := by decide +kernel
theorem dX1_mostOfPairs_8 : decode cX1_mostOfPairs 8 = .ok (.arraylength, 1) := by decide +kernel
theorem dX1_mostOfPairs_9 : decode cX1_mostOfPairs 9 = .ok (.iconst 1, 1) := by decide +kernel
theorem dX1_mostOfPairs_10 : decode cX1_mostOfPairs 10 = .ok (.isub, 1) := by decide +kernel
theorem dX1_mostOfPairs_11 : decode cX1_mostOfPairs 11 = .ok (.iaload, 1) := by decide +kernel
theorem dX1_mostOfPairs_12 : decode cX1_mostOfPairs 12 = .ok (.ireturn, 1) := by decide +kernel
theorem dX1_partnerOf_0 : decode cX1_partnerOf 0 = .ok (.aload_n 0, 1) := by decide +kernel
theorem dX1_partnerOf_1 : decode cX1_partnerOf 1 = .ok (.getfield 15, 3) := by decide +kernel
theorem dX1_partnerOf_4 : decode cX1_partnerOf 4 = .ok (.arraylength, 1) := by decide +kernel
theorem dX1_partnerOf_5 : decode cX1_partnerOf 5 = .ok (.iconst 1, 1) := by decide +kernel
theorem dX1_partnerOf_6 : decode cX1_partnerOf 6 = .ok (.isub, 1) := by decide +kernel
theorem dX1_partnerOf_7 : decode cX1_partnerOf 7 = .ok (.istore_n 2, 1) := by decide +kernel
theorem dX1_partnerOf_8 : decode cX1_partnerOf 8 = .ok (.iconst 0, 1) := by decide +kernel
theorem dX1_partnerOf_9 : decode cX1_partnerOf 9 = .ok (.istore_n 3, 1) := by decide +kernel
theorem dX1_partnerOf_10 : decode cX1_partnerOf 10 = .ok (.iload_n 3, 1) := by decide +kernel
theorem dX1_partnerOf_11 : decode cX1_partnerOf 11 = .ok (.bipush 8, 2) := by decide +kernel
theorem dX1_partnerOf_13 : decode cX1_partnerOf 13 = .ok (.if_icmp .ge 77, 3) := by decide +kernel
theorem dX1_partnerOf_16 : decode cX1_partnerOf 16 = .ok (.iload_n 2, 1) := by decide +kernel
theorem dX1_partnerOf_17 : decode cX1_partnerOf 17 = .ok (.iload_n 3, 1) := by decide +kernel
theorem dX1_partnerOf_18 : decode cX1_partnerOf 18 = .ok (.invokestatic 31, 3) := by decide +kernel
theorem dX1_partnerOf_21 : decode cX1_partnerOf 21 = .ok (.ifCond .eq 63, 3) := by decide +kernel
theorem dX1_partnerOf_24 : decode cX1_partnerOf 24 = .ok (.iload_n 2, 1) := by decide +kernel
theorem dX1_partnerOf_25 : decode cX1_partnerOf 25 = .ok (.iload_n 3, 1) := by decide +kernel
theorem dX1_partnerOf_26 : decode cX1_partnerOf 26 = .ok (.invokestatic 38, 3) := by decide +kernel
theorem dX1_partnerOf_29 : decode cX1_partnerOf 29 = .ok (.iconst (-1), 1) := by decide +kernel
theorem dX1_partnerOf_30 : decode cX1_partnerOf 30 = .ok (.ixor, 1) := by decide +kernel
theorem dX1_partnerOf_31 : decode cX1_partnerOf 31 = .ok (.iand, 1) := by decide +kernel
theorem dX1_partnerOf_32 : decode cX1_partnerOf 32 = .ok (.istore_n 2, 1) := by decide +kernel
theorem dX1_partnerOf_33 : decode cX1_partnerOf 33 = .ok (.aload_n 0, 1) := by decide +kernel
theorem dX1_partnerOf_34 : decode cX1_partnerOf 34 = .ok (.iload_n 2, 1) := by decide +kernel
theorem dX1_partnerOf_35 : decode cX1_partnerOf 35 = .ok (.iload_n 3, 1) := by decide +kernel
theorem dX1_partnerOf_36 : decode cX1_partnerOf 36 = .ok (.invokevirtual 87, 3) := by decide +kernel
theorem dX1_partnerOf_39 : decode cX1_partnerOf 39 = .ok (.istore 4, 2) := by decide +kernel
theorem dX1_partnerOf_41 : decode cX1_partnerOf 41 = .ok (.iload_n 3, 1) := by decide +kernel
theorem dX1_partnerOf_42 : decode cX1_partnerOf 42 = .ok (.iload_n 1, 1) := by decide +kernel
theorem dX1_partnerOf_43 : decode cX1_partnerOf 43 = .ok (.if_icmp .eq 9, 3) := by decide +kernel
theorem dX1_partnerOf_46 : decode cX1_partnerOf 46 = .ok (.iload 4, 2) := by decide +kernel
theorem dX1_partnerOf_48 : decode cX1_partnerOf 48 = .ok (.iload_n 1, 1) := by decide +kernel
theorem dX1_partnerOf_49 : decode cX1_partnerOf 49 = .ok (.if_icmp .ne 15, 3) := by decide +kernel
theorem dX1_partnerOf_52 : decode cX1_partnerOf 52 = .ok (.iload_n 3, 1) := by decide +kernel
theorem dX1_partnerOf_53 : decode cX1_partnerOf 53 = .ok (.iload_n 1, 1) := by decide +kernel
theorem dX1_partnerOf_54 : decode cX1_partnerOf 54 = .ok (.if_icmp .ne 8, 3) := by decide +kernel
theorem dX1_partnerOf_57 : decode cX1_partnerOf 57 = .ok (.iload 4, 2) := by decide +kernel
theorem dX1_partnerOf_59 : decode cX1_partnerOf 59 = .ok (.goto 4, 3) := by decide +kernel
theorem dX1_partnerOf_62 : decode cX1_partnerOf 62 = .ok (.iload_n 3, 1) := by decide +kernel
theorem dX1_partnerOf_63 : decode cX1_partnerOf 63 = .ok (.ireturn, 1) := by decide +kernel
theorem dX1_partnerOf_64 : decode cX1_partnerOf 64 = .ok (.iload_n 2, 1) := by decide +kernel
theorem dX1_partnerOf_65 : decode cX1_partnerOf 65 = .ok (.iload 4, 2) := by decide +kernel
theorem dX1_partnerOf_67 : decode cX1_partnerOf 67 = .ok (.iconst (-1), 1) := by decide +kernel
theorem dX1_partnerOf_68 : decode cX1_partnerOf 68 = .ok (.if_icmp .ne 7, 3) := by decide +kernel
theorem dX1_partnerOf_71 : decode cX1_partnerOf 71 = .ok (.iload_n 2, 1) := by decide +kernel
theorem dX1_partnerOf_72 : decode cX1_partnerOf 72 = .ok (.goto 10, 3) := by decide +kernel
theorem dX1_partnerOf_75 : decode cX1_partnerOf 75 = .ok (.iload 4, 2) := by decide +kernel
theorem dX1_partnerOf_77 : decode cX1_partnerOf 77 = .ok (.invokestatic 38, 3) := by decide +kernel
theorem dX1_partnerOf_80 : decode cX1_partnerOf 80 = .ok (.iconst (-1), 1) := by decide +kernel
theorem dX1_partnerOf_81 : decode cX1_partnerOf 81 = .ok (.ixor, 1) := by decide +kernel
theorem dX1_partnerOf_82 : decode cX1_partnerOf 82 = .ok (.iand, 1) := by decide +kernel
theorem dX1_partnerOf_83 : decode cX1_partnerOf 83 = .ok (.istore_n 2, 1) := by decide +kernel
theorem dX1_partnerOf_84 : decode cX1_partnerOf 84 = .ok (.iinc 3 1, 3) := by decide +kernel
theorem dX1_partnerOf_87 : decode cX1_partnerOf 87 = .ok (.goto (-77), 3) := by decide +kernel
theorem dX1_partnerOf_90 : decode cX1_partnerOf 90 = .ok (.iconst (-1), 1) := by decide +kernel
theorem dX1_partnerOf_91 : decode cX1_partnerOf 91 = .ok (.ireturn, 1) := by decide +kernel
theorem dX1_firstPartner_0 : decode cX1_firstPartner 0 = .ok (.aload_n 0, 1) := by decide +kernel
theorem dX1_firstPartner_1 : decode cX1_firstPartner 1 = .ok (.getfield 15, 3) := by decide +kernel
theorem dX1_firstPartner_4 : decode cX1_firstPartner 4 = .ok (.iload_n 1, 1) := by decide +kernel
theorem dX1_firstPartner_5 : decode cX1_firstPartner 5 = .ok (.iload_n 2, 1) := by decide +kernel
theorem dX1_firstPartner_6 : decode cX1_firstPartner 6 = .ok (.invokestatic 38, 3) := by decide +kernel
theorem dX1_firstPartner_9 : decode cX1_firstPartner 9 = .ok (.ior, 1) := by decide +kernel
theorem dX1_firstPartner_10 : decode cX1_firstPartner 10 = .ok (.iaload, 1) := by decide +kernel
theorem dX1_firstPartner_11 : decode cX1_firstPartner 11 = .ok (.istore_n 3, 1) := by decide +kernel
theorem dX1_firstPartner_12 : decode cX1_firstPartner 12 = .ok (.aload_n 0, 1) := by decide +kernel
theorem dX1_firstPartner_13 : decode cX1_firstPartner 13 = .ok (.getfield 15, 3) := by decide +kernel
theorem dX1_firstPartner_16 : decode cX1_firstPartner 16 = .ok (.iload_n 1, 1) := by decide +kernel
theorem dX1_firstPartner_17 : decode cX1_firstPartner 17 = .ok (.iaload, 1) := by decide +kernel
theorem dX1_firstPartner_18 : decode cX1_firstPartner 18 = .ok (.iload_n 3, 1) := by decide +kernel
theorem dX1_firstPartner_19 : decode cX1_firstPartner 19 = .ok (.if_icmp .ne 5, 3) := by decide +kernel
theorem dX1_firstPartner_22 : decode cX1_firstPartner 22 = .ok (.iconst (-1), 1) := by decide +kernel
theorem dX1_firstPartner_23 : decode cX1_firstPartner 23 = .ok (.ireturn, 1) := by decide +kernel
theorem dX1_firstPartner_24 : decode cX1_firstPartner 24 = .ok (.iload_n 2, 1) := by decide +kernel
theorem dX1_firstPartner_25 : decode cX1_firstPartner 25 = .ok (.iconst 1, 1) := by decide +kernel
theorem dX1_firstPartner_26 : decode cX1_firstPartner 26 = .ok (.iadd, 1) := by decide +kernel
theorem dX1_firstPartner_27 : decode cX1_firstPartner 27 = .ok (.istore 4, 2) := by decide +kernel
theorem dX1_firstPartner_29 : decode cX1_firstPartner 29 = .ok (.iload 4, 2) := by decide +kernel
theorem dX1_firstPartner_31 : decode cX1_firstPartner 31 = .ok (.bipush 8, 2) := by decide +kernel
theorem dX1_firstPartner_33 : decode cX1_firstPartner 33 = .ok (.if_icmp .ge 52, 3) := by decide +kernel
theorem dX1_firstPartner_36 : decode cX1_firstPartner 36 = .ok (.iload_n 1, 1) := by decide +kernel
theorem dX1_firstPartner_37 : decode cX1_firstPartner 37 = .ok (.iload 4, 2) := by decide +kernel
theorem dX1_firstPartner_39 : decode cX1_firstPartner 39 = .ok (.invokestatic 31, 3) := by decide +kernel
theorem dX1_firstPartner_42 : decode cX1_firstPartner 42 = .ok (.ifCond .eq 37, 3) := by decide +kernel
theorem dX1_firstPartner_45 : decode cX1_firstPartner 45 = .ok (.aload_n 0, 1) := by decide +kernel
theorem dX1_firstPartner_46 : decode cX1_firstPartner 46 = .ok (.getfield 18, 3) := by decide +kernel
theorem dX1_firstPartner_49 : decode cX1_firstPartner 49 = .ok (.bipush 8, 2) := by decide +kernel
theorem dX1_firstPartner_51 : decode cX1_firstPartner 51 = .ok (.iload_n 2, 1) := by decide +kernel
theorem dX1_firstPartner_52 : decode cX1_firstPartner 52 = .ok (.imul, 1) := by decide +kernel
theorem dX1_firstPartner_53 : decode cX1_firstPartner 53 = .ok (.iload 4, 2) := by decide +kernel
theorem dX1_firstPartner_55 : decode cX1_firstPartner 55 = .ok (.iadd, 1) := by decide +kernel
theorem dX1_firstPartner_56 : decode cX1_firstPartner 56 = .ok (.iaload, 1) := by decide +kernel
theorem dX1_firstPartner_57 : decode cX1_firstPartner 57 = .ok (.aload_n 0, 1) := by decide +kernel
theorem dX1_firstPartner_58 : decode cX1_firstPartner 58 = .ok (.getfield 15, 3) := by decide +kernel
theorem dX1_firstPartner_61 : decode cX1_firstPartner 61 = .ok (.iload_n 1, 1) := by decide +kernel
theorem dX1_firstPartner_62 : decode cX1_firstPartner 62 = .ok (.iload 4, 2) := by decide +kernel
theorem dX1_firstPartner_64 : decode cX1_firstPartner 64 = .ok (.invokestatic 38, 3) := by decide +kernel
theorem dX1_firstPartner_67 : decode cX1_firstPartner 67 = .ok (.iconst (-1), 1) := by decide +kernel
theorem dX1_firstPartner_68 : decode cX1_firstPartner 68 = .ok (.ixor, 1) := by decide +kernel
theorem dX1_firstPartner_69 : decode cX1_firstPartner 69 = .ok (.iand, 1) := by decide +kernel
theorem dX1_firstPartner_70 : decode cX1_firstPartner 70 = .ok (.iaload, 1) := by decide +kernel
theorem dX1_firstPartner_71 : decode cX1_firstPartner 71 = .ok (.iadd, 1) := by decide +kernel
theorem dX1_firstPartner_72 : decode cX1_firstPartner 72 = .ok (.iload_n 3, 1) := by decide +kernel
theorem dX1_firstPartner_73 : decode cX1_firstPartner 73 = .ok (.if_icmp .ne 6, 3) := by decide +kernel
theorem dX1_firstPartner_76 : decode cX1_firstPartner 76 = .ok (.iload 4, 2) := by decide +kernel
theorem dX1_firstPartner_78 : decode cX1_firstPartner 78 = .ok (.ireturn, 1) := by decide +kernel
theorem dX1_firstPartner_79 : decode cX1_firstPartner 79 = .ok (.iinc 4 1, 3) := by decide +kernel
theorem dX1_firstPartner_82 : decode cX1_firstPartner 82 = .ok (.goto (-53), 3) := by decide +kernel
theorem dX1_firstPartner_85 : decode cX1_firstPartner 85 = .ok (.iconst (-1), 1) := by decide +kernel
theorem dX1_firstPartner_86 : decode cX1_firstPartner 86 = .ok (.ireturn, 1) := by decide +kernel
theorem dX2_init_0 : decode cX2_init 0 = .ok (.aload_n 0, 1) := by decide +kernel
theorem dX2_init_1 : decode cX2_init 1 = .ok (.invokespecial 5, 3) := by decide +kernel
theorem dX2_init_4 : decode cX2_init 4 = .ok (.aload_n 0, 1) := by decide +kernel
theorem dX2_init_5 : decode cX2_init 5 = .ok (.sipush 1539, 3) := by decide +kernel
theorem dX2_init_8 : decode cX2_init 8 = .ok (.newarray .int, 2) := by decide +kernel
theorem dX2_init_10 : decode cX2_init 10 = .ok (.putfield 11, 3) := by decide +kernel
theorem dX2_init_13 : decode cX2_init 13 = .ok (.aload_n 0, 1) := by decide +kernel
theorem dX2_init_14 : decode cX2_init 14 = .ok (.sipush 243, 3) := by decide +kernel
theorem dX2_init_17 : decode cX2_init 17 = .ok (.newarray .int, 2) := by decide +kernel
theorem dX2_init_19 : decode cX2_init 19 = .ok (.putfield 15, 3) := by decide +kernel
theorem dX2_init_22 : decode cX2_init 22 = .ok (.return_, 1) := by decide +kernel
theorem dX2_clockOf_0 : decode cX2_clockOf 0 = .ok (.iload_n 0, 1) := by decide +kernel
theorem dX2_clockOf_1 : decode cX2_clockOf 1 = .ok (.bipush 19, 2) := by decide +kernel
theorem dX2_clockOf_3 : decode cX2_clockOf 3 = .ok (.idiv, 1) := by decide +kernel
theorem dX2_clockOf_4 : decode cX2_clockOf 4 = .ok (.bipush 40, 2) := by decide +kernel
theorem dX2_clockOf_6 : decode cX2_clockOf 6 = .ok (.isub, 1) := by decide +kernel
theorem dX2_clockOf_7 : decode cX2_clockOf 7 = .ok (.iload_n 0, 1) := by decide +kernel
theorem dX2_clockOf_8 : decode cX2_clockOf 8 = .ok (.bipush 19, 2) := by decide +kernel
theorem dX2_clockOf_10 : decode cX2_clockOf 10 = .ok (.irem, 1) := by decide +kernel
theorem dX2_clockOf_11 : decode cX2_clockOf 11 = .ok (.bipush 9, 2) := by decide +kernel
theorem dX2_clockOf_13 : decode cX2_clockOf 13 = .ok (.isub, 1) := by decide +kernel
theorem dX2_clockOf_14 : decode cX2_clockOf 14 = .ok (.iload_n 1, 1) := by decide +kernel
theorem dX2_clockOf_15 : decode cX2_clockOf 15 = .ok (.imul, 1) := by decide +kernel
theorem dX2_clockOf_16 : decode cX2_clockOf 16 = .ok (.iadd, 1) := by decide +kernel
theorem dX2_clockOf_17 : decode cX2_clockOf 17 = .ok (.ireturn, 1) := by decide +kernel
theorem dX2_weighCourses_0 : decode cX2_weighCourses 0 = .ok (.aload_n 0, 1) := by decide +kernel
theorem dX2_weighCourses_1 : decode cX2_weighCourses 1 = .ok (.sipush 1539, 3) := by decide +kernel
theorem dX2_weighCourses_4 : decode cX2_weighCourses 4 = .ok (.putfield 18, 3) := by decide +kernel
theorem dX2_weighCourses_7 : decode cX2_weighCourses 7 = .ok (.iconst 0, 1) := by decide +kernel
theorem dX2_weighCourses_8 : decode cX2_weighCourses 8 = .ok (.istore_n 3, 1) := by decide +kernel
theorem dX2_weighCourses_9 : decode cX2_weighCourses 9 = .ok (.iload_n 3, 1) := by decide +kernel
theorem dX2_weighCourses_10 : decode cX2_weighCourses 10 = .ok (.aload_n 0, 1) := by decide +kernel
theorem dX2_weighCourses_11 : decode cX2_weighCourses 11 = .ok (.getfield 18, 3) := by decide +kernel
theorem dX2_weighCourses_14 : decode cX2_weighCourses 14 = .ok (.if_icmp .ge 77, 3) := by decide +kernel
theorem dX2_weighCourses_17 : decode cX2_weighCourses 17 = .ok (.aload_n 0, 1) := by decide +kernel
theorem dX2_weighCourses_18 : decode cX2_weighCourses 18 = .ok (.getfield 11, 3) := by decide +kernel
theorem dX2_weighCourses_21 : decode cX2_weighCourses 21 = .ok (.iload_n 3, 1) := by decide +kernel
theorem dX2_weighCourses_22 : decode cX2_weighCourses 22 = .ok (.iconst 0, 1) := by decide +kernel
theorem dX2_weighCourses_23 : decode cX2_weighCourses 23 = .ok (.iastore, 1) := by decide +kernel
theorem dX2_weighCourses_24 : decode cX2_weighCourses 24 = .ok (.iconst 0, 1) := by decide +kernel
theorem dX2_weighCourses_25 : decode cX2_weighCourses 25 = .ok (.istore 4, 2) := by decide +kernel
theorem dX2_weighCourses_27 : decode cX2_weighCourses 27 = .ok (.iload 4, 2) := by decide +kernel
theorem dX2_weighCourses_29 : decode cX2_weighCourses 29 = .ok (.iload_n 2, 1) := by decide +kernel
theorem dX2_weighCourses_30 : decode cX2_weighCourses 30 = .ok (.if_icmp .ge 55, 3) := by decide +kernel
theorem dX2_weighCourses_33 : decode cX2_weighCourses 33 = .ok (.iconst 2, 1) := by decide +kernel
theorem dX2_weighCourses_34 : decode cX2_weighCourses 34 = .ok (.iload 4, 2) := by decide +kernel
theorem dX2_weighCourses_36 : decode cX2_weighCourses 36 = .ok (.imul, 1) := by decide +kernel
theorem dX2_weighCourses_37 : decode cX2_weighCourses 37 = .ok (.iconst 1, 1) := by decide +kernel
theorem dX2_weighCourses_38 : decode cX2_weighCourses 38 = .ok (.iadd, 1) := by decide +kernel
theorem dX2_weighCourses_39 : decode cX2_weighCourses 39 = .ok (.aload_n 1, 1) := by decide +kernel
theorem dX2_weighCourses_40 : decode cX2_weighCourses 40 = .ok (.arraylength, 1) := by decide +kernel
theorem dX2_weighCourses_41 : decode cX2_weighCourses 41 = .ok (.if_icmp .ge 44, 3) := by decide +kernel
theorem dX2_weighCourses_44 : decode cX2_weighCourses 44 = .ok (.iload_n 3, 1) := by decide +kernel
theorem dX2_weighCourses_45 : decode cX2_weighCourses 45 = .ok (.aload_n 1, 1) := by decide +kernel
theorem dX2_weighCourses_46 : decode cX2_weighCourses 46 = .ok (.iconst 2, 1) := by decide +kernel
theorem dX2_weighCourses_47 : decode cX2_weighCourses 47 = .ok (.iload 4, 2) := by decide +kernel
theorem dX2_weighCourses_49 : decode cX2_weighCourses 49 = .ok (.imul, 1) := by decide +kernel
theorem dX2_weighCourses_50 : decode cX2_weighCourses 50 = .ok (.iaload, 1) := by decide +kernel
theorem dX2_weighCourses_51 : decode cX2_weighCourses 51 = .ok (.invokestatic 22, 3) := by decide +kernel
theorem dX2_weighCourses_54 : decode cX2_weighCourses 54 = .ok (.aload_n 1, 1) := by decide +kernel
theorem dX2_weighCourses_55 : decode cX2_weighCourses 55 = .ok (.iconst 2, 1) := by decide +kernel
theorem dX2_weighCourses_56 : decode cX2_weighCourses 56 = .ok (.iload 4, 2) := by decide +kernel
theorem dX2_weighCourses_58 : decode cX2_weighCourses 58 = .ok (.imul, 1) := by decide +kernel
theorem dX2_weighCourses_59 : decode cX2_weighCourses 59 = .ok (.iconst 1, 1) := by decide +kernel
theorem dX2_weighCourses_60 : decode cX2_weighCourses 60 = .ok (.iadd, 1) := by decide +kernel
theorem dX2_weighCourses_61 : decode cX2_weighCourses 61 = .ok (.iaload, 1) := by decide +kernel
theorem dX2_weighCourses_62 : decode cX2_weighCourses 62 = .ok (.sipush 128, 3) := by decide +kernel
theorem dX2_weighCourses_65 : decode cX2_weighCourses 65 = .ok (.isub, 1) := by decide +kernel
theorem dX2_weighCourses_66 : decode cX2_weighCourses 66 = .ok (.if_icmp .eq 13, 3) := by decide +kernel
theorem dX2_weighCourses_69 : decode cX2_weighCourses 69 = .ok (.aload_n 0, 1) := by decide +kernel
theorem dX2_weighCourses_70 : decode cX2_weighCourses 70 = .ok (.getfield 11, 3) := by decide +kernel
theorem dX2_weighCourses_73 : decode cX2_weighCourses 73 = .ok (.iload_n 3, 1) := by decide +kernel
theorem dX2_weighCourses_74 : decode cX2_weighCourses 74 = .ok (.dup2, 1) := by decide +kernel
theorem dX2_weighCourses_75 : decode cX2_weighCourses 75 = .ok (.iaload, 1) := by decide +kernel
theorem dX2_weighCourses_76 : decode cX2_weighCourses 76 = .ok (.iconst 1, 1) := by decide +kernel
theorem dX2_weighCourses_77 : decode cX2_weighCourses 77 = .ok (.iadd, 1) := by decide +kernel
theorem dX2_weighCourses_78 : decode cX2_weighCourses 78 = .ok (.iastore, 1) := by decide +kernel
theorem dX2_weighCourses_79 : decode cX2_weighCourses 79 = .ok (.iinc 4 1, 3) := by decide +kernel
theorem dX2_weighCourses_82 : decode cX2_weighCourses 82 = .ok (.goto (-55), 3) := by decide +kernel
theorem dX2_weighCourses_85 : decode cX2_weighCourses 85 = .ok (.iinc 3 1, 3) := by decide +kernel
theorem dX2_weighCourses_88 : decode cX2_weighCourses 88 = .ok (.goto (-79), 3) := by decide +kernel
theorem dX2_weighCourses_91 : decode cX2_weighCourses 91 = .ok (.return_, 1) := by decide +kernel
theorem dX2_isHeard_0 : decode cX2_isHeard 0 = .ok (.iload_n 0, 1) := by decide +kernel
theorem dX2_isHeard_1 : decode cX2_isHeard 1 = .ok (.iconst 1, 1) := by decide +kernel
theorem dX2_isHeard_2 : decode cX2_isHeard 2 = .ok (.iload_n 1, 1) := by decide +kernel
theorem dX2_isHeard_3 : decode cX2_isHeard 3 = .ok (.iadd, 1) := by decide +kernel
theorem dX2_isHeard_4 : decode cX2_isHeard 4 = .ok (.if_icmp .eq 15, 3) := by decide +kernel
theorem dX2_isHeard_7 : decode cX2_isHeard 7 = .ok (.iload_n 0, 1) := by decide +kernel
theorem dX2_isHeard_8 : decode cX2_isHeard 8 = .ok (.bipush 9, 2) := by decide +kernel
theorem dX2_isHeard_10 : decode cX2_isHeard 10 = .ok (.iload_n 2, 1) := by decide +kernel
theorem dX2_isHeard_11 : decode cX2_isHeard 11 = .ok (.iadd, 1) := by decide +kernel
theorem dX2_isHeard_12 : decode cX2_isHeard 12 = .ok (.if_icmp .eq 7, 3) := by decide +kernel
theorem dX2_isHeard_15 : decode cX2_isHeard 15 = .ok (.iconst 1, 1) := by decide +kernel
theorem dX2_isHeard_16 : decode cX2_isHeard 16 = .ok (.goto 4, 3) := by decide +kernel
theorem dX2_isHeard_19 : decode cX2_isHeard 19 = .ok (.iconst 0, 1) := by decide +kernel
theorem dX2_isHeard_20 : decode cX2_isHeard 20 = .ok (.ireturn, 1) := by decide +kernel
theorem dX2_weighBlames_0 : decode cX2_weighBlames 0 = .ok (.aload_n 0, 1) := by decide +kernel
theorem dX2_weighBlames_1 : decode cX2_weighBlames 1 = .ok (.bipush 17, 2) := by decide +kernel
theorem dX2_weighBlames_3 : decode cX2_weighBlames 3 = .ok (.putfield 18, 3) := by decide +kernel
theorem dX2_weighBlames_6 : decode cX2_weighBlames 6 = .ok (.iconst 0, 1) := by decide +kernel
theorem dX2_weighBlames_7 : decode cX2_weighBlames 7 = .ok (.istore_n 3, 1) := by decide +kernel
theorem dX2_weighBlames_8 : decode cX2_weighBlames 8 = .ok (.iload_n 3, 1) := by decide +kernel
theorem dX2_weighBlames_9 : decode cX2_weighBlames 9 = .ok (.aload_n 0, 1) := by decide +kernel
theorem dX2_weighBlames_10 : decode cX2_weighBlames 10 = .ok (.getfield 18, 3) := by decide +kernel
theorem dX2_weighBlames_13 : decode cX2_weighBlames 13 = .ok (.if_icmp .ge 84, 3) := by decide +kernel
theorem dX2_weighBlames_16 : decode cX2_weighBlames 16 = .ok (.aload_n 0, 1) := by decide +kernel
theorem dX2_weighBlames_17 : decode cX2_weighBlames 17 = .ok (.getfield 11, 3) := by decide +kernel
theorem dX2_weighBlames_20 : decode cX2_weighBlames 20 = .ok (.iload_n 3, 1) := by decide +kernel
theorem dX2_weighBlames_21 : decode cX2_weighBlames 21 = .ok (.iconst 0, 1) := by decide +kernel
theorem dX2_weighBlames_22 : decode cX2_weighBlames 22 = .ok (.iastore, 1) := by decide +kernel
theorem dX2_weighBlames_23 : decode cX2_weighBlames 23 = .ok (.iconst 0, 1) := by decide +kernel
theorem dX2_weighBlames_24 : decode cX2_weighBlames 24 = .ok (.istore 4, 2) := by decide +kernel
theorem dX2_weighBlames_26 : decode cX2_weighBlames 26 = .ok (.iload 4, 2) := by decide +kernel
theorem dX2_weighBlames_28 : decode cX2_weighBlames 28 = .ok (.iconst 3, 1) := by decide +kernel
theorem dX2_weighBlames_29 : decode cX2_weighBlames 29 = .ok (.iload_n 2, 1) := by decide +kernel
theorem dX2_weighBlames_30 : decode cX2_weighBlames 30 = .ok (.imul, 1) := by decide +kernel
theorem dX2_weighBlames_31 : decode cX2_weighBlames 31 = .ok (.if_icmp .ge 60, 3) := by decide +kernel
theorem dX2_weighBlames_34 : decode cX2_weighBlames 34 = .ok (.iload 4, 2) := by decide +kernel
theorem dX2_weighBlames_36 : decode cX2_weighBlames 36 = .ok (.iconst 2, 1) := by decide +kernel
theorem dX2_weighBlames_37 : decode cX2_weighBlames 37 = .ok (.iadd, 1) := by decide +kernel
theorem dX2_weighBlames_38 : decode cX2_weighBlames 38 = .ok (.aload_n 1, 1) := by decide +kernel
theorem dX2_weighBlames_39 : decode cX2_weighBlames 39 = .ok (.arraylength, 1) := by decide +kernel
theorem dX2_weighBlames_40 : decode cX2_weighBlames 40 = .ok (.if_icmp .ge 51, 3) := by decide +kernel
theorem dX2_weighBlames_43 : decode cX2_weighBlames 43 = .ok (.iload_n 3, 1) := by decide +kernel
theorem dX2_weighBlames_44 : decode cX2_weighBlames 44 = .ok (.aload_n 1, 1) := by decide +kernel
theorem dX2_weighBlames_45 : decode cX2_weighBlames 45 = .ok (.iload 4, 2) := by decide +kernel
theorem dX2_weighBlames_47 : decode cX2_weighBlames 47 = .ok (.iaload, 1) := by decide +kernel
theorem dX2_weighBlames_48 : decode cX2_weighBlames 48 = .ok (.aload_n 1, 1) := by decide +kernel
theorem dX2_weighBlames_49 : decode cX2_weighBlames 49 = .ok (.iload 4, 2) := by decide +kernel
theorem dX2_weighBlames_51 : decode cX2_weighBlames 51 = .ok (.iconst 1, 1) := by decide +kernel
theorem dX2_weighBlames_52 : decode cX2_weighBlames 52 = .ok (.iadd, 1) := by decide +kernel
theorem dX2_weighBlames_53 : decode cX2_weighBlames 53 = .ok (.iaload, 1) := by decide +kernel
theorem dX2_weighBlames_54 : decode cX2_weighBlames 54 = .ok (.invokestatic 26, 3) := by decide +kernel
theorem dX2_weighBlames_57 : decode cX2_weighBlames 57 = .ok (.aload_n 1, 1) := by decide +kernel
theorem dX2_weighBlames_58 : decode cX2_weighBlames 58 = .ok (.iload 4, 2) := by decide +kernel
theorem dX2_weighBlames_60 : decode cX2_weighBlames 60 = .ok (.iconst 2, 1) := by decide +kernel
theorem dX2_weighBlames_61 : decode cX2_weighBlames 61 = .ok (.iadd, 1) := by decide +kernel
theorem dX2_weighBlames_62 : decode cX2_weighBlames 62 = .ok (.iaload, 1) := by decide +kernel
theorem dX2_weighBlames_63 : decode cX2_weighBlames 63 = .ok (.iconst 1, 1) := by decide +kernel
theorem dX2_weighBlames_64 : decode cX2_weighBlames 64 = .ok (.if_icmp .ne 7, 3) := by decide +kernel
theorem dX2_weighBlames_67 : decode cX2_weighBlames 67 = .ok (.iconst 1, 1) := by decide +kernel
theorem dX2_weighBlames_68 : decode cX2_weighBlames 68 = .ok (.goto 4, 3) := by decide +kernel
theorem dX2_weighBlames_71 : decode cX2_weighBlames 71 = .ok (.iconst 0, 1) := by decide +kernel
theorem dX2_weighBlames_72 : decode cX2_weighBlames 72 = .ok (.if_icmp .eq 13, 3) := by decide +kernel
theorem dX2_weighBlames_75 : decode cX2_weighBlames 75 = .ok (.aload_n 0, 1) := by decide +kernel
theorem dX2_weighBlames_76 : decode cX2_weighBlames 76 = .ok (.getfield 11, 3) := by decide +kernel
theorem dX2_weighBlames_79 : decode cX2_weighBlames 79 = .ok (.iload_n 3, 1) := by decide +kernel
theorem dX2_weighBlames_80 : decode cX2_weighBlames 80 = .ok (.dup2, 1) := by decide +kernel
theorem dX2_weighBlames_81 : decode cX2_weighBlames 81 = .ok (.iaload, 1) := by decide +kernel
theorem dX2_weighBlames_82 : decode cX2_weighBlames 82 = .ok (.iconst 1, 1) := by decide +kernel
theorem dX2_weighBlames_83 : decode cX2_weighBlames 83 = .ok (.iadd, 1) := by decide +kernel
theorem dX2_weighBlames_84 : decode cX2_weighBlames 84 = .ok (.iastore, 1) := by decide +kernel
theorem dX2_weighBlames_85 : decode cX2_weighBlames 85 = .ok (.iinc 4 3, 3) := by decide +kernel
theorem dX2_weighBlames_88 : decode cX2_weighBlames 88 = .ok (.goto (-62), 3) := by decide +kernel
theorem dX2_weighBlames_91 : decode cX2_weighBlames 91 = .ok (.iinc 3 1, 3) := by decide +kernel
theorem dX2_weighBlames_94 : decode cX2_weighBlames 94 = .ok (.goto (-86), 3) := by decide +kernel
theorem dX2_weighBlames_97 : decode cX2_weighBlames 97 = .ok (.return_, 1) := by decide +kernel
theorem dX2_countFits_0 : decode cX2_countFits 0 = .ok (.iconst 0, 1) := by decide +kernel
theorem dX2_countFits_1 : decode cX2_countFits 1 = .ok (.istore_n 1, 1) := by decide +kernel
theorem dX2_countFits_2 : decode cX2_countFits 2 = .ok (.iconst 0, 1) := by decide +kernel
theorem dX2_countFits_3 : decode cX2_countFits 3 = .ok (.istore_n 2, 1) := by decide +kernel
theorem dX2_countFits_4 : decode cX2_countFits 4 = .ok (.iload_n 2, 1) := by decide +kernel
theorem dX2_countFits_5 : decode cX2_countFits 5 = .ok (.aload_n 0, 1) := by decide +kernel
theorem dX2_countFits_6 : decode cX2_countFits 6 = .ok (.getfield 18, 3) := by decide +kernel
theorem dX2_countFits_9 : decode cX2_countFits 9 = .ok (.if_icmp .ge 27, 3) := by decide +kernel
theorem dX2_countFits_12 : decode cX2_countFits 12 = .ok (.iload_n 1, 1) := by decide +kernel
theorem dX2_countFits_13 : decode cX2_countFits 13 = .ok (.aload_n 0, 1) := by decide +kernel
theorem dX2_countFits_14 : decode cX2_countFits 14 = .ok (.getfield 11, 3) := by decide +kernel
theorem dX2_countFits_17 : decode cX2_countFits 17 = .ok (.iload_n 2, 1) := by decide +kernel
theorem dX2_countFits_18 : decode cX2_countFits 18 = .ok (.iaload, 1) := by decide +kernel
theorem dX2_countFits_19 : decode cX2_countFits 19 = .ok (.iconst 1, 1) := by decide +kernel
theorem dX2_countFits_20 : decode cX2_countFits 20 = .ok (.if_icmp .gt 7, 3) := by decide +kernel
theorem dX2_countFits_23 : decode cX2_countFits 23 = .ok (.iconst 1, 1) := by decide +kernel
theorem dX2_countFits_24 : decode cX2_countFits 24 = .ok (.goto 4, 3) := by decide +kernel
theorem dX2_countFits_27 : decode cX2_countFits 27 = .ok (.iconst 0, 1) := by decide +kernel
theorem dX2_countFits_28 : decode cX2_countFits 28 = .ok (.iadd, 1) := by decide +kernel
theorem dX2_countFits_29 : decode cX2_countFits 29 = .ok (.istore_n 1, 1) := by decide +kernel
theorem dX2_countFits_30 : decode cX2_countFits 30 = .ok (.iinc 2 1, 3) := by decide +kernel
theorem dX2_countFits_33 : decode cX2_countFits 33 = .ok (.goto (-29), 3) := by decide +kernel
theorem dX2_countFits_36 : decode cX2_countFits 36 = .ok (.iload_n 1, 1) := by decide +kernel
theorem dX2_countFits_37 : decode cX2_countFits 37 = .ok (.ireturn, 1) := by decide +kernel
theorem dX2_firstFit_0 : decode cX2_firstFit 0 = .ok (.iconst (-1), 1) := by decide +kernel
theorem dX2_firstFit_1 : decode cX2_firstFit 1 = .ok (.istore_n 1, 1) := by decide +kernel
theorem dX2_firstFit_2 : decode cX2_firstFit 2 = .ok (.iconst 2, 1) := by decide +kernel
theorem dX2_firstFit_3 : decode cX2_firstFit 3 = .ok (.istore_n 2, 1) := by decide +kernel
theorem dX2_firstFit_4 : decode cX2_firstFit 4 = .ok (.iconst 0, 1) := by decide +kernel
theorem dX2_firstFit_5 : decode cX2_firstFit 5 = .ok (.istore_n 3, 1) := by decide +kernel
theorem dX2_firstFit_6 : decode cX2_firstFit 6 = .ok (.iload_n 3, 1) := by decide +kernel
theorem dX2_firstFit_7 : decode cX2_firstFit 7 = .ok (.aload_n 0, 1) := by decide +kernel
theorem dX2_firstFit_8 : decode cX2_firstFit 8 = .ok (.getfield 18, 3) := by decide +kernel
theorem dX2_firstFit_11 : decode cX2_firstFit 11 = .ok (.if_icmp .ge 28, 3) := by decide +kernel
theorem dX2_firstFit_14 : decode cX2_firstFit 14 = .ok (.aload_n 0, 1) := by decide +kernel
theorem dX2_firstFit_15 : decode cX2_firstFit 15 = .ok (.getfield 11, 3) := by decide +kernel
theorem dX2_firstFit_18 : decode cX2_firstFit 18 = .ok (.iload_n 3, 1) := by decide +kernel
theorem dX2_firstFit_19 : decode cX2_firstFit 19 = .ok (.iaload, 1) := by decide +kernel
theorem dX2_firstFit_20 : decode cX2_firstFit 20 = .ok (.iload_n 2, 1) := by decide +kernel
theorem dX2_firstFit_21 : decode cX2_firstFit 21 = .ok (.if_icmp .ge 12, 3) := by decide +kernel
theorem dX2_firstFit_24 : decode cX2_firstFit 24 = .ok (.aload_n 0, 1) := by decide +kernel
theorem dX2_firstFit_25 : decode cX2_firstFit 25 = .ok (.getfield 11, 3) := by decide +kernel
theorem dX2_firstFit_28 : decode cX2_firstFit 28 = .ok (.iload_n 3, 1) := by decide +kernel
theorem dX2_firstFit_29 : decode cX2_firstFit 29 = .ok (.iaload, 1) := by decide +kernel
theorem dX2_firstFit_30 : decode cX2_firstFit 30 = .ok (.istore_n 2, 1) := by decide +kernel
theorem dX2_firstFit_31 : decode cX2_firstFit 31 = .ok (.iload_n 3, 1) := by decide +kernel
theorem dX2_firstFit_32 : decode cX2_firstFit 32 = .ok (.istore_n 1, 1) := by decide +kernel
theorem dX2_firstFit_33 : decode cX2_firstFit 33 = .ok (.iinc 3 1, 3) := by decide +kernel
theorem dX2_firstFit_36 : decode cX2_firstFit 36 = .ok (.goto (-30), 3) := by decide +kernel
theorem dX2_firstFit_39 : decode cX2_firstFit 39 = .ok (.iload_n 1, 1) := by decide +kernel
theorem dX2_firstFit_40 : decode cX2_firstFit 40 = .ok (.ireturn, 1) := by decide +kernel
theorem dX2_bestRound_0 : decode cX2_bestRound 0 = .ok (.aload_n 0, 1) := by decide +kernel
theorem dX2_bestRound_1 : decode cX2_bestRound 1 = .ok (.invokevirtual 30, 3) := by decide +kernel
theorem dX2_bestRound_4 : decode cX2_bestRound 4 = .ok (.iconst 2, 1) := by decide +kernel
theorem dX2_bestRound_5 : decode cX2_bestRound 5 = .ok (.if_icmp .ge 5, 3) := by decide +kernel
theorem dX2_bestRound_8 : decode cX2_bestRound 8 = .ok (.iconst (-1), 1) := by decide +kernel
theorem dX2_bestRound_9 : decode cX2_bestRound 9 = .ok (.ireturn, 1) := by decide +kernel
theorem dX2_bestRound_10 : decode cX2_bestRound 10 = .ok (.iconst (-1), 1) := by decide +kernel
theorem dX2_bestRound_11 : decode cX2_bestRound 11 = .ok (.istore_n 1, 1) := by decide +kernel
theorem dX2_bestRound_12 : decode cX2_bestRound 12 = .ok (.iconst 0, 1) := by decide +kernel
theorem dX2_bestRound_13 : decode cX2_bestRound 13 = .ok (.istore_n 2, 1) := by decide +kernel
theorem dX2_bestRound_14 : decode cX2_bestRound 14 = .ok (.iconst 0, 1) := by decide +kernel
theorem dX2_bestRound_15 : decode cX2_bestRound 15 = .ok (.istore_n 3, 1) := by decide +kernel
theorem dX2_bestRound_16 : decode cX2_bestRound 16 = .ok (.iload_n 3, 1) := by decide +kernel
theorem dX2_bestRound_17 : decode cX2_bestRound 17 = .ok (.bipush 9, 2) := by decide +kernel
theorem dX2_bestRound_19 : decode cX2_bestRound 19 = .ok (.if_icmp .gt 32, 3) := by decide +kernel
theorem dX2_bestRound_22 : decode cX2_bestRound 22 = .ok (.aload_n 0, 1) := by decide +kernel
theorem dX2_bestRound_23 : decode cX2_bestRound 23 = .ok (.iload_n 3, 1) := by decide +kernel
theorem dX2_bestRound_24 : decode cX2_bestRound 24 = .ok (.invokevirtual 34, 3) := by decide +kernel
theorem dX2_bestRound_27 : decode cX2_bestRound 27 = .ok (.istore 4, 2) := by decide +kernel
theorem dX2_bestRound_29 : decode cX2_bestRound 29 = .ok (.iload_n 1, 1) := by decide +kernel
theorem dX2_bestRound_30 : decode cX2_bestRound 30 = .ok (.iconst (-1), 1) := by decide +kernel
theorem dX2_bestRound_31 : decode cX2_bestRound 31 = .ok (.if_icmp .eq 9, 3) := by decide +kernel
theorem dX2_bestRound_34 : decode cX2_bestRound 34 = .ok (.iload 4, 2) := by decide +kernel
theorem dX2_bestRound_36 : decode cX2_bestRound 36 = .ok (.iload_n 2, 1) := by decide +kernel
theorem dX2_bestRound_37 : decode cX2_bestRound 37 = .ok (.if_icmp .ge 8, 3) := by decide +kernel
theorem dX2_bestRound_40 : decode cX2_bestRound 40 = .ok (.iload_n 3, 1) := by decide +kernel
theorem dX2_bestRound_41 : decode cX2_bestRound 41 = .ok (.istore_n 1, 1) := by decide +kernel
theorem dX2_bestRound_42 : decode cX2_bestRound 42 = .ok (.iload 4, 2) := by decide +kernel
theorem dX2_bestRound_44 : decode cX2_bestRound 44 = .ok (.istore_n 2, 1) := by decide +kernel
theorem dX2_bestRound_45 : decode cX2_bestRound 45 = .ok (.iinc 3 1, 3) := by decide +kernel
theorem dX2_bestRound_48 : decode cX2_bestRound 48 = .ok (.goto (-32), 3) := by decide +kernel
theorem dX2_bestRound_51 : decode cX2_bestRound 51 = .ok (.iload_n 1, 1) := by decide +kernel
theorem dX2_bestRound_52 : decode cX2_bestRound 52 = .ok (.ireturn, 1) := by decide +kernel
theorem dX2_greatestPart_0 : decode cX2_greatestPart 0 = .ok (.iconst 0, 1) := by decide +kernel
theorem dX2_greatestPart_1 : decode cX2_greatestPart 1 = .ok (.istore_n 2, 1) := by decide +kernel
theorem dX2_greatestPart_2 : decode cX2_greatestPart 2 = .ok (.iload_n 2, 1) := by decide +kernel
theorem dX2_greatestPart_3 : decode cX2_greatestPart 3 = .ok (.aload_n 0, 1) := by decide +kernel
theorem dX2_greatestPart_4 : decode cX2_greatestPart 4 = .ok (.getfield 15, 3) := by decide +kernel
theorem dX2_greatestPart_7 : decode cX2_greatestPart 7 = .ok (.arraylength, 1) := by decide +kernel
theorem dX2_greatestPart_8 : decode cX2_greatestPart 8 = .ok (.if_icmp .ge 16, 3) := by decide +kernel
theorem dX2_greatestPart_11 : decode cX2_greatestPart 11 = .ok (.aload_n 0, 1) := by decide +kernel
theorem dX2_greatestPart_12 : decode cX2_greatestPart 12 = .ok (.getfield 15, 3) := by decide +kernel
theorem dX2_greatestPart_15 : decode cX2_greatestPart 15 = .ok (.iload_n 2, 1) := by decide +kernel
theorem dX2_greatestPart_16 : decode cX2_greatestPart 16 = .ok (.iconst 0, 1) := by decide +kernel
theorem dX2_greatestPart_17 : decode cX2_greatestPart 17 = .ok (.iastore, 1) := by decide +kernel
theorem dX2_greatestPart_18 : decode cX2_greatestPart 18 = .ok (.iinc 2 1, 3) := by decide +kernel
theorem dX2_greatestPart_21 : decode cX2_greatestPart 21 = .ok (.goto (-19), 3) := by decide +kernel
theorem dX2_greatestPart_24 : decode cX2_greatestPart 24 = .ok (.iconst 0, 1) := by decide +kernel
theorem dX2_greatestPart_25 : decode cX2_greatestPart 25 = .ok (.istore_n 2, 1) := by decide +kernel
theorem dX2_greatestPart_26 : decode cX2_greatestPart 26 = .ok (.iconst 0, 1) := by decide +kernel
theorem dX2_greatestPart_27 : decode cX2_greatestPart 27 = .ok (.istore_n 3, 1) := by decide +kernel
theorem dX2_greatestPart_28 : decode cX2_greatestPart 28 = .ok (.iload_n 3, 1) := by decide +kernel
theorem dX2_greatestPart_29 : decode cX2_greatestPart 29 = .ok (.aload_n 0, 1) := by decide +kernel
theorem dX2_greatestPart_30 : decode cX2_greatestPart 30 = .ok (.getfield 18, 3) := by decide +kernel
theorem dX2_greatestPart_33 : decode cX2_greatestPart 33 = .ok (.if_icmp .ge 67, 3) := by decide +kernel
theorem dX2_greatestPart_36 : decode cX2_greatestPart 36 = .ok (.iload_n 3, 1) := by decide +kernel
theorem dX2_greatestPart_37 : decode cX2_greatestPart 37 = .ok (.iload_n 1, 1) := by decide +kernel
theorem dX2_greatestPart_38 : decode cX2_greatestPart 38 = .ok (.invokestatic 22, 3) := by decide +kernel
theorem dX2_greatestPart_41 : decode cX2_greatestPart 41 = .ok (.bipush (-121), 2) := by decide +kernel
theorem dX2_greatestPart_43 : decode cX2_greatestPart 43 = .ok (.isub, 1) := by decide +kernel
theorem dX2_greatestPart_44 : decode cX2_greatestPart 44 = .ok (.istore 4, 2) := by decide +kernel
theorem dX2_greatestPart_46 : decode cX2_greatestPart 46 = .ok (.aload_n 0, 1) := by decide +kernel
theorem dX2_greatestPart_47 : decode cX2_greatestPart 47 = .ok (.getfield 11, 3) := by decide +kernel
theorem dX2_greatestPart_50 : decode cX2_greatestPart 50 = .ok (.iload_n 3, 1) := by decide +kernel
theorem dX2_greatestPart_51 : decode cX2_greatestPart 51 = .ok (.iaload, 1) := by decide +kernel
theorem dX2_greatestPart_52 : decode cX2_greatestPart 52 = .ok (.iconst 1, 1) := by decide +kernel
theorem dX2_greatestPart_53 : decode cX2_greatestPart 53 = .ok (.if_icmp .gt 41, 3) := by decide +kernel
theorem dX2_greatestPart_56 : decode cX2_greatestPart 56 = .ok (.iload 4, 2) := by decide +kernel
theorem dX2_greatestPart_58 : decode cX2_greatestPart 58 = .ok (.ifCond .lt 36, 3) := by decide +kernel
theorem dX2_greatestPart_61 : decode cX2_greatestPart 61 = .ok (.iload 4, 2) := by decide +kernel
theorem dX2_greatestPart_63 : decode cX2_greatestPart 63 = .ok (.aload_n 0, 1) := by decide +kernel
theorem dX2_greatestPart_64 : decode cX2_greatestPart 64 = .ok (.getfield 15, 3) := by decide +kernel
theorem dX2_greatestPart_67 : decode cX2_greatestPart 67 = .ok (.arraylength, 1) := by decide +kernel
theorem dX2_greatestPart_68 : decode cX2_greatestPart 68 = .ok (.if_icmp .ge 26, 3) := by decide +kernel
theorem dX2_greatestPart_71 : decode cX2_greatestPart 71 = .ok (.aload_n 0, 1) := by decide +kernel
theorem dX2_greatestPart_72 : decode cX2_greatestPart 72 = .ok (.getfield 15, 3) := by decide +kernel
theorem dX2_greatestPart_75 : decode cX2_greatestPart 75 = .ok (.iload 4, 2) := by decide +kernel
theorem dX2_greatestPart_77 : decode cX2_greatestPart 77 = .ok (.dup2, 1) := by decide +kernel
theorem dX2_greatestPart_78 : decode cX2_greatestPart 78 = .ok (.iaload, 1) := by decide +kernel
theorem dX2_greatestPart_79 : decode cX2_greatestPart 79 = .ok (.iconst 1, 1) := by decide +kernel
theorem dX2_greatestPart_80 : decode cX2_greatestPart 80 = .ok (.iadd, 1) := by decide +kernel
theorem dX2_greatestPart_81 : decode cX2_greatestPart 81 = .ok (.iastore, 1) := by decide +kernel
theorem dX2_greatestPart_82 : decode cX2_greatestPart 82 = .ok (.iload_n 2, 1) := by decide +kernel
theorem dX2_greatestPart_83 : decode cX2_greatestPart 83 = .ok (.aload_n 0, 1) := by decide +kernel
theorem dX2_greatestPart_84 : decode cX2_greatestPart 84 = .ok (.getfield 15, 3) := by decide +kernel
theorem dX2_greatestPart_87 : decode cX2_greatestPart 87 = .ok (.iload 4, 2) := by decide +kernel
theorem dX2_greatestPart_89 : decode cX2_greatestPart 89 = .ok (.iaload, 1) := by decide +kernel
theorem dX2_greatestPart_90 : decode cX2_greatestPart 90 = .ok (.invokestatic 38, 3) := by decide +kernel
theorem dX2_greatestPart_93 : decode cX2_greatestPart 93 = .ok (.istore_n 2, 1) := by decide +kernel
theorem dX2_greatestPart_94 : decode cX2_greatestPart 94 = .ok (.iinc 3 1, 3) := by decide +kernel
theorem dX2_greatestPart_97 : decode cX2_greatestPart 97 = .ok (.goto (-69), 3) := by decide +kernel
theorem dX2_greatestPart_100 : decode cX2_greatestPart 100 = .ok (.iload_n 2, 1) := by decide +kernel
theorem dX2_greatestPart_101 : decode cX2_greatestPart 101 = .ok (.ireturn, 1) := by decide +kernel
theorem dX2_bestPair_0 : decode cX2_bestPair 0 = .ok (.aload_n 0, 1) := by decide +kernel
theorem dX2_bestPair_1 : decode cX2_bestPair 1 = .ok (.invokevirtual 30, 3) := by decide +kernel
theorem dX2_bestPair_4 : decode cX2_bestPair 4 = .ok (.istore_n 1, 1) := by decide +kernel
theorem dX2_bestPair_5 : decode cX2_bestPair 5 = .ok (.iload_n 1, 1) := by decide +kernel
theorem dX2_bestPair_6 : decode cX2_bestPair 6 = .ok (.iconst 2, 1) := by decide +kernel
theorem dX2_bestPair_7 : decode cX2_bestPair 7 = .ok (.if_icmp .ge 5, 3) := by decide +kernel
theorem dX2_bestPair_10 : decode cX2_bestPair 10 = .ok (.iconst (-1), 1) := by decide +kernel
theorem dX2_bestPair_11 : decode cX2_bestPair 11 = .ok (.ireturn, 1) := by decide +kernel
theorem dX2_bestPair_12 : decode cX2_bestPair 12 = .ok (.iconst (-1), 1) := by decide +kernel
theorem dX2_bestPair_13 : decode cX2_bestPair 13 = .ok (.istore_n 2, 1) := by decide +kernel
theorem dX2_bestPair_14 : decode cX2_bestPair 14 = .ok (.iconst 0, 1) := by decide +kernel
theorem dX2_bestPair_15 : decode cX2_bestPair 15 = .ok (.istore_n 3, 1) := by decide +kernel
theorem dX2_bestPair_16 : decode cX2_bestPair 16 = .ok (.iconst 0, 1) := by decide +kernel
theorem dX2_bestPair_17 : decode cX2_bestPair 17 = .ok (.istore 4, 2) := by decide +kernel
theorem dX2_bestPair_19 : decode cX2_bestPair 19 = .ok (.iload 4, 2) := by decide +kernel
theorem dX2_bestPair_21 : decode cX2_bestPair 21 = .ok (.bipush 64, 2) := by decide +kernel
theorem dX2_bestPair_23 : decode cX2_bestPair 23 = .ok (.if_icmp .ge 68, 3) := by decide +kernel
theorem dX2_bestPair_26 : decode cX2_bestPair 26 = .ok (.iload 4, 2) := by decide +kernel
theorem dX2_bestPair_28 : decode cX2_bestPair 28 = .ok (.bipush 8, 2) := by decide +kernel
theorem dX2_bestPair_30 : decode cX2_bestPair 30 = .ok (.idiv, 1) := by decide +kernel
theorem dX2_bestPair_31 : decode cX2_bestPair 31 = .ok (.istore 5, 2) := by decide +kernel
theorem dX2_bestPair_33 : decode cX2_bestPair 33 = .ok (.iload 4, 2) := by decide +kernel
theorem dX2_bestPair_35 : decode cX2_bestPair 35 = .ok (.bipush 8, 2) := by decide +kernel
theorem dX2_bestPair_37 : decode cX2_bestPair 37 = .ok (.irem, 1) := by decide +kernel
theorem dX2_bestPair_38 : decode cX2_bestPair 38 = .ok (.istore 6, 2) := by decide +kernel
theorem dX2_bestPair_40 : decode cX2_bestPair 40 = .ok (.aload_n 0, 1) := by decide +kernel
theorem dX2_bestPair_41 : decode cX2_bestPair 41 = .ok (.iload 5, 2) := by decide +kernel
theorem dX2_bestPair_43 : decode cX2_bestPair 43 = .ok (.iload 6, 2) := by decide +kernel
theorem dX2_bestPair_45 : decode cX2_bestPair 45 = .ok (.invokevirtual 43, 3) := by decide +kernel
theorem dX2_bestPair_48 : decode cX2_bestPair 48 = .ok (.istore 7, 2) := by decide +kernel
theorem dX2_bestPair_50 : decode cX2_bestPair 50 = .ok (.iload 7, 2) := by decide +kernel
theorem dX2_bestPair_52 : decode cX2_bestPair 52 = .ok (.iload_n 1, 1) := by decide +kernel
theorem dX2_bestPair_53 : decode cX2_bestPair 53 = .ok (.iload 7, 2) := by decide +kernel
theorem dX2_bestPair_55 : decode cX2_bestPair 55 = .ok (.isub, 1) := by decide +kernel
theorem dX2_bestPair_56 : decode cX2_bestPair 56 = .ok (.invokestatic 38, 3) := by decide +kernel
theorem dX2_bestPair_59 : decode cX2_bestPair 59 = .ok (.istore 8, 2) := by decide +kernel
theorem dX2_bestPair_61 : decode cX2_bestPair 61 = .ok (.iload 5, 2) := by decide +kernel
theorem dX2_bestPair_63 : decode cX2_bestPair 63 = .ok (.iload 6, 2) := by decide +kernel
theorem dX2_bestPair_65 : decode cX2_bestPair 65 = .ok (.if_icmp .eq 20, 3) := by decide +kernel
theorem dX2_bestPair_68 : decode cX2_bestPair 68 = .ok (.iload_n 2, 1) := by decide +kernel
theorem dX2_bestPair_69 : decode cX2_bestPair 69 = .ok (.iconst (-1), 1) := by decide +kernel
theorem dX2_bestPair_70 : decode cX2_bestPair 70 = .ok (.if_icmp .eq 9, 3) := by decide +kernel
theorem dX2_bestPair_73 : decode cX2_bestPair 73 = .ok (.iload 8, 2) := by decide +kernel
theorem dX2_bestPair_75 : decode cX2_bestPair 75 = .ok (.iload_n 3, 1) := by decide +kernel
theorem dX2_bestPair_76 : decode cX2_bestPair 76 = .ok (.if_icmp .ge 9, 3) := by decide +kernel
theorem dX2_bestPair_79 : decode cX2_bestPair 79 = .ok (.iload 4, 2) := by decide +kernel
theorem dX2_bestPair_81 : decode cX2_bestPair 81 = .ok (.istore_n 2, 1) := by decide +kernel
theorem dX2_bestPair_82 : decode cX2_bestPair 82 = .ok (.iload 8, 2) := by decide +kernel
theorem dX2_bestPair_84 : decode cX2_bestPair 84 = .ok (.istore_n 3, 1) := by decide +kernel
theorem dX2_bestPair_85 : decode cX2_bestPair 85 = .ok (.iinc 4 1, 3) := by decide +kernel
theorem dX2_bestPair_88 : decode cX2_bestPair 88 = .ok (.goto (-69), 3) := by decide +kernel
theorem dX2_bestPair_91 : decode cX2_bestPair 91 = .ok (.iload_n 2, 1) := by decide +kernel
theorem dX2_bestPair_92 : decode cX2_bestPair 92 = .ok (.ireturn, 1) := by decide +kernel
theorem dX2_countHearing_0 : decode cX2_countHearing 0 = .ok (.iconst 0, 1) := by decide +kernel
theorem dX2_countHearing_1 : decode cX2_countHearing 1 = .ok (.istore_n 3, 1) := by decide +kernel
theorem dX2_countHearing_2 : decode cX2_countHearing 2 = .ok (.iconst 0, 1) := by decide +kernel
theorem dX2_countHearing_3 : decode cX2_countHearing 3 = .ok (.istore 4, 2) := by decide +kernel
theorem dX2_countHearing_5 : decode cX2_countHearing 5 = .ok (.iload 4, 2) := by decide +kernel
theorem dX2_countHearing_7 : decode cX2_countHearing 7 = .ok (.aload_n 0, 1) := by decide +kernel
theorem dX2_countHearing_8 : decode cX2_countHearing 8 = .ok (.getfield 18, 3) := by decide +kernel
theorem dX2_countHearing_11 : decode cX2_countHearing 11 = .ok (.if_icmp .ge 38, 3) := by decide +kernel
theorem dX2_countHearing_14 : decode cX2_countHearing 14 = .ok (.iload_n 3, 1) := by decide +kernel
theorem dX2_countHearing_15 : decode cX2_countHearing 15 = .ok (.aload_n 0, 1) := by decide +kernel
theorem dX2_countHearing_16 : decode cX2_countHearing 16 = .ok (.getfield 11, 3) := by decide +kernel
theorem dX2_countHearing_19 : decode cX2_countHearing 19 = .ok (.iload 4, 2) := by decide +kernel
theorem dX2_countHearing_21 : decode cX2_countHearing 21 = .ok (.iaload, 1) := by decide +kernel
theorem dX2_countHearing_22 : decode cX2_countHearing 22 = .ok (.iconst 1, 1) := by decide +kernel
theorem dX2_countHearing_23 : decode cX2_countHearing 23 = .ok (.if_icmp .gt 17, 3) := by decide +kernel
theorem dX2_countHearing_26 : decode cX2_countHearing 26 = .ok (.iload 4, 2) := by decide +kernel
theorem dX2_countHearing_28 : decode cX2_countHearing 28 = .ok (.iload_n 1, 1) := by decide +kernel
theorem dX2_countHearing_29 : decode cX2_countHearing 29 = .ok (.iload_n 2, 1) := by decide +kernel
theorem dX2_countHearing_30 : decode cX2_countHearing 30 = .ok (.invokestatic 26, 3) := by decide +kernel
theorem dX2_countHearing_33 : decode cX2_countHearing 33 = .ok (.ifCond .eq 7, 3) := by decide +kernel
theorem dX2_countHearing_36 : decode cX2_countHearing 36 = .ok (.iconst 1, 1) := by decide +kernel
theorem dX2_countHearing_37 : decode cX2_countHearing 37 = .ok (.goto 4, 3) := by decide +kernel
theorem dX2_countHearing_40 : decode cX2_countHearing 40 = .ok (.iconst 0, 1) := by decide +kernel
theorem dX2_countHearing_41 : decode cX2_countHearing 41 = .ok (.iadd, 1) := by decide +kernel
theorem dX2_countHearing_42 : decode cX2_countHearing 42 = .ok (.istore_n 3, 1) := by decide +kernel
theorem dX2_countHearing_43 : decode cX2_countHearing 43 = .ok (.iinc 4 1, 3) := by decide +kernel
theorem dX2_countHearing_46 : decode cX2_countHearing 46 = .ok (.goto (-41), 3) := by decide +kernel
theorem dX2_countHearing_49 : decode cX2_countHearing 49 = .ok (.iload_n 3, 1) := by decide +kernel
theorem dX2_countHearing_50 : decode cX2_countHearing 50 = .ok (.ireturn, 1) := by decide +kernel
theorem dX3_init_0 : decode cX3_init 0 = .ok (.aload_n 0, 1) := by decide +kernel
theorem dX3_init_1 : decode cX3_init 1 = .ok (.invokespecial 3, 3) := by decide +kernel
theorem dX3_init_4 : decode cX3_init 4 = .ok (.aload_n 0, 1) := by decide +kernel
theorem dX3_init_5 : decode cX3_init 5 = .ok (.bipush 32, 2) := by decide +kernel
theorem dX3_init_7 : decode cX3_init 7 = .ok (.newarray .int, 2) := by decide +kernel
theorem dX3_init_9 : decode cX3_init 9 = .ok (.putfield 9, 3) := by decide +kernel
theorem dX3_init_12 : decode cX3_init 12 = .ok (.aload_n 0, 1) := by decide +kernel
theorem dX3_init_13 : decode cX3_init 13 = .ok (.iload_n 1, 1) := by decide +kernel
theorem dX3_init_14 : decode cX3_init 14 = .ok (.putfield 15, 3) := by decide +kernel
theorem dX3_init_17 : decode cX3_init 17 = .ok (.aload_n 0, 1) := by decide +kernel
theorem dX3_init_18 : decode cX3_init 18 = .ok (.aload_n 2, 1) := by decide +kernel
theorem dX3_init_19 : decode cX3_init 19 = .ok (.putfield 19, 3) := by decide +kernel
theorem dX3_init_22 : decode cX3_init 22 = .ok (.aload_n 0, 1) := by decide +kernel
theorem dX3_init_23 : decode cX3_init 23 = .ok (.aload_n 3, 1) := by decide +kernel
theorem dX3_init_24 : decode cX3_init 24 = .ok (.putfield 22, 3) := by decide +kernel
theorem dX3_init_27 : decode cX3_init 27 = .ok (.aload_n 0, 1) := by decide +kernel
theorem dX3_init_28 : decode cX3_init 28 = .ok (.aload 4, 2) := by decide +kernel
theorem dX3_init_30 : decode cX3_init 30 = .ok (.putfield 25, 3) := by decide +kernel
theorem dX3_init_33 : decode cX3_init 33 = .ok (.aload_n 0, 1) := by decide +kernel
theorem dX3_init_34 : decode cX3_init 34 = .ok (.aload 5, 2) := by decide +kernel
theorem dX3_init_36 : decode cX3_init 36 = .ok (.putfield 28, 3) := by decide +kernel
theorem dX3_init_39 : decode cX3_init 39 = .ok (.return_, 1) := by decide +kernel
theorem dX3_sum_0 : decode cX3_sum 0 = .ok (.iconst 0, 1) := by decide +kernel
theorem dX3_sum_1 : decode cX3_sum 1 = .ok (.istore 4, 2) := by decide +kernel
theorem dX3_sum_3 : decode cX3_sum 3 = .ok (.aload_n 1, 1) := by decide +kernel
theorem dX3_sum_4 : decode cX3_sum 4 = .ok (.iconst 2, 1) := by decide +kernel
theorem dX3_sum_5 : decode cX3_sum 5 = .ok (.invokevirtual 31, 3) := by decide +kernel
theorem dX3_sum_8 : decode cX3_sum 8 = .ok (.iload_n 2, 1) := by decide +kernel
theorem dX3_sum_9 : decode cX3_sum 9 = .ok (.invokestatic 37, 3) := by decide +kernel
theorem dX3_sum_12 : decode cX3_sum 12 = .ok (.iconst (-1), 1) := by decide +kernel
theorem dX3_sum_13 : decode cX3_sum 13 = .ok (.ixor, 1) := by decide +kernel
theorem dX3_sum_14 : decode cX3_sum 14 = .ok (.iand, 1) := by decide +kernel
theorem dX3_sum_15 : decode cX3_sum 15 = .ok (.ifCond .ne 7, 3) := by decide +kernel
theorem dX3_sum_18 : decode cX3_sum 18 = .ok (.iconst 1, 1) := by decide +kernel
theorem dX3_sum_19 : decode cX3_sum 19 = .ok (.goto 4, 3) := by decide +kernel
theorem dX3_sum_22 : decode cX3_sum 22 = .ok (.iconst 0, 1) := by decide +kernel
theorem dX3_sum_23 : decode cX3_sum 23 = .ok (.istore 5, 2) := by decide +kernel
theorem dX3_sum_25 : decode cX3_sum 25 = .ok (.iconst 0, 1) := by decide +kernel
theorem dX3_sum_26 : decode cX3_sum 26 = .ok (.istore 6, 2) := by decide +kernel
theorem dX3_sum_28 : decode cX3_sum 28 = .ok (.iload 6, 2) := by decide +kernel
theorem dX3_sum_30 : decode cX3_sum 30 = .ok (.aload_n 0, 1) := by decide +kernel
theorem dX3_sum_31 : decode cX3_sum 31 = .ok (.getfield 15, 3) := by decide +kernel
theorem dX3_sum_34 : decode cX3_sum 34 = .ok (.if_icmp .ge 65, 3) := by decide +kernel
theorem dX3_sum_37 : decode cX3_sum 37 = .ok (.iload 6, 2) := by decide +kernel
theorem dX3_sum_39 : decode cX3_sum 39 = .ok (.aload_n 0, 1) := by decide +kernel
theorem dX3_sum_40 : decode cX3_sum 40 = .ok (.getfield 19, 3) := by decide +kernel
theorem dX3_sum_43 : decode cX3_sum 43 = .ok (.arraylength, 1) := by decide +kernel
theorem dX3_sum_44 : decode cX3_sum 44 = .ok (.if_icmp .ge 55, 3) := by decide +kernel
theorem dX3_sum_47 : decode cX3_sum 47 = .ok (.iload 6, 2) := by decide +kernel
theorem dX3_sum_49 : decode cX3_sum 49 = .ok (.aload_n 0, 1) := by decide +kernel
theorem dX3_sum_50 : decode cX3_sum 50 = .ok (.getfield 22, 3) := by decide +kernel
theorem dX3_sum_53 : decode cX3_sum 53 = .ok (.arraylength, 1) := by decide +kernel
theorem dX3_sum_54 : decode cX3_sum 54 = .ok (.if_icmp .ge 45, 3) := by decide +kernel
theorem dX3_sum_57 : decode cX3_sum 57 = .ok (.aload_n 0, 1) := by decide +kernel
theorem dX3_sum_58 : decode cX3_sum 58 = .ok (.getfield 19, 3) := by decide +kernel
theorem dX3_sum_61 : decode cX3_sum 61 = .ok (.iload 6, 2) := by decide +kernel
theorem dX3_sum_63 : decode cX3_sum 63 = .ok (.iaload, 1) := by decide +kernel
theorem dX3_sum_64 : decode cX3_sum 64 = .ok (.iload_n 3, 1) := by decide +kernel
theorem dX3_sum_65 : decode cX3_sum 65 = .ok (.if_icmp .ne 28, 3) := by decide +kernel
theorem dX3_sum_68 : decode cX3_sum 68 = .ok (.aload_n 0, 1) := by decide +kernel
theorem dX3_sum_69 : decode cX3_sum 69 = .ok (.aload_n 1, 1) := by decide +kernel
theorem dX3_sum_70 : decode cX3_sum 70 = .ok (.iload_n 2, 1) := by decide +kernel
theorem dX3_sum_71 : decode cX3_sum 71 = .ok (.iload 6, 2) := by decide +kernel
theorem dX3_sum_73 : decode cX3_sum 73 = .ok (.iload 5, 2) := by decide +kernel
theorem dX3_sum_75 : decode cX3_sum 75 = .ok (.invokevirtual 40, 3) := by decide +kernel
theorem dX3_sum_78 : decode cX3_sum 78 = .ok (.ifCond .eq 15, 3) := by decide +kernel
theorem dX3_sum_81 : decode cX3_sum 81 = .ok (.iload 4, 2) := by decide +kernel
theorem dX3_sum_83 : decode cX3_sum 83 = .ok (.aload_n 0, 1) := by decide +kernel
theorem dX3_sum_84 : decode cX3_sum 84 = .ok (.getfield 22, 3) := by decide +kernel
theorem dX3_sum_87 : decode cX3_sum 87 = .ok (.iload 6, 2) := by decide +kernel
theorem dX3_sum_89 : decode cX3_sum 89 = .ok (.iaload, 1) := by decide +kernel
theorem dX3_sum_90 : decode cX3_sum 90 = .ok (.iadd, 1) := by decide +kernel
theorem dX3_sum_91 : decode cX3_sum 91 = .ok (.istore 4, 2) := by decide +kernel
theorem dX3_sum_93 : decode cX3_sum 93 = .ok (.iinc 6 1, 3) := by decide +kernel
theorem dX3_sum_96 : decode cX3_sum 96 = .ok (.goto (-68), 3) := by decide +kernel
theorem dX3_sum_99 : decode cX3_sum 99 = .ok (.iload 4, 2) := by decide +kernel
theorem dX3_sum_101 : decode cX3_sum 101 = .ok (.ireturn, 1) := by decide +kernel
theorem dX3_holds_0 : decode cX3_holds 0 = .ok (.iload_n 3, 1) := by decide +kernel
theorem dX3_holds_1 : decode cX3_holds 1 = .ok (.ifCond .lt 14, 3) := by decide +kernel
theorem dX3_holds_4 : decode cX3_holds 4 = .ok (.iload_n 3, 1) := by decide +kernel
theorem dX3_holds_5 : decode cX3_holds 5 = .ok (.iconst 1, 1) := by decide +kernel
theorem dX3_holds_6 : decode cX3_holds 6 = .ok (.iadd, 1) := by decide +kernel
theorem dX3_holds_7 : decode cX3_holds 7 = .ok (.aload_n 0, 1) := by decide +kernel
theorem dX3_holds_8 : decode cX3_holds 8 = .ok (.getfield 25, 3) := by decide +kernel
theorem dX3_holds_11 : decode cX3_holds 11 = .ok (.arraylength, 1) := by decide +kernel
theorem dX3_holds_12 : decode cX3_holds 12 = .ok (.if_icmp .lt 5, 3) := by decide +kernel
theorem dX3_holds_15 : decode cX3_holds 15 = .ok (.iconst 0, 1) := by decide +kernel
theorem dX3_holds_16 : decode cX3_holds 16 = .ok (.ireturn, 1) := by decide +kernel
theorem dX3_holds_17 : decode cX3_holds 17 = .ok (.iconst 0, 1) := by decide +kernel
theorem dX3_holds_18 : decode cX3_holds 18 = .ok (.istore 5, 2) := by decide +kernel
theorem dX3_holds_20 : decode cX3_holds 20 = .ok (.iconst 0, 1) := by decide +kernel
theorem dX3_holds_21 : decode cX3_holds 21 = .ok (.aload_n 0, 1) := by decide +kernel
theorem dX3_holds_22 : decode cX3_holds 22 = .ok (.getfield 25, 3) := by decide +kernel
theorem dX3_holds_25 : decode cX3_holds 25 = .ok (.iload_n 3, 1) := by decide +kernel
theorem dX3_holds_26 : decode cX3_holds 26 = .ok (.iaload, 1) := by decide +kernel
theorem dX3_holds_27 : decode cX3_holds 27 = .ok (.invokestatic 44, 3) := by decide +kernel
theorem dX3_holds_30 : decode cX3_holds 30 = .ok (.istore 6, 2) := by decide +kernel
theorem dX3_holds_32 : decode cX3_holds 32 = .ok (.iload 6, 2) := by decide +kernel
theorem dX3_holds_34 : decode cX3_holds 34 = .ok (.aload_n 0, 1) := by decide +kernel
theorem dX3_holds_35 : decode cX3_holds 35 = .ok (.getfield 25, 3) := by decide +kernel
theorem dX3_holds_38 : decode cX3_holds 38 = .ok (.iload_n 3, 1) := by decide +kernel
theorem dX3_holds_39 : decode cX3_holds 39 = .ok (.iconst 1, 1) := by decide +kernel
theorem dX3_holds_40 : decode cX3_holds 40 = .ok (.iadd, 1) := by decide +kernel
theorem dX3_holds_41 : decode cX3_holds 41 = .ok (.iaload, 1) := by decide +kernel
theorem dX3_holds_42 : decode cX3_holds 42 = .ok (.if_icmp .ge 144, 3) := by decide +kernel
theorem dX3_holds_45 : decode cX3_holds 45 = .ok (.iload 6, 2) := by decide +kernel
theorem dX3_holds_47 : decode cX3_holds 47 = .ok (.aload_n 0, 1) := by decide +kernel
theorem dX3_holds_48 : decode cX3_holds 48 = .ok (.getfield 28, 3) := by decide +kernel
theorem dX3_holds_51 : decode cX3_holds 51 = .ok (.arraylength, 1) := by decide +kernel
theorem dX3_holds_52 : decode cX3_holds 52 = .ok (.if_icmp .ge 134, 3) := by decide +kernel
theorem dX3_holds_55 : decode cX3_holds 55 = .ok (.aload_n 0, 1) := by decide +kernel
theorem dX3_holds_56 : decode cX3_holds 56 = .ok (.getfield 28, 3) := by decide +kernel
theorem dX3_holds_59 : decode cX3_holds 59 = .ok (.iload 6, 2) := by decide +kernel
theorem dX3_holds_61 : decode cX3_holds 61 = .ok (.iaload, 1) := by decide +kernel
theorem dX3_holds_62 : decode cX3_holds 62 = .ok (.istore 7, 2) := by decide +kernel
theorem dX3_holds_64 : decode cX3_holds 64 = .ok (.iload 7, 2) := by decide +kernel
theorem dX3_holds_66 : decode cX3_holds 66 = .ok (.sipush 1009, 3) := by decide +kernel
theorem dX3_holds_69 : decode cX3_holds 69 = .ok (.if_icmp .gt 35, 3) := by decide +kernel
theorem dX3_holds_72 : decode cX3_holds 72 = .ok (.iload 5, 2) := by decide +kernel
theorem dX3_holds_74 : decode cX3_holds 74 = .ok (.aload_n 0, 1) := by decide +kernel
theorem dX3_holds_75 : decode cX3_holds 75 = .ok (.getfield 9, 3) := by decide +kernel
theorem dX3_holds_78 : decode cX3_holds 78 = .ok (.arraylength, 1) := by decide +kernel
theorem dX3_holds_79 : decode cX3_holds 79 = .ok (.if_icmp .ge 101, 3) := by decide +kernel
theorem dX3_holds_82 : decode cX3_holds 82 = .ok (.aload_n 0, 1) := by decide +kernel
theorem dX3_holds_83 : decode cX3_holds 83 = .ok (.getfield 9, 3) := by decide +kernel
theorem dX3_holds_86 : decode cX3_holds 86 = .ok (.iload 5, 2) := by decide +kernel
theorem dX3_holds_88 : decode cX3_holds 88 = .ok (.aload_n 1, 1) := by decide +kernel
theorem dX3_holds_89 : decode cX3_holds 89 = .ok (.iload_n 2, 1) := by decide +kernel
theorem dX3_holds_90 : decode cX3_holds 90 = .ok (.iload 7, 2) := by decide +kernel
theorem dX3_holds_92 : decode cX3_holds 92 = .ok (.iload 4, 2) := by decide +kernel
theorem dX3_holds_94 : decode cX3_holds 94 = .ok (.invokestatic 50, 3) := by decide +kernel
theorem dX3_holds_97 : decode cX3_holds 97 = .ok (.iastore, 1) := by decide +kernel
theorem dX3_holds_98 : decode cX3_holds 98 = .ok (.iinc 5 1, 3) := by decide +kernel
theorem dX3_holds_101 : decode cX3_holds 101 = .ok (.goto 79, 3) := by decide +kernel
theorem dX3_holds_104 : decode cX3_holds 104 = .ok (.iload 7, 2) := by decide +kernel
theorem dX3_holds_106 : decode cX3_holds 106 = .ok (.sipush 1016, 3) := by decide +kernel
theorem dX3_holds_109 : decode cX3_holds 109 = .ok (.if_icmp .ne 32, 3) := by decide +kernel
theorem dX3_holds_112 : decode cX3_holds 112 = .ok (.iload 5, 2) := by decide +kernel
theorem dX3_holds_114 : decode cX3_holds 114 = .ok (.iconst 1, 1) := by decide +kernel
theorem dX3_holds_115 : decode cX3_holds 115 = .ok (.if_icmp .lt 65, 3) := by decide +kernel
theorem dX3_holds_118 : decode cX3_holds 118 = .ok (.aload_n 0, 1) := by decide +kernel
theorem dX3_holds_119 : decode cX3_holds 119 = .ok (.getfield 9, 3) := by decide +kernel
theorem dX3_holds_122 : decode cX3_holds 122 = .ok (.iload 5, 2) := by decide +kernel
theorem dX3_holds_124 : decode cX3_holds 124 = .ok (.iconst 1, 1) := by decide +kernel
theorem dX3_holds_125 : decode cX3_holds 125 = .ok (.isub, 1) := by decide +kernel
theorem dX3_holds_126 : decode cX3_holds 126 = .ok (.iconst 1, 1) := by decide +kernel
theorem dX3_holds_127 : decode cX3_holds 127 = .ok (.aload_n 0, 1) := by decide +kernel
theorem dX3_holds_128 : decode cX3_holds 128 = .ok (.getfield 9, 3) := by decide +kernel
theorem dX3_holds_131 : decode cX3_holds 131 = .ok (.iload 5, 2) := by decide +kernel
theorem dX3_holds_133 : decode cX3_holds 133 = .ok (.iconst 1, 1) := by decide +kernel
theorem dX3_holds_134 : decode cX3_holds 134 = .ok (.isub, 1) := by decide +kernel
theorem dX3_holds_135 : decode cX3_holds 135 = .ok (.iaload, 1) := by decide +kernel
theorem dX3_holds_136 : decode cX3_holds 136 = .ok (.isub, 1) := by decide +kernel
theorem dX3_holds_137 : decode cX3_holds 137 = .ok (.iastore, 1) := by decide +kernel
theorem dX3_holds_138 : decode cX3_holds 138 = .ok (.goto 42, 3) := by decide +kernel
theorem dX3_holds_141 : decode cX3_holds 141 = .ok (.iload 5, 2) := by decide +kernel
theorem dX3_holds_143 : decode cX3_holds 143 = .ok (.iconst 2, 1) := by decide +kernel
theorem dX3_holds_144 : decode cX3_holds 144 = .ok (.if_icmp .lt 36, 3) := by decide +kernel
theorem dX3_holds_147 : decode cX3_holds 147 = .ok (.iinc 5 (-1), 3) := by decide +kernel
theorem dX3_holds_150 : decode cX3_holds 150 = .ok (.aload_n 0, 1) := by decide +kernel
theorem dX3_holds_151 : decode cX3_holds 151 = .ok (.getfield 9, 3) := by decide +kernel
theorem dX3_holds_154 : decode cX3_holds 154 = .ok (.iload 5, 2) := by decide +kernel
theorem dX3_holds_156 : decode cX3_holds 156 = .ok (.iconst 1, 1) := by decide +kernel
theorem dX3_holds_157 : decode cX3_holds 157 = .ok (.isub, 1) := by decide +kernel
theorem dX3_holds_158 : decode cX3_holds 158 = .ok (.iload 7, 2) := by decide +kernel
theorem dX3_holds_160 : decode cX3_holds 160 = .ok (.aload_n 0, 1) := by decide +kernel
theorem dX3_holds_161 : decode cX3_holds 161 = .ok (.getfield 9, 3) := by decide +kernel
theorem dX3_holds_164 : decode cX3_holds 164 = .ok (.iload 5, 2) := by decide +kernel
theorem dX3_holds_166 : decode cX3_holds 166 = .ok (.iconst 1, 1) := by decide +kernel
theorem dX3_holds_167 : decode cX3_holds 167 = .ok (.isub, 1) := by decide +kernel
theorem dX3_holds_168 : decode cX3_holds 168 = .ok (.iaload, 1) := by decide +kernel
theorem dX3_holds_169 : decode cX3_holds 169 = .ok (.aload_n 0, 1) := by decide +kernel
theorem dX3_holds_170 : decode cX3_holds 170 = .ok (.getfield 9, 3) := by decide +kernel
theorem dX3_holds_173 : decode cX3_holds 173 = .ok (.iload 5, 2) := by decide +kernel
theorem dX3_holds_175 : decode cX3_holds 175 = .ok (.iaload, 1) := by decide +kernel
theorem dX3_holds_176 : decode cX3_holds 176 = .ok (.invokestatic 54, 3) := by decide +kernel
theorem dX3_holds_179 : decode cX3_holds 179 = .ok (.iastore, 1) := by decide +kernel
theorem dX3_holds_180 : decode cX3_holds 180 = .ok (.iinc 6 1, 3) := by decide +kernel
theorem dX3_holds_183 : decode cX3_holds 183 = .ok (.goto (-151), 3) := by decide +kernel
theorem dX3_holds_186 : decode cX3_holds 186 = .ok (.iload 5, 2) := by decide +kernel
theorem dX3_holds_188 : decode cX3_holds 188 = .ok (.iconst 1, 1) := by decide +kernel
theorem dX3_holds_189 : decode cX3_holds 189 = .ok (.if_icmp .lt 12, 3) := by decide +kernel
theorem dX3_holds_192 : decode cX3_holds 192 = .ok (.aload_n 0, 1) := by decide +kernel
theorem dX3_holds_193 : decode cX3_holds 193 = .ok (.getfield 9, 3) := by decide +kernel
theorem dX3_holds_196 : decode cX3_holds 196 = .ok (.iconst 0, 1) := by decide +kernel
theorem dX3_holds_197 : decode cX3_holds 197 = .ok (.iaload, 1) := by decide +kernel
theorem dX3_holds_198 : decode cX3_holds 198 = .ok (.ifCond .eq 7, 3) := by decide +kernel
theorem dX3_holds_201 : decode cX3_holds 201 = .ok (.iconst 1, 1) := by decide +kernel
theorem dX3_holds_202 : decode cX3_holds 202 = .ok (.goto 4, 3) := by decide +kernel
theorem dX3_holds_205 : decode cX3_holds 205 = .ok (.iconst 0, 1) := by decide +kernel
theorem dX3_holds_206 : decode cX3_holds 206 = .ok (.ireturn, 1) := by decide +kernel
theorem dX3_joined_0 : decode cX3_joined 0 = .ok (.iload_n 0, 1) := by decide +kernel
theorem dX3_joined_1 : decode cX3_joined 1 = .ok (.lookupswitch 73 #[(1015, 69), (2043, 43), (2060, 47), (2062, 58)], 43) := by decide +kernel
theorem dX3_joined_44 : decode cX3_joined 44 = .ok (.iload_n 1, 1) := by decide +kernel
theorem dX3_joined_45 : decode cX3_joined 45 = .ok (.iload_n 2, 1) := by decide +kernel
theorem dX3_joined_46 : decode cX3_joined 46 = .ok (.iadd, 1) := by decide +kernel
theorem dX3_joined_47 : decode cX3_joined 47 = .ok (.ireturn, 1) := by decide +kernel
theorem dX3_joined_48 : decode cX3_joined 48 = .ok (.iload_n 1, 1) := by decide +kernel
theorem dX3_joined_49 : decode cX3_joined 49 = .ok (.iload_n 2, 1) := by decide +kernel
theorem dX3_joined_50 : decode cX3_joined 50 = .ok (.if_icmp .ge 7, 3) := by decide +kernel
theorem dX3_joined_53 : decode cX3_joined 53 = .ok (.iconst 1, 1) := by decide +kernel
theorem dX3_joined_54 : decode cX3_joined 54 = .ok (.goto 4, 3) := by decide +kernel
theorem dX3_joined_57 : decode cX3_joined 57 = .ok (.iconst 0, 1) := by decide +kernel
theorem dX3_joined_58 : decode cX3_joined 58 = .ok (.ireturn, 1) := by decide +kernel
theorem dX3_joined_59 : decode cX3_joined 59 = .ok (.iload_n 1, 1) := by decide +kernel
theorem dX3_joined_60 : decode cX3_joined 60 = .ok (.iload_n 2, 1) := by decide +kernel
theorem dX3_joined_61 : decode cX3_joined 61 = .ok (.if_icmp .le 7, 3) := by decide +kernel
theorem dX3_joined_64 : decode cX3_joined 64 = .ok (.iconst 1, 1) := by decide +kernel
theorem dX3_joined_65 : decode cX3_joined 65 = .ok (.goto 4, 3) := by decide +kernel
theorem dX3_joined_68 : decode cX3_joined 68 = .ok (.iconst 0, 1) := by decide +kernel
theorem dX3_joined_69 : decode cX3_joined 69 = .ok (.ireturn, 1) := by decide +kernel
theorem dX3_joined_70 : decode cX3_joined 70 = .ok (.iload_n 1, 1) := by decide +kernel
theorem dX3_joined_71 : decode cX3_joined 71 = .ok (.iload_n 2, 1) := by decide +kernel
theorem dX3_joined_72 : decode cX3_joined 72 = .ok (.iand, 1) := by decide +kernel
theorem dX3_joined_73 : decode cX3_joined 73 = .ok (.ireturn, 1) := by decide +kernel
theorem dX3_joined_74 : decode cX3_joined 74 = .ok (.iload_n 1, 1) := by decide +kernel
theorem dX3_joined_75 : decode cX3_joined 75 = .ok (.iload_n 2, 1) := by decide +kernel
theorem dX3_joined_76 : decode cX3_joined 76 = .ok (.ior, 1) := by decide +kernel
theorem dX3_joined_77 : decode cX3_joined 77 = .ok (.ireturn, 1) := by decide +kernel
theorem dX3_partOf_0 : decode cX3_partOf 0 = .ok (.iload_n 2, 1) := by decide +kernel
theorem dX3_partOf_1 : decode cX3_partOf 1 = .ok (.sipush 1000, 3) := by decide +kernel
theorem dX3_partOf_4 : decode cX3_partOf 4 = .ok (.if_icmp .lt 15, 3) := by decide +kernel
theorem dX3_partOf_7 : decode cX3_partOf 7 = .ok (.iload_n 1, 1) := by decide +kernel
theorem dX3_partOf_8 : decode cX3_partOf 8 = .ok (.ifCond .lt 11, 3) := by decide +kernel
theorem dX3_partOf_11 : decode cX3_partOf 11 = .ok (.iload_n 1, 1) := by decide +kernel
theorem dX3_partOf_12 : decode cX3_partOf 12 = .ok (.aload_n 0, 1) := by decide +kernel
theorem dX3_partOf_13 : decode cX3_partOf 13 = .ok (.getfield 58, 3) := by decide +kernel
theorem dX3_partOf_16 : decode cX3_partOf 16 = .ok (.if_icmp .lt 5, 3) := by decide +kernel
theorem dX3_partOf_19 : decode cX3_partOf 19 = .ok (.iload_n 2, 1) := by decide +kernel
theorem dX3_partOf_20 : decode cX3_partOf 20 = .ok (.ireturn, 1) := by decide +kernel
theorem dX3_partOf_21 : decode cX3_partOf 21 = .ok (.aload_n 0, 1) := by decide +kernel
theorem dX3_partOf_22 : decode cX3_partOf 22 = .ok (.getfield 61, 3) := by decide +kernel
theorem dX3_partOf_25 : decode cX3_partOf 25 = .ok (.iload_n 1, 1) := by decide +kernel
theorem dX3_partOf_26 : decode cX3_partOf 26 = .ok (.aaload, 1) := by decide +kernel
theorem dX3_partOf_27 : decode cX3_partOf 27 = .ok (.astore 4, 2) := by decide +kernel
theorem dX3_partOf_29 : decode cX3_partOf 29 = .ok (.iload_n 2, 1) := by decide +kernel
theorem dX3_partOf_30 : decode cX3_partOf 30 = .ok (.tableswitch 137 1000 1008 #[50, 52, 68, 85, 94, 100, 106, 112, 127], 50) := by decide +kernel
theorem dX3_partOf_80 : decode cX3_partOf 80 = .ok (.iload_n 1, 1) := by decide +kernel
theorem dX3_partOf_81 : decode cX3_partOf 81 = .ok (.ireturn, 1) := by decide +kernel
theorem dX3_partOf_82 : decode cX3_partOf 82 = .ok (.iconst 0, 1) := by decide +kernel
theorem dX3_partOf_83 : decode cX3_partOf 83 = .ok (.aload 4, 2) := by decide +kernel
theorem dX3_partOf_85 : decode cX3_partOf 85 = .ok (.getfield 65, 3) := by decide +kernel
theorem dX3_partOf_88 : decode cX3_partOf 88 = .ok (.aload 4, 2) := by decide +kernel
theorem dX3_partOf_90 : decode cX3_partOf 90 = .ok (.getfield 70, 3) := by decide +kernel
theorem dX3_partOf_93 : decode cX3_partOf 93 = .ok (.iadd, 1) := by decide +kernel
theorem dX3_partOf_94 : decode cX3_partOf 94 = .ok (.invokestatic 44, 3) := by decide +kernel
theorem dX3_partOf_97 : decode cX3_partOf 97 = .ok (.ireturn, 1) := by decide +kernel
theorem dX3_partOf_98 : decode cX3_partOf 98 = .ok (.iconst 0, 1) := by decide +kernel
theorem dX3_partOf_99 : decode cX3_partOf 99 = .ok (.aload 4, 2) := by decide +kernel
theorem dX3_partOf_101 : decode cX3_partOf 101 = .ok (.getfield 65, 3) := by decide +kernel
theorem dX3_partOf_104 : decode cX3_partOf 104 = .ok (.ineg, 1) := by decide +kernel
theorem dX3_partOf_105 : decode cX3_partOf 105 = .ok (.aload 4, 2) := by decide +kernel
theorem dX3_partOf_107 : decode cX3_partOf 107 = .ok (.getfield 70, 3) := by decide +kernel
theorem dX3_partOf_110 : decode cX3_partOf 110 = .ok (.isub, 1) := by decide +kernel
theorem dX3_partOf_111 : decode cX3_partOf 111 = .ok (.invokestatic 44, 3) := by decide +kernel
theorem dX3_partOf_114 : decode cX3_partOf 114 = .ok (.ireturn, 1) := by decide +kernel
theorem dX3_partOf_115 : decode cX3_partOf 115 = .ok (.aload 4, 2) := by decide +kernel
theorem dX3_partOf_117 : decode cX3_partOf 117 = .ok (.getfield 73, 3) := by decide +kernel
theorem dX3_partOf_120 : decode cX3_partOf 120 = .ok (.invokestatic 76, 3) := by decide +kernel
theorem dX3_partOf_123 : decode cX3_partOf 123 = .ok (.ireturn, 1) := by decide +kernel
theorem dX3_partOf_124 : decode cX3_partOf 124 = .ok (.aload 4, 2) := by decide +kernel
theorem dX3_partOf_126 : decode cX3_partOf 126 = .ok (.getfield 81, 3) := by decide +kernel
theorem dX3_partOf_129 : decode cX3_partOf 129 = .ok (.ireturn, 1) := by decide +kernel
theorem dX3_partOf_130 : decode cX3_partOf 130 = .ok (.aload 4, 2) := by decide +kernel
theorem dX3_partOf_132 : decode cX3_partOf 132 = .ok (.getfield 84, 3) := by decide +kernel
theorem dX3_partOf_135 : decode cX3_partOf 135 = .ok (.ireturn, 1) := by decide +kernel
theorem dX3_partOf_136 : decode cX3_partOf 136 = .ok (.aload 4, 2) := by decide +kernel
theorem dX3_partOf_138 : decode cX3_partOf 138 = .ok (.getfield 87, 3) := by decide +kernel
theorem dX3_partOf_141 : decode cX3_partOf 141 = .ok (.ireturn, 1) := by decide +kernel
theorem dX3_partOf_142 : decode cX3_partOf 142 = .ok (.aload_n 0, 1) := by decide +kernel
theorem dX3_partOf_143 : decode cX3_partOf 143 = .ok (.getfield 90, 3) := by decide +kernel
theorem dX3_partOf_146 : decode cX3_partOf 146 = .ok (.iconst 2, 1) := by decide +kernel
theorem dX3_partOf_147 : decode cX3_partOf 147 = .ok (.irem, 1) := by decide +kernel
theorem dX3_partOf_148 : decode cX3_partOf 148 = .ok (.ifCond .ne 7, 3) := by decide +kernel
theorem dX3_partOf_151 : decode cX3_partOf 151 = .ok (.iconst 1, 1) := by decide +kernel
theorem dX3_partOf_152 : decode cX3_partOf 152 = .ok (.goto 4, 3) := by decide +kernel
theorem dX3_partOf_155 : decode cX3_partOf 155 = .ok (.iconst 0, 1) := by decide +kernel
theorem dX3_partOf_156 : decode cX3_partOf 156 = .ok (.ireturn, 1) := by decide +kernel
theorem dX3_partOf_157 : decode cX3_partOf 157 = .ok (.iload_n 3, 1) := by decide +kernel
theorem dX3_partOf_158 : decode cX3_partOf 158 = .ok (.ifCond .eq 7, 3) := by decide +kernel
theorem dX3_partOf_161 : decode cX3_partOf 161 = .ok (.iconst 1, 1) := by decide +kernel
theorem dX3_partOf_162 : decode cX3_partOf 162 = .ok (.goto 4, 3) := by decide +kernel
theorem dX3_partOf_165 : decode cX3_partOf 165 = .ok (.iconst 0, 1) := by decide +kernel
theorem dX3_partOf_166 : decode cX3_partOf 166 = .ok (.ireturn, 1) := by decide +kernel
theorem dX3_partOf_167 : decode cX3_partOf 167 = .ok (.aload 4, 2) := by decide +kernel
theorem dX3_partOf_169 : decode cX3_partOf 169 = .ok (.getfield 93, 3) := by decide +kernel
theorem dX3_partOf_172 : decode cX3_partOf 172 = .ok (.ifCond .le 7, 3) := by decide +kernel
theorem dX3_partOf_175 : decode cX3_partOf 175 = .ok (.iconst 1, 1) := by decide +kernel
theorem dX3_partOf_176 : decode cX3_partOf 176 = .ok (.goto 4, 3) := by decide +kernel
theorem dX3_partOf_179 : decode cX3_partOf 179 = .ok (.iconst 0, 1) := by decide +kernel
theorem dX3_partOf_180 : decode cX3_partOf 180 = .ok (.ireturn, 1) := by decide +kernel
theorem dX4_init_0 : decode cX4_init 0 = .ok (.aload_n 0, 1) := by decide +kernel
theorem dX4_init_1 : decode cX4_init 1 = .ok (.invokespecial 3, 3) := by decide +kernel
theorem dX4_init_4 : decode cX4_init 4 = .ok (.aload_n 0, 1) := by decide +kernel
theorem dX4_init_5 : decode cX4_init 5 = .ok (.bipush 12, 2) := by decide +kernel
theorem dX4_init_7 : decode cX4_init 7 = .ok (.newarray .int, 2) := by decide +kernel
theorem dX4_init_9 : decode cX4_init 9 = .ok (.putfield 9, 3) := by decide +kernel
theorem dX4_init_12 : decode cX4_init 12 = .ok (.aload_n 0, 1) := by decide +kernel
theorem dX4_init_13 : decode cX4_init 13 = .ok (.bipush 12, 2) := by decide +kernel
theorem dX4_init_15 : decode cX4_init 15 = .ok (.newarray .int, 2) := by decide +kernel
theorem dX4_init_17 : decode cX4_init 17 = .ok (.putfield 15, 3) := by decide +kernel
theorem dX4_init_20 : decode cX4_init 20 = .ok (.aload_n 0, 1) := by decide +kernel
theorem dX4_init_21 : decode cX4_init 21 = .ok (.bipush 13, 2) := by decide +kernel
theorem dX4_init_23 : decode cX4_init 23 = .ok (.newarray .int, 2) := by decide +kernel
theorem dX4_init_25 : decode cX4_init 25 = .ok (.putfield 18, 3) := by decide +kernel
theorem dX4_init_28 : decode cX4_init 28 = .ok (.aload_n 0, 1) := by decide +kernel
theorem dX4_init_29 : decode cX4_init 29 = .ok (.sipush 400, 3) := by decide +kernel
theorem dX4_init_32 : decode cX4_init 32 = .ok (.newarray .int, 2) := by decide +kernel
theorem dX4_init_34 : decode cX4_init 34 = .ok (.putfield 21, 3) := by decide +kernel
theorem dX4_init_37 : decode cX4_init 37 = .ok (.aload_n 0, 1) := by decide +kernel
theorem dX4_init_38 : decode cX4_init 38 = .ok (.aload_n 1, 1) := by decide +kernel
theorem dX4_init_39 : decode cX4_init 39 = .ok (.putfield 24, 3) := by decide +kernel
theorem dX4_init_42 : decode cX4_init 42 = .ok (.return_, 1) := by decide +kernel
theorem dX4_made_0 : decode cX4_made 0 = .ok (.new 28, 3) := by decide +kernel
theorem dX4_made_3 : decode cX4_made 3 = .ok (.dup, 1) := by decide +kernel
theorem dX4_made_4 : decode cX4_made 4 = .ok (.aload_n 0, 1) := by decide +kernel
theorem dX4_made_5 : decode cX4_made 5 = .ok (.getfield 30, 3) := by decide +kernel
theorem dX4_made_8 : decode cX4_made 8 = .ok (.aload_n 0, 1) := by decide +kernel
theorem dX4_made_9 : decode cX4_made 9 = .ok (.getfield 9, 3) := by decide +kernel
theorem dX4_made_12 : decode cX4_made 12 = .ok (.aload_n 0, 1) := by decide +kernel
theorem dX4_made_13 : decode cX4_made 13 = .ok (.getfield 30, 3) := by decide +kernel
theorem dX4_made_16 : decode cX4_made 16 = .ok (.invokestatic 34, 3) := by decide +kernel
theorem dX4_made_19 : decode cX4_made 19 = .ok (.aload_n 0, 1) := by decide +kernel
theorem dX4_made_20 : decode cX4_made 20 = .ok (.getfield 15, 3) := by decide +kernel
theorem dX4_made_23 : decode cX4_made 23 = .ok (.aload_n 0, 1) := by decide +kernel
theorem dX4_made_24 : decode cX4_made 24 = .ok (.getfield 30, 3) := by decide +kernel
theorem dX4_made_27 : decode cX4_made 27 = .ok (.invokestatic 34, 3) := by decide +kernel
theorem dX4_made_30 : decode cX4_made 30 = .ok (.aload_n 0, 1) := by decide +kernel
theorem dX4_made_31 : decode cX4_made 31 = .ok (.getfield 18, 3) := by decide +kernel
theorem dX4_made_34 : decode cX4_made 34 = .ok (.aload_n 0, 1) := by decide +kernel
theorem dX4_made_35 : decode cX4_made 35 = .ok (.getfield 30, 3) := by decide +kernel
theorem dX4_made_38 : decode cX4_made 38 = .ok (.iconst 1, 1) := by decide +kernel
theorem dX4_made_39 : decode cX4_made 39 = .ok (.iadd, 1) := by decide +kernel
theorem dX4_made_40 : decode cX4_made 40 = .ok (.invokestatic 34, 3) := by decide +kernel
theorem dX4_made_43 : decode cX4_made 43 = .ok (.aload_n 0, 1) := by decide +kernel
theorem dX4_made_44 : decode cX4_made 44 = .ok (.getfield 21, 3) := by decide +kernel
theorem dX4_made_47 : decode cX4_made 47 = .ok (.aload_n 0, 1) := by decide +kernel
theorem dX4_made_48 : decode cX4_made 48 = .ok (.getfield 38, 3) := by decide +kernel
theorem dX4_made_51 : decode cX4_made 51 = .ok (.invokestatic 34, 3) := by decide +kernel
theorem dX4_made_54 : decode cX4_made 54 = .ok (.invokespecial 41, 3) := by decide +kernel
theorem dX4_made_57 : decode cX4_made 57 = .ok (.areturn, 1) := by decide +kernel
theorem dX4_copyOf_0 : decode cX4_copyOf 0 = .ok (.iconst 0, 1) := by decide +kernel
theorem dX4_copyOf_1 : decode cX4_copyOf 1 = .ok (.iload_n 1, 1) := by decide +kernel
theorem dX4_copyOf_2 : decode cX4_copyOf 2 = .ok (.aload_n 0, 1) := by decide +kernel
theorem dX4_copyOf_3 : decode cX4_copyOf 3 = .ok (.arraylength, 1) := by decide +kernel
theorem dX4_copyOf_4 : decode cX4_copyOf 4 = .ok (.invokestatic 44, 3) := by decide +kernel
theorem dX4_copyOf_7 : decode cX4_copyOf 7 = .ok (.invokestatic 50, 3) := by decide +kernel
theorem dX4_copyOf_10 : decode cX4_copyOf 10 = .ok (.istore_n 2, 1) := by decide +kernel
theorem dX4_copyOf_11 : decode cX4_copyOf 11 = .ok (.iload_n 2, 1) := by decide +kernel
theorem dX4_copyOf_12 : decode cX4_copyOf 12 = .ok (.newarray .int, 2) := by decide +kernel
theorem dX4_copyOf_14 : decode cX4_copyOf 14 = .ok (.astore_n 3, 1) := by decide +kernel
theorem dX4_copyOf_15 : decode cX4_copyOf 15 = .ok (.aload_n 0, 1) := by decide +kernel
theorem dX4_copyOf_16 : decode cX4_copyOf 16 = .ok (.iconst 0, 1) := by decide +kernel
theorem dX4_copyOf_17 : decode cX4_copyOf 17 = .ok (.aload_n 3, 1) := by decide +kernel
theorem dX4_copyOf_18 : decode cX4_copyOf 18 = .ok (.iconst 0, 1) := by decide +kernel
theorem dX4_copyOf_19 : decode cX4_copyOf 19 = .ok (.iload_n 2, 1) := by decide +kernel
theorem dX4_copyOf_20 : decode cX4_copyOf 20 = .ok (.invokestatic 53, 3) := by decide +kernel
theorem dX4_copyOf_23 : decode cX4_copyOf 23 = .ok (.aload_n 3, 1) := by decide +kernel
theorem dX4_copyOf_24 : decode cX4_copyOf 24 = .ok (.areturn, 1) := by decide +kernel
theorem dX4_readAllLines_0 : decode cX4_readAllLines 0 = .ok (.aload_n 0, 1) := by decide +kernel
theorem dX4_readAllLines_1 : decode cX4_readAllLines 1 = .ok (.iconst 0, 1) := by decide +kernel
theorem dX4_readAllLines_2 : decode cX4_readAllLines 2 = .ok (.putfield 30, 3) := by decide +kernel
theorem dX4_readAllLines_5 : decode cX4_readAllLines 5 = .ok (.aload_n 0, 1) := by decide +kernel
theorem dX4_readAllLines_6 : decode cX4_readAllLines 6 = .ok (.iconst 0, 1) := by decide +kernel
theorem dX4_readAllLines_7 : decode cX4_readAllLines 7 = .ok (.putfield 38, 3) := by decide +kernel
theorem dX4_readAllLines_10 : decode cX4_readAllLines 10 = .ok (.aload_n 0, 1) := by decide +kernel
theorem dX4_readAllLines_11 : decode cX4_readAllLines 11 = .ok (.getfield 24, 3) := by decide +kernel
theorem dX4_readAllLines_14 : decode cX4_readAllLines 14 = .ok (.sipush 3001, 3) := by decide +kernel
theorem dX4_readAllLines_17 : decode cX4_readAllLines 17 = .ok (.invokevirtual 59, 3) := by decide +kernel
theorem dX4_readAllLines_20 : decode cX4_readAllLines 20 = .ok (.ifCond .eq 4, 3) := by decide +kernel
theorem dX4_readAllLines_23 : decode cX4_readAllLines 23 = .ok (.return_, 1) := by decide +kernel
theorem dX4_readAllLines_24 : decode cX4_readAllLines 24 = .ok (.iconst 0, 1) := by decide +kernel
theorem dX4_readAllLines_25 : decode cX4_readAllLines 25 = .ok (.istore_n 1, 1) := by decide +kernel
theorem dX4_readAllLines_26 : decode cX4_readAllLines 26 = .ok (.iload_n 1, 1) := by decide +kernel
theorem dX4_readAllLines_27 : decode cX4_readAllLines 27 = .ok (.bipush 12, 2) := by decide +kernel
theorem dX4_readAllLines_29 : decode cX4_readAllLines 29 = .ok (.if_icmp .ge 48, 3) := by decide +kernel
theorem dX4_readAllLines_32 : decode cX4_readAllLines 32 = .ok (.aload_n 0, 1) := by decide +kernel
theorem dX4_readAllLines_33 : decode cX4_readAllLines 33 = .ok (.iload_n 1, 1) := by decide +kernel
theorem dX4_readAllLines_34 : decode cX4_readAllLines 34 = .ok (.invokevirtual 65, 3) := by decide +kernel
theorem dX4_readAllLines_37 : decode cX4_readAllLines 37 = .ok (.aload_n 0, 1) := by decide +kernel
theorem dX4_readAllLines_38 : decode cX4_readAllLines 38 = .ok (.getfield 24, 3) := by decide +kernel
theorem dX4_readAllLines_41 : decode cX4_readAllLines 41 = .ok (.sipush 2059, 3) := by decide +kernel
theorem dX4_readAllLines_44 : decode cX4_readAllLines 44 = .ok (.invokevirtual 69, 3) := by decide +kernel
theorem dX4_readAllLines_47 : decode cX4_readAllLines 47 = .ok (.ifCond .ne 24, 3) := by decide +kernel
theorem dX4_readAllLines_50 : decode cX4_readAllLines 50 = .ok (.aload_n 0, 1) := by decide +kernel
theorem dX4_readAllLines_51 : decode cX4_readAllLines 51 = .ok (.getfield 24, 3) := by decide +kernel
theorem dX4_readAllLines_54 : decode cX4_readAllLines 54 = .ok (.sipush 3001, 3) := by decide +kernel
theorem dX4_readAllLines_57 : decode cX4_readAllLines 57 = .ok (.invokevirtual 59, 3) := by decide +kernel
theorem dX4_readAllLines_60 : decode cX4_readAllLines 60 = .ok (.ifCond .ne 10, 3) := by decide +kernel
theorem dX4_readAllLines_63 : decode cX4_readAllLines 63 = .ok (.aload_n 0, 1) := by decide +kernel
theorem dX4_readAllLines_64 : decode cX4_readAllLines 64 = .ok (.getfield 24, 3) := by decide +kernel
theorem dX4_readAllLines_67 : decode cX4_readAllLines 67 = .ok (.invokevirtual 72, 3) := by decide +kernel
theorem dX4_readAllLines_70 : decode cX4_readAllLines 70 = .ok (.return_, 1) := by decide +kernel
theorem dX4_readAllLines_71 : decode cX4_readAllLines 71 = .ok (.iinc 1 1, 3) := by decide +kernel
theorem dX4_readAllLines_74 : decode cX4_readAllLines 74 = .ok (.goto (-48), 3) := by decide +kernel
theorem dX4_readAllLines_77 : decode cX4_readAllLines 77 = .ok (.aload_n 0, 1) := by decide +kernel
theorem dX4_readAllLines_78 : decode cX4_readAllLines 78 = .ok (.getfield 24, 3) := by decide +kernel
theorem dX4_readAllLines_81 : decode cX4_readAllLines 81 = .ok (.invokevirtual 72, 3) := by decide +kernel
theorem dX4_readAllLines_84 : decode cX4_readAllLines 84 = .ok (.return_, 1) := by decide +kernel
theorem dX4_readLine_0 : decode cX4_readLine 0 = .ok (.aload_n 0, 1) := by decide +kernel
theorem dX4_readLine_1 : decode cX4_readLine 1 = .ok (.getfield 24, 3) := by decide +kernel
theorem dX4_readLine_4 : decode cX4_readLine 4 = .ok (.sipush 1010, 3) := by decide +kernel
theorem dX4_readLine_7 : decode cX4_readLine 7 = .ok (.sipush 1012, 3) := by decide +kernel
theorem dX4_readLine_10 : decode cX4_readLine 10 = .ok (.invokevirtual 75, 3) := by decide +kernel
theorem dX4_readLine_13 : decode cX4_readLine 13 = .ok (.istore_n 2, 1) := by decide +kernel
theorem dX4_readLine_14 : decode cX4_readLine 14 = .ok (.iload_n 2, 1) := by decide +kernel
theorem dX4_readLine_15 : decode cX4_readLine 15 = .ok (.iconst (-1), 1) := by decide +kernel
theorem dX4_readLine_16 : decode cX4_readLine 16 = .ok (.if_icmp .eq 13, 3) := by decide +kernel
theorem dX4_readLine_19 : decode cX4_readLine 19 = .ok (.iload_n 1, 1) := by decide +kernel
theorem dX4_readLine_20 : decode cX4_readLine 20 = .ok (.ifCond .lt 9, 3) := by decide +kernel
theorem dX4_readLine_23 : decode cX4_readLine 23 = .ok (.iload_n 1, 1) := by decide +kernel
theorem dX4_readLine_24 : decode cX4_readLine 24 = .ok (.bipush 12, 2) := by decide +kernel
theorem dX4_readLine_26 : decode cX4_readLine 26 = .ok (.if_icmp .lt 11, 3) := by decide +kernel
theorem dX4_readLine_29 : decode cX4_readLine 29 = .ok (.aload_n 0, 1) := by decide +kernel
theorem dX4_readLine_30 : decode cX4_readLine 30 = .ok (.getfield 24, 3) := by decide +kernel
theorem dX4_readLine_33 : decode cX4_readLine 33 = .ok (.invokevirtual 72, 3) := by decide +kernel
theorem dX4_readLine_36 : decode cX4_readLine 36 = .ok (.return_, 1) := by decide +kernel
theorem dX4_readLine_37 : decode cX4_readLine 37 = .ok (.aload_n 0, 1) := by decide +kernel
theorem dX4_readLine_38 : decode cX4_readLine 38 = .ok (.getfield 9, 3) := by decide +kernel
theorem dX4_readLine_41 : decode cX4_readLine 41 = .ok (.iload_n 1, 1) := by decide +kernel
theorem dX4_readLine_42 : decode cX4_readLine 42 = .ok (.iload_n 2, 1) := by decide +kernel
theorem dX4_readLine_43 : decode cX4_readLine 43 = .ok (.iastore, 1) := by decide +kernel
theorem dX4_readLine_44 : decode cX4_readLine 44 = .ok (.aload_n 0, 1) := by decide +kernel
theorem dX4_readLine_45 : decode cX4_readLine 45 = .ok (.getfield 15, 3) := by decide +kernel
theorem dX4_readLine_48 : decode cX4_readLine 48 = .ok (.iload_n 1, 1) := by decide +kernel
theorem dX4_readLine_49 : decode cX4_readLine 49 = .ok (.aload_n 0, 1) := by decide +kernel
theorem dX4_readLine_50 : decode cX4_readLine 50 = .ok (.getfield 24, 3) := by decide +kernel
theorem dX4_readLine_53 : decode cX4_readLine 53 = .ok (.iconst 0, 1) := by decide +kernel
theorem dX4_readLine_54 : decode cX4_readLine 54 = .ok (.bipush 99, 2) := by decide +kernel
theorem dX4_readLine_56 : decode cX4_readLine 56 = .ok (.invokevirtual 78, 3) := by decide +kernel
theorem dX4_readLine_59 : decode cX4_readLine 59 = .ok (.iastore, 1) := by decide +kernel
theorem dX4_readLine_60 : decode cX4_readLine 60 = .ok (.aload_n 0, 1) := by decide +kernel
theorem dX4_readLine_61 : decode cX4_readLine 61 = .ok (.getfield 18, 3) := by decide +kernel
theorem dX4_readLine_64 : decode cX4_readLine 64 = .ok (.iload_n 1, 1) := by decide +kernel
theorem dX4_readLine_65 : decode cX4_readLine 65 = .ok (.aload_n 0, 1) := by decide +kernel
theorem dX4_readLine_66 : decode cX4_readLine 66 = .ok (.getfield 38, 3) := by decide +kernel
theorem dX4_readLine_69 : decode cX4_readLine 69 = .ok (.iastore, 1) := by decide +kernel
theorem dX4_readLine_70 : decode cX4_readLine 70 = .ok (.aload_n 0, 1) := by decide +kernel
theorem dX4_readLine_71 : decode cX4_readLine 71 = .ok (.getfield 24, 3) := by decide +kernel
theorem dX4_readLine_74 : decode cX4_readLine 74 = .ok (.sipush 1013, 3) := by decide +kernel
theorem dX4_readLine_77 : decode cX4_readLine 77 = .ok (.invokevirtual 69, 3) := by decide +kernel
theorem dX4_readLine_80 : decode cX4_readLine 80 = .ok (.ifCond .eq 8, 3) := by decide +kernel
theorem dX4_readLine_83 : decode cX4_readLine 83 = .ok (.aload_n 0, 1) := by decide +kernel
theorem dX4_readLine_84 : decode cX4_readLine 84 = .ok (.iconst 0, 1) := by decide +kernel
theorem dX4_readLine_85 : decode cX4_readLine 85 = .ok (.invokevirtual 81, 3) := by decide +kernel
theorem dX4_readLine_88 : decode cX4_readLine 88 = .ok (.aload_n 0, 1) := by decide +kernel
theorem dX4_readLine_89 : decode cX4_readLine 89 = .ok (.getfield 18, 3) := by decide +kernel
theorem dX4_readLine_92 : decode cX4_readLine 92 = .ok (.iload_n 1, 1) := by decide +kernel
theorem dX4_readLine_93 : decode cX4_readLine 93 = .ok (.iconst 1, 1) := by decide +kernel
theorem dX4_readLine_94 : decode cX4_readLine 94 = .ok (.iadd, 1) := by decide +kernel
theorem dX4_readLine_95 : decode cX4_readLine 95 = .ok (.aload_n 0, 1) := by decide +kernel
theorem dX4_readLine_96 : decode cX4_readLine 96 = .ok (.getfield 38, 3) := by decide +kernel
theorem dX4_readLine_99 : decode cX4_readLine 99 = .ok (.iastore, 1) := by decide +kernel
theorem dX4_readLine_100 : decode cX4_readLine 100 = .ok (.aload_n 0, 1) := by decide +kernel
theorem dX4_readLine_101 : decode cX4_readLine 101 = .ok (.iload_n 1, 1) := by decide +kernel
theorem dX4_readLine_102 : decode cX4_readLine 102 = .ok (.iconst 1, 1) := by decide +kernel
theorem dX4_readLine_103 : decode cX4_readLine 103 = .ok (.iadd, 1) := by decide +kernel
theorem dX4_readLine_104 : decode cX4_readLine 104 = .ok (.putfield 30, 3) := by decide +kernel
theorem dX4_readLine_107 : decode cX4_readLine 107 = .ok (.return_, 1) := by decide +kernel
theorem dX4_emit_0 : decode cX4_emit 0 = .ok (.aload_n 0, 1) := by decide +kernel
theorem dX4_emit_1 : decode cX4_emit 1 = .ok (.getfield 38, 3) := by decide +kernel
theorem dX4_emit_4 : decode cX4_emit 4 = .ok (.aload_n 0, 1) := by decide +kernel
theorem dX4_emit_5 : decode cX4_emit 5 = .ok (.getfield 21, 3) := by decide +kernel
theorem dX4_emit_8 : decode cX4_emit 8 = .ok (.arraylength, 1) := by decide +kernel
theorem dX4_emit_9 : decode cX4_emit 9 = .ok (.if_icmp .ge 23, 3) := by decide +kernel
theorem dX4_emit_12 : decode cX4_emit 12 = .ok (.aload_n 0, 1) := by decide +kernel
theorem dX4_emit_13 : decode cX4_emit 13 = .ok (.getfield 21, 3) := by decide +kernel
theorem dX4_emit_16 : decode cX4_emit 16 = .ok (.aload_n 0, 1) := by decide +kernel
theorem dX4_emit_17 : decode cX4_emit 17 = .ok (.getfield 38, 3) := by decide +kernel
theorem dX4_emit_20 : decode cX4_emit 20 = .ok (.iload_n 1, 1) := by decide +kernel
theorem dX4_emit_21 : decode cX4_emit 21 = .ok (.iastore, 1) := by decide +kernel
theorem dX4_emit_22 : decode cX4_emit 22 = .ok (.aload_n 0, 1) := by decide +kernel
theorem dX4_emit_23 : decode cX4_emit 23 = .ok (.dup, 1) := by decide +kernel
theorem dX4_emit_24 : decode cX4_emit 24 = .ok (.getfield 38, 3) := by decide +kernel
theorem dX4_emit_27 : decode cX4_emit 27 = .ok (.iconst 1, 1) := by decide +kernel
theorem dX4_emit_28 : decode cX4_emit 28 = .ok (.iadd, 1) := by decide +kernel
theorem dX4_emit_29 : decode cX4_emit 29 = .ok (.putfield 38, 3) := by decide +kernel
theorem dX4_emit_32 : decode cX4_emit 32 = .ok (.return_, 1) := by decide +kernel
theorem dX4_readAny_0 : decode cX4_readAny 0 = .ok (.aload_n 0, 1) := by decide +kernel
theorem dX4_readAny_1 : decode cX4_readAny 1 = .ok (.iload_n 1, 1) := by decide +kernel
theorem dX4_readAny_2 : decode cX4_readAny 2 = .ok (.invokevirtual 84, 3) := by decide +kernel
theorem dX4_readAny_5 : decode cX4_readAny 5 = .ok (.iconst 0, 1) := by decide +kernel
theorem dX4_readAny_6 : decode cX4_readAny 6 = .ok (.istore_n 2, 1) := by decide +kernel
theorem dX4_readAny_7 : decode cX4_readAny 7 = .ok (.iload_n 2, 1) := by decide +kernel
theorem dX4_readAny_8 : decode cX4_readAny 8 = .ok (.sipush 400, 3) := by decide +kernel
theorem dX4_readAny_11 : decode cX4_readAny 11 = .ok (.if_icmp .ge 34, 3) := by decide +kernel
theorem dX4_readAny_14 : decode cX4_readAny 14 = .ok (.aload_n 0, 1) := by decide +kernel
theorem dX4_readAny_15 : decode cX4_readAny 15 = .ok (.getfield 24, 3) := by decide +kernel
theorem dX4_readAny_18 : decode cX4_readAny 18 = .ok (.sipush 1014, 3) := by decide +kernel
theorem dX4_readAny_21 : decode cX4_readAny 21 = .ok (.invokevirtual 69, 3) := by decide +kernel
theorem dX4_readAny_24 : decode cX4_readAny 24 = .ok (.ifCond .eq 21, 3) := by decide +kernel
theorem dX4_readAny_27 : decode cX4_readAny 27 = .ok (.aload_n 0, 1) := by decide +kernel
theorem dX4_readAny_28 : decode cX4_readAny 28 = .ok (.iload_n 1, 1) := by decide +kernel
theorem dX4_readAny_29 : decode cX4_readAny 29 = .ok (.invokevirtual 84, 3) := by decide +kernel
theorem dX4_readAny_32 : decode cX4_readAny 32 = .ok (.aload_n 0, 1) := by decide +kernel
theorem dX4_readAny_33 : decode cX4_readAny 33 = .ok (.sipush 1014, 3) := by decide +kernel
theorem dX4_readAny_36 : decode cX4_readAny 36 = .ok (.invokevirtual 87, 3) := by decide +kernel
theorem dX4_readAny_39 : decode cX4_readAny 39 = .ok (.iinc 2 1, 3) := by decide +kernel
theorem dX4_readAny_42 : decode cX4_readAny 42 = .ok (.goto (-35), 3) := by decide +kernel
theorem dX4_readAny_45 : decode cX4_readAny 45 = .ok (.return_, 1) := by decide +kernel
theorem dX4_readEach_0 : decode cX4_readEach 0 = .ok (.aload_n 0, 1) := by decide +kernel
theorem dX4_readEach_1 : decode cX4_readEach 1 = .ok (.iload_n 1, 1) := by decide +kernel
theorem dX4_readEach_2 : decode cX4_readEach 2 = .ok (.invokevirtual 90, 3) := by decide +kernel
theorem dX4_readEach_5 : decode cX4_readEach 5 = .ok (.iconst 0, 1) := by decide +kernel
theorem dX4_readEach_6 : decode cX4_readEach 6 = .ok (.istore_n 2, 1) := by decide +kernel
theorem dX4_readEach_7 : decode cX4_readEach 7 = .ok (.iload_n 2, 1) := by decide +kernel
theorem dX4_readEach_8 : decode cX4_readEach 8 = .ok (.sipush 400, 3) := by decide +kernel
theorem dX4_readEach_11 : decode cX4_readEach 11 = .ok (.if_icmp .ge 34, 3) := by decide +kernel
theorem dX4_readEach_14 : decode cX4_readEach 14 = .ok (.aload_n 0, 1) := by decide +kernel
theorem dX4_readEach_15 : decode cX4_readEach 15 = .ok (.getfield 24, 3) := by decide +kernel
theorem dX4_readEach_18 : decode cX4_readEach 18 = .ok (.sipush 1015, 3) := by decide +kernel
theorem dX4_readEach_21 : decode cX4_readEach 21 = .ok (.invokevirtual 69, 3) := by decide +kernel
theorem dX4_readEach_24 : decode cX4_readEach 24 = .ok (.ifCond .eq 21, 3) := by decide +kernel
theorem dX4_readEach_27 : decode cX4_readEach 27 = .ok (.aload_n 0, 1) := by decide +kernel
theorem dX4_readEach_28 : decode cX4_readEach 28 = .ok (.iload_n 1, 1) := by decide +kernel
theorem dX4_readEach_29 : decode cX4_readEach 29 = .ok (.invokevirtual 90, 3) := by decide +kernel
theorem dX4_readEach_32 : decode cX4_readEach 32 = .ok (.aload_n 0, 1) := by decide +kernel
theorem dX4_readEach_33 : decode cX4_readEach 33 = .ok (.sipush 1015, 3) := by decide +kernel
theorem dX4_readEach_36 : decode cX4_readEach 36 = .ok (.invokevirtual 87, 3) := by decide +kernel
theorem dX4_readEach_39 : decode cX4_readEach 39 = .ok (.iinc 2 1, 3) := by decide +kernel
theorem dX4_readEach_42 : decode cX4_readEach 42 = .ok (.goto (-35), 3) := by decide +kernel
theorem dX4_readEach_45 : decode cX4_readEach 45 = .ok (.return_, 1) := by decide +kernel
theorem dX4_readAtom_0 : decode cX4_readAtom 0 = .ok (.aload_n 0, 1) := by decide +kernel
theorem dX4_readAtom_1 : decode cX4_readAtom 1 = .ok (.getfield 24, 3) := by decide +kernel
theorem dX4_readAtom_4 : decode cX4_readAtom 4 = .ok (.sipush 2040, 3) := by decide +kernel
theorem dX4_readAtom_7 : decode cX4_readAtom 7 = .ok (.invokevirtual 59, 3) := by decide +kernel
theorem dX4_readAtom_10 : decode cX4_readAtom 10 = .ok (.ifCond .ne 16, 3) := by decide +kernel
theorem dX4_readAtom_13 : decode cX4_readAtom 13 = .ok (.aload_n 0, 1) := by decide +kernel
theorem dX4_readAtom_14 : decode cX4_readAtom 14 = .ok (.getfield 24, 3) := by decide +kernel
theorem dX4_readAtom_17 : decode cX4_readAtom 17 = .ok (.sipush 1016, 3) := by decide +kernel
theorem dX4_readAtom_20 : decode cX4_readAtom 20 = .ok (.invokevirtual 59, 3) := by decide +kernel
theorem dX4_readAtom_23 : decode cX4_readAtom 23 = .ok (.ifCond .eq 7, 3) := by decide +kernel
theorem dX4_readAtom_26 : decode cX4_readAtom 26 = .ok (.iconst 1, 1) := by decide +kernel
theorem dX4_readAtom_27 : decode cX4_readAtom 27 = .ok (.goto 4, 3) := by decide +kernel
theorem dX4_readAtom_30 : decode cX4_readAtom 30 = .ok (.iconst 0, 1) := by decide +kernel
theorem dX4_readAtom_31 : decode cX4_readAtom 31 = .ok (.istore_n 2, 1) := by decide +kernel
theorem dX4_readAtom_32 : decode cX4_readAtom 32 = .ok (.iload_n 2, 1) := by decide +kernel
theorem dX4_readAtom_33 : decode cX4_readAtom 33 = .ok (.ifCond .eq 17, 3) := by decide +kernel
theorem dX4_readAtom_36 : decode cX4_readAtom 36 = .ok (.iload_n 1, 1) := by decide +kernel
theorem dX4_readAtom_37 : decode cX4_readAtom 37 = .ok (.bipush 6, 2) := by decide +kernel
theorem dX4_readAtom_39 : decode cX4_readAtom 39 = .ok (.if_icmp .lt 11, 3) := by decide +kernel
theorem dX4_readAtom_42 : decode cX4_readAtom 42 = .ok (.aload_n 0, 1) := by decide +kernel
theorem dX4_readAtom_43 : decode cX4_readAtom 43 = .ok (.getfield 24, 3) := by decide +kernel
theorem dX4_readAtom_46 : decode cX4_readAtom 46 = .ok (.invokevirtual 72, 3) := by decide +kernel
theorem dX4_readAtom_49 : decode cX4_readAtom 49 = .ok (.return_, 1) := by decide +kernel
theorem dX4_readAtom_50 : decode cX4_readAtom 50 = .ok (.aload_n 0, 1) := by decide +kernel
theorem dX4_readAtom_51 : decode cX4_readAtom 51 = .ok (.getfield 24, 3) := by decide +kernel
theorem dX4_readAtom_54 : decode cX4_readAtom 54 = .ok (.sipush 1016, 3) := by decide +kernel
theorem dX4_readAtom_57 : decode cX4_readAtom 57 = .ok (.invokevirtual 69, 3) := by decide +kernel
theorem dX4_readAtom_60 : decode cX4_readAtom 60 = .ok (.ifCond .eq 18, 3) := by decide +kernel
theorem dX4_readAtom_63 : decode cX4_readAtom 63 = .ok (.aload_n 0, 1) := by decide +kernel
theorem dX4_readAtom_64 : decode cX4_readAtom 64 = .ok (.iload_n 1, 1) := by decide +kernel
theorem dX4_readAtom_65 : decode cX4_readAtom 65 = .ok (.iconst 1, 1) := by decide +kernel
theorem dX4_readAtom_66 : decode cX4_readAtom 66 = .ok (.iadd, 1) := by decide +kernel
theorem dX4_readAtom_67 : decode cX4_readAtom 67 = .ok (.invokevirtual 90, 3) := by decide +kernel
theorem dX4_readAtom_70 : decode cX4_readAtom 70 = .ok (.aload_n 0, 1) := by decide +kernel
theorem dX4_readAtom_71 : decode cX4_readAtom 71 = .ok (.sipush 1016, 3) := by decide +kernel
theorem dX4_readAtom_74 : decode cX4_readAtom 74 = .ok (.invokevirtual 87, 3) := by decide +kernel
theorem dX4_readAtom_77 : decode cX4_readAtom 77 = .ok (.return_, 1) := by decide +kernel
theorem dX4_readAtom_78 : decode cX4_readAtom 78 = .ok (.aload_n 0, 1) := by decide +kernel
theorem dX4_readAtom_79 : decode cX4_readAtom 79 = .ok (.getfield 24, 3) := by decide +kernel
theorem dX4_readAtom_82 : decode cX4_readAtom 82 = .ok (.sipush 2040, 3) := by decide +kernel
theorem dX4_readAtom_85 : decode cX4_readAtom 85 = .ok (.invokevirtual 69, 3) := by decide +kernel
theorem dX4_readAtom_88 : decode cX4_readAtom 88 = .ok (.ifCond .eq 31, 3) := by decide +kernel
theorem dX4_readAtom_91 : decode cX4_readAtom 91 = .ok (.aload_n 0, 1) := by decide +kernel
theorem dX4_readAtom_92 : decode cX4_readAtom 92 = .ok (.iload_n 1, 1) := by decide +kernel
theorem dX4_readAtom_93 : decode cX4_readAtom 93 = .ok (.iconst 1, 1) := by decide +kernel
theorem dX4_readAtom_94 : decode cX4_readAtom 94 = .ok (.iadd, 1) := by decide +kernel
theorem dX4_readAtom_95 : decode cX4_readAtom 95 = .ok (.invokevirtual 81, 3) := by decide +kernel
theorem dX4_readAtom_98 : decode cX4_readAtom 98 = .ok (.aload_n 0, 1) := by decide +kernel
theorem dX4_readAtom_99 : decode cX4_readAtom 99 = .ok (.getfield 24, 3) := by decide +kernel
theorem dX4_readAtom_102 : decode cX4_readAtom 102 = .ok (.sipush 2041, 3) := by decide +kernel
theorem dX4_readAtom_105 : decode cX4_readAtom 105 = .ok (.invokevirtual 69, 3) := by decide +kernel
theorem dX4_readAtom_108 : decode cX4_readAtom 108 = .ok (.ifCond .ne 10, 3) := by decide +kernel
theorem dX4_readAtom_111 : decode cX4_readAtom 111 = .ok (.aload_n 0, 1) := by decide +kernel
theorem dX4_readAtom_112 : decode cX4_readAtom 112 = .ok (.getfield 24, 3) := by decide +kernel
theorem dX4_readAtom_115 : decode cX4_readAtom 115 = .ok (.invokevirtual 72, 3) := by decide +kernel
theorem dX4_readAtom_118 : decode cX4_readAtom 118 = .ok (.return_, 1) := by decide +kernel
theorem dX4_readAtom_119 : decode cX4_readAtom 119 = .ok (.aload_n 0, 1) := by decide +kernel
theorem dX4_readAtom_120 : decode cX4_readAtom 120 = .ok (.getfield 24, 3) := by decide +kernel
theorem dX4_readAtom_123 : decode cX4_readAtom 123 = .ok (.sipush 1007, 3) := by decide +kernel
theorem dX4_readAtom_126 : decode cX4_readAtom 126 = .ok (.sipush 1009, 3) := by decide +kernel
theorem dX4_readAtom_129 : decode cX4_readAtom 129 = .ok (.invokevirtual 75, 3) := by decide +kernel
theorem dX4_readAtom_132 : decode cX4_readAtom 132 = .ok (.istore_n 3, 1) := by decide +kernel
theorem dX4_readAtom_133 : decode cX4_readAtom 133 = .ok (.iload_n 3, 1) := by decide +kernel
theorem dX4_readAtom_134 : decode cX4_readAtom 134 = .ok (.iconst (-1), 1) := by decide +kernel
theorem dX4_readAtom_135 : decode cX4_readAtom 135 = .ok (.if_icmp .eq 9, 3) := by decide +kernel
theorem dX4_readAtom_138 : decode cX4_readAtom 138 = .ok (.aload_n 0, 1) := by decide +kernel
theorem dX4_readAtom_139 : decode cX4_readAtom 139 = .ok (.iload_n 3, 1) := by decide +kernel
theorem dX4_readAtom_140 : decode cX4_readAtom 140 = .ok (.invokevirtual 87, 3) := by decide +kernel
theorem dX4_readAtom_143 : decode cX4_readAtom 143 = .ok (.return_, 1) := by decide +kernel
theorem dX4_readAtom_144 : decode cX4_readAtom 144 = .ok (.aload_n 0, 1) := by decide +kernel
theorem dX4_readAtom_145 : decode cX4_readAtom 145 = .ok (.invokevirtual 93, 3) := by decide +kernel
theorem dX4_readAtom_148 : decode cX4_readAtom 148 = .ok (.aload_n 0, 1) := by decide +kernel
theorem dX4_readAtom_149 : decode cX4_readAtom 149 = .ok (.getfield 24, 3) := by decide +kernel
theorem dX4_readAtom_152 : decode cX4_readAtom 152 = .ok (.sipush 2060, 3) := by decide +kernel
theorem dX4_readAtom_155 : decode cX4_readAtom 155 = .ok (.invokevirtual 69, 3) := by decide +kernel
theorem dX4_readAtom_158 : decode cX4_readAtom 158 = .ok (.ifCond .eq 9, 3) := by decide +kernel
theorem dX4_readAtom_161 : decode cX4_readAtom 161 = .ok (.sipush 2060, 3) := by decide +kernel
theorem dX4_readAtom_164 : decode cX4_readAtom 164 = .ok (.goto 6, 3) := by decide +kernel
theorem dX4_readAtom_167 : decode cX4_readAtom 167 = .ok (.sipush 2062, 3) := by decide +kernel
theorem dX4_readAtom_170 : decode cX4_readAtom 170 = .ok (.istore 4, 2) := by decide +kernel
theorem dX4_readAtom_172 : decode cX4_readAtom 172 = .ok (.iload 4, 2) := by decide +kernel
theorem dX4_readAtom_174 : decode cX4_readAtom 174 = .ok (.sipush 2062, 3) := by decide +kernel
theorem dX4_readAtom_177 : decode cX4_readAtom 177 = .ok (.if_icmp .ne 24, 3) := by decide +kernel
theorem dX4_readAtom_180 : decode cX4_readAtom 180 = .ok (.aload_n 0, 1) := by decide +kernel
theorem dX4_readAtom_181 : decode cX4_readAtom 181 = .ok (.getfield 24, 3) := by decide +kernel
theorem dX4_readAtom_184 : decode cX4_readAtom 184 = .ok (.sipush 2062, 3) := by decide +kernel
theorem dX4_readAtom_187 : decode cX4_readAtom 187 = .ok (.invokevirtual 69, 3) := by decide +kernel
theorem dX4_readAtom_190 : decode cX4_readAtom 190 = .ok (.ifCond .ne 11, 3) := by decide +kernel
theorem dX4_readAtom_193 : decode cX4_readAtom 193 = .ok (.aload_n 0, 1) := by decide +kernel
theorem dX4_readAtom_194 : decode cX4_readAtom 194 = .ok (.getfield 24, 3) := by decide +kernel
theorem dX4_readAtom_197 : decode cX4_readAtom 197 = .ok (.invokevirtual 72, 3) := by decide +kernel
theorem dX4_readAtom_200 : decode cX4_readAtom 200 = .ok (.return_, 1) := by decide +kernel
theorem dX4_readAtom_201 : decode cX4_readAtom 201 = .ok (.aload_n 0, 1) := by decide +kernel
theorem dX4_readAtom_202 : decode cX4_readAtom 202 = .ok (.invokevirtual 93, 3) := by decide +kernel
theorem dX4_readAtom_205 : decode cX4_readAtom 205 = .ok (.aload_n 0, 1) := by decide +kernel
theorem dX4_readAtom_206 : decode cX4_readAtom 206 = .ok (.iload 4, 2) := by decide +kernel
theorem dX4_readAtom_208 : decode cX4_readAtom 208 = .ok (.invokevirtual 87, 3) := by decide +kernel
theorem dX4_readAtom_211 : decode cX4_readAtom 211 = .ok (.return_, 1) := by decide +kernel
theorem dX4_readSum_0 : decode cX4_readSum 0 = .ok (.iconst 1, 1) := by decide +kernel
theorem dX4_readSum_1 : decode cX4_readSum 1 = .ok (.istore_n 1, 1) := by decide +kernel
theorem dX4_readSum_2 : decode cX4_readSum 2 = .ok (.iconst 0, 1) := by decide +kernel
theorem dX4_readSum_3 : decode cX4_readSum 3 = .ok (.istore_n 2, 1) := by decide +kernel
theorem dX4_readSum_4 : decode cX4_readSum 4 = .ok (.iload_n 2, 1) := by decide +kernel
theorem dX4_readSum_5 : decode cX4_readSum 5 = .ok (.sipush 400, 3) := by decide +kernel
theorem dX4_readSum_8 : decode cX4_readSum 8 = .ok (.if_icmp .ge 65, 3) := by decide +kernel
theorem dX4_readSum_11 : decode cX4_readSum 11 = .ok (.iload_n 1, 1) := by decide +kernel
theorem dX4_readSum_12 : decode cX4_readSum 12 = .ok (.ifCond .eq 61, 3) := by decide +kernel
theorem dX4_readSum_15 : decode cX4_readSum 15 = .ok (.aload_n 0, 1) := by decide +kernel
theorem dX4_readSum_16 : decode cX4_readSum 16 = .ok (.getfield 24, 3) := by decide +kernel
theorem dX4_readSum_19 : decode cX4_readSum 19 = .ok (.iconst 0, 1) := by decide +kernel
theorem dX4_readSum_20 : decode cX4_readSum 20 = .ok (.sipush 1006, 3) := by decide +kernel
theorem dX4_readSum_23 : decode cX4_readSum 23 = .ok (.invokevirtual 75, 3) := by decide +kernel
theorem dX4_readSum_26 : decode cX4_readSum 26 = .ok (.istore_n 3, 1) := by decide +kernel
theorem dX4_readSum_27 : decode cX4_readSum 27 = .ok (.iload_n 3, 1) := by decide +kernel
theorem dX4_readSum_28 : decode cX4_readSum 28 = .ok (.iconst (-1), 1) := by decide +kernel
theorem dX4_readSum_29 : decode cX4_readSum 29 = .ok (.if_icmp .ne 11, 3) := by decide +kernel
theorem dX4_readSum_32 : decode cX4_readSum 32 = .ok (.aload_n 0, 1) := by decide +kernel
theorem dX4_readSum_33 : decode cX4_readSum 33 = .ok (.getfield 24, 3) := by decide +kernel
theorem dX4_readSum_36 : decode cX4_readSum 36 = .ok (.invokevirtual 72, 3) := by decide +kernel
theorem dX4_readSum_39 : decode cX4_readSum 39 = .ok (.return_, 1) := by decide +kernel
theorem dX4_readSum_40 : decode cX4_readSum 40 = .ok (.aload_n 0, 1) := by decide +kernel
theorem dX4_readSum_41 : decode cX4_readSum 41 = .ok (.iload_n 3, 1) := by decide +kernel
theorem dX4_readSum_42 : decode cX4_readSum 42 = .ok (.invokevirtual 87, 3) := by decide +kernel
theorem dX4_readSum_45 : decode cX4_readSum 45 = .ok (.iload_n 2, 1) := by decide +kernel
theorem dX4_readSum_46 : decode cX4_readSum 46 = .ok (.ifCond .le 10, 3) := by decide +kernel
theorem dX4_readSum_49 : decode cX4_readSum 49 = .ok (.aload_n 0, 1) := by decide +kernel
theorem dX4_readSum_50 : decode cX4_readSum 50 = .ok (.sipush 2043, 3) := by decide +kernel
theorem dX4_readSum_53 : decode cX4_readSum 53 = .ok (.invokevirtual 87, 3) := by decide +kernel
theorem dX4_readSum_56 : decode cX4_readSum 56 = .ok (.aload_n 0, 1) := by decide +kernel
theorem dX4_readSum_57 : decode cX4_readSum 57 = .ok (.getfield 24, 3) := by decide +kernel
theorem dX4_readSum_60 : decode cX4_readSum 60 = .ok (.sipush 2043, 3) := by decide +kernel
theorem dX4_readSum_63 : decode cX4_readSum 63 = .ok (.invokevirtual 69, 3) := by decide +kernel
theorem dX4_readSum_66 : decode cX4_readSum 66 = .ok (.istore_n 1, 1) := by decide +kernel
theorem dX4_readSum_67 : decode cX4_readSum 67 = .ok (.iinc 2 1, 3) := by decide +kernel
theorem dX4_readSum_70 : decode cX4_readSum 70 = .ok (.goto (-66), 3) := by decide +kernel
theorem dX4_readSum_73 : decode cX4_readSum 73 = .ok (.return_, 1) := by decide +kernel
theorem dX5_init_0 : decode cX5_init 0 = .ok (.aload_n 0, 1) := by decide +kernel
theorem dX5_init_1 : decode cX5_init 1 = .ok (.invokespecial 3, 3) := by decide +kernel
theorem dX5_init_4 : decode cX5_init 4 = .ok (.aload_n 0, 1) := by decide +kernel
theorem dX5_init_5 : decode cX5_init 5 = .ok (.iconst 1, 1) := by decide +kernel
theorem dX5_init_6 : decode cX5_init 6 = .ok (.putfield 9, 3) := by decide +kernel
theorem dX5_init_9 : decode cX5_init 9 = .ok (.aload_n 0, 1) := by decide +kernel
theorem dX5_init_10 : decode cX5_init 10 = .ok (.iconst 0, 1) := by decide +kernel
theorem dX5_init_11 : decode cX5_init 11 = .ok (.putfield 15, 3) := by decide +kernel
theorem dX5_init_14 : decode cX5_init 14 = .ok (.return_, 1) := by decide +kernel
theorem dX5_copyFrom_0 : decode cX5_copyFrom 0 = .ok (.aload_n 0, 1) := by decide +kernel
theorem dX5_copyFrom_1 : decode cX5_copyFrom 1 = .ok (.aload_n 1, 1) := by decide +kernel
theorem dX5_copyFrom_2 : decode cX5_copyFrom 2 = .ok (.getfield 18, 3) := by decide +kernel
theorem dX5_copyFrom_5 : decode cX5_copyFrom 5 = .ok (.putfield 18, 3) := by decide +kernel
theorem dX5_copyFrom_8 : decode cX5_copyFrom 8 = .ok (.aload_n 0, 1) := by decide +kernel
theorem dX5_copyFrom_9 : decode cX5_copyFrom 9 = .ok (.aload_n 1, 1) := by decide +kernel
theorem dX5_copyFrom_10 : decode cX5_copyFrom 10 = .ok (.getfield 21, 3) := by decide +kernel
theorem dX5_copyFrom_13 : decode cX5_copyFrom 13 = .ok (.putfield 21, 3) := by decide +kernel
theorem dX5_copyFrom_16 : decode cX5_copyFrom 16 = .ok (.aload_n 0, 1) := by decide +kernel
theorem dX5_copyFrom_17 : decode cX5_copyFrom 17 = .ok (.aload_n 1, 1) := by decide +kernel
theorem dX5_copyFrom_18 : decode cX5_copyFrom 18 = .ok (.getfield 24, 3) := by decide +kernel
theorem dX5_copyFrom_21 : decode cX5_copyFrom 21 = .ok (.putfield 24, 3) := by decide +kernel
theorem dX5_copyFrom_24 : decode cX5_copyFrom 24 = .ok (.aload_n 0, 1) := by decide +kernel
theorem dX5_copyFrom_25 : decode cX5_copyFrom 25 = .ok (.aload_n 1, 1) := by decide +kernel
theorem dX5_copyFrom_26 : decode cX5_copyFrom 26 = .ok (.getfield 9, 3) := by decide +kernel
theorem dX5_copyFrom_29 : decode cX5_copyFrom 29 = .ok (.putfield 9, 3) := by decide +kernel
theorem dX5_copyFrom_32 : decode cX5_copyFrom 32 = .ok (.aload_n 0, 1) := by decide +kernel
theorem dX5_copyFrom_33 : decode cX5_copyFrom 33 = .ok (.aload_n 1, 1) := by decide +kernel
theorem dX5_copyFrom_34 : decode cX5_copyFrom 34 = .ok (.getfield 27, 3) := by decide +kernel
theorem dX5_copyFrom_37 : decode cX5_copyFrom 37 = .ok (.putfield 27, 3) := by decide +kernel
theorem dX5_copyFrom_40 : decode cX5_copyFrom 40 = .ok (.aload_n 0, 1) := by decide +kernel
theorem dX5_copyFrom_41 : decode cX5_copyFrom 41 = .ok (.aload_n 1, 1) := by decide +kernel
theorem dX5_copyFrom_42 : decode cX5_copyFrom 42 = .ok (.getfield 30, 3) := by decide +kernel
theorem dX5_copyFrom_45 : decode cX5_copyFrom 45 = .ok (.putfield 30, 3) := by decide +kernel
theorem dX5_copyFrom_48 : decode cX5_copyFrom 48 = .ok (.aload_n 0, 1) := by decide +kernel
theorem dX5_copyFrom_49 : decode cX5_copyFrom 49 = .ok (.aload_n 1, 1) := by decide +kernel
theorem dX5_copyFrom_50 : decode cX5_copyFrom 50 = .ok (.getfield 33, 3) := by decide +kernel
theorem dX5_copyFrom_53 : decode cX5_copyFrom 53 = .ok (.putfield 33, 3) := by decide +kernel
theorem dX5_copyFrom_56 : decode cX5_copyFrom 56 = .ok (.aload_n 0, 1) := by decide +kernel
theorem dX5_copyFrom_57 : decode cX5_copyFrom 57 = .ok (.aload_n 1, 1) := by decide +kernel
theorem dX5_copyFrom_58 : decode cX5_copyFrom 58 = .ok (.getfield 36, 3) := by decide +kernel
theorem dX5_copyFrom_61 : decode cX5_copyFrom 61 = .ok (.putfield 36, 3) := by decide +kernel
theorem dX5_copyFrom_64 : decode cX5_copyFrom 64 = .ok (.aload_n 0, 1) := by decide +kernel
theorem dX5_copyFrom_65 : decode cX5_copyFrom 65 = .ok (.aload_n 1, 1) := by decide +kernel
theorem dX5_copyFrom_66 : decode cX5_copyFrom 66 = .ok (.getfield 39, 3) := by decide +kernel
theorem dX5_copyFrom_69 : decode cX5_copyFrom 69 = .ok (.putfield 39, 3) := by decide +kernel
theorem dX5_copyFrom_72 : decode cX5_copyFrom 72 = .ok (.aload_n 0, 1) := by decide +kernel
theorem dX5_copyFrom_73 : decode cX5_copyFrom 73 = .ok (.aload_n 1, 1) := by decide +kernel
theorem dX5_copyFrom_74 : decode cX5_copyFrom 74 = .ok (.getfield 15, 3) := by decide +kernel
theorem dX5_copyFrom_77 : decode cX5_copyFrom 77 = .ok (.putfield 15, 3) := by decide +kernel
theorem dX5_copyFrom_80 : decode cX5_copyFrom 80 = .ok (.aload_n 0, 1) := by decide +kernel
theorem dX5_copyFrom_81 : decode cX5_copyFrom 81 = .ok (.aload_n 1, 1) := by decide +kernel
theorem dX5_copyFrom_82 : decode cX5_copyFrom 82 = .ok (.getfield 42, 3) := by decide +kernel
theorem dX5_copyFrom_85 : decode cX5_copyFrom 85 = .ok (.putfield 42, 3) := by decide +kernel
theorem dX5_copyFrom_88 : decode cX5_copyFrom 88 = .ok (.return_, 1) := by decide +kernel
theorem dX5_reset_0 : decode cX5_reset 0 = .ok (.aload_n 0, 1) := by decide +kernel
theorem dX5_reset_1 : decode cX5_reset 1 = .ok (.iconst 0, 1) := by decide +kernel
theorem dX5_reset_2 : decode cX5_reset 2 = .ok (.putfield 18, 3) := by decide +kernel
theorem dX5_reset_5 : decode cX5_reset 5 = .ok (.aload_n 0, 1) := by decide +kernel
theorem dX5_reset_6 : decode cX5_reset 6 = .ok (.iload_n 2, 1) := by decide +kernel
theorem dX5_reset_7 : decode cX5_reset 7 = .ok (.putfield 21, 3) := by decide +kernel
theorem dX5_reset_10 : decode cX5_reset 10 = .ok (.aload_n 0, 1) := by decide +kernel
theorem dX5_reset_11 : decode cX5_reset 11 = .ok (.iconst 0, 1) := by decide +kernel
theorem dX5_reset_12 : decode cX5_reset 12 = .ok (.putfield 24, 3) := by decide +kernel
theorem dX5_reset_15 : decode cX5_reset 15 = .ok (.aload_n 0, 1) := by decide +kernel
theorem dX5_reset_16 : decode cX5_reset 16 = .ok (.iconst 1, 1) := by decide +kernel
theorem dX5_reset_17 : decode cX5_reset 17 = .ok (.putfield 9, 3) := by decide +kernel
theorem dX5_reset_20 : decode cX5_reset 20 = .ok (.aload_n 0, 1) := by decide +kernel
theorem dX5_reset_21 : decode cX5_reset 21 = .ok (.iconst 2, 1) := by decide +kernel
theorem dX5_reset_22 : decode cX5_reset 22 = .ok (.iload_n 1, 1) := by decide +kernel
theorem dX5_reset_23 : decode cX5_reset 23 = .ok (.iadd, 1) := by decide +kernel
theorem dX5_reset_24 : decode cX5_reset 24 = .ok (.putfield 27, 3) := by decide +kernel
theorem dX5_reset_27 : decode cX5_reset 27 = .ok (.aload_n 0, 1) := by decide +kernel
theorem dX5_reset_28 : decode cX5_reset 28 = .ok (.iconst 0, 1) := by decide +kernel
theorem dX5_reset_29 : decode cX5_reset 29 = .ok (.putfield 30, 3) := by decide +kernel
theorem dX5_reset_32 : decode cX5_reset 32 = .ok (.aload_n 0, 1) := by decide +kernel
theorem dX5_reset_33 : decode cX5_reset 33 = .ok (.iconst 0, 1) := by decide +kernel
theorem dX5_reset_34 : decode cX5_reset 34 = .ok (.putfield 33, 3) := by decide +kernel
theorem dX5_reset_37 : decode cX5_reset 37 = .ok (.aload_n 0, 1) := by decide +kernel
theorem dX5_reset_38 : decode cX5_reset 38 = .ok (.iconst 0, 1) := by decide +kernel
theorem dX5_reset_39 : decode cX5_reset 39 = .ok (.putfield 36, 3) := by decide +kernel
theorem dX5_reset_42 : decode cX5_reset 42 = .ok (.aload_n 0, 1) := by decide +kernel
theorem dX5_reset_43 : decode cX5_reset 43 = .ok (.iconst 0, 1) := by decide +kernel
theorem dX5_reset_44 : decode cX5_reset 44 = .ok (.putfield 39, 3) := by decide +kernel
theorem dX5_reset_47 : decode cX5_reset 47 = .ok (.aload_n 0, 1) := by decide +kernel
theorem dX5_reset_48 : decode cX5_reset 48 = .ok (.iconst 0, 1) := by decide +kernel
theorem dX5_reset_49 : decode cX5_reset 49 = .ok (.putfield 15, 3) := by decide +kernel
theorem dX5_reset_52 : decode cX5_reset 52 = .ok (.aload_n 0, 1) := by decide +kernel
theorem dX5_reset_53 : decode cX5_reset 53 = .ok (.iconst 0, 1) := by decide +kernel
theorem dX5_reset_54 : decode cX5_reset 54 = .ok (.putfield 42, 3) := by decide +kernel
theorem dX5_reset_57 : decode cX5_reset 57 = .ok (.return_, 1) := by decide +kernel
theorem dX5_told_0 : decode cX5_told 0 = .ok (.iload_n 1, 1) := by decide +kernel
theorem dX5_told_1 : decode cX5_told 1 = .ok (.tableswitch 105 0 9 #[55, 60, 65, 70, 75, 80, 85, 90, 95, 100], 55) := by decide +kernel
theorem dX5_told_56 : decode cX5_told 56 = .ok (.aload_n 0, 1) := by decide +kernel
theorem dX5_told_57 : decode cX5_told 57 = .ok (.getfield 18, 3) := by decide +kernel
theorem dX5_told_60 : decode cX5_told 60 = .ok (.ireturn, 1) := by decide +kernel
theorem dX5_told_61 : decode cX5_told 61 = .ok (.aload_n 0, 1) := by decide +kernel
theorem dX5_told_62 : decode cX5_told 62 = .ok (.getfield 21, 3) := by decide +kernel
theorem dX5_told_65 : decode cX5_told 65 = .ok (.ireturn, 1) := by decide +kernel
theorem dX5_told_66 : decode cX5_told 66 = .ok (.aload_n 0, 1) := by decide +kernel
theorem dX5_told_67 : decode cX5_told 67 = .ok (.getfield 24, 3) := by decide +kernel
theorem dX5_told_70 : decode cX5_told 70 = .ok (.ireturn, 1) := by decide +kernel
theorem dX5_told_71 : decode cX5_told 71 = .ok (.aload_n 0, 1) := by decide +kernel
theorem dX5_told_72 : decode cX5_told 72 = .ok (.getfield 9, 3) := by decide +kernel
theorem dX5_told_75 : decode cX5_told 75 = .ok (.ireturn, 1) := by decide +kernel
theorem dX5_told_76 : decode cX5_told 76 = .ok (.aload_n 0, 1) := by decide +kernel
theorem dX5_told_77 : decode cX5_told 77 = .ok (.getfield 27, 3) := by decide +kernel
theorem dX5_told_80 : decode cX5_told 80 = .ok (.ireturn, 1) := by decide +kernel
theorem dX5_told_81 : decode cX5_told 81 = .ok (.aload_n 0, 1) := by decide +kernel
theorem dX5_told_82 : decode cX5_told 82 = .ok (.getfield 30, 3) := by decide +kernel
theorem dX5_told_85 : decode cX5_told 85 = .ok (.ireturn, 1) := by decide +kernel
theorem dX5_told_86 : decode cX5_told 86 = .ok (.aload_n 0, 1) := by decide +kernel
theorem dX5_told_87 : decode cX5_told 87 = .ok (.getfield 33, 3) := by decide +kernel
theorem dX5_told_90 : decode cX5_told 90 = .ok (.ireturn, 1) := by decide +kernel
theorem dX5_told_91 : decode cX5_told 91 = .ok (.aload_n 0, 1) := by decide +kernel
theorem dX5_told_92 : decode cX5_told 92 = .ok (.getfield 36, 3) := by decide +kernel
theorem dX5_told_95 : decode cX5_told 95 = .ok (.ireturn, 1) := by decide +kernel
theorem dX5_told_96 : decode cX5_told 96 = .ok (.aload_n 0, 1) := by decide +kernel
theorem dX5_told_97 : decode cX5_told 97 = .ok (.getfield 39, 3) := by decide +kernel
theorem dX5_told_100 : decode cX5_told 100 = .ok (.ireturn, 1) := by decide +kernel
theorem dX5_told_101 : decode cX5_told 101 = .ok (.aload_n 0, 1) := by decide +kernel
theorem dX5_told_102 : decode cX5_told 102 = .ok (.getfield 15, 3) := by decide +kernel
theorem dX5_told_105 : decode cX5_told 105 = .ok (.ireturn, 1) := by decide +kernel
theorem dX5_told_106 : decode cX5_told 106 = .ok (.aload_n 0, 1) := by decide +kernel
theorem dX5_told_107 : decode cX5_told 107 = .ok (.getfield 42, 3) := by decide +kernel
theorem dX5_told_110 : decode cX5_told 110 = .ok (.ireturn, 1) := by decide +kernel
theorem dX6_init_0 : decode cX6_init 0 = .ok (.aload_n 0, 1) := by decide +kernel
theorem dX6_init_1 : decode cX6_init 1 = .ok (.invokespecial 3, 3) := by decide +kernel
theorem dX6_init_4 : decode cX6_init 4 = .ok (.aload_n 0, 1) := by decide +kernel
theorem dX6_init_5 : decode cX6_init 5 = .ok (.bipush 12, 2) := by decide +kernel
theorem dX6_init_7 : decode cX6_init 7 = .ok (.anewarray 9, 3) := by decide +kernel
theorem dX6_init_10 : decode cX6_init 10 = .ok (.putfield 11, 3) := by decide +kernel
theorem dX6_init_13 : decode cX6_init 13 = .ok (.iconst 0, 1) := by decide +kernel
theorem dX6_init_14 : decode cX6_init 14 = .ok (.istore_n 2, 1) := by decide +kernel
theorem dX6_init_15 : decode cX6_init 15 = .ok (.iload_n 2, 1) := by decide +kernel
theorem dX6_init_16 : decode cX6_init 16 = .ok (.aload_n 0, 1) := by decide +kernel
theorem dX6_init_17 : decode cX6_init 17 = .ok (.getfield 11, 3) := by decide +kernel
theorem dX6_init_20 : decode cX6_init 20 = .ok (.arraylength, 1) := by decide +kernel
theorem dX6_init_21 : decode cX6_init 21 = .ok (.if_icmp .ge 23, 3) := by decide +kernel
theorem dX6_init_24 : decode cX6_init 24 = .ok (.aload_n 0, 1) := by decide +kernel
theorem dX6_init_25 : decode cX6_init 25 = .ok (.getfield 11, 3) := by decide +kernel
theorem dX6_init_28 : decode cX6_init 28 = .ok (.iload_n 2, 1) := by decide +kernel
theorem dX6_init_29 : decode cX6_init 29 = .ok (.new 9, 3) := by decide +kernel
theorem dX6_init_32 : decode cX6_init 32 = .ok (.dup, 1) := by decide +kernel
theorem dX6_init_33 : decode cX6_init 33 = .ok (.aload_n 1, 1) := by decide +kernel
theorem dX6_init_34 : decode cX6_init 34 = .ok (.invokespecial 17, 3) := by decide +kernel
theorem dX6_init_37 : decode cX6_init 37 = .ok (.aastore, 1) := by decide +kernel
theorem dX6_init_38 : decode cX6_init 38 = .ok (.iinc 2 1, 3) := by decide +kernel
theorem dX6_init_41 : decode cX6_init 41 = .ok (.goto (-26), 3) := by decide +kernel
theorem dX6_init_44 : decode cX6_init 44 = .ok (.return_, 1) := by decide +kernel
theorem dX6_remember_0 : decode cX6_remember 0 = .ok (.aload_n 0, 1) := by decide +kernel
theorem dX6_remember_1 : decode cX6_remember 1 = .ok (.getfield 11, 3) := by decide +kernel
theorem dX6_remember_4 : decode cX6_remember 4 = .ok (.aload_n 0, 1) := by decide +kernel
theorem dX6_remember_5 : decode cX6_remember 5 = .ok (.getfield 20, 3) := by decide +kernel
theorem dX6_remember_8 : decode cX6_remember 8 = .ok (.aaload, 1) := by decide +kernel
theorem dX6_remember_9 : decode cX6_remember 9 = .ok (.aload_n 1, 1) := by decide +kernel
theorem dX6_remember_10 : decode cX6_remember 10 = .ok (.invokevirtual 24, 3) := by decide +kernel
theorem dX6_remember_13 : decode cX6_remember 13 = .ok (.aload_n 0, 1) := by decide +kernel
theorem dX6_remember_14 : decode cX6_remember 14 = .ok (.aload_n 0, 1) := by decide +kernel
theorem dX6_remember_15 : decode cX6_remember 15 = .ok (.getfield 20, 3) := by decide +kernel
theorem dX6_remember_18 : decode cX6_remember 18 = .ok (.iconst 1, 1) := by decide +kernel
theorem dX6_remember_19 : decode cX6_remember 19 = .ok (.iadd, 1) := by decide +kernel
theorem dX6_remember_20 : decode cX6_remember 20 = .ok (.bipush 12, 2) := by decide +kernel
theorem dX6_remember_22 : decode cX6_remember 22 = .ok (.irem, 1) := by decide +kernel
theorem dX6_remember_23 : decode cX6_remember 23 = .ok (.putfield 20, 3) := by decide +kernel
theorem dX6_remember_26 : decode cX6_remember 26 = .ok (.aload_n 0, 1) := by decide +kernel
theorem dX6_remember_27 : decode cX6_remember 27 = .ok (.bipush 12, 2) := by decide +kernel
theorem dX6_remember_29 : decode cX6_remember 29 = .ok (.aload_n 0, 1) := by decide +kernel
theorem dX6_remember_30 : decode cX6_remember 30 = .ok (.getfield 28, 3) := by decide +kernel
theorem dX6_remember_33 : decode cX6_remember 33 = .ok (.iconst 1, 1) := by decide +kernel
theorem dX6_remember_34 : decode cX6_remember 34 = .ok (.iadd, 1) := by decide +kernel
theorem dX6_remember_35 : decode cX6_remember 35 = .ok (.invokestatic 31, 3) := by decide +kernel
theorem dX6_remember_38 : decode cX6_remember 38 = .ok (.putfield 28, 3) := by decide +kernel
theorem dX6_remember_41 : decode cX6_remember 41 = .ok (.return_, 1) := by decide +kernel
theorem dX6_recall_0 : decode cX6_recall 0 = .ok (.aload_n 0, 1) := by decide +kernel
theorem dX6_recall_1 : decode cX6_recall 1 = .ok (.getfield 28, 3) := by decide +kernel
theorem dX6_recall_4 : decode cX6_recall 4 = .ok (.iconst 1, 1) := by decide +kernel
theorem dX6_recall_5 : decode cX6_recall 5 = .ok (.if_icmp .ge 5, 3) := by decide +kernel
theorem dX6_recall_8 : decode cX6_recall 8 = .ok (.iconst 0, 1) := by decide +kernel
theorem dX6_recall_9 : decode cX6_recall 9 = .ok (.ireturn, 1) := by decide +kernel
theorem dX6_recall_10 : decode cX6_recall 10 = .ok (.aload_n 0, 1) := by decide +kernel
theorem dX6_recall_11 : decode cX6_recall 11 = .ok (.aload_n 0, 1) := by decide +kernel
theorem dX6_recall_12 : decode cX6_recall 12 = .ok (.getfield 20, 3) := by decide +kernel
theorem dX6_recall_15 : decode cX6_recall 15 = .ok (.bipush 12, 2) := by decide +kernel
theorem dX6_recall_17 : decode cX6_recall 17 = .ok (.iadd, 1) := by decide +kernel
theorem dX6_recall_18 : decode cX6_recall 18 = .ok (.iconst 1, 1) := by decide +kernel
theorem dX6_recall_19 : decode cX6_recall 19 = .ok (.isub, 1) := by decide +kernel
theorem dX6_recall_20 : decode cX6_recall 20 = .ok (.bipush 12, 2) := by decide +kernel
theorem dX6_recall_22 : decode cX6_recall 22 = .ok (.irem, 1) := by decide +kernel
theorem dX6_recall_23 : decode cX6_recall 23 = .ok (.putfield 20, 3) := by decide +kernel
theorem dX6_recall_26 : decode cX6_recall 26 = .ok (.aload_n 0, 1) := by decide +kernel
theorem dX6_recall_27 : decode cX6_recall 27 = .ok (.dup, 1) := by decide +kernel
theorem dX6_recall_28 : decode cX6_recall 28 = .ok (.getfield 28, 3) := by decide +kernel
theorem dX6_recall_31 : decode cX6_recall 31 = .ok (.iconst 1, 1) := by decide +kernel
theorem dX6_recall_32 : decode cX6_recall 32 = .ok (.isub, 1) := by decide +kernel
theorem dX6_recall_33 : decode cX6_recall 33 = .ok (.putfield 28, 3) := by decide +kernel
theorem dX6_recall_36 : decode cX6_recall 36 = .ok (.aload_n 1, 1) := by decide +kernel
theorem dX6_recall_37 : decode cX6_recall 37 = .ok (.aload_n 0, 1) := by decide +kernel
theorem dX6_recall_38 : decode cX6_recall 38 = .ok (.getfield 11, 3) := by decide +kernel
theorem dX6_recall_41 : decode cX6_recall 41 = .ok (.aload_n 0, 1) := by decide +kernel
theorem dX6_recall_42 : decode cX6_recall 42 = .ok (.getfield 20, 3) := by decide +kernel
theorem dX6_recall_45 : decode cX6_recall 45 = .ok (.aaload, 1) := by decide +kernel
theorem dX6_recall_46 : decode cX6_recall 46 = .ok (.invokevirtual 24, 3) := by decide +kernel
theorem dX6_recall_49 : decode cX6_recall 49 = .ok (.iconst 1, 1) := by decide +kernel
theorem dX6_recall_50 : decode cX6_recall 50 = .ok (.ireturn, 1) := by decide +kernel
theorem dX6_forget_0 : decode cX6_forget 0 = .ok (.aload_n 0, 1) := by decide +kernel
theorem dX6_forget_1 : decode cX6_forget 1 = .ok (.iconst 0, 1) := by decide +kernel
theorem dX6_forget_2 : decode cX6_forget 2 = .ok (.putfield 28, 3) := by decide +kernel
theorem dX6_forget_5 : decode cX6_forget 5 = .ok (.return_, 1) := by decide +kernel
theorem dX7_init_0 : decode cX7_init 0 = .ok (.aload_n 0, 1) := by decide +kernel
theorem dX7_init_1 : decode cX7_init 1 = .ok (.invokespecial 3, 3) := by decide +kernel
theorem dX7_init_4 : decode cX7_init 4 = .ok (.aload_n 0, 1) := by decide +kernel
theorem dX7_init_5 : decode cX7_init 5 = .ok (.bipush 8, 2) := by decide +kernel
theorem dX7_init_7 : decode cX7_init 7 = .ok (.anewarray 9, 3) := by decide +kernel
theorem dX7_init_10 : decode cX7_init 10 = .ok (.putfield 11, 3) := by decide +kernel
theorem dX7_init_13 : decode cX7_init 13 = .ok (.aload_n 0, 1) := by decide +kernel
theorem dX7_init_14 : decode cX7_init 14 = .ok (.sipush 240, 3) := by decide +kernel
theorem dX7_init_17 : decode cX7_init 17 = .ok (.newarray .int, 2) := by decide +kernel
theorem dX7_init_19 : decode cX7_init 19 = .ok (.putfield 17, 3) := by decide +kernel
theorem dX7_init_22 : decode cX7_init 22 = .ok (.aload_n 0, 1) := by decide +kernel
theorem dX7_init_23 : decode cX7_init 23 = .ok (.bipush 100, 2) := by decide +kernel
theorem dX7_init_25 : decode cX7_init 25 = .ok (.putfield 21, 3) := by decide +kernel
theorem dX7_init_28 : decode cX7_init 28 = .ok (.aload_n 0, 1) := by decide +kernel
theorem dX7_init_29 : decode cX7_init 29 = .ok (.bipush 50, 2) := by decide +kernel
theorem dX7_init_31 : decode cX7_init 31 = .ok (.putfield 25, 3) := by decide +kernel
theorem dX7_init_34 : decode cX7_init 34 = .ok (.aload_n 0, 1) := by decide +kernel
theorem dX7_init_35 : decode cX7_init 35 = .ok (.iconst 1, 1) := by decide +kernel
theorem dX7_init_36 : decode cX7_init 36 = .ok (.putfield 28, 3) := by decide +kernel
theorem dX7_init_39 : decode cX7_init 39 = .ok (.aload_n 0, 1) := by decide +kernel
theorem dX7_init_40 : decode cX7_init 40 = .ok (.aload_n 1, 1) := by decide +kernel
theorem dX7_init_41 : decode cX7_init 41 = .ok (.putfield 31, 3) := by decide +kernel
theorem dX7_init_44 : decode cX7_init 44 = .ok (.iconst 0, 1) := by decide +kernel
theorem dX7_init_45 : decode cX7_init 45 = .ok (.istore_n 2, 1) := by decide +kernel
theorem dX7_init_46 : decode cX7_init 46 = .ok (.iload_n 2, 1) := by decide +kernel
theorem dX7_init_47 : decode cX7_init 47 = .ok (.aload_n 0, 1) := by decide +kernel
theorem dX7_init_48 : decode cX7_init 48 = .ok (.getfield 11, 3) := by decide +kernel
theorem dX7_init_51 : decode cX7_init 51 = .ok (.arraylength, 1) := by decide +kernel
theorem dX7_init_52 : decode cX7_init 52 = .ok (.if_icmp .ge 22, 3) := by decide +kernel
theorem dX7_init_55 : decode cX7_init 55 = .ok (.aload_n 0, 1) := by decide +kernel
theorem dX7_init_56 : decode cX7_init 56 = .ok (.getfield 11, 3) := by decide +kernel
theorem dX7_init_59 : decode cX7_init 59 = .ok (.iload_n 2, 1) := by decide +kernel
theorem dX7_init_60 : decode cX7_init 60 = .ok (.new 9, 3) := by decide +kernel
theorem dX7_init_63 : decode cX7_init 63 = .ok (.dup, 1) := by decide +kernel
theorem dX7_init_64 : decode cX7_init 64 = .ok (.invokespecial 35, 3) := by decide +kernel
theorem dX7_init_67 : decode cX7_init 67 = .ok (.aastore, 1) := by decide +kernel
theorem dX7_init_68 : decode cX7_init 68 = .ok (.iinc 2 1, 3) := by decide +kernel
theorem dX7_init_71 : decode cX7_init 71 = .ok (.goto (-25), 3) := by decide +kernel
theorem dX7_init_74 : decode cX7_init 74 = .ok (.return_, 1) := by decide +kernel
theorem dX7_copyFrom_0 : decode cX7_copyFrom 0 = .ok (.iconst 0, 1) := by decide +kernel
theorem dX7_copyFrom_1 : decode cX7_copyFrom 1 = .ok (.istore_n 2, 1) := by decide +kernel
theorem dX7_copyFrom_2 : decode cX7_copyFrom 2 = .ok (.iload_n 2, 1) := by decide +kernel
theorem dX7_copyFrom_3 : decode cX7_copyFrom 3 = .ok (.aload_n 0, 1) := by decide +kernel
theorem dX7_copyFrom_4 : decode cX7_copyFrom 4 = .ok (.getfield 11, 3) := by decide +kernel
theorem dX7_copyFrom_7 : decode cX7_copyFrom 7 = .ok (.arraylength, 1) := by decide +kernel
theorem dX7_copyFrom_8 : decode cX7_copyFrom 8 = .ok (.if_icmp .ge 24, 3) := by decide +kernel
theorem dX7_copyFrom_11 : decode cX7_copyFrom 11 = .ok (.aload_n 0, 1) := by decide +kernel
theorem dX7_copyFrom_12 : decode cX7_copyFrom 12 = .ok (.getfield 11, 3) := by decide +kernel
theorem dX7_copyFrom_15 : decode cX7_copyFrom 15 = .ok (.iload_n 2, 1) := by decide +kernel
theorem dX7_copyFrom_16 : decode cX7_copyFrom 16 = .ok (.aaload, 1) := by decide +kernel
theorem dX7_copyFrom_17 : decode cX7_copyFrom 17 = .ok (.aload_n 1, 1) := by decide +kernel
theorem dX7_copyFrom_18 : decode cX7_copyFrom 18 = .ok (.getfield 11, 3) := by decide +kernel
theorem dX7_copyFrom_21 : decode cX7_copyFrom 21 = .ok (.iload_n 2, 1) := by decide +kernel
theorem dX7_copyFrom_22 : decode cX7_copyFrom 22 = .ok (.aaload, 1) := by decide +kernel
theorem dX7_copyFrom_23 : decode cX7_copyFrom 23 = .ok (.invokevirtual 36, 3) := by decide +kernel
theorem dX7_copyFrom_26 : decode cX7_copyFrom 26 = .ok (.iinc 2 1, 3) := by decide +kernel
theorem dX7_copyFrom_29 : decode cX7_copyFrom 29 = .ok (.goto (-27), 3) := by decide +kernel
theorem dX7_copyFrom_32 : decode cX7_copyFrom 32 = .ok (.aload_n 1, 1) := by decide +kernel
theorem dX7_copyFrom_33 : decode cX7_copyFrom 33 = .ok (.getfield 17, 3) := by decide +kernel
theorem dX7_copyFrom_36 : decode cX7_copyFrom 36 = .ok (.iconst 0, 1) := by decide +kernel
theorem dX7_copyFrom_37 : decode cX7_copyFrom 37 = .ok (.aload_n 0, 1) := by decide +kernel
theorem dX7_copyFrom_38 : decode cX7_copyFrom 38 = .ok (.getfield 17, 3) := by decide +kernel
theorem dX7_copyFrom_41 : decode cX7_copyFrom 41 = .ok (.iconst 0, 1) := by decide +kernel
theorem dX7_copyFrom_42 : decode cX7_copyFrom 42 = .ok (.aload_n 0, 1) := by decide +kernel
theorem dX7_copyFrom_43 : decode cX7_copyFrom 43 = .ok (.getfield 17, 3) := by decide +kernel
theorem dX7_copyFrom_46 : decode cX7_copyFrom 46 = .ok (.arraylength, 1) := by decide +kernel
theorem dX7_copyFrom_47 : decode cX7_copyFrom 47 = .ok (.invokestatic 40, 3) := by decide +kernel
theorem dX7_copyFrom_50 : decode cX7_copyFrom 50 = .ok (.aload_n 0, 1) := by decide +kernel
theorem dX7_copyFrom_51 : decode cX7_copyFrom 51 = .ok (.aload_n 1, 1) := by decide +kernel
theorem dX7_copyFrom_52 : decode cX7_copyFrom 52 = .ok (.getfield 46, 3) := by decide +kernel
theorem dX7_copyFrom_55 : decode cX7_copyFrom 55 = .ok (.putfield 46, 3) := by decide +kernel
theorem dX7_copyFrom_58 : decode cX7_copyFrom 58 = .ok (.aload_n 0, 1) := by decide +kernel
theorem dX7_copyFrom_59 : decode cX7_copyFrom 59 = .ok (.aload_n 1, 1) := by decide +kernel
theorem dX7_copyFrom_60 : decode cX7_copyFrom 60 = .ok (.getfield 49, 3) := by decide +kernel
theorem dX7_copyFrom_63 : decode cX7_copyFrom 63 = .ok (.putfield 49, 3) := by decide +kernel
theorem dX7_copyFrom_66 : decode cX7_copyFrom 66 = .ok (.aload_n 0, 1) := by decide +kernel
theorem dX7_copyFrom_67 : decode cX7_copyFrom 67 = .ok (.aload_n 1, 1) := by decide +kernel
theorem dX7_copyFrom_68 : decode cX7_copyFrom 68 = .ok (.getfield 52, 3) := by decide +kernel
theorem dX7_copyFrom_71 : decode cX7_copyFrom 71 = .ok (.putfield 52, 3) := by decide +kernel
theorem dX7_copyFrom_74 : decode cX7_copyFrom 74 = .ok (.aload_n 0, 1) := by decide +kernel
theorem dX7_copyFrom_75 : decode cX7_copyFrom 75 = .ok (.aload_n 1, 1) := by decide +kernel
theorem dX7_copyFrom_76 : decode cX7_copyFrom 76 = .ok (.getfield 21, 3) := by decide +kernel
theorem dX7_copyFrom_79 : decode cX7_copyFrom 79 = .ok (.putfield 21, 3) := by decide +kernel
theorem dX7_copyFrom_82 : decode cX7_copyFrom 82 = .ok (.aload_n 0, 1) := by decide +kernel
theorem dX7_copyFrom_83 : decode cX7_copyFrom 83 = .ok (.aload_n 1, 1) := by decide +kernel
theorem dX7_copyFrom_84 : decode cX7_copyFrom 84 = .ok (.getfield 25, 3) := by decide +kernel
theorem dX7_copyFrom_87 : decode cX7_copyFrom 87 = .ok (.putfield 25, 3) := by decide +kernel
theorem dX7_copyFrom_90 : decode cX7_copyFrom 90 = .ok (.aload_n 0, 1) := by decide +kernel
theorem dX7_copyFrom_91 : decode cX7_copyFrom 91 = .ok (.aload_n 1, 1) := by decide +kernel
theorem dX7_copyFrom_92 : decode cX7_copyFrom 92 = .ok (.getfield 55, 3) := by decide +kernel
theorem dX7_copyFrom_95 : decode cX7_copyFrom 95 = .ok (.putfield 55, 3) := by decide +kernel
theorem dX7_copyFrom_98 : decode cX7_copyFrom 98 = .ok (.aload_n 0, 1) := by decide +kernel
theorem dX7_copyFrom_99 : decode cX7_copyFrom 99 = .ok (.aload_n 1, 1) := by decide +kernel
theorem dX7_copyFrom_100 : decode cX7_copyFrom 100 = .ok (.getfield 28, 3) := by decide +kernel
theorem dX7_copyFrom_103 : decode cX7_copyFrom 103 = .ok (.putfield 28, 3) := by decide +kernel
theorem dX7_copyFrom_106 : decode cX7_copyFrom 106 = .ok (.aload_n 0, 1) := by decide +kernel
theorem dX7_copyFrom_107 : decode cX7_copyFrom 107 = .ok (.aload_n 1, 1) := by decide +kernel
theorem dX7_copyFrom_108 : decode cX7_copyFrom 108 = .ok (.getfield 58, 3) := by decide +kernel
theorem dX7_copyFrom_111 : decode cX7_copyFrom 111 = .ok (.putfield 58, 3) := by decide +kernel
theorem dX7_copyFrom_114 : decode cX7_copyFrom 114 = .ok (.aload_n 0, 1) := by decide +kernel
theorem dX7_copyFrom_115 : decode cX7_copyFrom 115 = .ok (.aload_n 1, 1) := by decide +kernel
theorem dX7_copyFrom_116 : decode cX7_copyFrom 116 = .ok (.getfield 31, 3) := by decide +kernel
theorem dX7_copyFrom_119 : decode cX7_copyFrom 119 = .ok (.putfield 31, 3) := by decide +kernel
theorem dX7_copyFrom_122 : decode cX7_copyFrom 122 = .ok (.return_, 1) := by decide +kernel
theorem dX7_addNode_0 : decode cX7_addNode 0 = .ok (.aload_n 0, 1) := by decide +kernel
theorem dX7_addNode_1 : decode cX7_addNode 1 = .ok (.getfield 52, 3) := by decide +kernel
theorem dX7_addNode_4 : decode cX7_addNode 4 = .ok (.aload_n 0, 1) := by decide +kernel
theorem dX7_addNode_5 : decode cX7_addNode 5 = .ok (.getfield 11, 3) := by decide +kernel
theorem dX7_addNode_8 : decode cX7_addNode 8 = .ok (.arraylength, 1) := by decide +kernel
theorem dX7_addNode_9 : decode cX7_addNode 9 = .ok (.if_icmp .lt 5, 3) := by decide +kernel
theorem dX7_addNode_12 : decode cX7_addNode 12 = .ok (.iconst (-1), 1) := by decide +kernel
theorem dX7_addNode_13 : decode cX7_addNode 13 = .ok (.ireturn, 1) := by decide +kernel
theorem dX7_addNode_14 : decode cX7_addNode 14 = .ok (.aload_n 0, 1) := by decide +kernel
theorem dX7_addNode_15 : decode cX7_addNode 15 = .ok (.getfield 52, 3) := by decide +kernel
theorem dX7_addNode_18 : decode cX7_addNode 18 = .ok (.istore_n 2, 1) := by decide +kernel
theorem dX7_addNode_19 : decode cX7_addNode 19 = .ok (.aload_n 0, 1) := by decide +kernel
theorem dX7_addNode_20 : decode cX7_addNode 20 = .ok (.getfield 11, 3) := by decide +kernel
theorem dX7_addNode_23 : decode cX7_addNode 23 = .ok (.iload_n 2, 1) := by decide +kernel
theorem dX7_addNode_24 : decode cX7_addNode 24 = .ok (.aaload, 1) := by decide +kernel
theorem dX7_addNode_25 : decode cX7_addNode 25 = .ok (.iload_n 2, 1) := by decide +kernel
theorem dX7_addNode_26 : decode cX7_addNode 26 = .ok (.iload_n 1, 1) := by decide +kernel
theorem dX7_addNode_27 : decode cX7_addNode 27 = .ok (.invokevirtual 61, 3) := by decide +kernel
theorem dX7_addNode_30 : decode cX7_addNode 30 = .ok (.aload_n 0, 1) := by decide +kernel
theorem dX7_addNode_31 : decode cX7_addNode 31 = .ok (.dup, 1) := by decide +kernel
theorem dX7_addNode_32 : decode cX7_addNode 32 = .ok (.getfield 52, 3) := by decide +kernel
theorem dX7_addNode_35 : decode cX7_addNode 35 = .ok (.iconst 1, 1) := by decide +kernel
theorem dX7_addNode_36 : decode cX7_addNode 36 = .ok (.iadd, 1) := by decide +kernel
theorem dX7_addNode_37 : decode cX7_addNode 37 = .ok (.putfield 52, 3) := by decide +kernel
theorem dX7_addNode_40 : decode cX7_addNode 40 = .ok (.iload_n 2, 1) := by decide +kernel
theorem dX7_addNode_41 : decode cX7_addNode 41 = .ok (.ireturn, 1) := by decide +kernel
theorem dX7_inState_0 : decode cX7_inState 0 = .ok (.iconst 0, 1) := by decide +kernel
theorem dX7_inState_1 : decode cX7_inState 1 = .ok (.istore_n 2, 1) := by decide +kernel
theorem dX7_inState_2 : decode cX7_inState 2 = .ok (.iconst 0, 1) := by decide +kernel
theorem dX7_inState_3 : decode cX7_inState 3 = .ok (.istore_n 3, 1) := by decide +kernel
theorem dX7_inState_4 : decode cX7_inState 4 = .ok (.iload_n 3, 1) := by decide +kernel
theorem dX7_inState_5 : decode cX7_inState 5 = .ok (.aload_n 0, 1) := by decide +kernel
theorem dX7_inState_6 : decode cX7_inState 6 = .ok (.getfield 52, 3) := by decide +kernel
theorem dX7_inState_9 : decode cX7_inState 9 = .ok (.if_icmp .ge 29, 3) := by decide +kernel
theorem dX7_inState_12 : decode cX7_inState 12 = .ok (.aload_n 0, 1) := by decide +kernel
theorem dX7_inState_13 : decode cX7_inState 13 = .ok (.getfield 11, 3) := by decide +kernel
theorem dX7_inState_16 : decode cX7_inState 16 = .ok (.iload_n 3, 1) := by decide +kernel
theorem dX7_inState_17 : decode cX7_inState 17 = .ok (.aaload, 1) := by decide +kernel
theorem dX7_inState_18 : decode cX7_inState 18 = .ok (.getfield 65, 3) := by decide +kernel
theorem dX7_inState_21 : decode cX7_inState 21 = .ok (.iload_n 1, 1) := by decide +kernel
theorem dX7_inState_22 : decode cX7_inState 22 = .ok (.if_icmp .ne 10, 3) := by decide +kernel
theorem dX7_inState_25 : decode cX7_inState 25 = .ok (.iload_n 2, 1) := by decide +kernel
theorem dX7_inState_26 : decode cX7_inState 26 = .ok (.iload_n 3, 1) := by decide +kernel
theorem dX7_inState_27 : decode cX7_inState 27 = .ok (.invokestatic 68, 3) := by decide +kernel
theorem dX7_inState_30 : decode cX7_inState 30 = .ok (.ior, 1) := by decide +kernel
theorem dX7_inState_31 : decode cX7_inState 31 = .ok (.istore_n 2, 1) := by decide +kernel
theorem dX7_inState_32 : decode cX7_inState 32 = .ok (.iinc 3 1, 3) := by decide +kernel
theorem dX7_inState_35 : decode cX7_inState 35 = .ok (.goto (-31), 3) := by decide +kernel
theorem dX7_inState_38 : decode cX7_inState 38 = .ok (.iload_n 2, 1) := by decide +kernel
theorem dX7_inState_39 : decode cX7_inState 39 = .ok (.ireturn, 1) := by decide +kernel
theorem dX7_knowing_0 : decode cX7_knowing 0 = .ok (.iconst 0, 1) := by decide +kernel
theorem dX7_knowing_1 : decode cX7_knowing 1 = .ok (.istore_n 2, 1) := by decide +kernel
theorem dX7_knowing_2 : decode cX7_knowing 2 = .ok (.iconst 0, 1) := by decide +kernel
theorem dX7_knowing_3 : decode cX7_knowing 3 = .ok (.istore_n 3, 1) := by decide +kernel
theorem dX7_knowing_4 : decode cX7_knowing 4 = .ok (.iload_n 3, 1) := by decide +kernel
theorem dX7_knowing_5 : decode cX7_knowing 5 = .ok (.aload_n 0, 1) := by decide +kernel
theorem dX7_knowing_6 : decode cX7_knowing 6 = .ok (.getfield 52, 3) := by decide +kernel
theorem dX7_knowing_9 : decode cX7_knowing 9 = .ok (.if_icmp .ge 32, 3) := by decide +kernel
theorem dX7_knowing_12 : decode cX7_knowing 12 = .ok (.aload_n 0, 1) := by decide +kernel
theorem dX7_knowing_13 : decode cX7_knowing 13 = .ok (.getfield 11, 3) := by decide +kernel
theorem dX7_knowing_16 : decode cX7_knowing 16 = .ok (.iload_n 3, 1) := by decide +kernel
theorem dX7_knowing_17 : decode cX7_knowing 17 = .ok (.aaload, 1) := by decide +kernel
theorem dX7_knowing_18 : decode cX7_knowing 18 = .ok (.getfield 72, 3) := by decide +kernel
theorem dX7_knowing_21 : decode cX7_knowing 21 = .ok (.iload_n 1, 1) := by decide +kernel
theorem dX7_knowing_22 : decode cX7_knowing 22 = .ok (.invokestatic 75, 3) := by decide +kernel
theorem dX7_knowing_25 : decode cX7_knowing 25 = .ok (.ifCond .eq 10, 3) := by decide +kernel
theorem dX7_knowing_28 : decode cX7_knowing 28 = .ok (.iload_n 2, 1) := by decide +kernel
theorem dX7_knowing_29 : decode cX7_knowing 29 = .ok (.iload_n 3, 1) := by decide +kernel
theorem dX7_knowing_30 : decode cX7_knowing 30 = .ok (.invokestatic 68, 3) := by decide +kernel
theorem dX7_knowing_33 : decode cX7_knowing 33 = .ok (.ior, 1) := by decide +kernel
theorem dX7_knowing_34 : decode cX7_knowing 34 = .ok (.istore_n 2, 1) := by decide +kernel
theorem dX7_knowing_35 : decode cX7_knowing 35 = .ok (.iinc 3 1, 3) := by decide +kernel
theorem dX7_knowing_38 : decode cX7_knowing 38 = .ok (.goto (-34), 3) := by decide +kernel
theorem dX7_knowing_41 : decode cX7_knowing 41 = .ok (.iload_n 2, 1) := by decide +kernel
theorem dX7_knowing_42 : decode cX7_knowing 42 = .ok (.ireturn, 1) := by decide +kernel
theorem dX7_spreadOfClocks_0 : decode cX7_spreadOfClocks 0 = .ok (.iconst 0, 1) := by decide +kernel
theorem dX7_spreadOfClocks_1 : decode cX7_spreadOfClocks 1 = .ok (.istore_n 1, 1) := by decide +kernel
theorem dX7_spreadOfClocks_2 : decode cX7_spreadOfClocks 2 = .ok (.iconst 0, 1) := by decide +kernel
theorem dX7_spreadOfClocks_3 : decode cX7_spreadOfClocks 3 = .ok (.istore_n 2, 1) := by decide +kernel
theorem dX7_spreadOfClocks_4 : decode cX7_spreadOfClocks 4 = .ok (.iconst 0, 1) := by decide +kernel
theorem dX7_spreadOfClocks_5 : decode cX7_spreadOfClocks 5 = .ok (.istore_n 3, 1) := by decide +kernel
theorem dX7_spreadOfClocks_6 : decode cX7_spreadOfClocks 6 = .ok (.iconst 0, 1) := by decide +kernel
theorem dX7_spreadOfClocks_7 : decode cX7_spreadOfClocks 7 = .ok (.istore 4, 2) := by decide +kernel
theorem dX7_spreadOfClocks_9 : decode cX7_spreadOfClocks 9 = .ok (.iload 4, 2) := by decide +kernel
theorem dX7_spreadOfClocks_11 : decode cX7_spreadOfClocks 11 = .ok (.aload_n 0, 1) := by decide +kernel
theorem dX7_spreadOfClocks_12 : decode cX7_spreadOfClocks 12 = .ok (.getfield 52, 3) := by decide +kernel
theorem dX7_spreadOfClocks_15 : decode cX7_spreadOfClocks 15 = .ok (.if_icmp .ge 69, 3) := by decide +kernel
theorem dX7_spreadOfClocks_18 : decode cX7_spreadOfClocks 18 = .ok (.aload_n 0, 1) := by decide +kernel
theorem dX7_spreadOfClocks_19 : decode cX7_spreadOfClocks 19 = .ok (.getfield 11, 3) := by decide +kernel
theorem dX7_spreadOfClocks_22 : decode cX7_spreadOfClocks 22 = .ok (.iload 4, 2) := by decide +kernel
theorem dX7_spreadOfClocks_24 : decode cX7_spreadOfClocks 24 = .ok (.aaload, 1) := by decide +kernel
theorem dX7_spreadOfClocks_25 : decode cX7_spreadOfClocks 25 = .ok (.getfield 65, 3) := by decide +kernel
theorem dX7_spreadOfClocks_28 : decode cX7_spreadOfClocks 28 = .ok (.iconst 2, 1) := by decide +kernel
theorem dX7_spreadOfClocks_29 : decode cX7_spreadOfClocks 29 = .ok (.if_icmp .ne 49, 3) := by decide +kernel
theorem dX7_spreadOfClocks_32 : decode cX7_spreadOfClocks 32 = .ok (.aload_n 0, 1) := by decide +kernel
theorem dX7_spreadOfClocks_33 : decode cX7_spreadOfClocks 33 = .ok (.getfield 11, 3) := by decide +kernel
theorem dX7_spreadOfClocks_36 : decode cX7_spreadOfClocks 36 = .ok (.iload 4, 2) := by decide +kernel
theorem dX7_spreadOfClocks_38 : decode cX7_spreadOfClocks 38 = .ok (.aaload, 1) := by decide +kernel
theorem dX7_spreadOfClocks_39 : decode cX7_spreadOfClocks 39 = .ok (.getfield 79, 3) := by decide +kernel
theorem dX7_spreadOfClocks_42 : decode cX7_spreadOfClocks 42 = .ok (.istore 5, 2) := by decide +kernel
theorem dX7_spreadOfClocks_44 : decode cX7_spreadOfClocks 44 = .ok (.iload_n 1, 1) := by decide +kernel
theorem dX7_spreadOfClocks_45 : decode cX7_spreadOfClocks 45 = .ok (.ifCond .eq 12, 3) := by decide +kernel
theorem dX7_spreadOfClocks_48 : decode cX7_spreadOfClocks 48 = .ok (.iload_n 2, 1) := by decide +kernel
theorem dX7_spreadOfClocks_49 : decode cX7_spreadOfClocks 49 = .ok (.iload 5, 2) := by decide +kernel
theorem dX7_spreadOfClocks_51 : decode cX7_spreadOfClocks 51 = .ok (.invokestatic 82, 3) := by decide +kernel
theorem dX7_spreadOfClocks_54 : decode cX7_spreadOfClocks 54 = .ok (.goto 5, 3) := by decide +kernel
theorem dX7_spreadOfClocks_57 : decode cX7_spreadOfClocks 57 = .ok (.iload 5, 2) := by decide +kernel
theorem dX7_spreadOfClocks_59 : decode cX7_spreadOfClocks 59 = .ok (.istore_n 2, 1) := by decide +kernel
theorem dX7_spreadOfClocks_60 : decode cX7_spreadOfClocks 60 = .ok (.iload_n 1, 1) := by decide +kernel
theorem dX7_spreadOfClocks_61 : decode cX7_spreadOfClocks 61 = .ok (.ifCond .eq 12, 3) := by decide +kernel
theorem dX7_spreadOfClocks_64 : decode cX7_spreadOfClocks 64 = .ok (.iload_n 3, 1) := by decide +kernel
theorem dX7_spreadOfClocks_65 : decode cX7_spreadOfClocks 65 = .ok (.iload 5, 2) := by decide +kernel
theorem dX7_spreadOfClocks_67 : decode cX7_spreadOfClocks 67 = .ok (.invokestatic 88, 3) := by decide +kernel
theorem dX7_spreadOfClocks_70 : decode cX7_spreadOfClocks 70 = .ok (.goto 5, 3) := by decide +kernel
theorem dX7_spreadOfClocks_73 : decode cX7_spreadOfClocks 73 = .ok (.iload 5, 2) := by decide +kernel
theorem dX7_spreadOfClocks_75 : decode cX7_spreadOfClocks 75 = .ok (.istore_n 3, 1) := by decide +kernel
theorem dX7_spreadOfClocks_76 : decode cX7_spreadOfClocks 76 = .ok (.iconst 1, 1) := by decide +kernel
theorem dX7_spreadOfClocks_77 : decode cX7_spreadOfClocks 77 = .ok (.istore_n 1, 1) := by decide +kernel
theorem dX7_spreadOfClocks_78 : decode cX7_spreadOfClocks 78 = .ok (.iinc 4 1, 3) := by decide +kernel
theorem dX7_spreadOfClocks_81 : decode cX7_spreadOfClocks 81 = .ok (.goto (-72), 3) := by decide +kernel
theorem dX7_spreadOfClocks_84 : decode cX7_spreadOfClocks 84 = .ok (.iload_n 3, 1) := by decide +kernel
theorem dX7_spreadOfClocks_85 : decode cX7_spreadOfClocks 85 = .ok (.iload_n 2, 1) := by decide +kernel
theorem dX7_spreadOfClocks_86 : decode cX7_spreadOfClocks 86 = .ok (.isub, 1) := by decide +kernel
theorem dX7_spreadOfClocks_87 : decode cX7_spreadOfClocks 87 = .ok (.ireturn, 1) := by decide +kernel
theorem dX7_draw_0 : decode cX7_draw 0 = .ok (.aload_n 0, 1) := by decide +kernel
theorem dX7_draw_1 : decode cX7_draw 1 = .ok (.ldc 91, 2) := by decide +kernel
theorem dX7_draw_3 : decode cX7_draw 3 = .ok (.aload_n 0, 1) := by decide +kernel
theorem dX7_draw_4 : decode cX7_draw 4 = .ok (.getfield 28, 3) := by decide +kernel
theorem dX7_draw_7 : decode cX7_draw 7 = .ok (.imul, 1) := by decide +kernel
theorem dX7_draw_8 : decode cX7_draw 8 = .ok (.sipush 12345, 3) := by decide +kernel
theorem dX7_draw_11 : decode cX7_draw 11 = .ok (.iadd, 1) := by decide +kernel
theorem dX7_draw_12 : decode cX7_draw 12 = .ok (.putfield 28, 3) := by decide +kernel
theorem dX7_draw_15 : decode cX7_draw 15 = .ok (.aload_n 0, 1) := by decide +kernel
theorem dX7_draw_16 : decode cX7_draw 16 = .ok (.getfield 28, 3) := by decide +kernel
theorem dX7_draw_19 : decode cX7_draw 19 = .ok (.bipush 16, 2) := by decide +kernel
theorem dX7_draw_21 : decode cX7_draw 21 = .ok (.iushr, 1) := by decide +kernel
theorem dX7_draw_22 : decode cX7_draw 22 = .ok (.sipush 32767, 3) := by decide +kernel
theorem dX7_draw_25 : decode cX7_draw 25 = .ok (.iand, 1) := by decide +kernel
theorem dX7_draw_26 : decode cX7_draw 26 = .ok (.ireturn, 1) := by decide +kernel
theorem dX7_note_0 : decode cX7_note 0 = .ok (.iconst 4, 1) := by decide +kernel
theorem dX7_note_1 : decode cX7_note 1 = .ok (.aload_n 0, 1) := by decide +kernel
theorem dX7_note_2 : decode cX7_note 2 = .ok (.getfield 49, 3) := by decide +kernel
theorem dX7_note_5 : decode cX7_note 5 = .ok (.imul, 1) := by decide +kernel
theorem dX7_note_6 : decode cX7_note 6 = .ok (.istore 4, 2) := by decide +kernel
theorem dX7_note_8 : decode cX7_note 8 = .ok (.iload 4, 2) := by decide +kernel
theorem dX7_note_10 : decode cX7_note 10 = .ok (.ifCond .lt 15, 3) := by decide +kernel
theorem dX7_note_13 : decode cX7_note 13 = .ok (.iload 4, 2) := by decide +kernel
theorem dX7_note_15 : decode cX7_note 15 = .ok (.iconst 3, 1) := by decide +kernel
theorem dX7_note_16 : decode cX7_note 16 = .ok (.iadd, 1) := by decide +kernel
theorem dX7_note_17 : decode cX7_note 17 = .ok (.aload_n 0, 1) := by decide +kernel
theorem dX7_note_18 : decode cX7_note 18 = .ok (.getfield 17, 3) := by decide +kernel
theorem dX7_note_21 : decode cX7_note 21 = .ok (.arraylength, 1) := by decide +kernel
theorem dX7_note_22 : decode cX7_note 22 = .ok (.if_icmp .lt 4, 3) := by decide +kernel
theorem dX7_note_25 : decode cX7_note 25 = .ok (.return_, 1) := by decide +kernel
theorem dX7_note_26 : decode cX7_note 26 = .ok (.aload_n 0, 1) := by decide +kernel
theorem dX7_note_27 : decode cX7_note 27 = .ok (.getfield 17, 3) := by decide +kernel
theorem dX7_note_30 : decode cX7_note 30 = .ok (.iload 4, 2) := by decide +kernel
theorem dX7_note_32 : decode cX7_note 32 = .ok (.aload_n 0, 1) := by decide +kernel
theorem dX7_note_33 : decode cX7_note 33 = .ok (.getfield 55, 3) := by decide +kernel
theorem dX7_note_36 : decode cX7_note 36 = .ok (.iastore, 1) := by decide +kernel
theorem dX7_note_37 : decode cX7_note 37 = .ok (.aload_n 0, 1) := by decide +kernel
theorem dX7_note_38 : decode cX7_note 38 = .ok (.getfield 17, 3) := by decide +kernel
theorem dX7_note_41 : decode cX7_note 41 = .ok (.iload 4, 2) := by decide +kernel
theorem dX7_note_43 : decode cX7_note 43 = .ok (.iconst 1, 1) := by decide +kernel
theorem dX7_note_44 : decode cX7_note 44 = .ok (.iadd, 1) := by decide +kernel
theorem dX7_note_45 : decode cX7_note 45 = .ok (.iload_n 1, 1) := by decide +kernel
theorem dX7_note_46 : decode cX7_note 46 = .ok (.iastore, 1) := by decide +kernel
theorem dX7_note_47 : decode cX7_note 47 = .ok (.aload_n 0, 1) := by decide +kernel
theorem dX7_note_48 : decode cX7_note 48 = .ok (.getfield 17, 3) := by decide +kernel
theorem dX7_note_51 : decode cX7_note 51 = .ok (.iload 4, 2) := by decide +kernel
theorem dX7_note_53 : decode cX7_note 53 = .ok (.iconst 2, 1) := by decide +kernel
theorem dX7_note_54 : decode cX7_note 54 = .ok (.iadd, 1) := by decide +kernel
theorem dX7_note_55 : decode cX7_note 55 = .ok (.iload_n 2, 1) := by decide +kernel
theorem dX7_note_56 : decode cX7_note 56 = .ok (.iastore, 1) := by decide +kernel
theorem dX7_note_57 : decode cX7_note 57 = .ok (.aload_n 0, 1) := by decide +kernel
theorem dX7_note_58 : decode cX7_note 58 = .ok (.getfield 17, 3) := by decide +kernel
theorem dX7_note_61 : decode cX7_note 61 = .ok (.iload 4, 2) := by decide +kernel
theorem dX7_note_63 : decode cX7_note 63 = .ok (.iconst 3, 1) := by decide +kernel
theorem dX7_note_64 : decode cX7_note 64 = .ok (.iadd, 1) := by decide +kernel
theorem dX7_note_65 : decode cX7_note 65 = .ok (.iload_n 3, 1) := by decide +kernel
theorem dX7_note_66 : decode cX7_note 66 = .ok (.iastore, 1) := by decide +kernel
theorem dX7_note_67 : decode cX7_note 67 = .ok (.aload_n 0, 1) := by decide +kernel
theorem dX7_note_68 : decode cX7_note 68 = .ok (.aload_n 0, 1) := by decide +kernel
theorem dX7_note_69 : decode cX7_note 69 = .ok (.getfield 49, 3) := by decide +kernel
theorem dX7_note_72 : decode cX7_note 72 = .ok (.iconst 1, 1) := by decide +kernel
theorem dX7_note_73 : decode cX7_note 73 = .ok (.iadd, 1) := by decide +kernel
theorem dX7_note_74 : decode cX7_note 74 = .ok (.bipush 60, 2) := by decide +kernel
theorem dX7_note_76 : decode cX7_note 76 = .ok (.irem, 1) := by decide +kernel
theorem dX7_note_77 : decode cX7_note 77 = .ok (.putfield 49, 3) := by decide +kernel
theorem dX7_note_80 : decode cX7_note 80 = .ok (.aload_n 0, 1) := by decide +kernel
theorem dX7_note_81 : decode cX7_note 81 = .ok (.bipush 60, 2) := by decide +kernel
theorem dX7_note_83 : decode cX7_note 83 = .ok (.aload_n 0, 1) := by decide +kernel
theorem dX7_note_84 : decode cX7_note 84 = .ok (.getfield 46, 3) := by decide +kernel
theorem dX7_note_87 : decode cX7_note 87 = .ok (.iconst 1, 1) := by decide +kernel
theorem dX7_note_88 : decode cX7_note 88 = .ok (.iadd, 1) := by decide +kernel
theorem dX7_note_89 : decode cX7_note 89 = .ok (.invokestatic 82, 3) := by decide +kernel
theorem dX7_note_92 : decode cX7_note 92 = .ok (.putfield 46, 3) := by decide +kernel
theorem dX7_note_95 : decode cX7_note 95 = .ok (.return_, 1) := by decide +kernel
theorem dX7_rowOf_0 : decode cX7_rowOf 0 = .ok (.iload_n 1, 1) := by decide +kernel
theorem dX7_rowOf_1 : decode cX7_rowOf 1 = .ok (.ifCond .lt 20, 3) := by decide +kernel
theorem dX7_rowOf_4 : decode cX7_rowOf 4 = .ok (.iload_n 1, 1) := by decide +kernel
theorem dX7_rowOf_5 : decode cX7_rowOf 5 = .ok (.aload_n 0, 1) := by decide +kernel
theorem dX7_rowOf_6 : decode cX7_rowOf 6 = .ok (.getfield 46, 3) := by decide +kernel
theorem dX7_rowOf_9 : decode cX7_rowOf 9 = .ok (.if_icmp .ge 12, 3) := by decide +kernel
theorem dX7_rowOf_12 : decode cX7_rowOf 12 = .ok (.iload_n 2, 1) := by decide +kernel
theorem dX7_rowOf_13 : decode cX7_rowOf 13 = .ok (.ifCond .lt 8, 3) := by decide +kernel
theorem dX7_rowOf_16 : decode cX7_rowOf 16 = .ok (.iload_n 2, 1) := by decide +kernel
theorem dX7_rowOf_17 : decode cX7_rowOf 17 = .ok (.iconst 3, 1) := by decide +kernel
theorem dX7_rowOf_18 : decode cX7_rowOf 18 = .ok (.if_icmp .le 5, 3) := by decide +kernel
theorem dX7_rowOf_21 : decode cX7_rowOf 21 = .ok (.iconst (-1), 1) := by decide +kernel
theorem dX7_rowOf_22 : decode cX7_rowOf 22 = .ok (.ireturn, 1) := by decide +kernel
theorem dX7_rowOf_23 : decode cX7_rowOf 23 = .ok (.aload_n 0, 1) := by decide +kernel
theorem dX7_rowOf_24 : decode cX7_rowOf 24 = .ok (.getfield 49, 3) := by decide +kernel
theorem dX7_rowOf_27 : decode cX7_rowOf 27 = .ok (.bipush 60, 2) := by decide +kernel
theorem dX7_rowOf_29 : decode cX7_rowOf 29 = .ok (.iadd, 1) := by decide +kernel
theorem dX7_rowOf_30 : decode cX7_rowOf 30 = .ok (.iconst 1, 1) := by decide +kernel
theorem dX7_rowOf_31 : decode cX7_rowOf 31 = .ok (.isub, 1) := by decide +kernel
theorem dX7_rowOf_32 : decode cX7_rowOf 32 = .ok (.iload_n 1, 1) := by decide +kernel
theorem dX7_rowOf_33 : decode cX7_rowOf 33 = .ok (.isub, 1) := by decide +kernel
theorem dX7_rowOf_34 : decode cX7_rowOf 34 = .ok (.bipush 60, 2) := by decide +kernel
theorem dX7_rowOf_36 : decode cX7_rowOf 36 = .ok (.irem, 1) := by decide +kernel
theorem dX7_rowOf_37 : decode cX7_rowOf 37 = .ok (.istore_n 3, 1) := by decide +kernel
theorem dX7_rowOf_38 : decode cX7_rowOf 38 = .ok (.iconst 4, 1) := by decide +kernel
theorem dX7_rowOf_39 : decode cX7_rowOf 39 = .ok (.iload_n 3, 1) := by decide +kernel
theorem dX7_rowOf_40 : decode cX7_rowOf 40 = .ok (.imul, 1) := by decide +kernel
theorem dX7_rowOf_41 : decode cX7_rowOf 41 = .ok (.iload_n 2, 1) := by decide +kernel
theorem dX7_rowOf_42 : decode cX7_rowOf 42 = .ok (.iadd, 1) := by decide +kernel
theorem dX7_rowOf_43 : decode cX7_rowOf 43 = .ok (.istore 4, 2) := by decide +kernel
theorem dX7_rowOf_45 : decode cX7_rowOf 45 = .ok (.iload 4, 2) := by decide +kernel
theorem dX7_rowOf_47 : decode cX7_rowOf 47 = .ok (.ifCond .lt 23, 3) := by decide +kernel
theorem dX7_rowOf_50 : decode cX7_rowOf 50 = .ok (.iload 4, 2) := by decide +kernel
theorem dX7_rowOf_52 : decode cX7_rowOf 52 = .ok (.aload_n 0, 1) := by decide +kernel
theorem dX7_rowOf_53 : decode cX7_rowOf 53 = .ok (.getfield 17, 3) := by decide +kernel
theorem dX7_rowOf_56 : decode cX7_rowOf 56 = .ok (.arraylength, 1) := by decide +kernel
theorem dX7_rowOf_57 : decode cX7_rowOf 57 = .ok (.if_icmp .ge 13, 3) := by decide +kernel
theorem dX7_rowOf_60 : decode cX7_rowOf 60 = .ok (.aload_n 0, 1) := by decide +kernel
theorem dX7_rowOf_61 : decode cX7_rowOf 61 = .ok (.getfield 17, 3) := by decide +kernel
theorem dX7_rowOf_64 : decode cX7_rowOf 64 = .ok (.iload 4, 2) := by decide +kernel
theorem dX7_rowOf_66 : decode cX7_rowOf 66 = .ok (.iaload, 1) := by decide +kernel
theorem dX7_rowOf_67 : decode cX7_rowOf 67 = .ok (.goto 4, 3) := by decide +kernel
theorem dX7_rowOf_70 : decode cX7_rowOf 70 = .ok (.iconst (-1), 1) := by decide +kernel
theorem dX7_rowOf_71 : decode cX7_rowOf 71 = .ok (.ireturn, 1) := by decide +kernel
theorem dX8_init_0 : decode cX8_init 0 = .ok (.aload_n 0, 1) := by decide +kernel
theorem dX8_init_1 : decode cX8_init 1 = .ok (.invokespecial 3, 3) := by decide +kernel
theorem dX8_init_4 : decode cX8_init 4 = .ok (.aload_n 0, 1) := by decide +kernel
theorem dX8_init_5 : decode cX8_init 5 = .ok (.iconst (-1), 1) := by decide +kernel
theorem dX8_init_6 : decode cX8_init 6 = .ok (.putfield 9, 3) := by decide +kernel
theorem dX8_init_9 : decode cX8_init 9 = .ok (.aload_n 0, 1) := by decide +kernel
theorem dX8_init_10 : decode cX8_init 10 = .ok (.sipush 401, 3) := by decide +kernel
theorem dX8_init_13 : decode cX8_init 13 = .ok (.newarray .int, 2) := by decide +kernel
theorem dX8_init_15 : decode cX8_init 15 = .ok (.putfield 15, 3) := by decide +kernel
theorem dX8_init_18 : decode cX8_init 18 = .ok (.aload_n 0, 1) := by decide +kernel
theorem dX8_init_19 : decode cX8_init 19 = .ok (.sipush 401, 3) := by decide +kernel
theorem dX8_init_22 : decode cX8_init 22 = .ok (.newarray .int, 2) := by decide +kernel
theorem dX8_init_24 : decode cX8_init 24 = .ok (.putfield 19, 3) := by decide +kernel
theorem dX8_init_27 : decode cX8_init 27 = .ok (.return_, 1) := by decide +kernel
theorem dX8_load_0 : decode cX8_load 0 = .ok (.aload_n 0, 1) := by decide +kernel
theorem dX8_load_1 : decode cX8_load 1 = .ok (.iconst 0, 1) := by decide +kernel
theorem dX8_load_2 : decode cX8_load 2 = .ok (.putfield 22, 3) := by decide +kernel
theorem dX8_load_5 : decode cX8_load 5 = .ok (.aload_n 0, 1) := by decide +kernel
theorem dX8_load_6 : decode cX8_load 6 = .ok (.iconst 0, 1) := by decide +kernel
theorem dX8_load_7 : decode cX8_load 7 = .ok (.putfield 25, 3) := by decide +kernel
theorem dX8_load_10 : decode cX8_load 10 = .ok (.aload_n 0, 1) := by decide +kernel
theorem dX8_load_11 : decode cX8_load 11 = .ok (.iconst (-1), 1) := by decide +kernel
theorem dX8_load_12 : decode cX8_load 12 = .ok (.putfield 9, 3) := by decide +kernel
theorem dX8_load_15 : decode cX8_load 15 = .ok (.iload_n 2, 1) := by decide +kernel
theorem dX8_load_16 : decode cX8_load 16 = .ok (.aload_n 1, 1) := by decide +kernel
theorem dX8_load_17 : decode cX8_load 17 = .ok (.arraylength, 1) := by decide +kernel
theorem dX8_load_18 : decode cX8_load 18 = .ok (.invokestatic 28, 3) := by decide +kernel
theorem dX8_load_21 : decode cX8_load 21 = .ok (.istore_n 3, 1) := by decide +kernel
theorem dX8_load_22 : decode cX8_load 22 = .ok (.bipush 32, 2) := by decide +kernel
theorem dX8_load_24 : decode cX8_load 24 = .ok (.istore 4, 2) := by decide +kernel
theorem dX8_load_26 : decode cX8_load 26 = .ok (.iconst 0, 1) := by decide +kernel
theorem dX8_load_27 : decode cX8_load 27 = .ok (.istore 5, 2) := by decide +kernel
theorem dX8_load_29 : decode cX8_load 29 = .ok (.iload 5, 2) := by decide +kernel
theorem dX8_load_31 : decode cX8_load 31 = .ok (.iload_n 3, 1) := by decide +kernel
theorem dX8_load_32 : decode cX8_load 32 = .ok (.if_icmp .ge 118, 3) := by decide +kernel
theorem dX8_load_35 : decode cX8_load 35 = .ok (.aload_n 1, 1) := by decide +kernel
theorem dX8_load_36 : decode cX8_load 36 = .ok (.iload 5, 2) := by decide +kernel
theorem dX8_load_38 : decode cX8_load 38 = .ok (.iaload, 1) := by decide +kernel
theorem dX8_load_39 : decode cX8_load 39 = .ok (.istore 6, 2) := by decide +kernel
theorem dX8_load_41 : decode cX8_load 41 = .ok (.iload 6, 2) := by decide +kernel
theorem dX8_load_43 : decode cX8_load 43 = .ok (.invokestatic 34, 3) := by decide +kernel
theorem dX8_load_46 : decode cX8_load 46 = .ok (.ifCond .eq 11, 3) := by decide +kernel
theorem dX8_load_49 : decode cX8_load 49 = .ok (.iload 4, 2) := by decide +kernel
theorem dX8_load_51 : decode cX8_load 51 = .ok (.invokestatic 34, 3) := by decide +kernel
theorem dX8_load_54 : decode cX8_load 54 = .ok (.ifCond .ne 19, 3) := by decide +kernel
theorem dX8_load_57 : decode cX8_load 57 = .ok (.iload 6, 2) := by decide +kernel
theorem dX8_load_59 : decode cX8_load 59 = .ok (.invokestatic 38, 3) := by decide +kernel
theorem dX8_load_62 : decode cX8_load 62 = .ok (.ifCond .eq 15, 3) := by decide +kernel
theorem dX8_load_65 : decode cX8_load 65 = .ok (.iload 4, 2) := by decide +kernel
theorem dX8_load_67 : decode cX8_load 67 = .ok (.invokestatic 38, 3) := by decide +kernel
theorem dX8_load_70 : decode cX8_load 70 = .ok (.ifCond .eq 7, 3) := by decide +kernel
theorem dX8_load_73 : decode cX8_load 73 = .ok (.iconst 1, 1) := by decide +kernel
theorem dX8_load_74 : decode cX8_load 74 = .ok (.goto 4, 3) := by decide +kernel
theorem dX8_load_77 : decode cX8_load 77 = .ok (.iconst 0, 1) := by decide +kernel
theorem dX8_load_78 : decode cX8_load 78 = .ok (.istore 7, 2) := by decide +kernel
theorem dX8_load_80 : decode cX8_load 80 = .ok (.iload 6, 2) := by decide +kernel
theorem dX8_load_82 : decode cX8_load 82 = .ok (.bipush 32, 2) := by decide +kernel
theorem dX8_load_84 : decode cX8_load 84 = .ok (.if_icmp .eq 56, 3) := by decide +kernel
theorem dX8_load_87 : decode cX8_load 87 = .ok (.iload 7, 2) := by decide +kernel
theorem dX8_load_89 : decode cX8_load 89 = .ok (.ifCond .ne 51, 3) := by decide +kernel
theorem dX8_load_92 : decode cX8_load 92 = .ok (.aload_n 0, 1) := by decide +kernel
theorem dX8_load_93 : decode cX8_load 93 = .ok (.iload 5, 2) := by decide +kernel
theorem dX8_load_95 : decode cX8_load 95 = .ok (.iload 6, 2) := by decide +kernel
theorem dX8_load_97 : decode cX8_load 97 = .ok (.invokestatic 34, 3) := by decide +kernel
theorem dX8_load_100 : decode cX8_load 100 = .ok (.ifCond .eq 13, 3) := by decide +kernel
theorem dX8_load_103 : decode cX8_load 103 = .ok (.aload_n 1, 1) := by decide +kernel
theorem dX8_load_104 : decode cX8_load 104 = .ok (.iload 5, 2) := by decide +kernel
theorem dX8_load_106 : decode cX8_load 106 = .ok (.iload_n 3, 1) := by decide +kernel
theorem dX8_load_107 : decode cX8_load 107 = .ok (.invokestatic 41, 3) := by decide +kernel
theorem dX8_load_110 : decode cX8_load 110 = .ok (.goto 27, 3) := by decide +kernel
theorem dX8_load_113 : decode cX8_load 113 = .ok (.iload 6, 2) := by decide +kernel
theorem dX8_load_115 : decode cX8_load 115 = .ok (.invokestatic 38, 3) := by decide +kernel
theorem dX8_load_118 : decode cX8_load 118 = .ok (.ifCond .eq 13, 3) := by decide +kernel
theorem dX8_load_121 : decode cX8_load 121 = .ok (.aload_n 1, 1) := by decide +kernel
theorem dX8_load_122 : decode cX8_load 122 = .ok (.iload 5, 2) := by decide +kernel
theorem dX8_load_124 : decode cX8_load 124 = .ok (.iload_n 3, 1) := by decide +kernel
theorem dX8_load_125 : decode cX8_load 125 = .ok (.invokestatic 45, 3) := by decide +kernel
theorem dX8_load_128 : decode cX8_load 128 = .ok (.goto 9, 3) := by decide +kernel
theorem dX8_load_131 : decode cX8_load 131 = .ok (.sipush 2000, 3) := by decide +kernel
theorem dX8_load_134 : decode cX8_load 134 = .ok (.iload 6, 2) := by decide +kernel
theorem dX8_load_136 : decode cX8_load 136 = .ok (.iadd, 1) := by decide +kernel
theorem dX8_load_137 : decode cX8_load 137 = .ok (.invokevirtual 48, 3) := by decide +kernel
theorem dX8_load_140 : decode cX8_load 140 = .ok (.iload 6, 2) := by decide +kernel
theorem dX8_load_142 : decode cX8_load 142 = .ok (.istore 4, 2) := by decide +kernel
theorem dX8_load_144 : decode cX8_load 144 = .ok (.iinc 5 1, 3) := by decide +kernel
theorem dX8_load_147 : decode cX8_load 147 = .ok (.goto (-118), 3) := by decide +kernel
theorem dX8_load_150 : decode cX8_load 150 = .ok (.aload_n 0, 1) := by decide +kernel
theorem dX8_load_151 : decode cX8_load 151 = .ok (.iload_n 3, 1) := by decide +kernel
theorem dX8_load_152 : decode cX8_load 152 = .ok (.sipush 3001, 3) := by decide +kernel
theorem dX8_load_155 : decode cX8_load 155 = .ok (.invokevirtual 48, 3) := by decide +kernel
theorem dX8_load_158 : decode cX8_load 158 = .ok (.return_, 1) := by decide +kernel
theorem dX8_isLetter_0 : decode cX8_isLetter 0 = .ok (.iload_n 0, 1) := by decide +kernel
theorem dX8_isLetter_1 : decode cX8_isLetter 1 = .ok (.bipush 97, 2) := by decide +kernel
theorem dX8_isLetter_3 : decode cX8_isLetter 3 = .ok (.if_icmp .lt 13, 3) := by decide +kernel
theorem dX8_isLetter_6 : decode cX8_isLetter 6 = .ok (.iload_n 0, 1) := by decide +kernel
theorem dX8_isLetter_7 : decode cX8_isLetter 7 = .ok (.bipush 122, 2) := by decide +kernel
theorem dX8_isLetter_9 : decode cX8_isLetter 9 = .ok (.if_icmp .gt 7, 3) := by decide +kernel
theorem dX8_isLetter_12 : decode cX8_isLetter 12 = .ok (.iconst 1, 1) := by decide +kernel
theorem dX8_isLetter_13 : decode cX8_isLetter 13 = .ok (.goto 4, 3) := by decide +kernel
theorem dX8_isLetter_16 : decode cX8_isLetter 16 = .ok (.iconst 0, 1) := by decide +kernel
theorem dX8_isLetter_17 : decode cX8_isLetter 17 = .ok (.ireturn, 1) := by decide +kernel
theorem dX8_isDigit_0 : decode cX8_isDigit 0 = .ok (.iload_n 0, 1) := by decide +kernel
theorem dX8_isDigit_1 : decode cX8_isDigit 1 = .ok (.bipush 48, 2) := by decide +kernel
theorem dX8_isDigit_3 : decode cX8_isDigit 3 = .ok (.if_icmp .lt 13, 3) := by decide +kernel
theorem dX8_isDigit_6 : decode cX8_isDigit 6 = .ok (.iload_n 0, 1) := by decide +kernel
theorem dX8_isDigit_7 : decode cX8_isDigit 7 = .ok (.bipush 57, 2) := by decide +kernel
theorem dX8_isDigit_9 : decode cX8_isDigit 9 = .ok (.if_icmp .gt 7, 3) := by decide +kernel
theorem dX8_isDigit_12 : decode cX8_isDigit 12 = .ok (.iconst 1, 1) := by decide +kernel
theorem dX8_isDigit_13 : decode cX8_isDigit 13 = .ok (.goto 4, 3) := by decide +kernel
theorem dX8_isDigit_16 : decode cX8_isDigit 16 = .ok (.iconst 0, 1) := by decide +kernel
theorem dX8_isDigit_17 : decode cX8_isDigit 17 = .ok (.ireturn, 1) := by decide +kernel
theorem dX8_put_0 : decode cX8_put 0 = .ok (.aload_n 0, 1) := by decide +kernel
theorem dX8_put_1 : decode cX8_put 1 = .ok (.getfield 22, 3) := by decide +kernel
theorem dX8_put_4 : decode cX8_put 4 = .ok (.aload_n 0, 1) := by decide +kernel
theorem dX8_put_5 : decode cX8_put 5 = .ok (.getfield 15, 3) := by decide +kernel
theorem dX8_put_8 : decode cX8_put 8 = .ok (.arraylength, 1) := by decide +kernel
theorem dX8_put_9 : decode cX8_put 9 = .ok (.if_icmp .ge 33, 3) := by decide +kernel
theorem dX8_put_12 : decode cX8_put 12 = .ok (.aload_n 0, 1) := by decide +kernel
theorem dX8_put_13 : decode cX8_put 13 = .ok (.getfield 15, 3) := by decide +kernel
theorem dX8_put_16 : decode cX8_put 16 = .ok (.aload_n 0, 1) := by decide +kernel
theorem dX8_put_17 : decode cX8_put 17 = .ok (.getfield 22, 3) := by decide +kernel
theorem dX8_put_20 : decode cX8_put 20 = .ok (.iload_n 2, 1) := by decide +kernel
theorem dX8_put_21 : decode cX8_put 21 = .ok (.iastore, 1) := by decide +kernel
theorem dX8_put_22 : decode cX8_put 22 = .ok (.aload_n 0, 1) := by decide +kernel
theorem dX8_put_23 : decode cX8_put 23 = .ok (.getfield 19, 3) := by decide +kernel
theorem dX8_put_26 : decode cX8_put 26 = .ok (.aload_n 0, 1) := by decide +kernel
theorem dX8_put_27 : decode cX8_put 27 = .ok (.getfield 22, 3) := by decide +kernel
theorem dX8_put_30 : decode cX8_put 30 = .ok (.iload_n 1, 1) := by decide +kernel
theorem dX8_put_31 : decode cX8_put 31 = .ok (.iastore, 1) := by decide +kernel
theorem dX8_put_32 : decode cX8_put 32 = .ok (.aload_n 0, 1) := by decide +kernel
theorem dX8_put_33 : decode cX8_put 33 = .ok (.dup, 1) := by decide +kernel
theorem dX8_put_34 : decode cX8_put 34 = .ok (.getfield 22, 3) := by decide +kernel
theorem dX8_put_37 : decode cX8_put 37 = .ok (.iconst 1, 1) := by decide +kernel
theorem dX8_put_38 : decode cX8_put 38 = .ok (.iadd, 1) := by decide +kernel
theorem dX8_put_39 : decode cX8_put 39 = .ok (.putfield 22, 3) := by decide +kernel
theorem dX8_put_42 : decode cX8_put 42 = .ok (.return_, 1) := by decide +kernel
theorem dX8_wordAt_0 : decode cX8_wordAt 0 = .ok (.iload_n 1, 1) := by decide +kernel
theorem dX8_wordAt_1 : decode cX8_wordAt 1 = .ok (.istore_n 3, 1) := by decide +kernel
theorem dX8_wordAt_2 : decode cX8_wordAt 2 = .ok (.iconst 1, 1) := by decide +kernel
theorem dX8_wordAt_3 : decode cX8_wordAt 3 = .ok (.istore 4, 2) := by decide +kernel
theorem dX8_wordAt_5 : decode cX8_wordAt 5 = .ok (.sipush 1000, 3) := by decide +kernel
theorem dX8_wordAt_8 : decode cX8_wordAt 8 = .ok (.istore 5, 2) := by decide +kernel
theorem dX8_wordAt_10 : decode cX8_wordAt 10 = .ok (.iconst 0, 1) := by decide +kernel
theorem dX8_wordAt_11 : decode cX8_wordAt 11 = .ok (.istore 6, 2) := by decide +kernel
theorem dX8_wordAt_13 : decode cX8_wordAt 13 = .ok (.iload 6, 2) := by decide +kernel
theorem dX8_wordAt_15 : decode cX8_wordAt 15 = .ok (.ldc 52, 2) := by decide +kernel
theorem dX8_wordAt_17 : decode cX8_wordAt 17 = .ok (.invokevirtual 54, 3) := by decide +kernel
theorem dX8_wordAt_20 : decode cX8_wordAt 20 = .ok (.if_icmp .ge 86, 3) := by decide +kernel
theorem dX8_wordAt_23 : decode cX8_wordAt 23 = .ok (.ldc 52, 2) := by decide +kernel
theorem dX8_wordAt_25 : decode cX8_wordAt 25 = .ok (.iload 6, 2) := by decide +kernel
theorem dX8_wordAt_27 : decode cX8_wordAt 27 = .ok (.invokevirtual 60, 3) := by decide +kernel
theorem dX8_wordAt_30 : decode cX8_wordAt 30 = .ok (.istore 7, 2) := by decide +kernel
theorem dX8_wordAt_32 : decode cX8_wordAt 32 = .ok (.iload 7, 2) := by decide +kernel
theorem dX8_wordAt_34 : decode cX8_wordAt 34 = .ok (.bipush 32, 2) := by decide +kernel
theorem dX8_wordAt_36 : decode cX8_wordAt 36 = .ok (.if_icmp .eq 34, 3) := by decide +kernel
theorem dX8_wordAt_39 : decode cX8_wordAt 39 = .ok (.iload 4, 2) := by decide +kernel
theorem dX8_wordAt_41 : decode cX8_wordAt 41 = .ok (.ifCond .eq 20, 3) := by decide +kernel
theorem dX8_wordAt_44 : decode cX8_wordAt 44 = .ok (.iload_n 3, 1) := by decide +kernel
theorem dX8_wordAt_45 : decode cX8_wordAt 45 = .ok (.iload_n 2, 1) := by decide +kernel
theorem dX8_wordAt_46 : decode cX8_wordAt 46 = .ok (.if_icmp .ge 15, 3) := by decide +kernel
theorem dX8_wordAt_49 : decode cX8_wordAt 49 = .ok (.aload_n 0, 1) := by decide +kernel
theorem dX8_wordAt_50 : decode cX8_wordAt 50 = .ok (.iload_n 3, 1) := by decide +kernel
theorem dX8_wordAt_51 : decode cX8_wordAt 51 = .ok (.iaload, 1) := by decide +kernel
theorem dX8_wordAt_52 : decode cX8_wordAt 52 = .ok (.iload 7, 2) := by decide +kernel
theorem dX8_wordAt_54 : decode cX8_wordAt 54 = .ok (.if_icmp .ne 7, 3) := by decide +kernel
theorem dX8_wordAt_57 : decode cX8_wordAt 57 = .ok (.iconst 1, 1) := by decide +kernel
theorem dX8_wordAt_58 : decode cX8_wordAt 58 = .ok (.goto 4, 3) := by decide +kernel
theorem dX8_wordAt_61 : decode cX8_wordAt 61 = .ok (.iconst 0, 1) := by decide +kernel
theorem dX8_wordAt_62 : decode cX8_wordAt 62 = .ok (.istore 4, 2) := by decide +kernel
theorem dX8_wordAt_64 : decode cX8_wordAt 64 = .ok (.iinc 3 1, 3) := by decide +kernel
theorem dX8_wordAt_67 : decode cX8_wordAt 67 = .ok (.goto 33, 3) := by decide +kernel
theorem dX8_wordAt_70 : decode cX8_wordAt 70 = .ok (.iload 4, 2) := by decide +kernel
theorem dX8_wordAt_72 : decode cX8_wordAt 72 = .ok (.ifCond .eq 20, 3) := by decide +kernel
theorem dX8_wordAt_75 : decode cX8_wordAt 75 = .ok (.iload_n 3, 1) := by decide +kernel
theorem dX8_wordAt_76 : decode cX8_wordAt 76 = .ok (.iload_n 2, 1) := by decide +kernel
theorem dX8_wordAt_77 : decode cX8_wordAt 77 = .ok (.if_icmp .ge 12, 3) := by decide +kernel
theorem dX8_wordAt_80 : decode cX8_wordAt 80 = .ok (.aload_n 0, 1) := by decide +kernel
theorem dX8_wordAt_81 : decode cX8_wordAt 81 = .ok (.iload_n 3, 1) := by decide +kernel
theorem dX8_wordAt_82 : decode cX8_wordAt 82 = .ok (.iaload, 1) := by decide +kernel
theorem dX8_wordAt_83 : decode cX8_wordAt 83 = .ok (.invokestatic 34, 3) := by decide +kernel
theorem dX8_wordAt_86 : decode cX8_wordAt 86 = .ok (.ifCond .ne 6, 3) := by decide +kernel
theorem dX8_wordAt_89 : decode cX8_wordAt 89 = .ok (.iload 5, 2) := by decide +kernel
theorem dX8_wordAt_91 : decode cX8_wordAt 91 = .ok (.ireturn, 1) := by decide +kernel
theorem dX8_wordAt_92 : decode cX8_wordAt 92 = .ok (.iinc 5 1, 3) := by decide +kernel
theorem dX8_wordAt_95 : decode cX8_wordAt 95 = .ok (.iload_n 1, 1) := by decide +kernel
theorem dX8_wordAt_96 : decode cX8_wordAt 96 = .ok (.istore_n 3, 1) := by decide +kernel
theorem dX8_wordAt_97 : decode cX8_wordAt 97 = .ok (.iconst 1, 1) := by decide +kernel
theorem dX8_wordAt_98 : decode cX8_wordAt 98 = .ok (.istore 4, 2) := by decide +kernel
theorem dX8_wordAt_100 : decode cX8_wordAt 100 = .ok (.iinc 6 1, 3) := by decide +kernel
theorem dX8_wordAt_103 : decode cX8_wordAt 103 = .ok (.goto (-90), 3) := by decide +kernel
theorem dX8_wordAt_106 : decode cX8_wordAt 106 = .ok (.sipush 3000, 3) := by decide +kernel
theorem dX8_wordAt_109 : decode cX8_wordAt 109 = .ok (.ireturn, 1) := by decide +kernel
theorem dX8_numberAt_0 : decode cX8_numberAt 0 = .ok (.iconst 0, 1) := by decide +kernel
theorem dX8_numberAt_1 : decode cX8_numberAt 1 = .ok (.istore_n 3, 1) := by decide +kernel
theorem dX8_numberAt_2 : decode cX8_numberAt 2 = .ok (.iconst 0, 1) := by decide +kernel
theorem dX8_numberAt_3 : decode cX8_numberAt 3 = .ok (.istore 4, 2) := by decide +kernel
theorem dX8_numberAt_5 : decode cX8_numberAt 5 = .ok (.iload_n 1, 1) := by decide +kernel
theorem dX8_numberAt_6 : decode cX8_numberAt 6 = .ok (.istore 5, 2) := by decide +kernel
theorem dX8_numberAt_8 : decode cX8_numberAt 8 = .ok (.iload 5, 2) := by decide +kernel
theorem dX8_numberAt_10 : decode cX8_numberAt 10 = .ok (.iload_n 2, 1) := by decide +kernel
theorem dX8_numberAt_11 : decode cX8_numberAt 11 = .ok (.if_icmp .ge 45, 3) := by decide +kernel
theorem dX8_numberAt_14 : decode cX8_numberAt 14 = .ok (.aload_n 0, 1) := by decide +kernel
theorem dX8_numberAt_15 : decode cX8_numberAt 15 = .ok (.iload 5, 2) := by decide +kernel
theorem dX8_numberAt_17 : decode cX8_numberAt 17 = .ok (.iaload, 1) := by decide +kernel
theorem dX8_numberAt_18 : decode cX8_numberAt 18 = .ok (.invokestatic 38, 3) := by decide +kernel
theorem dX8_numberAt_21 : decode cX8_numberAt 21 = .ok (.ifCond .eq 35, 3) := by decide +kernel
theorem dX8_numberAt_24 : decode cX8_numberAt 24 = .ok (.iload 4, 2) := by decide +kernel
theorem dX8_numberAt_26 : decode cX8_numberAt 26 = .ok (.iconst 3, 1) := by decide +kernel
theorem dX8_numberAt_27 : decode cX8_numberAt 27 = .ok (.if_icmp .ge 18, 3) := by decide +kernel
theorem dX8_numberAt_30 : decode cX8_numberAt 30 = .ok (.bipush 10, 2) := by decide +kernel
theorem dX8_numberAt_32 : decode cX8_numberAt 32 = .ok (.iload_n 3, 1) := by decide +kernel
theorem dX8_numberAt_33 : decode cX8_numberAt 33 = .ok (.imul, 1) := by decide +kernel
theorem dX8_numberAt_34 : decode cX8_numberAt 34 = .ok (.aload_n 0, 1) := by decide +kernel
theorem dX8_numberAt_35 : decode cX8_numberAt 35 = .ok (.iload 5, 2) := by decide +kernel
theorem dX8_numberAt_37 : decode cX8_numberAt 37 = .ok (.iaload, 1) := by decide +kernel
theorem dX8_numberAt_38 : decode cX8_numberAt 38 = .ok (.iadd, 1) := by decide +kernel
theorem dX8_numberAt_39 : decode cX8_numberAt 39 = .ok (.bipush 48, 2) := by decide +kernel
theorem dX8_numberAt_41 : decode cX8_numberAt 41 = .ok (.isub, 1) := by decide +kernel
theorem dX8_numberAt_42 : decode cX8_numberAt 42 = .ok (.goto 4, 3) := by decide +kernel
theorem dX8_numberAt_45 : decode cX8_numberAt 45 = .ok (.iload_n 3, 1) := by decide +kernel
theorem dX8_numberAt_46 : decode cX8_numberAt 46 = .ok (.istore_n 3, 1) := by decide +kernel
theorem dX8_numberAt_47 : decode cX8_numberAt 47 = .ok (.iinc 4 1, 3) := by decide +kernel
theorem dX8_numberAt_50 : decode cX8_numberAt 50 = .ok (.iinc 5 1, 3) := by decide +kernel
theorem dX8_numberAt_53 : decode cX8_numberAt 53 = .ok (.goto (-45), 3) := by decide +kernel
theorem dX8_numberAt_56 : decode cX8_numberAt 56 = .ok (.iload 4, 2) := by decide +kernel
theorem dX8_numberAt_58 : decode cX8_numberAt 58 = .ok (.iconst 3, 1) := by decide +kernel
theorem dX8_numberAt_59 : decode cX8_numberAt 59 = .ok (.if_icmp .le 9, 3) := by decide +kernel
theorem dX8_numberAt_62 : decode cX8_numberAt 62 = .ok (.sipush 3000, 3) := by decide +kernel
theorem dX8_numberAt_65 : decode cX8_numberAt 65 = .ok (.goto 4, 3) := by decide +kernel
theorem dX8_numberAt_68 : decode cX8_numberAt 68 = .ok (.iload_n 3, 1) := by decide +kernel
theorem dX8_numberAt_69 : decode cX8_numberAt 69 = .ok (.ireturn, 1) := by decide +kernel
theorem dX8_isAt_0 : decode cX8_isAt 0 = .ok (.aload_n 0, 1) := by decide +kernel
theorem dX8_isAt_1 : decode cX8_isAt 1 = .ok (.getfield 9, 3) := by decide +kernel
theorem dX8_isAt_4 : decode cX8_isAt 4 = .ok (.iconst (-1), 1) := by decide +kernel
theorem dX8_isAt_5 : decode cX8_isAt 5 = .ok (.if_icmp .ne 31, 3) := by decide +kernel
theorem dX8_isAt_8 : decode cX8_isAt 8 = .ok (.aload_n 0, 1) := by decide +kernel
theorem dX8_isAt_9 : decode cX8_isAt 9 = .ok (.getfield 25, 3) := by decide +kernel
theorem dX8_isAt_12 : decode cX8_isAt 12 = .ok (.aload_n 0, 1) := by decide +kernel
theorem dX8_isAt_13 : decode cX8_isAt 13 = .ok (.getfield 22, 3) := by decide +kernel
theorem dX8_isAt_16 : decode cX8_isAt 16 = .ok (.if_icmp .ge 20, 3) := by decide +kernel
theorem dX8_isAt_19 : decode cX8_isAt 19 = .ok (.aload_n 0, 1) := by decide +kernel
theorem dX8_isAt_20 : decode cX8_isAt 20 = .ok (.getfield 15, 3) := by decide +kernel
theorem dX8_isAt_23 : decode cX8_isAt 23 = .ok (.aload_n 0, 1) := by decide +kernel
theorem dX8_isAt_24 : decode cX8_isAt 24 = .ok (.getfield 25, 3) := by decide +kernel
theorem dX8_isAt_27 : decode cX8_isAt 27 = .ok (.iaload, 1) := by decide +kernel
theorem dX8_isAt_28 : decode cX8_isAt 28 = .ok (.iload_n 1, 1) := by decide +kernel
theorem dX8_isAt_29 : decode cX8_isAt 29 = .ok (.if_icmp .ne 7, 3) := by decide +kernel
theorem dX8_isAt_32 : decode cX8_isAt 32 = .ok (.iconst 1, 1) := by decide +kernel
theorem dX8_isAt_33 : decode cX8_isAt 33 = .ok (.goto 4, 3) := by decide +kernel
theorem dX8_isAt_36 : decode cX8_isAt 36 = .ok (.iconst 0, 1) := by decide +kernel
theorem dX8_isAt_37 : decode cX8_isAt 37 = .ok (.ireturn, 1) := by decide +kernel
theorem dX8_takes_0 : decode cX8_takes 0 = .ok (.aload_n 0, 1) := by decide +kernel
theorem dX8_takes_1 : decode cX8_takes 1 = .ok (.getfield 9, 3) := by decide +kernel
theorem dX8_takes_4 : decode cX8_takes 4 = .ok (.iconst (-1), 1) := by decide +kernel
theorem dX8_takes_5 : decode cX8_takes 5 = .ok (.if_icmp .ne 31, 3) := by decide +kernel
theorem dX8_takes_8 : decode cX8_takes 8 = .ok (.aload_n 0, 1) := by decide +kernel
theorem dX8_takes_9 : decode cX8_takes 9 = .ok (.getfield 25, 3) := by decide +kernel
theorem dX8_takes_12 : decode cX8_takes 12 = .ok (.aload_n 0, 1) := by decide +kernel
theorem dX8_takes_13 : decode cX8_takes 13 = .ok (.getfield 22, 3) := by decide +kernel
theorem dX8_takes_16 : decode cX8_takes 16 = .ok (.if_icmp .ge 20, 3) := by decide +kernel
theorem dX8_takes_19 : decode cX8_takes 19 = .ok (.aload_n 0, 1) := by decide +kernel
theorem dX8_takes_20 : decode cX8_takes 20 = .ok (.getfield 15, 3) := by decide +kernel
theorem dX8_takes_23 : decode cX8_takes 23 = .ok (.aload_n 0, 1) := by decide +kernel
theorem dX8_takes_24 : decode cX8_takes 24 = .ok (.getfield 25, 3) := by decide +kernel
theorem dX8_takes_27 : decode cX8_takes 27 = .ok (.iaload, 1) := by decide +kernel
theorem dX8_takes_28 : decode cX8_takes 28 = .ok (.iload_n 1, 1) := by decide +kernel
theorem dX8_takes_29 : decode cX8_takes 29 = .ok (.if_icmp .ne 7, 3) := by decide +kernel
theorem dX8_takes_32 : decode cX8_takes 32 = .ok (.iconst 1, 1) := by decide +kernel
theorem dX8_takes_33 : decode cX8_takes 33 = .ok (.goto 4, 3) := by decide +kernel
theorem dX8_takes_36 : decode cX8_takes 36 = .ok (.iconst 0, 1) := by decide +kernel
theorem dX8_takes_37 : decode cX8_takes 37 = .ok (.istore_n 2, 1) := by decide +kernel
theorem dX8_takes_38 : decode cX8_takes 38 = .ok (.aload_n 0, 1) := by decide +kernel
theorem dX8_takes_39 : decode cX8_takes 39 = .ok (.dup, 1) := by decide +kernel
theorem dX8_takes_40 : decode cX8_takes 40 = .ok (.getfield 25, 3) := by decide +kernel
theorem dX8_takes_43 : decode cX8_takes 43 = .ok (.iload_n 2, 1) := by decide +kernel
theorem dX8_takes_44 : decode cX8_takes 44 = .ok (.ifCond .eq 20, 3) := by decide +kernel
theorem dX8_takes_47 : decode cX8_takes 47 = .ok (.aload_n 0, 1) := by decide +kernel
theorem dX8_takes_48 : decode cX8_takes 48 = .ok (.getfield 25, 3) := by decide +kernel
theorem dX8_takes_51 : decode cX8_takes 51 = .ok (.iconst 1, 1) := by decide +kernel
theorem dX8_takes_52 : decode cX8_takes 52 = .ok (.iadd, 1) := by decide +kernel
theorem dX8_takes_53 : decode cX8_takes 53 = .ok (.aload_n 0, 1) := by decide +kernel
theorem dX8_takes_54 : decode cX8_takes 54 = .ok (.getfield 22, 3) := by decide +kernel
theorem dX8_takes_57 : decode cX8_takes 57 = .ok (.if_icmp .ge 7, 3) := by decide +kernel
theorem dX8_takes_60 : decode cX8_takes 60 = .ok (.iconst 1, 1) := by decide +kernel
theorem dX8_takes_61 : decode cX8_takes 61 = .ok (.goto 4, 3) := by decide +kernel
theorem dX8_takes_64 : decode cX8_takes 64 = .ok (.iconst 0, 1) := by decide +kernel
theorem dX8_takes_65 : decode cX8_takes 65 = .ok (.iadd, 1) := by decide +kernel
theorem dX8_takes_66 : decode cX8_takes 66 = .ok (.putfield 25, 3) := by decide +kernel
theorem dX8_takes_69 : decode cX8_takes 69 = .ok (.iload_n 2, 1) := by decide +kernel
theorem dX8_takes_70 : decode cX8_takes 70 = .ok (.ireturn, 1) := by decide +kernel
theorem dX8_takeNumber_0 : decode cX8_takeNumber 0 = .ok (.aload_n 0, 1) := by decide +kernel
theorem dX8_takeNumber_1 : decode cX8_takeNumber 1 = .ok (.getfield 9, 3) := by decide +kernel
theorem dX8_takeNumber_4 : decode cX8_takeNumber 4 = .ok (.iconst (-1), 1) := by decide +kernel
theorem dX8_takeNumber_5 : decode cX8_takeNumber 5 = .ok (.if_icmp .ne 26, 3) := by decide +kernel
theorem dX8_takeNumber_8 : decode cX8_takeNumber 8 = .ok (.aload_n 0, 1) := by decide +kernel
theorem dX8_takeNumber_9 : decode cX8_takeNumber 9 = .ok (.getfield 25, 3) := by decide +kernel
theorem dX8_takeNumber_12 : decode cX8_takeNumber 12 = .ok (.aload_n 0, 1) := by decide +kernel
theorem dX8_takeNumber_13 : decode cX8_takeNumber 13 = .ok (.getfield 22, 3) := by decide +kernel
theorem dX8_takeNumber_16 : decode cX8_takeNumber 16 = .ok (.if_icmp .ge 15, 3) := by decide +kernel
theorem dX8_takeNumber_19 : decode cX8_takeNumber 19 = .ok (.aload_n 0, 1) := by decide +kernel
theorem dX8_takeNumber_20 : decode cX8_takeNumber 20 = .ok (.getfield 15, 3) := by decide +kernel
theorem dX8_takeNumber_23 : decode cX8_takeNumber 23 = .ok (.aload_n 0, 1) := by decide +kernel
theorem dX8_takeNumber_24 : decode cX8_takeNumber 24 = .ok (.getfield 25, 3) := by decide +kernel
theorem dX8_takeNumber_27 : decode cX8_takeNumber 27 = .ok (.iaload, 1) := by decide +kernel
theorem dX8_takeNumber_28 : decode cX8_takeNumber 28 = .ok (.goto 4, 3) := by decide +kernel
theorem dX8_takeNumber_31 : decode cX8_takeNumber 31 = .ok (.iconst (-1), 1) := by decide +kernel
theorem dX8_takeNumber_32 : decode cX8_takeNumber 32 = .ok (.istore_n 3, 1) := by decide +kernel
theorem dX8_takeNumber_33 : decode cX8_takeNumber 33 = .ok (.iload_n 3, 1) := by decide +kernel
theorem dX8_takeNumber_34 : decode cX8_takeNumber 34 = .ok (.iload_n 1, 1) := by decide +kernel
theorem dX8_takeNumber_35 : decode cX8_takeNumber 35 = .ok (.if_icmp .lt 8, 3) := by decide +kernel
theorem dX8_takeNumber_38 : decode cX8_takeNumber 38 = .ok (.iload_n 3, 1) := by decide +kernel
theorem dX8_takeNumber_39 : decode cX8_takeNumber 39 = .ok (.iload_n 2, 1) := by decide +kernel
theorem dX8_takeNumber_40 : decode cX8_takeNumber 40 = .ok (.if_icmp .le 9, 3) := by decide +kernel
theorem dX8_takeNumber_43 : decode cX8_takeNumber 43 = .ok (.aload_n 0, 1) := by decide +kernel
theorem dX8_takeNumber_44 : decode cX8_takeNumber 44 = .ok (.invokevirtual 64, 3) := by decide +kernel
theorem dX8_takeNumber_47 : decode cX8_takeNumber 47 = .ok (.iconst (-1), 1) := by decide +kernel
theorem dX8_takeNumber_48 : decode cX8_takeNumber 48 = .ok (.ireturn, 1) := by decide +kernel
theorem dX8_takeNumber_49 : decode cX8_takeNumber 49 = .ok (.aload_n 0, 1) := by decide +kernel
theorem dX8_takeNumber_50 : decode cX8_takeNumber 50 = .ok (.dup, 1) := by decide +kernel
theorem dX8_takeNumber_51 : decode cX8_takeNumber 51 = .ok (.getfield 25, 3) := by decide +kernel
theorem dX8_takeNumber_54 : decode cX8_takeNumber 54 = .ok (.aload_n 0, 1) := by decide +kernel
theorem dX8_takeNumber_55 : decode cX8_takeNumber 55 = .ok (.getfield 25, 3) := by decide +kernel
theorem dX8_takeNumber_58 : decode cX8_takeNumber 58 = .ok (.iconst 1, 1) := by decide +kernel
theorem dX8_takeNumber_59 : decode cX8_takeNumber 59 = .ok (.iadd, 1) := by decide +kernel
theorem dX8_takeNumber_60 : decode cX8_takeNumber 60 = .ok (.aload_n 0, 1) := by decide +kernel
theorem dX8_takeNumber_61 : decode cX8_takeNumber 61 = .ok (.getfield 22, 3) := by decide +kernel
theorem dX8_takeNumber_64 : decode cX8_takeNumber 64 = .ok (.if_icmp .ge 7, 3) := by decide +kernel
theorem dX8_takeNumber_67 : decode cX8_takeNumber 67 = .ok (.iconst 1, 1) := by decide +kernel
theorem dX8_takeNumber_68 : decode cX8_takeNumber 68 = .ok (.goto 4, 3) := by decide +kernel
theorem dX8_takeNumber_71 : decode cX8_takeNumber 71 = .ok (.iconst 0, 1) := by decide +kernel
theorem dX8_takeNumber_72 : decode cX8_takeNumber 72 = .ok (.iadd, 1) := by decide +kernel
theorem dX8_takeNumber_73 : decode cX8_takeNumber 73 = .ok (.putfield 25, 3) := by decide +kernel
theorem dX8_takeNumber_76 : decode cX8_takeNumber 76 = .ok (.iload_n 3, 1) := by decide +kernel
theorem dX8_takeNumber_77 : decode cX8_takeNumber 77 = .ok (.ireturn, 1) := by decide +kernel
theorem dX8_takeAny_0 : decode cX8_takeAny 0 = .ok (.aload_n 0, 1) := by decide +kernel
theorem dX8_takeAny_1 : decode cX8_takeAny 1 = .ok (.getfield 9, 3) := by decide +kernel
theorem dX8_takeAny_4 : decode cX8_takeAny 4 = .ok (.iconst (-1), 1) := by decide +kernel
theorem dX8_takeAny_5 : decode cX8_takeAny 5 = .ok (.if_icmp .ne 26, 3) := by decide +kernel
theorem dX8_takeAny_8 : decode cX8_takeAny 8 = .ok (.aload_n 0, 1) := by decide +kernel
theorem dX8_takeAny_9 : decode cX8_takeAny 9 = .ok (.getfield 25, 3) := by decide +kernel
theorem dX8_takeAny_12 : decode cX8_takeAny 12 = .ok (.aload_n 0, 1) := by decide +kernel
theorem dX8_takeAny_13 : decode cX8_takeAny 13 = .ok (.getfield 22, 3) := by decide +kernel
theorem dX8_takeAny_16 : decode cX8_takeAny 16 = .ok (.if_icmp .ge 15, 3) := by decide +kernel
theorem dX8_takeAny_19 : decode cX8_takeAny 19 = .ok (.aload_n 0, 1) := by decide +kernel
theorem dX8_takeAny_20 : decode cX8_takeAny 20 = .ok (.getfield 15, 3) := by decide +kernel
theorem dX8_takeAny_23 : decode cX8_takeAny 23 = .ok (.aload_n 0, 1) := by decide +kernel
theorem dX8_takeAny_24 : decode cX8_takeAny 24 = .ok (.getfield 25, 3) := by decide +kernel
theorem dX8_takeAny_27 : decode cX8_takeAny 27 = .ok (.iaload, 1) := by decide +kernel
theorem dX8_takeAny_28 : decode cX8_takeAny 28 = .ok (.goto 4, 3) := by decide +kernel
theorem dX8_takeAny_31 : decode cX8_takeAny 31 = .ok (.iconst (-1), 1) := by decide +kernel
theorem dX8_takeAny_32 : decode cX8_takeAny 32 = .ok (.istore_n 3, 1) := by decide +kernel
theorem dX8_takeAny_33 : decode cX8_takeAny 33 = .ok (.iload_n 3, 1) := by decide +kernel
theorem dX8_takeAny_34 : decode cX8_takeAny 34 = .ok (.iload_n 1, 1) := by decide +kernel
theorem dX8_takeAny_35 : decode cX8_takeAny 35 = .ok (.if_icmp .lt 8, 3) := by decide +kernel
theorem dX8_takeAny_38 : decode cX8_takeAny 38 = .ok (.iload_n 3, 1) := by decide +kernel
theorem dX8_takeAny_39 : decode cX8_takeAny 39 = .ok (.iload_n 2, 1) := by decide +kernel
theorem dX8_takeAny_40 : decode cX8_takeAny 40 = .ok (.if_icmp .le 5, 3) := by decide +kernel
theorem dX8_takeAny_43 : decode cX8_takeAny 43 = .ok (.iconst (-1), 1) := by decide +kernel
theorem dX8_takeAny_44 : decode cX8_takeAny 44 = .ok (.ireturn, 1) := by decide +kernel
theorem dX8_takeAny_45 : decode cX8_takeAny 45 = .ok (.aload_n 0, 1) := by decide +kernel
theorem dX8_takeAny_46 : decode cX8_takeAny 46 = .ok (.dup, 1) := by decide +kernel
theorem dX8_takeAny_47 : decode cX8_takeAny 47 = .ok (.getfield 25, 3) := by decide +kernel
theorem dX8_takeAny_50 : decode cX8_takeAny 50 = .ok (.aload_n 0, 1) := by decide +kernel
theorem dX8_takeAny_51 : decode cX8_takeAny 51 = .ok (.getfield 25, 3) := by decide +kernel
theorem dX8_takeAny_54 : decode cX8_takeAny 54 = .ok (.iconst 1, 1) := by decide +kernel
theorem dX8_takeAny_55 : decode cX8_takeAny 55 = .ok (.iadd, 1) := by decide +kernel
theorem dX8_takeAny_56 : decode cX8_takeAny 56 = .ok (.aload_n 0, 1) := by decide +kernel
theorem dX8_takeAny_57 : decode cX8_takeAny 57 = .ok (.getfield 22, 3) := by decide +kernel
theorem dX8_takeAny_60 : decode cX8_takeAny 60 = .ok (.if_icmp .ge 7, 3) := by decide +kernel
theorem dX8_takeAny_63 : decode cX8_takeAny 63 = .ok (.iconst 1, 1) := by decide +kernel
theorem dX8_takeAny_64 : decode cX8_takeAny 64 = .ok (.goto 4, 3) := by decide +kernel
theorem dX8_takeAny_67 : decode cX8_takeAny 67 = .ok (.iconst 0, 1) := by decide +kernel
theorem dX8_takeAny_68 : decode cX8_takeAny 68 = .ok (.iadd, 1) := by decide +kernel
theorem dX8_takeAny_69 : decode cX8_takeAny 69 = .ok (.putfield 25, 3) := by decide +kernel
theorem dX8_takeAny_72 : decode cX8_takeAny 72 = .ok (.iload_n 3, 1) := by decide +kernel
theorem dX8_takeAny_73 : decode cX8_takeAny 73 = .ok (.ireturn, 1) := by decide +kernel
theorem dX8_fail_0 : decode cX8_fail 0 = .ok (.aload_n 0, 1) := by decide +kernel
theorem dX8_fail_1 : decode cX8_fail 1 = .ok (.getfield 9, 3) := by decide +kernel
theorem dX8_fail_4 : decode cX8_fail 4 = .ok (.iconst (-1), 1) := by decide +kernel
theorem dX8_fail_5 : decode cX8_fail 5 = .ok (.if_icmp .ne 27, 3) := by decide +kernel
theorem dX8_fail_8 : decode cX8_fail 8 = .ok (.aload_n 0, 1) := by decide +kernel
theorem dX8_fail_9 : decode cX8_fail 9 = .ok (.getfield 25, 3) := by decide +kernel
theorem dX8_fail_12 : decode cX8_fail 12 = .ok (.aload_n 0, 1) := by decide +kernel
theorem dX8_fail_13 : decode cX8_fail 13 = .ok (.getfield 22, 3) := by decide +kernel
theorem dX8_fail_16 : decode cX8_fail 16 = .ok (.if_icmp .ge 16, 3) := by decide +kernel
theorem dX8_fail_19 : decode cX8_fail 19 = .ok (.aload_n 0, 1) := by decide +kernel
theorem dX8_fail_20 : decode cX8_fail 20 = .ok (.aload_n 0, 1) := by decide +kernel
theorem dX8_fail_21 : decode cX8_fail 21 = .ok (.getfield 19, 3) := by decide +kernel
theorem dX8_fail_24 : decode cX8_fail 24 = .ok (.aload_n 0, 1) := by decide +kernel
theorem dX8_fail_25 : decode cX8_fail 25 = .ok (.getfield 25, 3) := by decide +kernel
theorem dX8_fail_28 : decode cX8_fail 28 = .ok (.iaload, 1) := by decide +kernel
theorem dX8_fail_29 : decode cX8_fail 29 = .ok (.putfield 9, 3) := by decide +kernel
theorem dX8_fail_32 : decode cX8_fail 32 = .ok (.return_, 1) := by decide +kernel
theorem dX9_init_0 : decode cX9_init 0 = .ok (.aload_n 0, 1) := by decide +kernel
theorem dX9_init_1 : decode cX9_init 1 = .ok (.invokespecial 3, 3) := by decide +kernel
theorem dX9_init_4 : decode cX9_init 4 = .ok (.aload_n 0, 1) := by decide +kernel
theorem dX9_init_5 : decode cX9_init 5 = .ok (.new 9, 3) := by decide +kernel
theorem dX9_init_8 : decode cX9_init 8 = .ok (.dup, 1) := by decide +kernel
theorem dX9_init_9 : decode cX9_init 9 = .ok (.invokespecial 11, 3) := by decide +kernel
theorem dX9_init_12 : decode cX9_init 12 = .ok (.putfield 12, 3) := by decide +kernel
theorem dX9_init_15 : decode cX9_init 15 = .ok (.aload_n 0, 1) := by decide +kernel
theorem dX9_init_16 : decode cX9_init 16 = .ok (.bipush 8, 2) := by decide +kernel
theorem dX9_init_18 : decode cX9_init 18 = .ok (.newarray .int, 2) := by decide +kernel
theorem dX9_init_20 : decode cX9_init 20 = .ok (.putfield 18, 3) := by decide +kernel
theorem dX9_init_23 : decode cX9_init 23 = .ok (.return_, 1) := by decide +kernel
theorem dX9_play_0 : decode cX9_play 0 = .ok (.aload_n 0, 1) := by decide +kernel
theorem dX9_play_1 : decode cX9_play 1 = .ok (.getfield 12, 3) := by decide +kernel
theorem dX9_play_4 : decode cX9_play 4 = .ok (.aload_n 1, 1) := by decide +kernel
theorem dX9_play_5 : decode cX9_play 5 = .ok (.invokevirtual 22, 3) := by decide +kernel
theorem dX9_play_8 : decode cX9_play 8 = .ok (.aload_n 0, 1) := by decide +kernel
theorem dX9_play_9 : decode cX9_play 9 = .ok (.getfield 12, 3) := by decide +kernel
theorem dX9_play_12 : decode cX9_play 12 = .ok (.getfield 26, 3) := by decide +kernel
theorem dX9_play_15 : decode cX9_play 15 = .ok (.istore_n 3, 1) := by decide +kernel
theorem dX9_play_16 : decode cX9_play 16 = .ok (.aload_n 0, 1) := by decide +kernel
theorem dX9_play_17 : decode cX9_play 17 = .ok (.aload_n 1, 1) := by decide +kernel
theorem dX9_play_18 : decode cX9_play 18 = .ok (.iload_n 3, 1) := by decide +kernel
theorem dX9_play_19 : decode cX9_play 19 = .ok (.iload_n 2, 1) := by decide +kernel
theorem dX9_play_20 : decode cX9_play 20 = .ok (.invokevirtual 30, 3) := by decide +kernel
theorem dX9_play_23 : decode cX9_play 23 = .ok (.istore 4, 2) := by decide +kernel
theorem dX9_play_25 : decode cX9_play 25 = .ok (.iload 4, 2) := by decide +kernel
theorem dX9_play_27 : decode cX9_play 27 = .ok (.ifCond .ne 10, 3) := by decide +kernel
theorem dX9_play_30 : decode cX9_play 30 = .ok (.aload_n 1, 1) := by decide +kernel
theorem dX9_play_31 : decode cX9_play 31 = .ok (.invokestatic 34, 3) := by decide +kernel
theorem dX9_play_34 : decode cX9_play 34 = .ok (.goto 10, 3) := by decide +kernel
theorem dX9_play_37 : decode cX9_play 37 = .ok (.aload_n 0, 1) := by decide +kernel
theorem dX9_play_38 : decode cX9_play 38 = .ok (.aload_n 1, 1) := by decide +kernel
theorem dX9_play_39 : decode cX9_play 39 = .ok (.iload 4, 2) := by decide +kernel
theorem dX9_play_41 : decode cX9_play 41 = .ok (.invokevirtual 37, 3) := by decide +kernel
theorem dX9_play_44 : decode cX9_play 44 = .ok (.aload_n 0, 1) := by decide +kernel
theorem dX9_play_45 : decode cX9_play 45 = .ok (.aload_n 1, 1) := by decide +kernel
theorem dX9_play_46 : decode cX9_play 46 = .ok (.iload_n 3, 1) := by decide +kernel
theorem dX9_play_47 : decode cX9_play 47 = .ok (.iload 4, 2) := by decide +kernel
theorem dX9_play_49 : decode cX9_play 49 = .ok (.invokevirtual 41, 3) := by decide +kernel
theorem dX9_play_52 : decode cX9_play 52 = .ok (.aload_n 0, 1) := by decide +kernel
theorem dX9_play_53 : decode cX9_play 53 = .ok (.aload_n 1, 1) := by decide +kernel
theorem dX9_play_54 : decode cX9_play 54 = .ok (.iload 4, 2) := by decide +kernel
theorem dX9_play_56 : decode cX9_play 56 = .ok (.invokevirtual 45, 3) := by decide +kernel
theorem dX9_play_59 : decode cX9_play 59 = .ok (.istore 5, 2) := by decide +kernel
theorem dX9_play_61 : decode cX9_play 61 = .ok (.iload 5, 2) := by decide +kernel
theorem dX9_play_63 : decode cX9_play 63 = .ok (.aload_n 1, 1) := by decide +kernel
theorem dX9_play_64 : decode cX9_play 64 = .ok (.iload_n 3, 1) := by decide +kernel
theorem dX9_play_65 : decode cX9_play 65 = .ok (.iload 5, 2) := by decide +kernel
theorem dX9_play_67 : decode cX9_play 67 = .ok (.iconst (-1), 1) := by decide +kernel
theorem dX9_play_68 : decode cX9_play 68 = .ok (.ixor, 1) := by decide +kernel
theorem dX9_play_69 : decode cX9_play 69 = .ok (.iand, 1) := by decide +kernel
theorem dX9_play_70 : decode cX9_play 70 = .ok (.invokestatic 49, 3) := by decide +kernel
theorem dX9_play_73 : decode cX9_play 73 = .ok (.ior, 1) := by decide +kernel
theorem dX9_play_74 : decode cX9_play 74 = .ok (.istore 5, 2) := by decide +kernel
theorem dX9_play_76 : decode cX9_play 76 = .ok (.aload_n 0, 1) := by decide +kernel
theorem dX9_play_77 : decode cX9_play 77 = .ok (.aload_n 1, 1) := by decide +kernel
theorem dX9_play_78 : decode cX9_play 78 = .ok (.iload_n 3, 1) := by decide +kernel
theorem dX9_play_79 : decode cX9_play 79 = .ok (.iload 5, 2) := by decide +kernel
theorem dX9_play_81 : decode cX9_play 81 = .ok (.iconst (-1), 1) := by decide +kernel
theorem dX9_play_82 : decode cX9_play 82 = .ok (.ixor, 1) := by decide +kernel
theorem dX9_play_83 : decode cX9_play 83 = .ok (.iand, 1) := by decide +kernel
theorem dX9_play_84 : decode cX9_play 84 = .ok (.iload 4, 2) := by decide +kernel
theorem dX9_play_86 : decode cX9_play 86 = .ok (.invokevirtual 52, 3) := by decide +kernel
theorem dX9_play_89 : decode cX9_play 89 = .ok (.aload_n 1, 1) := by decide +kernel
theorem dX9_play_90 : decode cX9_play 90 = .ok (.invokestatic 55, 3) := by decide +kernel
theorem dX9_play_93 : decode cX9_play 93 = .ok (.aload_n 1, 1) := by decide +kernel
theorem dX9_play_94 : decode cX9_play 94 = .ok (.sipush 9999, 3) := by decide +kernel
theorem dX9_play_97 : decode cX9_play 97 = .ok (.aload_n 1, 1) := by decide +kernel
theorem dX9_play_98 : decode cX9_play 98 = .ok (.getfield 58, 3) := by decide +kernel
theorem dX9_play_101 : decode cX9_play 101 = .ok (.iconst 1, 1) := by decide +kernel
theorem dX9_play_102 : decode cX9_play 102 = .ok (.iadd, 1) := by decide +kernel
theorem dX9_play_103 : decode cX9_play 103 = .ok (.invokestatic 63, 3) := by decide +kernel
theorem dX9_play_106 : decode cX9_play 106 = .ok (.putfield 58, 3) := by decide +kernel
theorem dX9_play_109 : decode cX9_play 109 = .ok (.iload 5, 2) := by decide +kernel
theorem dX9_play_111 : decode cX9_play 111 = .ok (.invokestatic 69, 3) := by decide +kernel
theorem dX9_play_114 : decode cX9_play 114 = .ok (.ireturn, 1) := by decide +kernel
theorem dX9_sendersOf_0 : decode cX9_sendersOf 0 = .ok (.iconst 0, 1) := by decide +kernel
theorem dX9_sendersOf_1 : decode cX9_sendersOf 1 = .ok (.istore 4, 2) := by decide +kernel
theorem dX9_sendersOf_3 : decode cX9_sendersOf 3 = .ok (.iconst 0, 1) := by decide +kernel
theorem dX9_sendersOf_4 : decode cX9_sendersOf 4 = .ok (.istore 5, 2) := by decide +kernel
theorem dX9_sendersOf_6 : decode cX9_sendersOf 6 = .ok (.iload 5, 2) := by decide +kernel
theorem dX9_sendersOf_8 : decode cX9_sendersOf 8 = .ok (.aload_n 1, 1) := by decide +kernel
