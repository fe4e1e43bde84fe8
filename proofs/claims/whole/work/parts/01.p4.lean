theorem dX12_knownOf_3 : decode cX12_knownOf 3 = .ok (.istore_n 3, 1) := by decide +kernel
theorem dX12_knownOf_4 : decode cX12_knownOf 4 = .ok (.iload_n 3, 1) := by decide +kernel
theorem dX12_knownOf_5 : decode cX12_knownOf 5 = .ok (.aload_n 0, 1) := by decide +kernel
theorem dX12_knownOf_6 : decode cX12_knownOf 6 = .ok (.getfield 7, 3) := by decide +kernel
theorem dX12_knownOf_9 : decode cX12_knownOf 9 = .ok (.iconst 3, 1) := by decide +kernel
theorem dX12_knownOf_10 : decode cX12_knownOf 10 = .ok (.iaload, 1) := by decide +kernel
theorem dX12_knownOf_11 : decode cX12_knownOf 11 = .ok (.if_icmp .ge 32, 3) := by decide +kernel
theorem dX12_knownOf_14 : decode cX12_knownOf 14 = .ok (.iload_n 2, 1) := by decide +kernel
theorem dX12_knownOf_15 : decode cX12_knownOf 15 = .ok (.aload_n 0, 1) := by decide +kernel
theorem dX12_knownOf_16 : decode cX12_knownOf 16 = .ok (.iload_n 3, 1) := by decide +kernel
theorem dX12_knownOf_17 : decode cX12_knownOf 17 = .ok (.iconst 5, 1) := by decide +kernel
theorem dX12_knownOf_18 : decode cX12_knownOf 18 = .ok (.invokevirtual 66, 3) := by decide +kernel
theorem dX12_knownOf_21 : decode cX12_knownOf 21 = .ok (.iload_n 1, 1) := by decide +kernel
theorem dX12_knownOf_22 : decode cX12_knownOf 22 = .ok (.invokestatic 274, 3) := by decide +kernel
theorem dX12_knownOf_25 : decode cX12_knownOf 25 = .ok (.ifCond .eq 9, 3) := by decide +kernel
theorem dX12_knownOf_28 : decode cX12_knownOf 28 = .ok (.iconst 1, 1) := by decide +kernel
theorem dX12_knownOf_29 : decode cX12_knownOf 29 = .ok (.iload_n 3, 1) := by decide +kernel
theorem dX12_knownOf_30 : decode cX12_knownOf 30 = .ok (.ishl, 1) := by decide +kernel
theorem dX12_knownOf_31 : decode cX12_knownOf 31 = .ok (.goto 4, 3) := by decide +kernel
theorem dX12_knownOf_34 : decode cX12_knownOf 34 = .ok (.iconst 0, 1) := by decide +kernel
theorem dX12_knownOf_35 : decode cX12_knownOf 35 = .ok (.ior, 1) := by decide +kernel
theorem dX12_knownOf_36 : decode cX12_knownOf 36 = .ok (.istore_n 2, 1) := by decide +kernel
theorem dX12_knownOf_37 : decode cX12_knownOf 37 = .ok (.iinc 3 1, 3) := by decide +kernel
theorem dX12_knownOf_40 : decode cX12_knownOf 40 = .ok (.goto (-36), 3) := by decide +kernel
theorem dX12_knownOf_43 : decode cX12_knownOf 43 = .ok (.iload_n 2, 1) := by decide +kernel
theorem dX12_knownOf_44 : decode cX12_knownOf 44 = .ok (.ireturn, 1) := by decide +kernel
theorem dX12_node_0 : decode cX12_node 0 = .ok (.aload_n 0, 1) := by decide +kernel
theorem dX12_node_1 : decode cX12_node 1 = .ok (.aload_n 0, 1) := by decide +kernel
theorem dX12_node_2 : decode cX12_node 2 = .ok (.iload_n 1, 1) := by decide +kernel
theorem dX12_node_3 : decode cX12_node 3 = .ok (.invokevirtual 347, 3) := by decide +kernel
theorem dX12_node_6 : decode cX12_node 6 = .ok (.ifCond .ne 7, 3) := by decide +kernel
theorem dX12_node_9 : decode cX12_node 9 = .ok (.iconst 1, 1) := by decide +kernel
theorem dX12_node_10 : decode cX12_node 10 = .ok (.goto 18, 3) := by decide +kernel
theorem dX12_node_13 : decode cX12_node 13 = .ok (.iload_n 2, 1) := by decide +kernel
theorem dX12_node_14 : decode cX12_node 14 = .ok (.iconst 0, 1) := by decide +kernel
theorem dX12_node_15 : decode cX12_node 15 = .ok (.bipush 17, 2) := by decide +kernel
theorem dX12_node_17 : decode cX12_node 17 = .ok (.invokestatic 62, 3) := by decide +kernel
theorem dX12_node_20 : decode cX12_node 20 = .ok (.ifCond .ne 7, 3) := by decide +kernel
theorem dX12_node_23 : decode cX12_node 23 = .ok (.iconst 2, 1) := by decide +kernel
theorem dX12_node_24 : decode cX12_node 24 = .ok (.goto 4, 3) := by decide +kernel
theorem dX12_node_27 : decode cX12_node 27 = .ok (.iconst 0, 1) := by decide +kernel
theorem dX12_node_28 : decode cX12_node 28 = .ok (.putfield 59, 3) := by decide +kernel
theorem dX12_node_31 : decode cX12_node 31 = .ok (.aload_n 0, 1) := by decide +kernel
theorem dX12_node_32 : decode cX12_node 32 = .ok (.getfield 59, 3) := by decide +kernel
theorem dX12_node_35 : decode cX12_node 35 = .ok (.ifCond .le 5, 3) := by decide +kernel
theorem dX12_node_38 : decode cX12_node 38 = .ok (.iconst 0, 1) := by decide +kernel
theorem dX12_node_39 : decode cX12_node 39 = .ok (.ireturn, 1) := by decide +kernel
theorem dX12_node_40 : decode cX12_node 40 = .ok (.iload_n 2, 1) := by decide +kernel
theorem dX12_node_41 : decode cX12_node 41 = .ok (.bipush 11, 2) := by decide +kernel
theorem dX12_node_43 : decode cX12_node 43 = .ok (.if_icmp .ge 10, 3) := by decide +kernel
theorem dX12_node_46 : decode cX12_node 46 = .ok (.aload_n 0, 1) := by decide +kernel
theorem dX12_node_47 : decode cX12_node 47 = .ok (.iload_n 1, 1) := by decide +kernel
theorem dX12_node_48 : decode cX12_node 48 = .ok (.iload_n 2, 1) := by decide +kernel
theorem dX12_node_49 : decode cX12_node 49 = .ok (.invokevirtual 66, 3) := by decide +kernel
theorem dX12_node_52 : decode cX12_node 52 = .ok (.ireturn, 1) := by decide +kernel
theorem dX12_node_53 : decode cX12_node 53 = .ok (.iload_n 2, 1) := by decide +kernel
theorem dX12_node_54 : decode cX12_node 54 = .ok (.bipush 14, 2) := by decide +kernel
theorem dX12_node_56 : decode cX12_node 56 = .ok (.if_icmp .ne 17, 3) := by decide +kernel
theorem dX12_node_59 : decode cX12_node 59 = .ok (.aload_n 0, 1) := by decide +kernel
theorem dX12_node_60 : decode cX12_node 60 = .ok (.iload_n 1, 1) := by decide +kernel
theorem dX12_node_61 : decode cX12_node 61 = .ok (.invokevirtual 271, 3) := by decide +kernel
theorem dX12_node_64 : decode cX12_node 64 = .ok (.ifCond .eq 7, 3) := by decide +kernel
theorem dX12_node_67 : decode cX12_node 67 = .ok (.iconst 1, 1) := by decide +kernel
theorem dX12_node_68 : decode cX12_node 68 = .ok (.goto 4, 3) := by decide +kernel
theorem dX12_node_71 : decode cX12_node 71 = .ok (.iconst 0, 1) := by decide +kernel
theorem dX12_node_72 : decode cX12_node 72 = .ok (.ireturn, 1) := by decide +kernel
theorem dX12_node_73 : decode cX12_node 73 = .ok (.iload_n 2, 1) := by decide +kernel
theorem dX12_node_74 : decode cX12_node 74 = .ok (.bipush 15, 2) := by decide +kernel
theorem dX12_node_76 : decode cX12_node 76 = .ok (.if_icmp .ne 9, 3) := by decide +kernel
theorem dX12_node_79 : decode cX12_node 79 = .ok (.aload_n 0, 1) := by decide +kernel
theorem dX12_node_80 : decode cX12_node 80 = .ok (.iload_n 1, 1) := by decide +kernel
theorem dX12_node_81 : decode cX12_node 81 = .ok (.invokevirtual 350, 3) := by decide +kernel
theorem dX12_node_84 : decode cX12_node 84 = .ok (.ireturn, 1) := by decide +kernel
theorem dX12_node_85 : decode cX12_node 85 = .ok (.iload_n 2, 1) := by decide +kernel
theorem dX12_node_86 : decode cX12_node 86 = .ok (.bipush 16, 2) := by decide +kernel
theorem dX12_node_88 : decode cX12_node 88 = .ok (.if_icmp .ne 9, 3) := by decide +kernel
theorem dX12_node_91 : decode cX12_node 91 = .ok (.aload_n 0, 1) := by decide +kernel
theorem dX12_node_92 : decode cX12_node 92 = .ok (.iload_n 1, 1) := by decide +kernel
theorem dX12_node_93 : decode cX12_node 93 = .ok (.invokevirtual 353, 3) := by decide +kernel
theorem dX12_node_96 : decode cX12_node 96 = .ok (.ireturn, 1) := by decide +kernel
theorem dX12_node_97 : decode cX12_node 97 = .ok (.iload_n 2, 1) := by decide +kernel
theorem dX12_node_98 : decode cX12_node 98 = .ok (.bipush 17, 2) := by decide +kernel
theorem dX12_node_100 : decode cX12_node 100 = .ok (.if_icmp .ne 9, 3) := by decide +kernel
theorem dX12_node_103 : decode cX12_node 103 = .ok (.aload_n 0, 1) := by decide +kernel
theorem dX12_node_104 : decode cX12_node 104 = .ok (.iload_n 1, 1) := by decide +kernel
theorem dX12_node_105 : decode cX12_node 105 = .ok (.invokevirtual 356, 3) := by decide +kernel
theorem dX12_node_108 : decode cX12_node 108 = .ok (.ireturn, 1) := by decide +kernel
theorem dX12_node_109 : decode cX12_node 109 = .ok (.aload_n 0, 1) := by decide +kernel
theorem dX12_node_110 : decode cX12_node 110 = .ok (.iload_n 1, 1) := by decide +kernel
theorem dX12_node_111 : decode cX12_node 111 = .ok (.invokevirtual 253, 3) := by decide +kernel
theorem dX12_node_114 : decode cX12_node 114 = .ok (.iload_n 2, 1) := by decide +kernel
theorem dX12_node_115 : decode cX12_node 115 = .ok (.bipush 11, 2) := by decide +kernel
theorem dX12_node_117 : decode cX12_node 117 = .ok (.if_icmp .ne 10, 3) := by decide +kernel
theorem dX12_node_120 : decode cX12_node 120 = .ok (.aload_n 0, 1) := by decide +kernel
theorem dX12_node_121 : decode cX12_node 121 = .ok (.getfield 240, 3) := by decide +kernel
theorem dX12_node_124 : decode cX12_node 124 = .ok (.goto 20, 3) := by decide +kernel
theorem dX12_node_127 : decode cX12_node 127 = .ok (.iload_n 2, 1) := by decide +kernel
theorem dX12_node_128 : decode cX12_node 128 = .ok (.bipush 12, 2) := by decide +kernel
theorem dX12_node_130 : decode cX12_node 130 = .ok (.if_icmp .ne 10, 3) := by decide +kernel
theorem dX12_node_133 : decode cX12_node 133 = .ok (.aload_n 0, 1) := by decide +kernel
theorem dX12_node_134 : decode cX12_node 134 = .ok (.getfield 242, 3) := by decide +kernel
theorem dX12_node_137 : decode cX12_node 137 = .ok (.goto 7, 3) := by decide +kernel
theorem dX12_node_140 : decode cX12_node 140 = .ok (.aload_n 0, 1) := by decide +kernel
theorem dX12_node_141 : decode cX12_node 141 = .ok (.getfield 245, 3) := by decide +kernel
theorem dX12_node_144 : decode cX12_node 144 = .ok (.ireturn, 1) := by decide +kernel
theorem dX12_areTwo_0 : decode cX12_areTwo 0 = .ok (.aload_n 0, 1) := by decide +kernel
theorem dX12_areTwo_1 : decode cX12_areTwo 1 = .ok (.aload_n 0, 1) := by decide +kernel
theorem dX12_areTwo_2 : decode cX12_areTwo 2 = .ok (.iload_n 1, 1) := by decide +kernel
theorem dX12_areTwo_3 : decode cX12_areTwo 3 = .ok (.invokevirtual 347, 3) := by decide +kernel
theorem dX12_areTwo_6 : decode cX12_areTwo 6 = .ok (.ifCond .eq 11, 3) := by decide +kernel
theorem dX12_areTwo_9 : decode cX12_areTwo 9 = .ok (.aload_n 0, 1) := by decide +kernel
theorem dX12_areTwo_10 : decode cX12_areTwo 10 = .ok (.iload_n 2, 1) := by decide +kernel
theorem dX12_areTwo_11 : decode cX12_areTwo 11 = .ok (.invokevirtual 347, 3) := by decide +kernel
theorem dX12_areTwo_14 : decode cX12_areTwo 14 = .ok (.ifCond .ne 7, 3) := by decide +kernel
theorem dX12_areTwo_17 : decode cX12_areTwo 17 = .ok (.iconst 1, 1) := by decide +kernel
theorem dX12_areTwo_18 : decode cX12_areTwo 18 = .ok (.goto 13, 3) := by decide +kernel
theorem dX12_areTwo_21 : decode cX12_areTwo 21 = .ok (.iload_n 1, 1) := by decide +kernel
theorem dX12_areTwo_22 : decode cX12_areTwo 22 = .ok (.iload_n 2, 1) := by decide +kernel
theorem dX12_areTwo_23 : decode cX12_areTwo 23 = .ok (.if_icmp .ne 7, 3) := by decide +kernel
theorem dX12_areTwo_26 : decode cX12_areTwo 26 = .ok (.iconst 2, 1) := by decide +kernel
theorem dX12_areTwo_27 : decode cX12_areTwo 27 = .ok (.goto 4, 3) := by decide +kernel
theorem dX12_areTwo_30 : decode cX12_areTwo 30 = .ok (.iconst 0, 1) := by decide +kernel
theorem dX12_areTwo_31 : decode cX12_areTwo 31 = .ok (.putfield 59, 3) := by decide +kernel
theorem dX12_areTwo_34 : decode cX12_areTwo 34 = .ok (.return_, 1) := by decide +kernel
theorem dX12_shift_0 : decode cX12_shift 0 = .ok (.aload_n 0, 1) := by decide +kernel
theorem dX12_shift_1 : decode cX12_shift 1 = .ok (.iload_n 1, 1) := by decide +kernel
theorem dX12_shift_2 : decode cX12_shift 2 = .ok (.iload_n 2, 1) := by decide +kernel
theorem dX12_shift_3 : decode cX12_shift 3 = .ok (.invokevirtual 359, 3) := by decide +kernel
theorem dX12_shift_6 : decode cX12_shift 6 = .ok (.aload_n 0, 1) := by decide +kernel
theorem dX12_shift_7 : decode cX12_shift 7 = .ok (.getfield 59, 3) := by decide +kernel
theorem dX12_shift_10 : decode cX12_shift 10 = .ok (.ifCond .le 7, 3) := by decide +kernel
theorem dX12_shift_13 : decode cX12_shift 13 = .ok (.iconst 0, 1) := by decide +kernel
theorem dX12_shift_14 : decode cX12_shift 14 = .ok (.goto 9, 3) := by decide +kernel
theorem dX12_shift_17 : decode cX12_shift 17 = .ok (.aload_n 0, 1) := by decide +kernel
theorem dX12_shift_18 : decode cX12_shift 18 = .ok (.iload_n 1, 1) := by decide +kernel
theorem dX12_shift_19 : decode cX12_shift 19 = .ok (.iload_n 2, 1) := by decide +kernel
theorem dX12_shift_20 : decode cX12_shift 20 = .ok (.invokevirtual 265, 3) := by decide +kernel
theorem dX12_shift_23 : decode cX12_shift 23 = .ok (.ireturn, 1) := by decide +kernel
theorem dX12_hears_0 : decode cX12_hears 0 = .ok (.aload_n 0, 1) := by decide +kernel
theorem dX12_hears_1 : decode cX12_hears 1 = .ok (.iload_n 1, 1) := by decide +kernel
theorem dX12_hears_2 : decode cX12_hears 2 = .ok (.iload_n 2, 1) := by decide +kernel
theorem dX12_hears_3 : decode cX12_hears 3 = .ok (.invokevirtual 359, 3) := by decide +kernel
theorem dX12_hears_6 : decode cX12_hears 6 = .ok (.aload_n 0, 1) := by decide +kernel
theorem dX12_hears_7 : decode cX12_hears 7 = .ok (.getfield 59, 3) := by decide +kernel
theorem dX12_hears_10 : decode cX12_hears 10 = .ok (.ifCond .ne 16, 3) := by decide +kernel
theorem dX12_hears_13 : decode cX12_hears 13 = .ok (.aload_n 0, 1) := by decide +kernel
theorem dX12_hears_14 : decode cX12_hears 14 = .ok (.iload_n 1, 1) := by decide +kernel
theorem dX12_hears_15 : decode cX12_hears 15 = .ok (.iload_n 2, 1) := by decide +kernel
theorem dX12_hears_16 : decode cX12_hears 16 = .ok (.invokevirtual 341, 3) := by decide +kernel
theorem dX12_hears_19 : decode cX12_hears 19 = .ok (.ifCond .eq 7, 3) := by decide +kernel
theorem dX12_hears_22 : decode cX12_hears 22 = .ok (.iconst 1, 1) := by decide +kernel
theorem dX12_hears_23 : decode cX12_hears 23 = .ok (.goto 4, 3) := by decide +kernel
theorem dX12_hears_26 : decode cX12_hears 26 = .ok (.iconst 0, 1) := by decide +kernel
theorem dX12_hears_27 : decode cX12_hears 27 = .ok (.ireturn, 1) := by decide +kernel
theorem dX12_remembers_0 : decode cX12_remembers 0 = .ok (.aload_n 0, 1) := by decide +kernel
theorem dX12_remembers_1 : decode cX12_remembers 1 = .ok (.getfield 190, 3) := by decide +kernel
theorem dX12_remembers_4 : decode cX12_remembers 4 = .ok (.bipush 12, 2) := by decide +kernel
theorem dX12_remembers_6 : decode cX12_remembers 6 = .ok (.if_icmp .ne 44, 3) := by decide +kernel
theorem dX12_remembers_9 : decode cX12_remembers 9 = .ok (.iconst 0, 1) := by decide +kernel
theorem dX12_remembers_10 : decode cX12_remembers 10 = .ok (.istore_n 1, 1) := by decide +kernel
theorem dX12_remembers_11 : decode cX12_remembers 11 = .ok (.iload_n 1, 1) := by decide +kernel
theorem dX12_remembers_12 : decode cX12_remembers 12 = .ok (.sipush 3707, 3) := by decide +kernel
theorem dX12_remembers_15 : decode cX12_remembers 15 = .ok (.if_icmp .ge 25, 3) := by decide +kernel
theorem dX12_remembers_18 : decode cX12_remembers 18 = .ok (.aload_n 0, 1) := by decide +kernel
theorem dX12_remembers_19 : decode cX12_remembers 19 = .ok (.getfield 19, 3) := by decide +kernel
theorem dX12_remembers_22 : decode cX12_remembers 22 = .ok (.iload_n 1, 1) := by decide +kernel
theorem dX12_remembers_23 : decode cX12_remembers 23 = .ok (.aload_n 0, 1) := by decide +kernel
theorem dX12_remembers_24 : decode cX12_remembers 24 = .ok (.getfield 19, 3) := by decide +kernel
theorem dX12_remembers_27 : decode cX12_remembers 27 = .ok (.iload_n 1, 1) := by decide +kernel
theorem dX12_remembers_28 : decode cX12_remembers 28 = .ok (.sipush 337, 3) := by decide +kernel
theorem dX12_remembers_31 : decode cX12_remembers 31 = .ok (.iadd, 1) := by decide +kernel
theorem dX12_remembers_32 : decode cX12_remembers 32 = .ok (.iaload, 1) := by decide +kernel
theorem dX12_remembers_33 : decode cX12_remembers 33 = .ok (.iastore, 1) := by decide +kernel
theorem dX12_remembers_34 : decode cX12_remembers 34 = .ok (.iinc 1 1, 3) := by decide +kernel
theorem dX12_remembers_37 : decode cX12_remembers 37 = .ok (.goto (-26), 3) := by decide +kernel
theorem dX12_remembers_40 : decode cX12_remembers 40 = .ok (.aload_n 0, 1) := by decide +kernel
theorem dX12_remembers_41 : decode cX12_remembers 41 = .ok (.dup, 1) := by decide +kernel
theorem dX12_remembers_42 : decode cX12_remembers 42 = .ok (.getfield 190, 3) := by decide +kernel
theorem dX12_remembers_45 : decode cX12_remembers 45 = .ok (.iconst 1, 1) := by decide +kernel
theorem dX12_remembers_46 : decode cX12_remembers 46 = .ok (.isub, 1) := by decide +kernel
theorem dX12_remembers_47 : decode cX12_remembers 47 = .ok (.putfield 190, 3) := by decide +kernel
theorem dX12_remembers_50 : decode cX12_remembers 50 = .ok (.iconst 0, 1) := by decide +kernel
theorem dX12_remembers_51 : decode cX12_remembers 51 = .ok (.istore_n 1, 1) := by decide +kernel
theorem dX12_remembers_52 : decode cX12_remembers 52 = .ok (.iload_n 1, 1) := by decide +kernel
theorem dX12_remembers_53 : decode cX12_remembers 53 = .ok (.sipush 337, 3) := by decide +kernel
theorem dX12_remembers_56 : decode cX12_remembers 56 = .ok (.if_icmp .ge 30, 3) := by decide +kernel
theorem dX12_remembers_59 : decode cX12_remembers 59 = .ok (.aload_n 0, 1) := by decide +kernel
theorem dX12_remembers_60 : decode cX12_remembers 60 = .ok (.getfield 19, 3) := by decide +kernel
theorem dX12_remembers_63 : decode cX12_remembers 63 = .ok (.sipush 337, 3) := by decide +kernel
theorem dX12_remembers_66 : decode cX12_remembers 66 = .ok (.aload_n 0, 1) := by decide +kernel
theorem dX12_remembers_67 : decode cX12_remembers 67 = .ok (.getfield 190, 3) := by decide +kernel
theorem dX12_remembers_70 : decode cX12_remembers 70 = .ok (.imul, 1) := by decide +kernel
theorem dX12_remembers_71 : decode cX12_remembers 71 = .ok (.iload_n 1, 1) := by decide +kernel
theorem dX12_remembers_72 : decode cX12_remembers 72 = .ok (.iadd, 1) := by decide +kernel
theorem dX12_remembers_73 : decode cX12_remembers 73 = .ok (.aload_n 0, 1) := by decide +kernel
theorem dX12_remembers_74 : decode cX12_remembers 74 = .ok (.getfield 7, 3) := by decide +kernel
theorem dX12_remembers_77 : decode cX12_remembers 77 = .ok (.iload_n 1, 1) := by decide +kernel
theorem dX12_remembers_78 : decode cX12_remembers 78 = .ok (.iaload, 1) := by decide +kernel
theorem dX12_remembers_79 : decode cX12_remembers 79 = .ok (.iastore, 1) := by decide +kernel
theorem dX12_remembers_80 : decode cX12_remembers 80 = .ok (.iinc 1 1, 3) := by decide +kernel
theorem dX12_remembers_83 : decode cX12_remembers 83 = .ok (.goto (-31), 3) := by decide +kernel
theorem dX12_remembers_86 : decode cX12_remembers 86 = .ok (.aload_n 0, 1) := by decide +kernel
theorem dX12_remembers_87 : decode cX12_remembers 87 = .ok (.dup, 1) := by decide +kernel
theorem dX12_remembers_88 : decode cX12_remembers 88 = .ok (.getfield 190, 3) := by decide +kernel
theorem dX12_remembers_91 : decode cX12_remembers 91 = .ok (.iconst 1, 1) := by decide +kernel
theorem dX12_remembers_92 : decode cX12_remembers 92 = .ok (.iadd, 1) := by decide +kernel
theorem dX12_remembers_93 : decode cX12_remembers 93 = .ok (.putfield 190, 3) := by decide +kernel
theorem dX12_remembers_96 : decode cX12_remembers 96 = .ok (.return_, 1) := by decide +kernel
theorem dX12_sets_0 : decode cX12_sets 0 = .ok (.aload_n 0, 1) := by decide +kernel
theorem dX12_sets_1 : decode cX12_sets 1 = .ok (.invokevirtual 362, 3) := by decide +kernel
theorem dX12_sets_4 : decode cX12_sets 4 = .ok (.aload_n 0, 1) := by decide +kernel
theorem dX12_sets_5 : decode cX12_sets 5 = .ok (.getfield 7, 3) := by decide +kernel
theorem dX12_sets_8 : decode cX12_sets 8 = .ok (.iload_n 1, 1) := by decide +kernel
theorem dX12_sets_9 : decode cX12_sets 9 = .ok (.iaload, 1) := by decide +kernel
theorem dX12_sets_10 : decode cX12_sets 10 = .ok (.istore_n 3, 1) := by decide +kernel
theorem dX12_sets_11 : decode cX12_sets 11 = .ok (.aload_n 0, 1) := by decide +kernel
theorem dX12_sets_12 : decode cX12_sets 12 = .ok (.getfield 7, 3) := by decide +kernel
theorem dX12_sets_15 : decode cX12_sets 15 = .ok (.iload_n 1, 1) := by decide +kernel
theorem dX12_sets_16 : decode cX12_sets 16 = .ok (.iload_n 2, 1) := by decide +kernel
theorem dX12_sets_17 : decode cX12_sets 17 = .ok (.iastore, 1) := by decide +kernel
theorem dX12_sets_18 : decode cX12_sets 18 = .ok (.iload_n 3, 1) := by decide +kernel
theorem dX12_sets_19 : decode cX12_sets 19 = .ok (.ireturn, 1) := by decide +kernel
theorem dX12_rounds_0 : decode cX12_rounds 0 = .ok (.aload_n 0, 1) := by decide +kernel
theorem dX12_rounds_1 : decode cX12_rounds 1 = .ok (.iload_n 1, 1) := by decide +kernel
theorem dX12_rounds_2 : decode cX12_rounds 2 = .ok (.iconst 1, 1) := by decide +kernel
theorem dX12_rounds_3 : decode cX12_rounds 3 = .ok (.bipush 60, 2) := by decide +kernel
theorem dX12_rounds_5 : decode cX12_rounds 5 = .ok (.invokestatic 62, 3) := by decide +kernel
theorem dX12_rounds_8 : decode cX12_rounds 8 = .ok (.ifCond .ne 7, 3) := by decide +kernel
theorem dX12_rounds_11 : decode cX12_rounds 11 = .ok (.iconst 1, 1) := by decide +kernel
theorem dX12_rounds_12 : decode cX12_rounds 12 = .ok (.goto 4, 3) := by decide +kernel
theorem dX12_rounds_15 : decode cX12_rounds 15 = .ok (.iconst 0, 1) := by decide +kernel
theorem dX12_rounds_16 : decode cX12_rounds 16 = .ok (.putfield 59, 3) := by decide +kernel
theorem dX12_rounds_19 : decode cX12_rounds 19 = .ok (.aload_n 0, 1) := by decide +kernel
theorem dX12_rounds_20 : decode cX12_rounds 20 = .ok (.getfield 59, 3) := by decide +kernel
theorem dX12_rounds_23 : decode cX12_rounds 23 = .ok (.ifCond .le 5, 3) := by decide +kernel
theorem dX12_rounds_26 : decode cX12_rounds 26 = .ok (.iconst 0, 1) := by decide +kernel
theorem dX12_rounds_27 : decode cX12_rounds 27 = .ok (.ireturn, 1) := by decide +kernel
theorem dX12_rounds_28 : decode cX12_rounds 28 = .ok (.aload_n 0, 1) := by decide +kernel
theorem dX12_rounds_29 : decode cX12_rounds 29 = .ok (.invokevirtual 362, 3) := by decide +kernel
theorem dX12_rounds_32 : decode cX12_rounds 32 = .ok (.aload_n 0, 1) := by decide +kernel
theorem dX12_rounds_33 : decode cX12_rounds 33 = .ok (.iload_n 1, 1) := by decide +kernel
theorem dX12_rounds_34 : decode cX12_rounds 34 = .ok (.iconst 1, 1) := by decide +kernel
theorem dX12_rounds_35 : decode cX12_rounds 35 = .ok (.invokevirtual 365, 3) := by decide +kernel
theorem dX12_rounds_38 : decode cX12_rounds 38 = .ok (.ireturn, 1) := by decide +kernel
theorem dX12_add_0 : decode cX12_add 0 = .ok (.aload_n 0, 1) := by decide +kernel
theorem dX12_add_1 : decode cX12_add 1 = .ok (.iload_n 1, 1) := by decide +kernel
theorem dX12_add_2 : decode cX12_add 2 = .ok (.bipush (-9), 2) := by decide +kernel
theorem dX12_add_4 : decode cX12_add 4 = .ok (.bipush 9, 2) := by decide +kernel
theorem dX12_add_6 : decode cX12_add 6 = .ok (.invokestatic 62, 3) := by decide +kernel
theorem dX12_add_9 : decode cX12_add 9 = .ok (.ifCond .ne 7, 3) := by decide +kernel
theorem dX12_add_12 : decode cX12_add 12 = .ok (.iconst 1, 1) := by decide +kernel
theorem dX12_add_13 : decode cX12_add 13 = .ok (.goto 19, 3) := by decide +kernel
theorem dX12_add_16 : decode cX12_add 16 = .ok (.aload_n 0, 1) := by decide +kernel
theorem dX12_add_17 : decode cX12_add 17 = .ok (.getfield 7, 3) := by decide +kernel
theorem dX12_add_20 : decode cX12_add 20 = .ok (.iconst 3, 1) := by decide +kernel
theorem dX12_add_21 : decode cX12_add 21 = .ok (.iaload, 1) := by decide +kernel
theorem dX12_add_22 : decode cX12_add 22 = .ok (.bipush 8, 2) := by decide +kernel
theorem dX12_add_24 : decode cX12_add 24 = .ok (.if_icmp .ne 7, 3) := by decide +kernel
theorem dX12_add_27 : decode cX12_add 27 = .ok (.iconst 2, 1) := by decide +kernel
theorem dX12_add_28 : decode cX12_add 28 = .ok (.goto 4, 3) := by decide +kernel
theorem dX12_add_31 : decode cX12_add 31 = .ok (.iconst 0, 1) := by decide +kernel
theorem dX12_add_32 : decode cX12_add 32 = .ok (.putfield 59, 3) := by decide +kernel
theorem dX12_add_35 : decode cX12_add 35 = .ok (.aload_n 0, 1) := by decide +kernel
theorem dX12_add_36 : decode cX12_add 36 = .ok (.getfield 59, 3) := by decide +kernel
theorem dX12_add_39 : decode cX12_add 39 = .ok (.ifCond .le 5, 3) := by decide +kernel
theorem dX12_add_42 : decode cX12_add 42 = .ok (.iconst 0, 1) := by decide +kernel
theorem dX12_add_43 : decode cX12_add 43 = .ok (.ireturn, 1) := by decide +kernel
theorem dX12_add_44 : decode cX12_add 44 = .ok (.aload_n 0, 1) := by decide +kernel
theorem dX12_add_45 : decode cX12_add 45 = .ok (.invokevirtual 362, 3) := by decide +kernel
theorem dX12_add_48 : decode cX12_add 48 = .ok (.aload_n 0, 1) := by decide +kernel
theorem dX12_add_49 : decode cX12_add 49 = .ok (.iload_n 1, 1) := by decide +kernel
theorem dX12_add_50 : decode cX12_add 50 = .ok (.invokevirtual 143, 3) := by decide +kernel
theorem dX12_add_53 : decode cX12_add 53 = .ok (.aload_n 0, 1) := by decide +kernel
theorem dX12_add_54 : decode cX12_add 54 = .ok (.getfield 7, 3) := by decide +kernel
theorem dX12_add_57 : decode cX12_add 57 = .ok (.iconst 3, 1) := by decide +kernel
theorem dX12_add_58 : decode cX12_add 58 = .ok (.iaload, 1) := by decide +kernel
theorem dX12_add_59 : decode cX12_add 59 = .ok (.iconst 1, 1) := by decide +kernel
theorem dX12_add_60 : decode cX12_add 60 = .ok (.isub, 1) := by decide +kernel
theorem dX12_add_61 : decode cX12_add 61 = .ok (.ireturn, 1) := by decide +kernel
theorem dX12_power_0 : decode cX12_power 0 = .ok (.aload_n 0, 1) := by decide +kernel
theorem dX12_power_1 : decode cX12_power 1 = .ok (.aload_n 0, 1) := by decide +kernel
theorem dX12_power_2 : decode cX12_power 2 = .ok (.iload_n 1, 1) := by decide +kernel
theorem dX12_power_3 : decode cX12_power 3 = .ok (.invokevirtual 347, 3) := by decide +kernel
theorem dX12_power_6 : decode cX12_power 6 = .ok (.ifCond .ne 7, 3) := by decide +kernel
theorem dX12_power_9 : decode cX12_power 9 = .ok (.iconst 1, 1) := by decide +kernel
theorem dX12_power_10 : decode cX12_power 10 = .ok (.goto 4, 3) := by decide +kernel
theorem dX12_power_13 : decode cX12_power 13 = .ok (.iconst 0, 1) := by decide +kernel
theorem dX12_power_14 : decode cX12_power 14 = .ok (.putfield 59, 3) := by decide +kernel
theorem dX12_power_17 : decode cX12_power 17 = .ok (.aload_n 0, 1) := by decide +kernel
theorem dX12_power_18 : decode cX12_power 18 = .ok (.getfield 59, 3) := by decide +kernel
theorem dX12_power_21 : decode cX12_power 21 = .ok (.ifCond .le 5, 3) := by decide +kernel
theorem dX12_power_24 : decode cX12_power 24 = .ok (.iconst 0, 1) := by decide +kernel
theorem dX12_power_25 : decode cX12_power 25 = .ok (.ireturn, 1) := by decide +kernel
theorem dX12_power_26 : decode cX12_power 26 = .ok (.aload_n 0, 1) := by decide +kernel
theorem dX12_power_27 : decode cX12_power 27 = .ok (.iload_n 1, 1) := by decide +kernel
theorem dX12_power_28 : decode cX12_power 28 = .ok (.iconst 3, 1) := by decide +kernel
theorem dX12_power_29 : decode cX12_power 29 = .ok (.invokevirtual 66, 3) := by decide +kernel
theorem dX12_power_32 : decode cX12_power 32 = .ok (.istore_n 3, 1) := by decide +kernel
theorem dX12_power_33 : decode cX12_power 33 = .ok (.aload_n 0, 1) := by decide +kernel
theorem dX12_power_34 : decode cX12_power 34 = .ok (.iload_n 2, 1) := by decide +kernel
theorem dX12_power_35 : decode cX12_power 35 = .ok (.ifCond .eq 13, 3) := by decide +kernel
theorem dX12_power_38 : decode cX12_power 38 = .ok (.iload_n 3, 1) := by decide +kernel
theorem dX12_power_39 : decode cX12_power 39 = .ok (.iconst 1, 1) := by decide +kernel
theorem dX12_power_40 : decode cX12_power 40 = .ok (.if_icmp .eq 16, 3) := by decide +kernel
theorem dX12_power_43 : decode cX12_power 43 = .ok (.iload_n 3, 1) := by decide +kernel
theorem dX12_power_44 : decode cX12_power 44 = .ok (.iconst 2, 1) := by decide +kernel
theorem dX12_power_45 : decode cX12_power 45 = .ok (.if_icmp .eq 11, 3) := by decide +kernel
theorem dX12_power_48 : decode cX12_power 48 = .ok (.iload_n 2, 1) := by decide +kernel
theorem dX12_power_49 : decode cX12_power 49 = .ok (.ifCond .ne 11, 3) := by decide +kernel
theorem dX12_power_52 : decode cX12_power 52 = .ok (.iload_n 3, 1) := by decide +kernel
theorem dX12_power_53 : decode cX12_power 53 = .ok (.ifCond .ne 7, 3) := by decide +kernel
theorem dX12_power_56 : decode cX12_power 56 = .ok (.iconst 2, 1) := by decide +kernel
theorem dX12_power_57 : decode cX12_power 57 = .ok (.goto 4, 3) := by decide +kernel
theorem dX12_power_60 : decode cX12_power 60 = .ok (.iconst 0, 1) := by decide +kernel
theorem dX12_power_61 : decode cX12_power 61 = .ok (.putfield 59, 3) := by decide +kernel
theorem dX12_power_64 : decode cX12_power 64 = .ok (.aload_n 0, 1) := by decide +kernel
theorem dX12_power_65 : decode cX12_power 65 = .ok (.getfield 59, 3) := by decide +kernel
theorem dX12_power_68 : decode cX12_power 68 = .ok (.ifCond .le 5, 3) := by decide +kernel
theorem dX12_power_71 : decode cX12_power 71 = .ok (.iconst 0, 1) := by decide +kernel
theorem dX12_power_72 : decode cX12_power 72 = .ok (.ireturn, 1) := by decide +kernel
theorem dX12_power_73 : decode cX12_power 73 = .ok (.aload_n 0, 1) := by decide +kernel
theorem dX12_power_74 : decode cX12_power 74 = .ok (.invokevirtual 362, 3) := by decide +kernel
theorem dX12_power_77 : decode cX12_power 77 = .ok (.aload_n 0, 1) := by decide +kernel
theorem dX12_power_78 : decode cX12_power 78 = .ok (.iload_n 1, 1) := by decide +kernel
theorem dX12_power_79 : decode cX12_power 79 = .ok (.invokevirtual 253, 3) := by decide +kernel
theorem dX12_power_82 : decode cX12_power 82 = .ok (.aload_n 0, 1) := by decide +kernel
theorem dX12_power_83 : decode cX12_power 83 = .ok (.iload_n 1, 1) := by decide +kernel
theorem dX12_power_84 : decode cX12_power 84 = .ok (.iconst 5, 1) := by decide +kernel
theorem dX12_power_85 : decode cX12_power 85 = .ok (.iconst 0, 1) := by decide +kernel
theorem dX12_power_86 : decode cX12_power 86 = .ok (.invokevirtual 146, 3) := by decide +kernel
theorem dX12_power_89 : decode cX12_power 89 = .ok (.aload_n 0, 1) := by decide +kernel
theorem dX12_power_90 : decode cX12_power 90 = .ok (.iload_n 1, 1) := by decide +kernel
theorem dX12_power_91 : decode cX12_power 91 = .ok (.iconst 3, 1) := by decide +kernel
theorem dX12_power_92 : decode cX12_power 92 = .ok (.iload_n 2, 1) := by decide +kernel
theorem dX12_power_93 : decode cX12_power 93 = .ok (.ifCond .eq 7, 3) := by decide +kernel
theorem dX12_power_96 : decode cX12_power 96 = .ok (.iconst 1, 1) := by decide +kernel
theorem dX12_power_97 : decode cX12_power 97 = .ok (.goto 4, 3) := by decide +kernel
theorem dX12_power_100 : decode cX12_power 100 = .ok (.iconst 0, 1) := by decide +kernel
theorem dX12_power_101 : decode cX12_power 101 = .ok (.invokevirtual 146, 3) := by decide +kernel
theorem dX12_power_104 : decode cX12_power 104 = .ok (.iload_n 2, 1) := by decide +kernel
theorem dX12_power_105 : decode cX12_power 105 = .ok (.ifCond .ne 5, 3) := by decide +kernel
theorem dX12_power_108 : decode cX12_power 108 = .ok (.iload_n 3, 1) := by decide +kernel
theorem dX12_power_109 : decode cX12_power 109 = .ok (.ireturn, 1) := by decide +kernel
theorem dX12_power_110 : decode cX12_power 110 = .ok (.aload_n 0, 1) := by decide +kernel
theorem dX12_power_111 : decode cX12_power 111 = .ok (.iload_n 1, 1) := by decide +kernel
theorem dX12_power_112 : decode cX12_power 112 = .ok (.iconst 4, 1) := by decide +kernel
theorem dX12_power_113 : decode cX12_power 113 = .ok (.bipush 99, 2) := by decide +kernel
theorem dX12_power_115 : decode cX12_power 115 = .ok (.iconst 2, 1) := by decide +kernel
theorem dX12_power_116 : decode cX12_power 116 = .ok (.iload_n 1, 1) := by decide +kernel
theorem dX12_power_117 : decode cX12_power 117 = .ok (.iadd, 1) := by decide +kernel
theorem dX12_power_118 : decode cX12_power 118 = .ok (.aload_n 0, 1) := by decide +kernel
theorem dX12_power_119 : decode cX12_power 119 = .ok (.getfield 245, 3) := by decide +kernel
theorem dX12_power_122 : decode cX12_power 122 = .ok (.iadd, 1) := by decide +kernel
theorem dX12_power_123 : decode cX12_power 123 = .ok (.invokestatic 70, 3) := by decide +kernel
theorem dX12_power_126 : decode cX12_power 126 = .ok (.invokevirtual 146, 3) := by decide +kernel
theorem dX12_power_129 : decode cX12_power 129 = .ok (.aload_n 0, 1) := by decide +kernel
theorem dX12_power_130 : decode cX12_power 130 = .ok (.iload_n 1, 1) := by decide +kernel
theorem dX12_power_131 : decode cX12_power 131 = .ok (.bipush 6, 2) := by decide +kernel
theorem dX12_power_133 : decode cX12_power 133 = .ok (.iconst 0, 1) := by decide +kernel
theorem dX12_power_134 : decode cX12_power 134 = .ok (.invokevirtual 146, 3) := by decide +kernel
theorem dX12_power_137 : decode cX12_power 137 = .ok (.aload_n 0, 1) := by decide +kernel
theorem dX12_power_138 : decode cX12_power 138 = .ok (.iload_n 1, 1) := by decide +kernel
theorem dX12_power_139 : decode cX12_power 139 = .ok (.bipush 7, 2) := by decide +kernel
theorem dX12_power_141 : decode cX12_power 141 = .ok (.iconst 0, 1) := by decide +kernel
theorem dX12_power_142 : decode cX12_power 142 = .ok (.invokevirtual 146, 3) := by decide +kernel
theorem dX12_power_145 : decode cX12_power 145 = .ok (.iload_n 3, 1) := by decide +kernel
theorem dX12_power_146 : decode cX12_power 146 = .ok (.ireturn, 1) := by decide +kernel
theorem dX12_spoil_0 : decode cX12_spoil 0 = .ok (.aload_n 0, 1) := by decide +kernel
theorem dX12_spoil_1 : decode cX12_spoil 1 = .ok (.aload_n 0, 1) := by decide +kernel
theorem dX12_spoil_2 : decode cX12_spoil 2 = .ok (.iload_n 1, 1) := by decide +kernel
theorem dX12_spoil_3 : decode cX12_spoil 3 = .ok (.invokevirtual 347, 3) := by decide +kernel
theorem dX12_spoil_6 : decode cX12_spoil 6 = .ok (.ifCond .ne 7, 3) := by decide +kernel
theorem dX12_spoil_9 : decode cX12_spoil 9 = .ok (.iconst 1, 1) := by decide +kernel
theorem dX12_spoil_10 : decode cX12_spoil 10 = .ok (.goto 37, 3) := by decide +kernel
theorem dX12_spoil_13 : decode cX12_spoil 13 = .ok (.iload_n 2, 1) := by decide +kernel
theorem dX12_spoil_14 : decode cX12_spoil 14 = .ok (.iconst 0, 1) := by decide +kernel
theorem dX12_spoil_15 : decode cX12_spoil 15 = .ok (.iconst 3, 1) := by decide +kernel
theorem dX12_spoil_16 : decode cX12_spoil 16 = .ok (.invokestatic 62, 3) := by decide +kernel
theorem dX12_spoil_19 : decode cX12_spoil 19 = .ok (.ifCond .eq 23, 3) := by decide +kernel
theorem dX12_spoil_22 : decode cX12_spoil 22 = .ok (.iload_n 2, 1) := by decide +kernel
theorem dX12_spoil_23 : decode cX12_spoil 23 = .ok (.iconst 1, 1) := by decide +kernel
theorem dX12_spoil_24 : decode cX12_spoil 24 = .ok (.if_icmp .eq 8, 3) := by decide +kernel
theorem dX12_spoil_27 : decode cX12_spoil 27 = .ok (.iload_n 2, 1) := by decide +kernel
theorem dX12_spoil_28 : decode cX12_spoil 28 = .ok (.iconst 3, 1) := by decide +kernel
theorem dX12_spoil_29 : decode cX12_spoil 29 = .ok (.if_icmp .ne 17, 3) := by decide +kernel
theorem dX12_spoil_32 : decode cX12_spoil 32 = .ok (.iload_n 3, 1) := by decide +kernel
theorem dX12_spoil_33 : decode cX12_spoil 33 = .ok (.iconst 0, 1) := by decide +kernel
theorem dX12_spoil_34 : decode cX12_spoil 34 = .ok (.bipush 99, 2) := by decide +kernel
theorem dX12_spoil_36 : decode cX12_spoil 36 = .ok (.invokestatic 62, 3) := by decide +kernel
theorem dX12_spoil_39 : decode cX12_spoil 39 = .ok (.ifCond .ne 7, 3) := by decide +kernel
theorem dX12_spoil_42 : decode cX12_spoil 42 = .ok (.iconst 2, 1) := by decide +kernel
theorem dX12_spoil_43 : decode cX12_spoil 43 = .ok (.goto 4, 3) := by decide +kernel
theorem dX12_spoil_46 : decode cX12_spoil 46 = .ok (.iconst 0, 1) := by decide +kernel
theorem dX12_spoil_47 : decode cX12_spoil 47 = .ok (.putfield 59, 3) := by decide +kernel
theorem dX12_spoil_50 : decode cX12_spoil 50 = .ok (.aload_n 0, 1) := by decide +kernel
theorem dX12_spoil_51 : decode cX12_spoil 51 = .ok (.getfield 59, 3) := by decide +kernel
theorem dX12_spoil_54 : decode cX12_spoil 54 = .ok (.ifCond .le 5, 3) := by decide +kernel
theorem dX12_spoil_57 : decode cX12_spoil 57 = .ok (.iconst 0, 1) := by decide +kernel
theorem dX12_spoil_58 : decode cX12_spoil 58 = .ok (.ireturn, 1) := by decide +kernel
theorem dX12_spoil_59 : decode cX12_spoil 59 = .ok (.aload_n 0, 1) := by decide +kernel
theorem dX12_spoil_60 : decode cX12_spoil 60 = .ok (.bipush 9, 2) := by decide +kernel
theorem dX12_spoil_62 : decode cX12_spoil 62 = .ok (.bipush 11, 2) := by decide +kernel
theorem dX12_spoil_64 : decode cX12_spoil 64 = .ok (.iload_n 1, 1) := by decide +kernel
theorem dX12_spoil_65 : decode cX12_spoil 65 = .ok (.imul, 1) := by decide +kernel
theorem dX12_spoil_66 : decode cX12_spoil 66 = .ok (.iadd, 1) := by decide +kernel
theorem dX12_spoil_67 : decode cX12_spoil 67 = .ok (.bipush 9, 2) := by decide +kernel
theorem dX12_spoil_69 : decode cX12_spoil 69 = .ok (.iadd, 1) := by decide +kernel
theorem dX12_spoil_70 : decode cX12_spoil 70 = .ok (.iload_n 2, 1) := by decide +kernel
theorem dX12_spoil_71 : decode cX12_spoil 71 = .ok (.invokevirtual 368, 3) := by decide +kernel
theorem dX12_spoil_74 : decode cX12_spoil 74 = .ok (.istore 4, 2) := by decide +kernel
theorem dX12_spoil_76 : decode cX12_spoil 76 = .ok (.aload_n 0, 1) := by decide +kernel
theorem dX12_spoil_77 : decode cX12_spoil 77 = .ok (.iload_n 1, 1) := by decide +kernel
theorem dX12_spoil_78 : decode cX12_spoil 78 = .ok (.bipush 10, 2) := by decide +kernel
theorem dX12_spoil_80 : decode cX12_spoil 80 = .ok (.iload_n 2, 1) := by decide +kernel
theorem dX12_spoil_81 : decode cX12_spoil 81 = .ok (.iconst 1, 1) := by decide +kernel
theorem dX12_spoil_82 : decode cX12_spoil 82 = .ok (.if_icmp .eq 8, 3) := by decide +kernel
theorem dX12_spoil_85 : decode cX12_spoil 85 = .ok (.iload_n 2, 1) := by decide +kernel
theorem dX12_spoil_86 : decode cX12_spoil 86 = .ok (.iconst 3, 1) := by decide +kernel
theorem dX12_spoil_87 : decode cX12_spoil 87 = .ok (.if_icmp .ne 7, 3) := by decide +kernel
theorem dX12_spoil_90 : decode cX12_spoil 90 = .ok (.iload_n 3, 1) := by decide +kernel
theorem dX12_spoil_91 : decode cX12_spoil 91 = .ok (.goto 4, 3) := by decide +kernel
theorem dX12_spoil_94 : decode cX12_spoil 94 = .ok (.iconst 0, 1) := by decide +kernel
theorem dX12_spoil_95 : decode cX12_spoil 95 = .ok (.invokevirtual 146, 3) := by decide +kernel
theorem dX12_spoil_98 : decode cX12_spoil 98 = .ok (.iload 4, 2) := by decide +kernel
theorem dX12_spoil_100 : decode cX12_spoil 100 = .ok (.ireturn, 1) := by decide +kernel
theorem dX12_set_0 : decode cX12_set 0 = .ok (.aload_n 0, 1) := by decide +kernel
theorem dX12_set_1 : decode cX12_set 1 = .ok (.aload_n 0, 1) := by decide +kernel
theorem dX12_set_2 : decode cX12_set 2 = .ok (.iload_n 1, 1) := by decide +kernel
theorem dX12_set_3 : decode cX12_set 3 = .ok (.invokevirtual 347, 3) := by decide +kernel
theorem dX12_set_6 : decode cX12_set 6 = .ok (.ifCond .ne 7, 3) := by decide +kernel
theorem dX12_set_9 : decode cX12_set 9 = .ok (.iconst 1, 1) := by decide +kernel
theorem dX12_set_10 : decode cX12_set 10 = .ok (.goto 21, 3) := by decide +kernel
theorem dX12_set_13 : decode cX12_set 13 = .ok (.iload_n 2, 1) := by decide +kernel
theorem dX12_set_14 : decode cX12_set 14 = .ok (.sipush (-999), 3) := by decide +kernel
theorem dX12_set_17 : decode cX12_set 17 = .ok (.sipush 999, 3) := by decide +kernel
theorem dX12_set_20 : decode cX12_set 20 = .ok (.invokestatic 62, 3) := by decide +kernel
theorem dX12_set_23 : decode cX12_set 23 = .ok (.ifCond .ne 7, 3) := by decide +kernel
theorem dX12_set_26 : decode cX12_set 26 = .ok (.iconst 2, 1) := by decide +kernel
theorem dX12_set_27 : decode cX12_set 27 = .ok (.goto 4, 3) := by decide +kernel
theorem dX12_set_30 : decode cX12_set 30 = .ok (.iconst 0, 1) := by decide +kernel
theorem dX12_set_31 : decode cX12_set 31 = .ok (.putfield 59, 3) := by decide +kernel
theorem dX12_set_34 : decode cX12_set 34 = .ok (.aload_n 0, 1) := by decide +kernel
theorem dX12_set_35 : decode cX12_set 35 = .ok (.getfield 59, 3) := by decide +kernel
theorem dX12_set_38 : decode cX12_set 38 = .ok (.ifCond .le 7, 3) := by decide +kernel
theorem dX12_set_41 : decode cX12_set 41 = .ok (.iconst 0, 1) := by decide +kernel
theorem dX12_set_42 : decode cX12_set 42 = .ok (.goto 17, 3) := by decide +kernel
theorem dX12_set_45 : decode cX12_set 45 = .ok (.aload_n 0, 1) := by decide +kernel
theorem dX12_set_46 : decode cX12_set 46 = .ok (.bipush 9, 2) := by decide +kernel
theorem dX12_set_48 : decode cX12_set 48 = .ok (.bipush 11, 2) := by decide +kernel
theorem dX12_set_50 : decode cX12_set 50 = .ok (.iload_n 1, 1) := by decide +kernel
theorem dX12_set_51 : decode cX12_set 51 = .ok (.imul, 1) := by decide +kernel
theorem dX12_set_52 : decode cX12_set 52 = .ok (.iadd, 1) := by decide +kernel
theorem dX12_set_53 : decode cX12_set 53 = .ok (.iconst 0, 1) := by decide +kernel
theorem dX12_set_54 : decode cX12_set 54 = .ok (.iadd, 1) := by decide +kernel
theorem dX12_set_55 : decode cX12_set 55 = .ok (.iload_n 2, 1) := by decide +kernel
theorem dX12_set_56 : decode cX12_set 56 = .ok (.invokevirtual 368, 3) := by decide +kernel
theorem dX12_set_59 : decode cX12_set 59 = .ok (.ireturn, 1) := by decide +kernel
theorem dX12_tune_0 : decode cX12_tune 0 = .ok (.aload_n 0, 1) := by decide +kernel
theorem dX12_tune_1 : decode cX12_tune 1 = .ok (.iload_n 2, 1) := by decide +kernel
theorem dX12_tune_2 : decode cX12_tune 2 = .ok (.iconst 1, 1) := by decide +kernel
theorem dX12_tune_3 : decode cX12_tune 3 = .ok (.sipush 999, 3) := by decide +kernel
theorem dX12_tune_6 : decode cX12_tune 6 = .ok (.invokestatic 62, 3) := by decide +kernel
theorem dX12_tune_9 : decode cX12_tune 9 = .ok (.ifCond .ne 7, 3) := by decide +kernel
theorem dX12_tune_12 : decode cX12_tune 12 = .ok (.iconst 1, 1) := by decide +kernel
theorem dX12_tune_13 : decode cX12_tune 13 = .ok (.goto 4, 3) := by decide +kernel
theorem dX12_tune_16 : decode cX12_tune 16 = .ok (.iconst 0, 1) := by decide +kernel
theorem dX12_tune_17 : decode cX12_tune 17 = .ok (.putfield 59, 3) := by decide +kernel
theorem dX12_tune_20 : decode cX12_tune 20 = .ok (.aload_n 0, 1) := by decide +kernel
theorem dX12_tune_21 : decode cX12_tune 21 = .ok (.getfield 59, 3) := by decide +kernel
theorem dX12_tune_24 : decode cX12_tune 24 = .ok (.ifCond .le 7, 3) := by decide +kernel
theorem dX12_tune_27 : decode cX12_tune 27 = .ok (.iconst 0, 1) := by decide +kernel
theorem dX12_tune_28 : decode cX12_tune 28 = .ok (.goto 17, 3) := by decide +kernel
theorem dX12_tune_31 : decode cX12_tune 31 = .ok (.aload_n 0, 1) := by decide +kernel
theorem dX12_tune_32 : decode cX12_tune 32 = .ok (.iload_n 1, 1) := by decide +kernel
theorem dX12_tune_33 : decode cX12_tune 33 = .ok (.ifCond .eq 7, 3) := by decide +kernel
theorem dX12_tune_36 : decode cX12_tune 36 = .ok (.iconst 5, 1) := by decide +kernel
theorem dX12_tune_37 : decode cX12_tune 37 = .ok (.goto 4, 3) := by decide +kernel
theorem dX12_tune_40 : decode cX12_tune 40 = .ok (.iconst 4, 1) := by decide +kernel
theorem dX12_tune_41 : decode cX12_tune 41 = .ok (.iload_n 2, 1) := by decide +kernel
theorem dX12_tune_42 : decode cX12_tune 42 = .ok (.invokevirtual 368, 3) := by decide +kernel
theorem dX12_tune_45 : decode cX12_tune 45 = .ok (.ireturn, 1) := by decide +kernel
theorem dX12_mid_0 : decode cX12_mid 0 = .ok (.aload_n 0, 1) := by decide +kernel
theorem dX12_mid_1 : decode cX12_mid 1 = .ok (.getfield 76, 3) := by decide +kernel
theorem dX12_mid_4 : decode cX12_mid 4 = .ok (.istore_n 1, 1) := by decide +kernel
theorem dX12_mid_5 : decode cX12_mid 5 = .ok (.aload_n 0, 1) := by decide +kernel
theorem dX12_mid_6 : decode cX12_mid 6 = .ok (.iconst 0, 1) := by decide +kernel
theorem dX12_mid_7 : decode cX12_mid 7 = .ok (.putfield 76, 3) := by decide +kernel
theorem dX12_mid_10 : decode cX12_mid 10 = .ok (.aload_n 0, 1) := by decide +kernel
theorem dX12_mid_11 : decode cX12_mid 11 = .ok (.iload_n 1, 1) := by decide +kernel
theorem dX12_mid_12 : decode cX12_mid 12 = .ok (.bipush 20, 2) := by decide +kernel
theorem dX12_mid_14 : decode cX12_mid 14 = .ok (.if_icmp .le 7, 3) := by decide +kernel
theorem dX12_mid_17 : decode cX12_mid 17 = .ok (.iconst 1, 1) := by decide +kernel
theorem dX12_mid_18 : decode cX12_mid 18 = .ok (.goto 4, 3) := by decide +kernel
theorem dX12_mid_21 : decode cX12_mid 21 = .ok (.iconst 0, 1) := by decide +kernel
theorem dX12_mid_22 : decode cX12_mid 22 = .ok (.putfield 59, 3) := by decide +kernel
theorem dX12_mid_25 : decode cX12_mid 25 = .ok (.aload_n 0, 1) := by decide +kernel
theorem dX12_mid_26 : decode cX12_mid 26 = .ok (.getfield 59, 3) := by decide +kernel
theorem dX12_mid_29 : decode cX12_mid 29 = .ok (.ifCond .le 5, 3) := by decide +kernel
theorem dX12_mid_32 : decode cX12_mid 32 = .ok (.iconst 0, 1) := by decide +kernel
theorem dX12_mid_33 : decode cX12_mid 33 = .ok (.ireturn, 1) := by decide +kernel
theorem dX12_mid_34 : decode cX12_mid 34 = .ok (.iconst 0, 1) := by decide +kernel
theorem dX12_mid_35 : decode cX12_mid 35 = .ok (.istore_n 2, 1) := by decide +kernel
theorem dX12_mid_36 : decode cX12_mid 36 = .ok (.iload_n 2, 1) := by decide +kernel
theorem dX12_mid_37 : decode cX12_mid 37 = .ok (.iload_n 1, 1) := by decide +kernel
theorem dX12_mid_38 : decode cX12_mid 38 = .ok (.if_icmp .ge 25, 3) := by decide +kernel
theorem dX12_mid_41 : decode cX12_mid 41 = .ok (.aload_n 0, 1) := by decide +kernel
theorem dX12_mid_42 : decode cX12_mid 42 = .ok (.getfield 41, 3) := by decide +kernel
theorem dX12_mid_45 : decode cX12_mid 45 = .ok (.iload_n 2, 1) := by decide +kernel
theorem dX12_mid_46 : decode cX12_mid 46 = .ok (.aload_n 0, 1) := by decide +kernel
theorem dX12_mid_47 : decode cX12_mid 47 = .ok (.getfield 22, 3) := by decide +kernel
theorem dX12_mid_50 : decode cX12_mid 50 = .ok (.iload_n 2, 1) := by decide +kernel
theorem dX12_mid_51 : decode cX12_mid 51 = .ok (.iaload, 1) := by decide +kernel
theorem dX12_mid_52 : decode cX12_mid 52 = .ok (.sipush 128, 3) := by decide +kernel
theorem dX12_mid_55 : decode cX12_mid 55 = .ok (.isub, 1) := by decide +kernel
theorem dX12_mid_56 : decode cX12_mid 56 = .ok (.iastore, 1) := by decide +kernel
theorem dX12_mid_57 : decode cX12_mid 57 = .ok (.iinc 2 1, 3) := by decide +kernel
theorem dX12_mid_60 : decode cX12_mid 60 = .ok (.goto (-24), 3) := by decide +kernel
theorem dX12_mid_63 : decode cX12_mid 63 = .ok (.aload_n 0, 1) := by decide +kernel
theorem dX12_mid_64 : decode cX12_mid 64 = .ok (.iload_n 1, 1) := by decide +kernel
theorem dX12_mid_65 : decode cX12_mid 65 = .ok (.invokevirtual 278, 3) := by decide +kernel
theorem dX12_mid_68 : decode cX12_mid 68 = .ok (.ireturn, 1) := by decide +kernel
theorem dX12_spread_0 : decode cX12_spread 0 = .ok (.aload_n 0, 1) := by decide +kernel
theorem dX12_spread_1 : decode cX12_spread 1 = .ok (.iconst 0, 1) := by decide +kernel
theorem dX12_spread_2 : decode cX12_spread 2 = .ok (.putfield 59, 3) := by decide +kernel
theorem dX12_spread_5 : decode cX12_spread 5 = .ok (.aload_n 0, 1) := by decide +kernel
theorem dX12_spread_6 : decode cX12_spread 6 = .ok (.invokevirtual 371, 3) := by decide +kernel
theorem dX12_spread_9 : decode cX12_spread 9 = .ok (.ireturn, 1) := by decide +kernel
theorem dX12_agreed_0 : decode cX12_agreed 0 = .ok (.aload_n 0, 1) := by decide +kernel
theorem dX12_agreed_1 : decode cX12_agreed 1 = .ok (.iconst 0, 1) := by decide +kernel
theorem dX12_agreed_2 : decode cX12_agreed 2 = .ok (.putfield 59, 3) := by decide +kernel
theorem dX12_agreed_5 : decode cX12_agreed 5 = .ok (.iconst 1, 1) := by decide +kernel
theorem dX12_agreed_6 : decode cX12_agreed 6 = .ok (.istore_n 1, 1) := by decide +kernel
theorem dX12_agreed_7 : decode cX12_agreed 7 = .ok (.iconst 0, 1) := by decide +kernel
theorem dX12_agreed_8 : decode cX12_agreed 8 = .ok (.istore_n 2, 1) := by decide +kernel
theorem dX12_agreed_9 : decode cX12_agreed 9 = .ok (.iload_n 2, 1) := by decide +kernel
theorem dX12_agreed_10 : decode cX12_agreed 10 = .ok (.aload_n 0, 1) := by decide +kernel
theorem dX12_agreed_11 : decode cX12_agreed 11 = .ok (.getfield 7, 3) := by decide +kernel
theorem dX12_agreed_14 : decode cX12_agreed 14 = .ok (.iconst 3, 1) := by decide +kernel
theorem dX12_agreed_15 : decode cX12_agreed 15 = .ok (.iaload, 1) := by decide +kernel
theorem dX12_agreed_16 : decode cX12_agreed 16 = .ok (.if_icmp .ge 63, 3) := by decide +kernel
theorem dX12_agreed_19 : decode cX12_agreed 19 = .ok (.iconst 0, 1) := by decide +kernel
theorem dX12_agreed_20 : decode cX12_agreed 20 = .ok (.istore_n 3, 1) := by decide +kernel
theorem dX12_agreed_21 : decode cX12_agreed 21 = .ok (.iload_n 3, 1) := by decide +kernel
theorem dX12_agreed_22 : decode cX12_agreed 22 = .ok (.iload_n 2, 1) := by decide +kernel
theorem dX12_agreed_23 : decode cX12_agreed 23 = .ok (.if_icmp .ge 50, 3) := by decide +kernel
theorem dX12_agreed_26 : decode cX12_agreed 26 = .ok (.iload_n 1, 1) := by decide +kernel
theorem dX12_agreed_27 : decode cX12_agreed 27 = .ok (.ifCond .eq 38, 3) := by decide +kernel
theorem dX12_agreed_30 : decode cX12_agreed 30 = .ok (.aload_n 0, 1) := by decide +kernel
theorem dX12_agreed_31 : decode cX12_agreed 31 = .ok (.iload_n 2, 1) := by decide +kernel
theorem dX12_agreed_32 : decode cX12_agreed 32 = .ok (.invokevirtual 262, 3) := by decide +kernel
theorem dX12_agreed_35 : decode cX12_agreed 35 = .ok (.ifCond .eq 26, 3) := by decide +kernel
theorem dX12_agreed_38 : decode cX12_agreed 38 = .ok (.aload_n 0, 1) := by decide +kernel
theorem dX12_agreed_39 : decode cX12_agreed 39 = .ok (.iload_n 3, 1) := by decide +kernel
theorem dX12_agreed_40 : decode cX12_agreed 40 = .ok (.invokevirtual 262, 3) := by decide +kernel
theorem dX12_agreed_43 : decode cX12_agreed 43 = .ok (.ifCond .eq 18, 3) := by decide +kernel
theorem dX12_agreed_46 : decode cX12_agreed 46 = .ok (.aload_n 0, 1) := by decide +kernel
theorem dX12_agreed_47 : decode cX12_agreed 47 = .ok (.iload_n 2, 1) := by decide +kernel
theorem dX12_agreed_48 : decode cX12_agreed 48 = .ok (.iconst 5, 1) := by decide +kernel
theorem dX12_agreed_49 : decode cX12_agreed 49 = .ok (.invokevirtual 66, 3) := by decide +kernel
theorem dX12_agreed_52 : decode cX12_agreed 52 = .ok (.aload_n 0, 1) := by decide +kernel
theorem dX12_agreed_53 : decode cX12_agreed 53 = .ok (.iload_n 3, 1) := by decide +kernel
theorem dX12_agreed_54 : decode cX12_agreed 54 = .ok (.iconst 5, 1) := by decide +kernel
theorem dX12_agreed_55 : decode cX12_agreed 55 = .ok (.invokevirtual 66, 3) := by decide +kernel
theorem dX12_agreed_58 : decode cX12_agreed 58 = .ok (.if_icmp .ne 7, 3) := by decide +kernel
theorem dX12_agreed_61 : decode cX12_agreed 61 = .ok (.iconst 1, 1) := by decide +kernel
theorem dX12_agreed_62 : decode cX12_agreed 62 = .ok (.goto 4, 3) := by decide +kernel
theorem dX12_agreed_65 : decode cX12_agreed 65 = .ok (.iconst 0, 1) := by decide +kernel
theorem dX12_agreed_66 : decode cX12_agreed 66 = .ok (.istore_n 1, 1) := by decide +kernel
theorem dX12_agreed_67 : decode cX12_agreed 67 = .ok (.iinc 3 1, 3) := by decide +kernel
theorem dX12_agreed_70 : decode cX12_agreed 70 = .ok (.goto (-49), 3) := by decide +kernel
theorem dX12_agreed_73 : decode cX12_agreed 73 = .ok (.iinc 2 1, 3) := by decide +kernel
theorem dX12_agreed_76 : decode cX12_agreed 76 = .ok (.goto (-67), 3) := by decide +kernel
theorem dX12_agreed_79 : decode cX12_agreed 79 = .ok (.iload_n 1, 1) := by decide +kernel
theorem dX12_agreed_80 : decode cX12_agreed 80 = .ok (.ireturn, 1) := by decide +kernel
theorem dX12_cliques_0 : decode cX12_cliques 0 = .ok (.aload_n 0, 1) := by decide +kernel
theorem dX12_cliques_1 : decode cX12_cliques 1 = .ok (.iconst 0, 1) := by decide +kernel
theorem dX12_cliques_2 : decode cX12_cliques 2 = .ok (.putfield 59, 3) := by decide +kernel
theorem dX12_cliques_5 : decode cX12_cliques 5 = .ok (.aload_n 0, 1) := by decide +kernel
theorem dX12_cliques_6 : decode cX12_cliques 6 = .ok (.iconst 2, 1) := by decide +kernel
theorem dX12_cliques_7 : decode cX12_cliques 7 = .ok (.invokevirtual 250, 3) := by decide +kernel
theorem dX12_cliques_10 : decode cX12_cliques 10 = .ok (.istore_n 1, 1) := by decide +kernel
theorem dX12_cliques_11 : decode cX12_cliques 11 = .ok (.iconst 0, 1) := by decide +kernel
theorem dX12_cliques_12 : decode cX12_cliques 12 = .ok (.istore_n 2, 1) := by decide +kernel
theorem dX12_cliques_13 : decode cX12_cliques 13 = .ok (.iconst 0, 1) := by decide +kernel
theorem dX12_cliques_14 : decode cX12_cliques 14 = .ok (.istore_n 3, 1) := by decide +kernel
theorem dX12_cliques_15 : decode cX12_cliques 15 = .ok (.iload_n 3, 1) := by decide +kernel
theorem dX12_cliques_16 : decode cX12_cliques 16 = .ok (.aload_n 0, 1) := by decide +kernel
theorem dX12_cliques_17 : decode cX12_cliques 17 = .ok (.getfield 7, 3) := by decide +kernel
theorem dX12_cliques_20 : decode cX12_cliques 20 = .ok (.iconst 3, 1) := by decide +kernel
theorem dX12_cliques_21 : decode cX12_cliques 21 = .ok (.iaload, 1) := by decide +kernel
theorem dX12_cliques_22 : decode cX12_cliques 22 = .ok (.if_icmp .ge 33, 3) := by decide +kernel
theorem dX12_cliques_25 : decode cX12_cliques 25 = .ok (.iload_n 1, 1) := by decide +kernel
theorem dX12_cliques_26 : decode cX12_cliques 26 = .ok (.iload_n 3, 1) := by decide +kernel
theorem dX12_cliques_27 : decode cX12_cliques 27 = .ok (.invokestatic 274, 3) := by decide +kernel
theorem dX12_cliques_30 : decode cX12_cliques 30 = .ok (.ifCond .ne 6, 3) := by decide +kernel
theorem dX12_cliques_33 : decode cX12_cliques 33 = .ok (.goto 16, 3) := by decide +kernel
theorem dX12_cliques_36 : decode cX12_cliques 36 = .ok (.iload_n 1, 1) := by decide +kernel
theorem dX12_cliques_37 : decode cX12_cliques 37 = .ok (.aload_n 0, 1) := by decide +kernel
theorem dX12_cliques_38 : decode cX12_cliques 38 = .ok (.iload_n 3, 1) := by decide +kernel
theorem dX12_cliques_39 : decode cX12_cliques 39 = .ok (.invokevirtual 350, 3) := by decide +kernel
theorem dX12_cliques_42 : decode cX12_cliques 42 = .ok (.iconst (-1), 1) := by decide +kernel
theorem dX12_cliques_43 : decode cX12_cliques 43 = .ok (.ixor, 1) := by decide +kernel
theorem dX12_cliques_44 : decode cX12_cliques 44 = .ok (.iand, 1) := by decide +kernel
theorem dX12_cliques_45 : decode cX12_cliques 45 = .ok (.istore_n 1, 1) := by decide +kernel
theorem dX12_cliques_46 : decode cX12_cliques 46 = .ok (.iinc 2 1, 3) := by decide +kernel
theorem dX12_cliques_49 : decode cX12_cliques 49 = .ok (.iinc 3 1, 3) := by decide +kernel
theorem dX12_cliques_52 : decode cX12_cliques 52 = .ok (.goto (-37), 3) := by decide +kernel
theorem dX12_cliques_55 : decode cX12_cliques 55 = .ok (.iload_n 2, 1) := by decide +kernel
theorem dX12_cliques_56 : decode cX12_cliques 56 = .ok (.ireturn, 1) := by decide +kernel
theorem dX12_settles_0 : decode cX12_settles 0 = .ok (.aload_n 0, 1) := by decide +kernel
theorem dX12_settles_1 : decode cX12_settles 1 = .ok (.iload_n 1, 1) := by decide +kernel
theorem dX12_settles_2 : decode cX12_settles 2 = .ok (.iconst 0, 1) := by decide +kernel
theorem dX12_settles_3 : decode cX12_settles 3 = .ok (.sipush 999, 3) := by decide +kernel
theorem dX12_settles_6 : decode cX12_settles 6 = .ok (.invokestatic 62, 3) := by decide +kernel
theorem dX12_settles_9 : decode cX12_settles 9 = .ok (.ifCond .ne 7, 3) := by decide +kernel
theorem dX12_settles_12 : decode cX12_settles 12 = .ok (.iconst 1, 1) := by decide +kernel
theorem dX12_settles_13 : decode cX12_settles 13 = .ok (.goto 4, 3) := by decide +kernel
theorem dX12_settles_16 : decode cX12_settles 16 = .ok (.iconst 0, 1) := by decide +kernel
theorem dX12_settles_17 : decode cX12_settles 17 = .ok (.putfield 59, 3) := by decide +kernel
theorem dX12_settles_20 : decode cX12_settles 20 = .ok (.aload_n 0, 1) := by decide +kernel
theorem dX12_settles_21 : decode cX12_settles 21 = .ok (.getfield 59, 3) := by decide +kernel
theorem dX12_settles_24 : decode cX12_settles 24 = .ok (.ifCond .le 5, 3) := by decide +kernel
theorem dX12_settles_27 : decode cX12_settles 27 = .ok (.iconst 0, 1) := by decide +kernel
theorem dX12_settles_28 : decode cX12_settles 28 = .ok (.ireturn, 1) := by decide +kernel
theorem dX12_settles_29 : decode cX12_settles 29 = .ok (.aload_n 0, 1) := by decide +kernel
theorem dX12_settles_30 : decode cX12_settles 30 = .ok (.invokevirtual 177, 3) := by decide +kernel
theorem dX12_settles_33 : decode cX12_settles 33 = .ok (.iconst (-1), 1) := by decide +kernel
theorem dX12_settles_34 : decode cX12_settles 34 = .ok (.istore_n 2, 1) := by decide +kernel
theorem dX12_settles_35 : decode cX12_settles 35 = .ok (.iconst 0, 1) := by decide +kernel
theorem dX12_settles_36 : decode cX12_settles 36 = .ok (.istore_n 3, 1) := by decide +kernel
theorem dX12_settles_37 : decode cX12_settles 37 = .ok (.iload_n 3, 1) := by decide +kernel
theorem dX12_settles_38 : decode cX12_settles 38 = .ok (.bipush 60, 2) := by decide +kernel
theorem dX12_settles_40 : decode cX12_settles 40 = .ok (.if_icmp .gt 41, 3) := by decide +kernel
theorem dX12_settles_43 : decode cX12_settles 43 = .ok (.iload_n 2, 1) := by decide +kernel
theorem dX12_settles_44 : decode cX12_settles 44 = .ok (.iconst (-1), 1) := by decide +kernel
theorem dX12_settles_45 : decode cX12_settles 45 = .ok (.if_icmp .ne 36, 3) := by decide +kernel
theorem dX12_settles_48 : decode cX12_settles 48 = .ok (.aload_n 0, 1) := by decide +kernel
theorem dX12_settles_49 : decode cX12_settles 49 = .ok (.iconst 2, 1) := by decide +kernel
theorem dX12_settles_50 : decode cX12_settles 50 = .ok (.invokevirtual 250, 3) := by decide +kernel
theorem dX12_settles_53 : decode cX12_settles 53 = .ok (.invokestatic 247, 3) := by decide +kernel
theorem dX12_settles_56 : decode cX12_settles 56 = .ok (.iconst 1, 1) := by decide +kernel
theorem dX12_settles_57 : decode cX12_settles 57 = .ok (.if_icmp .le 13, 3) := by decide +kernel
theorem dX12_settles_60 : decode cX12_settles 60 = .ok (.aload_n 0, 1) := by decide +kernel
theorem dX12_settles_61 : decode cX12_settles 61 = .ok (.invokevirtual 371, 3) := by decide +kernel
theorem dX12_settles_64 : decode cX12_settles 64 = .ok (.iload_n 1, 1) := by decide +kernel
theorem dX12_settles_65 : decode cX12_settles 65 = .ok (.if_icmp .gt 5, 3) := by decide +kernel
theorem dX12_settles_68 : decode cX12_settles 68 = .ok (.iload_n 3, 1) := by decide +kernel
theorem dX12_settles_69 : decode cX12_settles 69 = .ok (.istore_n 2, 1) := by decide +kernel
theorem dX12_settles_70 : decode cX12_settles 70 = .ok (.aload_n 0, 1) := by decide +kernel
theorem dX12_settles_71 : decode cX12_settles 71 = .ok (.iconst 0, 1) := by decide +kernel
theorem dX12_settles_72 : decode cX12_settles 72 = .ok (.invokevirtual 335, 3) := by decide +kernel
theorem dX12_settles_75 : decode cX12_settles 75 = .ok (.iinc 3 1, 3) := by decide +kernel
theorem dX12_settles_78 : decode cX12_settles 78 = .ok (.goto (-41), 3) := by decide +kernel
theorem dX12_settles_81 : decode cX12_settles 81 = .ok (.aload_n 0, 1) := by decide +kernel
theorem dX12_settles_82 : decode cX12_settles 82 = .ok (.invokevirtual 187, 3) := by decide +kernel
theorem dX12_settles_85 : decode cX12_settles 85 = .ok (.iload_n 2, 1) := by decide +kernel
theorem dX12_settles_86 : decode cX12_settles 86 = .ok (.ireturn, 1) := by decide +kernel
theorem dX12_widest_0 : decode cX12_widest 0 = .ok (.aload_n 0, 1) := by decide +kernel
theorem dX12_widest_1 : decode cX12_widest 1 = .ok (.iload_n 1, 1) := by decide +kernel
theorem dX12_widest_2 : decode cX12_widest 2 = .ok (.iconst 0, 1) := by decide +kernel
theorem dX12_widest_3 : decode cX12_widest 3 = .ok (.bipush 60, 2) := by decide +kernel
theorem dX12_widest_5 : decode cX12_widest 5 = .ok (.invokestatic 62, 3) := by decide +kernel
theorem dX12_widest_8 : decode cX12_widest 8 = .ok (.ifCond .ne 7, 3) := by decide +kernel
theorem dX12_widest_11 : decode cX12_widest 11 = .ok (.iconst 1, 1) := by decide +kernel
theorem dX12_widest_12 : decode cX12_widest 12 = .ok (.goto 4, 3) := by decide +kernel
theorem dX12_widest_15 : decode cX12_widest 15 = .ok (.iconst 0, 1) := by decide +kernel
theorem dX12_widest_16 : decode cX12_widest 16 = .ok (.putfield 59, 3) := by decide +kernel
theorem dX12_widest_19 : decode cX12_widest 19 = .ok (.aload_n 0, 1) := by decide +kernel
theorem dX12_widest_20 : decode cX12_widest 20 = .ok (.getfield 59, 3) := by decide +kernel
theorem dX12_widest_23 : decode cX12_widest 23 = .ok (.ifCond .le 5, 3) := by decide +kernel
theorem dX12_widest_26 : decode cX12_widest 26 = .ok (.iconst 0, 1) := by decide +kernel
theorem dX12_widest_27 : decode cX12_widest 27 = .ok (.ireturn, 1) := by decide +kernel
theorem dX12_widest_28 : decode cX12_widest 28 = .ok (.aload_n 0, 1) := by decide +kernel
theorem dX12_widest_29 : decode cX12_widest 29 = .ok (.invokevirtual 177, 3) := by decide +kernel
theorem dX12_widest_32 : decode cX12_widest 32 = .ok (.aload_n 0, 1) := by decide +kernel
theorem dX12_widest_33 : decode cX12_widest 33 = .ok (.invokevirtual 371, 3) := by decide +kernel
theorem dX12_widest_36 : decode cX12_widest 36 = .ok (.istore_n 2, 1) := by decide +kernel
theorem dX12_widest_37 : decode cX12_widest 37 = .ok (.iconst 0, 1) := by decide +kernel
theorem dX12_widest_38 : decode cX12_widest 38 = .ok (.istore_n 3, 1) := by decide +kernel
theorem dX12_widest_39 : decode cX12_widest 39 = .ok (.iload_n 3, 1) := by decide +kernel
theorem dX12_widest_40 : decode cX12_widest 40 = .ok (.iload_n 1, 1) := by decide +kernel
theorem dX12_widest_41 : decode cX12_widest 41 = .ok (.if_icmp .ge 23, 3) := by decide +kernel
theorem dX12_widest_44 : decode cX12_widest 44 = .ok (.aload_n 0, 1) := by decide +kernel
theorem dX12_widest_45 : decode cX12_widest 45 = .ok (.iconst 0, 1) := by decide +kernel
theorem dX12_widest_46 : decode cX12_widest 46 = .ok (.invokevirtual 335, 3) := by decide +kernel
theorem dX12_widest_49 : decode cX12_widest 49 = .ok (.iload_n 2, 1) := by decide +kernel
theorem dX12_widest_50 : decode cX12_widest 50 = .ok (.aload_n 0, 1) := by decide +kernel
theorem dX12_widest_51 : decode cX12_widest 51 = .ok (.invokevirtual 371, 3) := by decide +kernel
theorem dX12_widest_54 : decode cX12_widest 54 = .ok (.invokestatic 73, 3) := by decide +kernel
theorem dX12_widest_57 : decode cX12_widest 57 = .ok (.istore_n 2, 1) := by decide +kernel
theorem dX12_widest_58 : decode cX12_widest 58 = .ok (.iinc 3 1, 3) := by decide +kernel
theorem dX12_widest_61 : decode cX12_widest 61 = .ok (.goto (-22), 3) := by decide +kernel
theorem dX12_widest_64 : decode cX12_widest 64 = .ok (.aload_n 0, 1) := by decide +kernel
theorem dX12_widest_65 : decode cX12_widest 65 = .ok (.invokevirtual 187, 3) := by decide +kernel
theorem dX12_widest_68 : decode cX12_widest 68 = .ok (.iload_n 2, 1) := by decide +kernel
theorem dX12_widest_69 : decode cX12_widest 69 = .ok (.ireturn, 1) := by decide +kernel
theorem dX12_leads_0 : decode cX12_leads 0 = .ok (.aload_n 0, 1) := by decide +kernel
theorem dX12_leads_1 : decode cX12_leads 1 = .ok (.iconst 0, 1) := by decide +kernel
theorem dX12_leads_2 : decode cX12_leads 2 = .ok (.putfield 59, 3) := by decide +kernel
theorem dX12_leads_5 : decode cX12_leads 5 = .ok (.aload_n 0, 1) := by decide +kernel
theorem dX12_leads_6 : decode cX12_leads 6 = .ok (.invokevirtual 177, 3) := by decide +kernel
theorem dX12_leads_9 : decode cX12_leads 9 = .ok (.iconst (-1), 1) := by decide +kernel
theorem dX12_leads_10 : decode cX12_leads 10 = .ok (.istore_n 2, 1) := by decide +kernel
theorem dX12_leads_11 : decode cX12_leads 11 = .ok (.iconst 0, 1) := by decide +kernel
theorem dX12_leads_12 : decode cX12_leads 12 = .ok (.istore_n 3, 1) := by decide +kernel
theorem dX12_leads_13 : decode cX12_leads 13 = .ok (.iload_n 3, 1) := by decide +kernel
theorem dX12_leads_14 : decode cX12_leads 14 = .ok (.bipush 60, 2) := by decide +kernel
theorem dX12_leads_16 : decode cX12_leads 16 = .ok (.if_icmp .gt 45, 3) := by decide +kernel
theorem dX12_leads_19 : decode cX12_leads 19 = .ok (.iload_n 2, 1) := by decide +kernel
theorem dX12_leads_20 : decode cX12_leads 20 = .ok (.iconst (-1), 1) := by decide +kernel
theorem dX12_leads_21 : decode cX12_leads 21 = .ok (.if_icmp .ne 40, 3) := by decide +kernel
theorem dX12_leads_24 : decode cX12_leads 24 = .ok (.aload_n 0, 1) := by decide +kernel
theorem dX12_leads_25 : decode cX12_leads 25 = .ok (.iconst 2, 1) := by decide +kernel
theorem dX12_leads_26 : decode cX12_leads 26 = .ok (.invokevirtual 250, 3) := by decide +kernel
theorem dX12_leads_29 : decode cX12_leads 29 = .ok (.istore 4, 2) := by decide +kernel
theorem dX12_leads_31 : decode cX12_leads 31 = .ok (.iload 4, 2) := by decide +kernel
theorem dX12_leads_33 : decode cX12_leads 33 = .ok (.ifCond .eq 17, 3) := by decide +kernel
theorem dX12_leads_36 : decode cX12_leads 36 = .ok (.iload_n 1, 1) := by decide +kernel
theorem dX12_leads_37 : decode cX12_leads 37 = .ok (.ifCond .eq 11, 3) := by decide +kernel
theorem dX12_leads_40 : decode cX12_leads 40 = .ok (.iload 4, 2) := by decide +kernel
theorem dX12_leads_42 : decode cX12_leads 42 = .ok (.invokestatic 374, 3) := by decide +kernel
theorem dX12_leads_45 : decode cX12_leads 45 = .ok (.goto 4, 3) := by decide +kernel
theorem dX12_leads_48 : decode cX12_leads 48 = .ok (.iload_n 3, 1) := by decide +kernel
theorem dX12_leads_49 : decode cX12_leads 49 = .ok (.istore_n 2, 1) := by decide +kernel
theorem dX12_leads_50 : decode cX12_leads 50 = .ok (.aload_n 0, 1) := by decide +kernel
theorem dX12_leads_51 : decode cX12_leads 51 = .ok (.iconst 0, 1) := by decide +kernel
theorem dX12_leads_52 : decode cX12_leads 52 = .ok (.invokevirtual 335, 3) := by decide +kernel
theorem dX12_leads_55 : decode cX12_leads 55 = .ok (.iinc 3 1, 3) := by decide +kernel
theorem dX12_leads_58 : decode cX12_leads 58 = .ok (.goto (-45), 3) := by decide +kernel
theorem dX12_leads_61 : decode cX12_leads 61 = .ok (.aload_n 0, 1) := by decide +kernel
theorem dX12_leads_62 : decode cX12_leads 62 = .ok (.invokevirtual 187, 3) := by decide +kernel
theorem dX12_leads_65 : decode cX12_leads 65 = .ok (.iload_n 2, 1) := by decide +kernel
theorem dX12_leads_66 : decode cX12_leads 66 = .ok (.ireturn, 1) := by decide +kernel
theorem dX12_lowest_0 : decode cX12_lowest 0 = .ok (.iconst 0, 1) := by decide +kernel
theorem dX12_lowest_1 : decode cX12_lowest 1 = .ok (.istore_n 1, 1) := by decide +kernel
theorem dX12_lowest_2 : decode cX12_lowest 2 = .ok (.iload_n 0, 1) := by decide +kernel
theorem dX12_lowest_3 : decode cX12_lowest 3 = .ok (.iload_n 1, 1) := by decide +kernel
theorem dX12_lowest_4 : decode cX12_lowest 4 = .ok (.invokestatic 274, 3) := by decide +kernel
theorem dX12_lowest_7 : decode cX12_lowest 7 = .ok (.ifCond .ne 9, 3) := by decide +kernel
theorem dX12_lowest_10 : decode cX12_lowest 10 = .ok (.iinc 1 1, 3) := by decide +kernel
theorem dX12_lowest_13 : decode cX12_lowest 13 = .ok (.goto (-11), 3) := by decide +kernel
theorem dX12_lowest_16 : decode cX12_lowest 16 = .ok (.iload_n 1, 1) := by decide +kernel
theorem dX12_lowest_17 : decode cX12_lowest 17 = .ok (.ireturn, 1) := by decide +kernel
theorem dX12_narrow_0 : decode cX12_narrow 0 = .ok (.aload_n 0, 1) := by decide +kernel
theorem dX12_narrow_1 : decode cX12_narrow 1 = .ok (.iconst 0, 1) := by decide +kernel
theorem dX12_narrow_2 : decode cX12_narrow 2 = .ok (.putfield 59, 3) := by decide +kernel
theorem dX12_narrow_5 : decode cX12_narrow 5 = .ok (.iconst 1, 1) := by decide +kernel
theorem dX12_narrow_6 : decode cX12_narrow 6 = .ok (.istore_n 1, 1) := by decide +kernel
theorem dX12_narrow_7 : decode cX12_narrow 7 = .ok (.iconst 0, 1) := by decide +kernel
theorem dX12_narrow_8 : decode cX12_narrow 8 = .ok (.istore_n 2, 1) := by decide +kernel
theorem dX12_narrow_9 : decode cX12_narrow 9 = .ok (.iload_n 2, 1) := by decide +kernel
theorem dX12_narrow_10 : decode cX12_narrow 10 = .ok (.aload_n 0, 1) := by decide +kernel
theorem dX12_narrow_11 : decode cX12_narrow 11 = .ok (.getfield 7, 3) := by decide +kernel
theorem dX12_narrow_14 : decode cX12_narrow 14 = .ok (.iconst 3, 1) := by decide +kernel
theorem dX12_narrow_15 : decode cX12_narrow 15 = .ok (.iaload, 1) := by decide +kernel
theorem dX12_narrow_16 : decode cX12_narrow 16 = .ok (.if_icmp .ge 41, 3) := by decide +kernel
theorem dX12_narrow_19 : decode cX12_narrow 19 = .ok (.aload_n 0, 1) := by decide +kernel
theorem dX12_narrow_20 : decode cX12_narrow 20 = .ok (.iload_n 2, 1) := by decide +kernel
theorem dX12_narrow_21 : decode cX12_narrow 21 = .ok (.invokevirtual 262, 3) := by decide +kernel
theorem dX12_narrow_24 : decode cX12_narrow 24 = .ok (.ifCond .eq 27, 3) := by decide +kernel
theorem dX12_narrow_27 : decode cX12_narrow 27 = .ok (.aload_n 0, 1) := by decide +kernel
theorem dX12_narrow_28 : decode cX12_narrow 28 = .ok (.iload_n 2, 1) := by decide +kernel
theorem dX12_narrow_29 : decode cX12_narrow 29 = .ok (.bipush 9, 2) := by decide +kernel
theorem dX12_narrow_31 : decode cX12_narrow 31 = .ok (.invokevirtual 66, 3) := by decide +kernel
theorem dX12_narrow_34 : decode cX12_narrow 34 = .ok (.iconst 2, 1) := by decide +kernel
theorem dX12_narrow_35 : decode cX12_narrow 35 = .ok (.if_icmp .eq 16, 3) := by decide +kernel
theorem dX12_narrow_38 : decode cX12_narrow 38 = .ok (.iload_n 1, 1) := by decide +kernel
theorem dX12_narrow_39 : decode cX12_narrow 39 = .ok (.aload_n 0, 1) := by decide +kernel
theorem dX12_narrow_40 : decode cX12_narrow 40 = .ok (.iload_n 2, 1) := by decide +kernel
theorem dX12_narrow_41 : decode cX12_narrow 41 = .ok (.invokevirtual 259, 3) := by decide +kernel
theorem dX12_narrow_44 : decode cX12_narrow 44 = .ok (.invokestatic 377, 3) := by decide +kernel
theorem dX12_narrow_47 : decode cX12_narrow 47 = .ok (.invokestatic 73, 3) := by decide +kernel
theorem dX12_narrow_50 : decode cX12_narrow 50 = .ok (.istore_n 1, 1) := by decide +kernel
theorem dX12_narrow_51 : decode cX12_narrow 51 = .ok (.iinc 2 1, 3) := by decide +kernel
theorem dX12_narrow_54 : decode cX12_narrow 54 = .ok (.goto (-45), 3) := by decide +kernel
theorem dX12_narrow_57 : decode cX12_narrow 57 = .ok (.iload_n 1, 1) := by decide +kernel
theorem dX12_narrow_58 : decode cX12_narrow 58 = .ok (.sipush 999, 3) := by decide +kernel
theorem dX12_narrow_61 : decode cX12_narrow 61 = .ok (.if_icmp .le 7, 3) := by decide +kernel
theorem dX12_narrow_64 : decode cX12_narrow 64 = .ok (.iconst (-1), 1) := by decide +kernel
theorem dX12_narrow_65 : decode cX12_narrow 65 = .ok (.goto 4, 3) := by decide +kernel
theorem dX12_narrow_68 : decode cX12_narrow 68 = .ok (.iload_n 1, 1) := by decide +kernel
theorem dX12_narrow_69 : decode cX12_narrow 69 = .ok (.ireturn, 1) := by decide +kernel
theorem dX12_tight_0 : decode cX12_tight 0 = .ok (.aload_n 0, 1) := by decide +kernel
theorem dX12_tight_1 : decode cX12_tight 1 = .ok (.iconst 0, 1) := by decide +kernel
theorem dX12_tight_2 : decode cX12_tight 2 = .ok (.putfield 59, 3) := by decide +kernel
theorem dX12_tight_5 : decode cX12_tight 5 = .ok (.iconst 1, 1) := by decide +kernel
theorem dX12_tight_6 : decode cX12_tight 6 = .ok (.istore_n 1, 1) := by decide +kernel
theorem dX12_tight_7 : decode cX12_tight 7 = .ok (.iconst 0, 1) := by decide +kernel
theorem dX12_tight_8 : decode cX12_tight 8 = .ok (.istore_n 2, 1) := by decide +kernel
theorem dX12_tight_9 : decode cX12_tight 9 = .ok (.iload_n 2, 1) := by decide +kernel
theorem dX12_tight_10 : decode cX12_tight 10 = .ok (.aload_n 0, 1) := by decide +kernel
theorem dX12_tight_11 : decode cX12_tight 11 = .ok (.getfield 7, 3) := by decide +kernel
theorem dX12_tight_14 : decode cX12_tight 14 = .ok (.iconst 3, 1) := by decide +kernel
theorem dX12_tight_15 : decode cX12_tight 15 = .ok (.iaload, 1) := by decide +kernel
theorem dX12_tight_16 : decode cX12_tight 16 = .ok (.if_icmp .ge 69, 3) := by decide +kernel
theorem dX12_tight_19 : decode cX12_tight 19 = .ok (.iconst 0, 1) := by decide +kernel
theorem dX12_tight_20 : decode cX12_tight 20 = .ok (.istore_n 3, 1) := by decide +kernel
theorem dX12_tight_21 : decode cX12_tight 21 = .ok (.iload_n 3, 1) := by decide +kernel
theorem dX12_tight_22 : decode cX12_tight 22 = .ok (.aload_n 0, 1) := by decide +kernel
theorem dX12_tight_23 : decode cX12_tight 23 = .ok (.getfield 7, 3) := by decide +kernel
theorem dX12_tight_26 : decode cX12_tight 26 = .ok (.iconst 3, 1) := by decide +kernel
theorem dX12_tight_27 : decode cX12_tight 27 = .ok (.iaload, 1) := by decide +kernel
theorem dX12_tight_28 : decode cX12_tight 28 = .ok (.if_icmp .ge 51, 3) := by decide +kernel
theorem dX12_tight_31 : decode cX12_tight 31 = .ok (.iload_n 2, 1) := by decide +kernel
theorem dX12_tight_32 : decode cX12_tight 32 = .ok (.iload_n 3, 1) := by decide +kernel
theorem dX12_tight_33 : decode cX12_tight 33 = .ok (.if_icmp .eq 40, 3) := by decide +kernel
theorem dX12_tight_36 : decode cX12_tight 36 = .ok (.aload_n 0, 1) := by decide +kernel
theorem dX12_tight_37 : decode cX12_tight 37 = .ok (.iload_n 2, 1) := by decide +kernel
theorem dX12_tight_38 : decode cX12_tight 38 = .ok (.invokevirtual 262, 3) := by decide +kernel
theorem dX12_tight_41 : decode cX12_tight 41 = .ok (.ifCond .eq 32, 3) := by decide +kernel
theorem dX12_tight_44 : decode cX12_tight 44 = .ok (.aload_n 0, 1) := by decide +kernel
theorem dX12_tight_45 : decode cX12_tight 45 = .ok (.iload_n 3, 1) := by decide +kernel
theorem dX12_tight_46 : decode cX12_tight 46 = .ok (.invokevirtual 262, 3) := by decide +kernel
theorem dX12_tight_49 : decode cX12_tight 49 = .ok (.ifCond .eq 24, 3) := by decide +kernel
theorem dX12_tight_52 : decode cX12_tight 52 = .ok (.iload_n 1, 1) := by decide +kernel
theorem dX12_tight_53 : decode cX12_tight 53 = .ok (.aload_n 0, 1) := by decide +kernel
theorem dX12_tight_54 : decode cX12_tight 54 = .ok (.iload_n 3, 1) := by decide +kernel
theorem dX12_tight_55 : decode cX12_tight 55 = .ok (.iload_n 2, 1) := by decide +kernel
theorem dX12_tight_56 : decode cX12_tight 56 = .ok (.invokevirtual 265, 3) := by decide +kernel
theorem dX12_tight_59 : decode cX12_tight 59 = .ok (.aload_n 0, 1) := by decide +kernel
theorem dX12_tight_60 : decode cX12_tight 60 = .ok (.iload_n 2, 1) := by decide +kernel
theorem dX12_tight_61 : decode cX12_tight 61 = .ok (.iconst 0, 1) := by decide +kernel
theorem dX12_tight_62 : decode cX12_tight 62 = .ok (.invokevirtual 66, 3) := by decide +kernel
theorem dX12_tight_65 : decode cX12_tight 65 = .ok (.isub, 1) := by decide +kernel
theorem dX12_tight_66 : decode cX12_tight 66 = .ok (.invokestatic 377, 3) := by decide +kernel
theorem dX12_tight_69 : decode cX12_tight 69 = .ok (.invokestatic 73, 3) := by decide +kernel
theorem dX12_tight_72 : decode cX12_tight 72 = .ok (.istore_n 1, 1) := by decide +kernel
theorem dX12_tight_73 : decode cX12_tight 73 = .ok (.iinc 3 1, 3) := by decide +kernel
theorem dX12_tight_76 : decode cX12_tight 76 = .ok (.goto (-55), 3) := by decide +kernel
theorem dX12_tight_79 : decode cX12_tight 79 = .ok (.iinc 2 1, 3) := by decide +kernel
theorem dX12_tight_82 : decode cX12_tight 82 = .ok (.goto (-73), 3) := by decide +kernel
theorem dX12_tight_85 : decode cX12_tight 85 = .ok (.iload_n 1, 1) := by decide +kernel
theorem dX12_tight_86 : decode cX12_tight 86 = .ok (.sipush 999, 3) := by decide +kernel
theorem dX12_tight_89 : decode cX12_tight 89 = .ok (.if_icmp .le 7, 3) := by decide +kernel
theorem dX12_tight_92 : decode cX12_tight 92 = .ok (.iconst (-1), 1) := by decide +kernel
theorem dX12_tight_93 : decode cX12_tight 93 = .ok (.goto 4, 3) := by decide +kernel
theorem dX12_tight_96 : decode cX12_tight 96 = .ok (.iload_n 1, 1) := by decide +kernel
theorem dX12_tight_97 : decode cX12_tight 97 = .ok (.ireturn, 1) := by decide +kernel
theorem dX12_areAllFriends_0 : decode cX12_areAllFriends 0 = .ok (.iconst 1, 1) := by decide +kernel
theorem dX12_areAllFriends_1 : decode cX12_areAllFriends 1 = .ok (.istore_n 2, 1) := by decide +kernel
theorem dX12_areAllFriends_2 : decode cX12_areAllFriends 2 = .ok (.iconst 0, 1) := by decide +kernel
theorem dX12_areAllFriends_3 : decode cX12_areAllFriends 3 = .ok (.istore_n 3, 1) := by decide +kernel
theorem dX12_areAllFriends_4 : decode cX12_areAllFriends 4 = .ok (.iload_n 3, 1) := by decide +kernel
theorem dX12_areAllFriends_5 : decode cX12_areAllFriends 5 = .ok (.aload_n 0, 1) := by decide +kernel
theorem dX12_areAllFriends_6 : decode cX12_areAllFriends 6 = .ok (.getfield 7, 3) := by decide +kernel
theorem dX12_areAllFriends_9 : decode cX12_areAllFriends 9 = .ok (.iconst 3, 1) := by decide +kernel
theorem dX12_areAllFriends_10 : decode cX12_areAllFriends 10 = .ok (.iaload, 1) := by decide +kernel
theorem dX12_areAllFriends_11 : decode cX12_areAllFriends 11 = .ok (.if_icmp .ge 65, 3) := by decide +kernel
theorem dX12_areAllFriends_14 : decode cX12_areAllFriends 14 = .ok (.iconst 0, 1) := by decide +kernel
theorem dX12_areAllFriends_15 : decode cX12_areAllFriends 15 = .ok (.istore 4, 2) := by decide +kernel
theorem dX12_areAllFriends_17 : decode cX12_areAllFriends 17 = .ok (.iload 4, 2) := by decide +kernel
theorem dX12_areAllFriends_19 : decode cX12_areAllFriends 19 = .ok (.iload_n 3, 1) := by decide +kernel
theorem dX12_areAllFriends_20 : decode cX12_areAllFriends 20 = .ok (.if_icmp .ge 50, 3) := by decide +kernel
theorem dX12_areAllFriends_23 : decode cX12_areAllFriends 23 = .ok (.iload_n 2, 1) := by decide +kernel
theorem dX12_areAllFriends_24 : decode cX12_areAllFriends 24 = .ok (.ifCond .eq 38, 3) := by decide +kernel
theorem dX12_areAllFriends_27 : decode cX12_areAllFriends 27 = .ok (.iload_n 1, 1) := by decide +kernel
theorem dX12_areAllFriends_28 : decode cX12_areAllFriends 28 = .ok (.iload_n 3, 1) := by decide +kernel
theorem dX12_areAllFriends_29 : decode cX12_areAllFriends 29 = .ok (.invokestatic 274, 3) := by decide +kernel
theorem dX12_areAllFriends_32 : decode cX12_areAllFriends 32 = .ok (.ifCond .eq 26, 3) := by decide +kernel
theorem dX12_areAllFriends_35 : decode cX12_areAllFriends 35 = .ok (.iload_n 1, 1) := by decide +kernel
theorem dX12_areAllFriends_36 : decode cX12_areAllFriends 36 = .ok (.iload 4, 2) := by decide +kernel
theorem dX12_areAllFriends_38 : decode cX12_areAllFriends 38 = .ok (.invokestatic 274, 3) := by decide +kernel
theorem dX12_areAllFriends_41 : decode cX12_areAllFriends 41 = .ok (.ifCond .eq 17, 3) := by decide +kernel
theorem dX12_areAllFriends_44 : decode cX12_areAllFriends 44 = .ok (.aload_n 0, 1) := by decide +kernel
theorem dX12_areAllFriends_45 : decode cX12_areAllFriends 45 = .ok (.getfield 47, 3) := by decide +kernel
theorem dX12_areAllFriends_48 : decode cX12_areAllFriends 48 = .ok (.iload_n 3, 1) := by decide +kernel
theorem dX12_areAllFriends_49 : decode cX12_areAllFriends 49 = .ok (.iaload, 1) := by decide +kernel
theorem dX12_areAllFriends_50 : decode cX12_areAllFriends 50 = .ok (.iload 4, 2) := by decide +kernel
theorem dX12_areAllFriends_52 : decode cX12_areAllFriends 52 = .ok (.invokestatic 274, 3) := by decide +kernel
theorem dX12_areAllFriends_55 : decode cX12_areAllFriends 55 = .ok (.ifCond .eq 7, 3) := by decide +kernel
theorem dX12_areAllFriends_58 : decode cX12_areAllFriends 58 = .ok (.iconst 1, 1) := by decide +kernel
theorem dX12_areAllFriends_59 : decode cX12_areAllFriends 59 = .ok (.goto 4, 3) := by decide +kernel
theorem dX12_areAllFriends_62 : decode cX12_areAllFriends 62 = .ok (.iconst 0, 1) := by decide +kernel
theorem dX12_areAllFriends_63 : decode cX12_areAllFriends 63 = .ok (.istore_n 2, 1) := by decide +kernel
theorem dX12_areAllFriends_64 : decode cX12_areAllFriends 64 = .ok (.iinc 4 1, 3) := by decide +kernel
theorem dX12_areAllFriends_67 : decode cX12_areAllFriends 67 = .ok (.goto (-50), 3) := by decide +kernel
theorem dX12_areAllFriends_70 : decode cX12_areAllFriends 70 = .ok (.iinc 3 1, 3) := by decide +kernel
theorem dX12_areAllFriends_73 : decode cX12_areAllFriends 73 = .ok (.goto (-69), 3) := by decide +kernel
theorem dX12_areAllFriends_76 : decode cX12_areAllFriends 76 = .ok (.iload_n 2, 1) := by decide +kernel
theorem dX12_areAllFriends_77 : decode cX12_areAllFriends 77 = .ok (.ireturn, 1) := by decide +kernel
theorem dX12_spare_0 : decode cX12_spare 0 = .ok (.aload_n 0, 1) := by decide +kernel
theorem dX12_spare_1 : decode cX12_spare 1 = .ok (.iconst 0, 1) := by decide +kernel
theorem dX12_spare_2 : decode cX12_spare 2 = .ok (.putfield 59, 3) := by decide +kernel
theorem dX12_spare_5 : decode cX12_spare 5 = .ok (.aload_n 0, 1) := by decide +kernel
theorem dX12_spare_6 : decode cX12_spare 6 = .ok (.iconst 2, 1) := by decide +kernel
theorem dX12_spare_7 : decode cX12_spare 7 = .ok (.invokevirtual 250, 3) := by decide +kernel
theorem dX12_spare_10 : decode cX12_spare 10 = .ok (.istore_n 1, 1) := by decide +kernel
theorem dX12_spare_11 : decode cX12_spare 11 = .ok (.iconst 0, 1) := by decide +kernel
theorem dX12_spare_12 : decode cX12_spare 12 = .ok (.istore_n 2, 1) := by decide +kernel
theorem dX12_spare_13 : decode cX12_spare 13 = .ok (.iload_n 2, 1) := by decide +kernel
theorem dX12_spare_14 : decode cX12_spare 14 = .ok (.aload_n 0, 1) := by decide +kernel
theorem dX12_spare_15 : decode cX12_spare 15 = .ok (.getfield 7, 3) := by decide +kernel
theorem dX12_spare_18 : decode cX12_spare 18 = .ok (.iconst 3, 1) := by decide +kernel
theorem dX12_spare_19 : decode cX12_spare 19 = .ok (.iaload, 1) := by decide +kernel
theorem dX12_spare_20 : decode cX12_spare 20 = .ok (.if_icmp .ge 59, 3) := by decide +kernel
theorem dX12_spare_23 : decode cX12_spare 23 = .ok (.aload_n 0, 1) := by decide +kernel
theorem dX12_spare_24 : decode cX12_spare 24 = .ok (.getfield 47, 3) := by decide +kernel
theorem dX12_spare_27 : decode cX12_spare 27 = .ok (.iload_n 2, 1) := by decide +kernel
theorem dX12_spare_28 : decode cX12_spare 28 = .ok (.iconst 0, 1) := by decide +kernel
theorem dX12_spare_29 : decode cX12_spare 29 = .ok (.iastore, 1) := by decide +kernel
theorem dX12_spare_30 : decode cX12_spare 30 = .ok (.iconst 0, 1) := by decide +kernel
theorem dX12_spare_31 : decode cX12_spare 31 = .ok (.istore_n 3, 1) := by decide +kernel
theorem dX12_spare_32 : decode cX12_spare 32 = .ok (.iload_n 3, 1) := by decide +kernel
theorem dX12_spare_33 : decode cX12_spare 33 = .ok (.aload_n 0, 1) := by decide +kernel
theorem dX12_spare_34 : decode cX12_spare 34 = .ok (.getfield 7, 3) := by decide +kernel
theorem dX12_spare_37 : decode cX12_spare 37 = .ok (.iconst 3, 1) := by decide +kernel
theorem dX12_spare_38 : decode cX12_spare 38 = .ok (.iaload, 1) := by decide +kernel
theorem dX12_spare_39 : decode cX12_spare 39 = .ok (.if_icmp .ge 34, 3) := by decide +kernel
theorem dX12_spare_42 : decode cX12_spare 42 = .ok (.aload_n 0, 1) := by decide +kernel
theorem dX12_spare_43 : decode cX12_spare 43 = .ok (.getfield 47, 3) := by decide +kernel
theorem dX12_spare_46 : decode cX12_spare 46 = .ok (.iload_n 2, 1) := by decide +kernel
theorem dX12_spare_47 : decode cX12_spare 47 = .ok (.dup2, 1) := by decide +kernel
theorem dX12_spare_48 : decode cX12_spare 48 = .ok (.iaload, 1) := by decide +kernel
theorem dX12_spare_49 : decode cX12_spare 49 = .ok (.aload_n 0, 1) := by decide +kernel
theorem dX12_spare_50 : decode cX12_spare 50 = .ok (.iload_n 2, 1) := by decide +kernel
theorem dX12_spare_51 : decode cX12_spare 51 = .ok (.iload_n 3, 1) := by decide +kernel
theorem dX12_spare_52 : decode cX12_spare 52 = .ok (.invokevirtual 344, 3) := by decide +kernel
theorem dX12_spare_55 : decode cX12_spare 55 = .ok (.ifCond .eq 9, 3) := by decide +kernel
theorem dX12_spare_58 : decode cX12_spare 58 = .ok (.iconst 1, 1) := by decide +kernel
theorem dX12_spare_59 : decode cX12_spare 59 = .ok (.iload_n 3, 1) := by decide +kernel
theorem dX12_spare_60 : decode cX12_spare 60 = .ok (.ishl, 1) := by decide +kernel
theorem dX12_spare_61 : decode cX12_spare 61 = .ok (.goto 4, 3) := by decide +kernel
theorem dX12_spare_64 : decode cX12_spare 64 = .ok (.iconst 0, 1) := by decide +kernel
theorem dX12_spare_65 : decode cX12_spare 65 = .ok (.ior, 1) := by decide +kernel
theorem dX12_spare_66 : decode cX12_spare 66 = .ok (.iastore, 1) := by decide +kernel
theorem dX12_spare_67 : decode cX12_spare 67 = .ok (.iinc 3 1, 3) := by decide +kernel
theorem dX12_spare_70 : decode cX12_spare 70 = .ok (.goto (-38), 3) := by decide +kernel
theorem dX12_spare_73 : decode cX12_spare 73 = .ok (.iinc 2 1, 3) := by decide +kernel
theorem dX12_spare_76 : decode cX12_spare 76 = .ok (.goto (-63), 3) := by decide +kernel
theorem dX12_spare_79 : decode cX12_spare 79 = .ok (.iload_n 1, 1) := by decide +kernel
theorem dX12_spare_80 : decode cX12_spare 80 = .ok (.istore_n 2, 1) := by decide +kernel
theorem dX12_spare_81 : decode cX12_spare 81 = .ok (.iconst 0, 1) := by decide +kernel
theorem dX12_spare_82 : decode cX12_spare 82 = .ok (.istore_n 3, 1) := by decide +kernel
theorem dX12_spare_83 : decode cX12_spare 83 = .ok (.iload_n 3, 1) := by decide +kernel
theorem dX12_spare_84 : decode cX12_spare 84 = .ok (.iload_n 1, 1) := by decide +kernel
theorem dX12_spare_85 : decode cX12_spare 85 = .ok (.if_icmp .ge 42, 3) := by decide +kernel
theorem dX12_spare_88 : decode cX12_spare 88 = .ok (.iload_n 3, 1) := by decide +kernel
theorem dX12_spare_89 : decode cX12_spare 89 = .ok (.iload_n 1, 1) := by decide +kernel
theorem dX12_spare_90 : decode cX12_spare 90 = .ok (.iconst (-1), 1) := by decide +kernel
theorem dX12_spare_91 : decode cX12_spare 91 = .ok (.ixor, 1) := by decide +kernel
theorem dX12_spare_92 : decode cX12_spare 92 = .ok (.iand, 1) := by decide +kernel
theorem dX12_spare_93 : decode cX12_spare 93 = .ok (.ifCond .ne 28, 3) := by decide +kernel
theorem dX12_spare_96 : decode cX12_spare 96 = .ok (.iload_n 3, 1) := by decide +kernel
theorem dX12_spare_97 : decode cX12_spare 97 = .ok (.invokestatic 247, 3) := by decide +kernel
theorem dX12_spare_100 : decode cX12_spare 100 = .ok (.iload_n 2, 1) := by decide +kernel
theorem dX12_spare_101 : decode cX12_spare 101 = .ok (.invokestatic 247, 3) := by decide +kernel
theorem dX12_spare_104 : decode cX12_spare 104 = .ok (.if_icmp .ge 17, 3) := by decide +kernel
theorem dX12_spare_107 : decode cX12_spare 107 = .ok (.aload_n 0, 1) := by decide +kernel
theorem dX12_spare_108 : decode cX12_spare 108 = .ok (.iload_n 1, 1) := by decide +kernel
theorem dX12_spare_109 : decode cX12_spare 109 = .ok (.iload_n 3, 1) := by decide +kernel
theorem dX12_spare_110 : decode cX12_spare 110 = .ok (.iconst (-1), 1) := by decide +kernel
theorem dX12_spare_111 : decode cX12_spare 111 = .ok (.ixor, 1) := by decide +kernel
theorem dX12_spare_112 : decode cX12_spare 112 = .ok (.iand, 1) := by decide +kernel
theorem dX12_spare_113 : decode cX12_spare 113 = .ok (.invokevirtual 380, 3) := by decide +kernel
theorem dX12_spare_116 : decode cX12_spare 116 = .ok (.ifCond .eq 5, 3) := by decide +kernel
theorem dX12_spare_119 : decode cX12_spare 119 = .ok (.iload_n 3, 1) := by decide +kernel
theorem dX12_spare_120 : decode cX12_spare 120 = .ok (.istore_n 2, 1) := by decide +kernel
theorem dX12_spare_121 : decode cX12_spare 121 = .ok (.iinc 3 1, 3) := by decide +kernel
theorem dX12_spare_124 : decode cX12_spare 124 = .ok (.goto (-41), 3) := by decide +kernel
theorem dX12_spare_127 : decode cX12_spare 127 = .ok (.iload_n 2, 1) := by decide +kernel
theorem dX12_spare_128 : decode cX12_spare 128 = .ok (.ireturn, 1) := by decide +kernel
theorem dX12_apart_0 : decode cX12_apart 0 = .ok (.aload_n 0, 1) := by decide +kernel
theorem dX12_apart_1 : decode cX12_apart 1 = .ok (.iload_n 1, 1) := by decide +kernel
theorem dX12_apart_2 : decode cX12_apart 2 = .ok (.iconst 0, 1) := by decide +kernel
theorem dX12_apart_3 : decode cX12_apart 3 = .ok (.invokevirtual 66, 3) := by decide +kernel
theorem dX12_apart_6 : decode cX12_apart 6 = .ok (.aload_n 0, 1) := by decide +kernel
theorem dX12_apart_7 : decode cX12_apart 7 = .ok (.iload_n 2, 1) := by decide +kernel
theorem dX12_apart_8 : decode cX12_apart 8 = .ok (.iconst 0, 1) := by decide +kernel
theorem dX12_apart_9 : decode cX12_apart 9 = .ok (.invokevirtual 66, 3) := by decide +kernel
theorem dX12_apart_12 : decode cX12_apart 12 = .ok (.isub, 1) := by decide +kernel
theorem dX12_apart_13 : decode cX12_apart 13 = .ok (.invokestatic 377, 3) := by decide +kernel
theorem dX12_apart_16 : decode cX12_apart 16 = .ok (.ireturn, 1) := by decide +kernel
theorem dX12_allPaths_0 : decode cX12_allPaths 0 = .ok (.iconst 1, 1) := by decide +kernel
theorem dX12_allPaths_1 : decode cX12_allPaths 1 = .ok (.istore_n 1, 1) := by decide +kernel
theorem dX12_allPaths_2 : decode cX12_allPaths 2 = .ok (.iload_n 1, 1) := by decide +kernel
theorem dX12_allPaths_3 : decode cX12_allPaths 3 = .ok (.iconst 1, 1) := by decide +kernel
theorem dX12_allPaths_4 : decode cX12_allPaths 4 = .ok (.aload_n 0, 1) := by decide +kernel
theorem dX12_allPaths_5 : decode cX12_allPaths 5 = .ok (.getfield 7, 3) := by decide +kernel
theorem dX12_allPaths_8 : decode cX12_allPaths 8 = .ok (.iconst 3, 1) := by decide +kernel
theorem dX12_allPaths_9 : decode cX12_allPaths 9 = .ok (.iaload, 1) := by decide +kernel
theorem dX12_allPaths_10 : decode cX12_allPaths 10 = .ok (.ishl, 1) := by decide +kernel
theorem dX12_allPaths_11 : decode cX12_allPaths 11 = .ok (.if_icmp .ge 125, 3) := by decide +kernel
theorem dX12_allPaths_14 : decode cX12_allPaths 14 = .ok (.iconst 0, 1) := by decide +kernel
theorem dX12_allPaths_15 : decode cX12_allPaths 15 = .ok (.istore_n 2, 1) := by decide +kernel
theorem dX12_allPaths_16 : decode cX12_allPaths 16 = .ok (.iload_n 2, 1) := by decide +kernel
theorem dX12_allPaths_17 : decode cX12_allPaths 17 = .ok (.aload_n 0, 1) := by decide +kernel
theorem dX12_allPaths_18 : decode cX12_allPaths 18 = .ok (.getfield 7, 3) := by decide +kernel
theorem dX12_allPaths_21 : decode cX12_allPaths 21 = .ok (.iconst 3, 1) := by decide +kernel
theorem dX12_allPaths_22 : decode cX12_allPaths 22 = .ok (.iaload, 1) := by decide +kernel
theorem dX12_allPaths_23 : decode cX12_allPaths 23 = .ok (.if_icmp .ge 107, 3) := by decide +kernel
theorem dX12_allPaths_26 : decode cX12_allPaths 26 = .ok (.iload_n 1, 1) := by decide +kernel
theorem dX12_allPaths_27 : decode cX12_allPaths 27 = .ok (.iconst 1, 1) := by decide +kernel
theorem dX12_allPaths_28 : decode cX12_allPaths 28 = .ok (.iload_n 2, 1) := by decide +kernel
theorem dX12_allPaths_29 : decode cX12_allPaths 29 = .ok (.ishl, 1) := by decide +kernel
theorem dX12_allPaths_30 : decode cX12_allPaths 30 = .ok (.iconst (-1), 1) := by decide +kernel
theorem dX12_allPaths_31 : decode cX12_allPaths 31 = .ok (.ixor, 1) := by decide +kernel
theorem dX12_allPaths_32 : decode cX12_allPaths 32 = .ok (.iand, 1) := by decide +kernel
theorem dX12_allPaths_33 : decode cX12_allPaths 33 = .ok (.istore_n 3, 1) := by decide +kernel
theorem dX12_allPaths_34 : decode cX12_allPaths 34 = .ok (.iload_n 3, 1) := by decide +kernel
theorem dX12_allPaths_35 : decode cX12_allPaths 35 = .ok (.ifCond .ne 7, 3) := by decide +kernel
theorem dX12_allPaths_38 : decode cX12_allPaths 38 = .ok (.iconst 0, 1) := by decide +kernel
theorem dX12_allPaths_39 : decode cX12_allPaths 39 = .ok (.goto 6, 3) := by decide +kernel
theorem dX12_allPaths_42 : decode cX12_allPaths 42 = .ok (.ldc_w 339, 3) := by decide +kernel
theorem dX12_allPaths_45 : decode cX12_allPaths 45 = .ok (.istore 4, 2) := by decide +kernel
theorem dX12_allPaths_47 : decode cX12_allPaths 47 = .ok (.iconst 0, 1) := by decide +kernel
theorem dX12_allPaths_48 : decode cX12_allPaths 48 = .ok (.istore 5, 2) := by decide +kernel
theorem dX12_allPaths_50 : decode cX12_allPaths 50 = .ok (.iload 5, 2) := by decide +kernel
theorem dX12_allPaths_52 : decode cX12_allPaths 52 = .ok (.aload_n 0, 1) := by decide +kernel
theorem dX12_allPaths_53 : decode cX12_allPaths 53 = .ok (.getfield 7, 3) := by decide +kernel
theorem dX12_allPaths_56 : decode cX12_allPaths 56 = .ok (.iconst 3, 1) := by decide +kernel
theorem dX12_allPaths_57 : decode cX12_allPaths 57 = .ok (.iaload, 1) := by decide +kernel
theorem dX12_allPaths_58 : decode cX12_allPaths 58 = .ok (.if_icmp .ge 53, 3) := by decide +kernel
theorem dX12_allPaths_61 : decode cX12_allPaths 61 = .ok (.iload_n 1, 1) := by decide +kernel
theorem dX12_allPaths_62 : decode cX12_allPaths 62 = .ok (.iload_n 2, 1) := by decide +kernel
theorem dX12_allPaths_63 : decode cX12_allPaths 63 = .ok (.invokestatic 274, 3) := by decide +kernel
theorem dX12_allPaths_66 : decode cX12_allPaths 66 = .ok (.ifCond .eq 39, 3) := by decide +kernel
theorem dX12_allPaths_69 : decode cX12_allPaths 69 = .ok (.iload_n 3, 1) := by decide +kernel
theorem dX12_allPaths_70 : decode cX12_allPaths 70 = .ok (.iload 5, 2) := by decide +kernel
theorem dX12_allPaths_72 : decode cX12_allPaths 72 = .ok (.invokestatic 274, 3) := by decide +kernel
theorem dX12_allPaths_75 : decode cX12_allPaths 75 = .ok (.ifCond .eq 30, 3) := by decide +kernel
theorem dX12_allPaths_78 : decode cX12_allPaths 78 = .ok (.iload 4, 2) := by decide +kernel
theorem dX12_allPaths_80 : decode cX12_allPaths 80 = .ok (.aload_n 0, 1) := by decide +kernel
theorem dX12_allPaths_81 : decode cX12_allPaths 81 = .ok (.iload_n 2, 1) := by decide +kernel
theorem dX12_allPaths_82 : decode cX12_allPaths 82 = .ok (.iload 5, 2) := by decide +kernel
theorem dX12_allPaths_84 : decode cX12_allPaths 84 = .ok (.invokevirtual 383, 3) := by decide +kernel
theorem dX12_allPaths_87 : decode cX12_allPaths 87 = .ok (.aload_n 0, 1) := by decide +kernel
theorem dX12_allPaths_88 : decode cX12_allPaths 88 = .ok (.getfield 50, 3) := by decide +kernel
theorem dX12_allPaths_91 : decode cX12_allPaths 91 = .ok (.bipush 8, 2) := by decide +kernel
theorem dX12_allPaths_93 : decode cX12_allPaths 93 = .ok (.iload_n 3, 1) := by decide +kernel
theorem dX12_allPaths_94 : decode cX12_allPaths 94 = .ok (.imul, 1) := by decide +kernel
theorem dX12_allPaths_95 : decode cX12_allPaths 95 = .ok (.iload 5, 2) := by decide +kernel
theorem dX12_allPaths_97 : decode cX12_allPaths 97 = .ok (.iadd, 1) := by decide +kernel
theorem dX12_allPaths_98 : decode cX12_allPaths 98 = .ok (.iaload, 1) := by decide +kernel
theorem dX12_allPaths_99 : decode cX12_allPaths 99 = .ok (.iadd, 1) := by decide +kernel
theorem dX12_allPaths_100 : decode cX12_allPaths 100 = .ok (.invokestatic 70, 3) := by decide +kernel
theorem dX12_allPaths_103 : decode cX12_allPaths 103 = .ok (.istore 4, 2) := by decide +kernel
theorem dX12_allPaths_105 : decode cX12_allPaths 105 = .ok (.iinc 5 1, 3) := by decide +kernel
theorem dX12_allPaths_108 : decode cX12_allPaths 108 = .ok (.goto (-58), 3) := by decide +kernel
theorem dX12_allPaths_111 : decode cX12_allPaths 111 = .ok (.aload_n 0, 1) := by decide +kernel
theorem dX12_allPaths_112 : decode cX12_allPaths 112 = .ok (.getfield 50, 3) := by decide +kernel
theorem dX12_allPaths_115 : decode cX12_allPaths 115 = .ok (.bipush 8, 2) := by decide +kernel
theorem dX12_allPaths_117 : decode cX12_allPaths 117 = .ok (.iload_n 1, 1) := by decide +kernel
theorem dX12_allPaths_118 : decode cX12_allPaths 118 = .ok (.imul, 1) := by decide +kernel
theorem dX12_allPaths_119 : decode cX12_allPaths 119 = .ok (.iload_n 2, 1) := by decide +kernel
theorem dX12_allPaths_120 : decode cX12_allPaths 120 = .ok (.iadd, 1) := by decide +kernel
theorem dX12_allPaths_121 : decode cX12_allPaths 121 = .ok (.iload 4, 2) := by decide +kernel
theorem dX12_allPaths_123 : decode cX12_allPaths 123 = .ok (.iastore, 1) := by decide +kernel
theorem dX12_allPaths_124 : decode cX12_allPaths 124 = .ok (.iinc 2 1, 3) := by decide +kernel
theorem dX12_allPaths_127 : decode cX12_allPaths 127 = .ok (.goto (-111), 3) := by decide +kernel
theorem dX12_allPaths_130 : decode cX12_allPaths 130 = .ok (.iinc 1 1, 3) := by decide +kernel
theorem dX12_allPaths_133 : decode cX12_allPaths 133 = .ok (.goto (-131), 3) := by decide +kernel
theorem dX12_allPaths_136 : decode cX12_allPaths 136 = .ok (.return_, 1) := by decide +kernel
theorem dX12_order_0 : decode cX12_order 0 = .ok (.aload_n 0, 1) := by decide +kernel
theorem dX12_order_1 : decode cX12_order 1 = .ok (.iconst 0, 1) := by decide +kernel
theorem dX12_order_2 : decode cX12_order 2 = .ok (.putfield 59, 3) := by decide +kernel
theorem dX12_order_5 : decode cX12_order 5 = .ok (.aload_n 0, 1) := by decide +kernel
theorem dX12_order_6 : decode cX12_order 6 = .ok (.iconst 2, 1) := by decide +kernel
theorem dX12_order_7 : decode cX12_order 7 = .ok (.invokevirtual 250, 3) := by decide +kernel
theorem dX12_order_10 : decode cX12_order 10 = .ok (.istore_n 2, 1) := by decide +kernel
theorem dX12_order_11 : decode cX12_order 11 = .ok (.iload_n 2, 1) := by decide +kernel
theorem dX12_order_12 : decode cX12_order 12 = .ok (.invokestatic 247, 3) := by decide +kernel
theorem dX12_order_15 : decode cX12_order 15 = .ok (.istore_n 3, 1) := by decide +kernel
theorem dX12_order_16 : decode cX12_order 16 = .ok (.iload_n 1, 1) := by decide +kernel
theorem dX12_order_17 : decode cX12_order 17 = .ok (.iconst (-1), 1) := by decide +kernel
theorem dX12_order_18 : decode cX12_order 18 = .ok (.if_icmp .ne 8, 3) := by decide +kernel
theorem dX12_order_21 : decode cX12_order 21 = .ok (.aload_n 0, 1) := by decide +kernel
theorem dX12_order_22 : decode cX12_order 22 = .ok (.invokevirtual 371, 3) := by decide +kernel
theorem dX12_order_25 : decode cX12_order 25 = .ok (.ireturn, 1) := by decide +kernel
theorem dX12_order_26 : decode cX12_order 26 = .ok (.iload_n 1, 1) := by decide +kernel
theorem dX12_order_27 : decode cX12_order 27 = .ok (.iconst 0, 1) := by decide +kernel
theorem dX12_order_28 : decode cX12_order 28 = .ok (.iload_n 3, 1) := by decide +kernel
theorem dX12_order_29 : decode cX12_order 29 = .ok (.iconst 1, 1) := by decide +kernel
theorem dX12_order_30 : decode cX12_order 30 = .ok (.isub, 1) := by decide +kernel
theorem dX12_order_31 : decode cX12_order 31 = .ok (.invokestatic 62, 3) := by decide +kernel
theorem dX12_order_34 : decode cX12_order 34 = .ok (.ifCond .ne 5, 3) := by decide +kernel
theorem dX12_order_37 : decode cX12_order 37 = .ok (.iconst (-1), 1) := by decide +kernel
theorem dX12_order_38 : decode cX12_order 38 = .ok (.ireturn, 1) := by decide +kernel
theorem dX12_order_39 : decode cX12_order 39 = .ok (.aload_n 0, 1) := by decide +kernel
theorem dX12_order_40 : decode cX12_order 40 = .ok (.invokevirtual 386, 3) := by decide +kernel
theorem dX12_order_43 : decode cX12_order 43 = .ok (.aload_n 0, 1) := by decide +kernel
theorem dX12_order_44 : decode cX12_order 44 = .ok (.invokevirtual 371, 3) := by decide +kernel
theorem dX12_order_47 : decode cX12_order 47 = .ok (.istore 4, 2) := by decide +kernel
theorem dX12_order_49 : decode cX12_order 49 = .ok (.iconst (-1), 1) := by decide +kernel
theorem dX12_order_50 : decode cX12_order 50 = .ok (.istore 5, 2) := by decide +kernel
theorem dX12_order_52 : decode cX12_order 52 = .ok (.iconst 0, 1) := by decide +kernel
theorem dX12_order_53 : decode cX12_order 53 = .ok (.istore 6, 2) := by decide +kernel
theorem dX12_order_55 : decode cX12_order 55 = .ok (.iload 6, 2) := by decide +kernel
theorem dX12_order_57 : decode cX12_order 57 = .ok (.iload_n 1, 1) := by decide +kernel
theorem dX12_order_58 : decode cX12_order 58 = .ok (.if_icmp .gt 118, 3) := by decide +kernel
theorem dX12_order_61 : decode cX12_order 61 = .ok (.iconst (-1), 1) := by decide +kernel
theorem dX12_order_62 : decode cX12_order 62 = .ok (.istore 7, 2) := by decide +kernel
theorem dX12_order_64 : decode cX12_order 64 = .ok (.aload_n 0, 1) := by decide +kernel
theorem dX12_order_65 : decode cX12_order 65 = .ok (.getfield 7, 3) := by decide +kernel
theorem dX12_order_68 : decode cX12_order 68 = .ok (.iconst 3, 1) := by decide +kernel
theorem dX12_order_69 : decode cX12_order 69 = .ok (.iaload, 1) := by decide +kernel
theorem dX12_order_70 : decode cX12_order 70 = .ok (.iconst 1, 1) := by decide +kernel
theorem dX12_order_71 : decode cX12_order 71 = .ok (.isub, 1) := by decide +kernel
theorem dX12_order_72 : decode cX12_order 72 = .ok (.istore 8, 2) := by decide +kernel
theorem dX12_order_74 : decode cX12_order 74 = .ok (.iload 8, 2) := by decide +kernel
theorem dX12_order_76 : decode cX12_order 76 = .ok (.ifCond .lt 58, 3) := by decide +kernel
theorem dX12_order_79 : decode cX12_order 79 = .ok (.iload_n 2, 1) := by decide +kernel
theorem dX12_order_80 : decode cX12_order 80 = .ok (.iload 8, 2) := by decide +kernel
theorem dX12_order_82 : decode cX12_order 82 = .ok (.invokestatic 274, 3) := by decide +kernel
theorem dX12_order_85 : decode cX12_order 85 = .ok (.ifCond .eq 43, 3) := by decide +kernel
theorem dX12_order_88 : decode cX12_order 88 = .ok (.iload 5, 2) := by decide +kernel
theorem dX12_order_90 : decode cX12_order 90 = .ok (.iconst (-1), 1) := by decide +kernel
theorem dX12_order_91 : decode cX12_order 91 = .ok (.if_icmp .ne 7, 3) := by decide +kernel
theorem dX12_order_94 : decode cX12_order 94 = .ok (.iconst 0, 1) := by decide +kernel
theorem dX12_order_95 : decode cX12_order 95 = .ok (.goto 11, 3) := by decide +kernel
theorem dX12_order_98 : decode cX12_order 98 = .ok (.aload_n 0, 1) := by decide +kernel
theorem dX12_order_99 : decode cX12_order 99 = .ok (.iload 5, 2) := by decide +kernel
theorem dX12_order_101 : decode cX12_order 101 = .ok (.iload 8, 2) := by decide +kernel
theorem dX12_order_103 : decode cX12_order 103 = .ok (.invokevirtual 383, 3) := by decide +kernel
theorem dX12_order_106 : decode cX12_order 106 = .ok (.aload_n 0, 1) := by decide +kernel
theorem dX12_order_107 : decode cX12_order 107 = .ok (.getfield 50, 3) := by decide +kernel
theorem dX12_order_110 : decode cX12_order 110 = .ok (.bipush 8, 2) := by decide +kernel
theorem dX12_order_112 : decode cX12_order 112 = .ok (.iload_n 2, 1) := by decide +kernel
theorem dX12_order_113 : decode cX12_order 113 = .ok (.imul, 1) := by decide +kernel
theorem dX12_order_114 : decode cX12_order 114 = .ok (.iload 8, 2) := by decide +kernel
theorem dX12_order_116 : decode cX12_order 116 = .ok (.iadd, 1) := by decide +kernel
theorem dX12_order_117 : decode cX12_order 117 = .ok (.iaload, 1) := by decide +kernel
theorem dX12_order_118 : decode cX12_order 118 = .ok (.iadd, 1) := by decide +kernel
theorem dX12_order_119 : decode cX12_order 119 = .ok (.iload 4, 2) := by decide +kernel
theorem dX12_order_121 : decode cX12_order 121 = .ok (.if_icmp .ne 7, 3) := by decide +kernel
theorem dX12_order_124 : decode cX12_order 124 = .ok (.iload 8, 2) := by decide +kernel
theorem dX12_order_126 : decode cX12_order 126 = .ok (.istore 7, 2) := by decide +kernel
theorem dX12_order_128 : decode cX12_order 128 = .ok (.iinc 8 (-1), 3) := by decide +kernel
theorem dX12_order_131 : decode cX12_order 131 = .ok (.goto (-57), 3) := by decide +kernel
theorem dX12_order_134 : decode cX12_order 134 = .ok (.iload 4, 2) := by decide +kernel
theorem dX12_order_136 : decode cX12_order 136 = .ok (.iload 5, 2) := by decide +kernel
theorem dX12_order_138 : decode cX12_order 138 = .ok (.iconst (-1), 1) := by decide +kernel
theorem dX12_order_139 : decode cX12_order 139 = .ok (.if_icmp .ne 7, 3) := by decide +kernel
theorem dX12_order_142 : decode cX12_order 142 = .ok (.iconst 0, 1) := by decide +kernel
theorem dX12_order_143 : decode cX12_order 143 = .ok (.goto 11, 3) := by decide +kernel
theorem dX12_order_146 : decode cX12_order 146 = .ok (.aload_n 0, 1) := by decide +kernel
theorem dX12_order_147 : decode cX12_order 147 = .ok (.iload 5, 2) := by decide +kernel
theorem dX12_order_149 : decode cX12_order 149 = .ok (.iload 7, 2) := by decide +kernel
theorem dX12_order_151 : decode cX12_order 151 = .ok (.invokevirtual 383, 3) := by decide +kernel
theorem dX12_order_154 : decode cX12_order 154 = .ok (.isub, 1) := by decide +kernel
theorem dX12_order_155 : decode cX12_order 155 = .ok (.istore 4, 2) := by decide +kernel
theorem dX12_order_157 : decode cX12_order 157 = .ok (.iload_n 2, 1) := by decide +kernel
theorem dX12_order_158 : decode cX12_order 158 = .ok (.iconst 1, 1) := by decide +kernel
theorem dX12_order_159 : decode cX12_order 159 = .ok (.iload 7, 2) := by decide +kernel
theorem dX12_order_161 : decode cX12_order 161 = .ok (.ishl, 1) := by decide +kernel
theorem dX12_order_162 : decode cX12_order 162 = .ok (.iconst (-1), 1) := by decide +kernel
theorem dX12_order_163 : decode cX12_order 163 = .ok (.ixor, 1) := by decide +kernel
theorem dX12_order_164 : decode cX12_order 164 = .ok (.iand, 1) := by decide +kernel
theorem dX12_order_165 : decode cX12_order 165 = .ok (.istore_n 2, 1) := by decide +kernel
theorem dX12_order_166 : decode cX12_order 166 = .ok (.iload 7, 2) := by decide +kernel
theorem dX12_order_168 : decode cX12_order 168 = .ok (.istore 5, 2) := by decide +kernel
theorem dX12_order_170 : decode cX12_order 170 = .ok (.iinc 6 1, 3) := by decide +kernel
theorem dX12_order_173 : decode cX12_order 173 = .ok (.goto (-118), 3) := by decide +kernel
theorem dX12_order_176 : decode cX12_order 176 = .ok (.iload 5, 2) := by decide +kernel
theorem dX12_order_178 : decode cX12_order 178 = .ok (.ireturn, 1) := by decide +kernel
theorem dX12_clockOf_0 : decode cX12_clockOf 0 = .ok (.iload_n 0, 1) := by decide +kernel
theorem dX12_clockOf_1 : decode cX12_clockOf 1 = .ok (.bipush 19, 2) := by decide +kernel
theorem dX12_clockOf_3 : decode cX12_clockOf 3 = .ok (.idiv, 1) := by decide +kernel
theorem dX12_clockOf_4 : decode cX12_clockOf 4 = .ok (.bipush 40, 2) := by decide +kernel
theorem dX12_clockOf_6 : decode cX12_clockOf 6 = .ok (.isub, 1) := by decide +kernel
theorem dX12_clockOf_7 : decode cX12_clockOf 7 = .ok (.iload_n 1, 1) := by decide +kernel
theorem dX12_clockOf_8 : decode cX12_clockOf 8 = .ok (.iload_n 0, 1) := by decide +kernel
theorem dX12_clockOf_9 : decode cX12_clockOf 9 = .ok (.bipush 19, 2) := by decide +kernel
theorem dX12_clockOf_11 : decode cX12_clockOf 11 = .ok (.irem, 1) := by decide +kernel
theorem dX12_clockOf_12 : decode cX12_clockOf 12 = .ok (.bipush 9, 2) := by decide +kernel
theorem dX12_clockOf_14 : decode cX12_clockOf 14 = .ok (.isub, 1) := by decide +kernel
theorem dX12_clockOf_15 : decode cX12_clockOf 15 = .ok (.imul, 1) := by decide +kernel
theorem dX12_clockOf_16 : decode cX12_clockOf 16 = .ok (.iadd, 1) := by decide +kernel
theorem dX12_clockOf_17 : decode cX12_clockOf 17 = .ok (.ireturn, 1) := by decide +kernel
theorem dX12_readMany_0 : decode cX12_readMany 0 = .ok (.aload_n 0, 1) := by decide +kernel
theorem dX12_readMany_1 : decode cX12_readMany 1 = .ok (.getfield 76, 3) := by decide +kernel
theorem dX12_readMany_4 : decode cX12_readMany 4 = .ok (.istore_n 1, 1) := by decide +kernel
theorem dX12_readMany_5 : decode cX12_readMany 5 = .ok (.aload_n 0, 1) := by decide +kernel
theorem dX12_readMany_6 : decode cX12_readMany 6 = .ok (.iconst 0, 1) := by decide +kernel
theorem dX12_readMany_7 : decode cX12_readMany 7 = .ok (.putfield 76, 3) := by decide +kernel
theorem dX12_readMany_10 : decode cX12_readMany 10 = .ok (.iload_n 1, 1) := by decide +kernel
theorem dX12_readMany_11 : decode cX12_readMany 11 = .ok (.iconst 2, 1) := by decide +kernel
theorem dX12_readMany_12 : decode cX12_readMany 12 = .ok (.irem, 1) := by decide +kernel
theorem dX12_readMany_13 : decode cX12_readMany 13 = .ok (.ifCond .ne 13, 3) := by decide +kernel
theorem dX12_readMany_16 : decode cX12_readMany 16 = .ok (.iload_n 1, 1) := by decide +kernel
theorem dX12_readMany_17 : decode cX12_readMany 17 = .ok (.bipush 40, 2) := by decide +kernel
theorem dX12_readMany_19 : decode cX12_readMany 19 = .ok (.if_icmp .gt 7, 3) := by decide +kernel
theorem dX12_readMany_22 : decode cX12_readMany 22 = .ok (.iconst 1, 1) := by decide +kernel
theorem dX12_readMany_23 : decode cX12_readMany 23 = .ok (.goto 4, 3) := by decide +kernel
theorem dX12_readMany_26 : decode cX12_readMany 26 = .ok (.iconst 0, 1) := by decide +kernel
theorem dX12_readMany_27 : decode cX12_readMany 27 = .ok (.istore_n 2, 1) := by decide +kernel
theorem dX12_readMany_28 : decode cX12_readMany 28 = .ok (.iconst 0, 1) := by decide +kernel
theorem dX12_readMany_29 : decode cX12_readMany 29 = .ok (.istore_n 3, 1) := by decide +kernel
theorem dX12_readMany_30 : decode cX12_readMany 30 = .ok (.iload_n 3, 1) := by decide +kernel
theorem dX12_readMany_31 : decode cX12_readMany 31 = .ok (.iload_n 1, 1) := by decide +kernel
theorem dX12_readMany_32 : decode cX12_readMany 32 = .ok (.if_icmp .ge 30, 3) := by decide +kernel
theorem dX12_readMany_35 : decode cX12_readMany 35 = .ok (.iload_n 2, 1) := by decide +kernel
theorem dX12_readMany_36 : decode cX12_readMany 36 = .ok (.ifCond .eq 26, 3) := by decide +kernel
theorem dX12_readMany_39 : decode cX12_readMany 39 = .ok (.aload_n 0, 1) := by decide +kernel
theorem dX12_readMany_40 : decode cX12_readMany 40 = .ok (.getfield 22, 3) := by decide +kernel
theorem dX12_readMany_43 : decode cX12_readMany 43 = .ok (.iload_n 3, 1) := by decide +kernel
theorem dX12_readMany_44 : decode cX12_readMany 44 = .ok (.iaload, 1) := by decide +kernel
theorem dX12_readMany_45 : decode cX12_readMany 45 = .ok (.bipush 100, 2) := by decide +kernel
theorem dX12_readMany_47 : decode cX12_readMany 47 = .ok (.if_icmp .ge 7, 3) := by decide +kernel
theorem dX12_readMany_50 : decode cX12_readMany 50 = .ok (.iconst 1, 1) := by decide +kernel
theorem dX12_readMany_51 : decode cX12_readMany 51 = .ok (.goto 4, 3) := by decide +kernel
theorem dX12_readMany_54 : decode cX12_readMany 54 = .ok (.iconst 0, 1) := by decide +kernel
theorem dX12_readMany_55 : decode cX12_readMany 55 = .ok (.istore_n 2, 1) := by decide +kernel
theorem dX12_readMany_56 : decode cX12_readMany 56 = .ok (.iinc 3 2, 3) := by decide +kernel
theorem dX12_readMany_59 : decode cX12_readMany 59 = .ok (.goto (-29), 3) := by decide +kernel
theorem dX12_readMany_62 : decode cX12_readMany 62 = .ok (.aload_n 0, 1) := by decide +kernel
theorem dX12_readMany_63 : decode cX12_readMany 63 = .ok (.iload_n 2, 1) := by decide +kernel
theorem dX12_readMany_64 : decode cX12_readMany 64 = .ok (.ifCond .eq 7, 3) := by decide +kernel
theorem dX12_readMany_67 : decode cX12_readMany 67 = .ok (.iconst 0, 1) := by decide +kernel
theorem dX12_readMany_68 : decode cX12_readMany 68 = .ok (.goto 4, 3) := by decide +kernel
theorem dX12_readMany_71 : decode cX12_readMany 71 = .ok (.iconst 1, 1) := by decide +kernel
theorem dX12_readMany_72 : decode cX12_readMany 72 = .ok (.putfield 59, 3) := by decide +kernel
theorem dX12_readMany_75 : decode cX12_readMany 75 = .ok (.iload_n 1, 1) := by decide +kernel
theorem dX12_readMany_76 : decode cX12_readMany 76 = .ok (.ireturn, 1) := by decide +kernel
theorem dX12_wrongReads_0 : decode cX12_wrongReads 0 = .ok (.iconst 0, 1) := by decide +kernel
theorem dX12_wrongReads_1 : decode cX12_wrongReads 1 = .ok (.istore_n 3, 1) := by decide +kernel
theorem dX12_wrongReads_2 : decode cX12_wrongReads 2 = .ok (.iconst 0, 1) := by decide +kernel
theorem dX12_wrongReads_3 : decode cX12_wrongReads 3 = .ok (.istore 4, 2) := by decide +kernel
theorem dX12_wrongReads_5 : decode cX12_wrongReads 5 = .ok (.iload 4, 2) := by decide +kernel
theorem dX12_wrongReads_7 : decode cX12_wrongReads 7 = .ok (.iload_n 2, 1) := by decide +kernel
theorem dX12_wrongReads_8 : decode cX12_wrongReads 8 = .ok (.if_icmp .ge 44, 3) := by decide +kernel
theorem dX12_wrongReads_11 : decode cX12_wrongReads 11 = .ok (.iload_n 3, 1) := by decide +kernel
theorem dX12_wrongReads_12 : decode cX12_wrongReads 12 = .ok (.iload_n 1, 1) := by decide +kernel
theorem dX12_wrongReads_13 : decode cX12_wrongReads 13 = .ok (.aload_n 0, 1) := by decide +kernel
theorem dX12_wrongReads_14 : decode cX12_wrongReads 14 = .ok (.getfield 22, 3) := by decide +kernel
theorem dX12_wrongReads_17 : decode cX12_wrongReads 17 = .ok (.iload 4, 2) := by decide +kernel
theorem dX12_wrongReads_19 : decode cX12_wrongReads 19 = .ok (.iaload, 1) := by decide +kernel
theorem dX12_wrongReads_20 : decode cX12_wrongReads 20 = .ok (.invokestatic 389, 3) := by decide +kernel
theorem dX12_wrongReads_23 : decode cX12_wrongReads 23 = .ok (.aload_n 0, 1) := by decide +kernel
theorem dX12_wrongReads_24 : decode cX12_wrongReads 24 = .ok (.getfield 22, 3) := by decide +kernel
theorem dX12_wrongReads_27 : decode cX12_wrongReads 27 = .ok (.iload 4, 2) := by decide +kernel
theorem dX12_wrongReads_29 : decode cX12_wrongReads 29 = .ok (.iconst 1, 1) := by decide +kernel
theorem dX12_wrongReads_30 : decode cX12_wrongReads 30 = .ok (.iadd, 1) := by decide +kernel
theorem dX12_wrongReads_31 : decode cX12_wrongReads 31 = .ok (.iaload, 1) := by decide +kernel
theorem dX12_wrongReads_32 : decode cX12_wrongReads 32 = .ok (.sipush 128, 3) := by decide +kernel
theorem dX12_wrongReads_35 : decode cX12_wrongReads 35 = .ok (.isub, 1) := by decide +kernel
theorem dX12_wrongReads_36 : decode cX12_wrongReads 36 = .ok (.if_icmp .ne 7, 3) := by decide +kernel
theorem dX12_wrongReads_39 : decode cX12_wrongReads 39 = .ok (.iconst 0, 1) := by decide +kernel
theorem dX12_wrongReads_40 : decode cX12_wrongReads 40 = .ok (.goto 4, 3) := by decide +kernel
theorem dX12_wrongReads_43 : decode cX12_wrongReads 43 = .ok (.iconst 1, 1) := by decide +kernel
theorem dX12_wrongReads_44 : decode cX12_wrongReads 44 = .ok (.iadd, 1) := by decide +kernel
theorem dX12_wrongReads_45 : decode cX12_wrongReads 45 = .ok (.istore_n 3, 1) := by decide +kernel
theorem dX12_wrongReads_46 : decode cX12_wrongReads 46 = .ok (.iinc 4 2, 3) := by decide +kernel
theorem dX12_wrongReads_49 : decode cX12_wrongReads 49 = .ok (.goto (-44), 3) := by decide +kernel
theorem dX12_wrongReads_52 : decode cX12_wrongReads 52 = .ok (.iload_n 3, 1) := by decide +kernel
theorem dX12_wrongReads_53 : decode cX12_wrongReads 53 = .ok (.ireturn, 1) := by decide +kernel
theorem dX12_read_0 : decode cX12_read 0 = .ok (.aload_n 0, 1) := by decide +kernel
theorem dX12_read_1 : decode cX12_read 1 = .ok (.invokevirtual 392, 3) := by decide +kernel
theorem dX12_read_4 : decode cX12_read 4 = .ok (.istore_n 2, 1) := by decide +kernel
theorem dX12_read_5 : decode cX12_read 5 = .ok (.aload_n 0, 1) := by decide +kernel
theorem dX12_read_6 : decode cX12_read 6 = .ok (.getfield 59, 3) := by decide +kernel
theorem dX12_read_9 : decode cX12_read 9 = .ok (.ifCond .le 5, 3) := by decide +kernel
theorem dX12_read_12 : decode cX12_read 12 = .ok (.iconst 0, 1) := by decide +kernel
theorem dX12_read_13 : decode cX12_read 13 = .ok (.ireturn, 1) := by decide +kernel
theorem dX12_read_14 : decode cX12_read 14 = .ok (.iconst 0, 1) := by decide +kernel
theorem dX12_read_15 : decode cX12_read 15 = .ok (.istore_n 3, 1) := by decide +kernel
theorem dX12_read_16 : decode cX12_read 16 = .ok (.iconst (-1), 1) := by decide +kernel
theorem dX12_read_17 : decode cX12_read 17 = .ok (.istore 4, 2) := by decide +kernel
theorem dX12_read_19 : decode cX12_read 19 = .ok (.iconst 2, 1) := by decide +kernel
theorem dX12_read_20 : decode cX12_read 20 = .ok (.istore 5, 2) := by decide +kernel
theorem dX12_read_22 : decode cX12_read 22 = .ok (.iconst 0, 1) := by decide +kernel
theorem dX12_read_23 : decode cX12_read 23 = .ok (.istore 6, 2) := by decide +kernel
theorem dX12_read_25 : decode cX12_read 25 = .ok (.iload 6, 2) := by decide +kernel
theorem dX12_read_27 : decode cX12_read 27 = .ok (.sipush 1539, 3) := by decide +kernel
theorem dX12_read_30 : decode cX12_read 30 = .ok (.if_icmp .ge 50, 3) := by decide +kernel
theorem dX12_read_33 : decode cX12_read 33 = .ok (.aload_n 0, 1) := by decide +kernel
theorem dX12_read_34 : decode cX12_read 34 = .ok (.iload 6, 2) := by decide +kernel
theorem dX12_read_36 : decode cX12_read 36 = .ok (.iload_n 2, 1) := by decide +kernel
theorem dX12_read_37 : decode cX12_read 37 = .ok (.invokevirtual 395, 3) := by decide +kernel
theorem dX12_read_40 : decode cX12_read 40 = .ok (.istore 7, 2) := by decide +kernel
theorem dX12_read_42 : decode cX12_read 42 = .ok (.iload_n 3, 1) := by decide +kernel
theorem dX12_read_43 : decode cX12_read 43 = .ok (.iload 7, 2) := by decide +kernel
theorem dX12_read_45 : decode cX12_read 45 = .ok (.iconst 2, 1) := by decide +kernel
theorem dX12_read_46 : decode cX12_read 46 = .ok (.if_icmp .ge 7, 3) := by decide +kernel
theorem dX12_read_49 : decode cX12_read 49 = .ok (.iconst 1, 1) := by decide +kernel
theorem dX12_read_50 : decode cX12_read 50 = .ok (.goto 4, 3) := by decide +kernel
theorem dX12_read_53 : decode cX12_read 53 = .ok (.iconst 0, 1) := by decide +kernel
theorem dX12_read_54 : decode cX12_read 54 = .ok (.iadd, 1) := by decide +kernel
theorem dX12_read_55 : decode cX12_read 55 = .ok (.istore_n 3, 1) := by decide +kernel
theorem dX12_read_56 : decode cX12_read 56 = .ok (.iload 7, 2) := by decide +kernel
theorem dX12_read_58 : decode cX12_read 58 = .ok (.iload 5, 2) := by decide +kernel
theorem dX12_read_60 : decode cX12_read 60 = .ok (.if_icmp .lt 6, 3) := by decide +kernel
theorem dX12_read_63 : decode cX12_read 63 = .ok (.goto 11, 3) := by decide +kernel
theorem dX12_read_66 : decode cX12_read 66 = .ok (.iload 7, 2) := by decide +kernel
theorem dX12_read_68 : decode cX12_read 68 = .ok (.istore 5, 2) := by decide +kernel
theorem dX12_read_70 : decode cX12_read 70 = .ok (.iload 6, 2) := by decide +kernel
theorem dX12_read_72 : decode cX12_read 72 = .ok (.istore 4, 2) := by decide +kernel
theorem dX12_read_74 : decode cX12_read 74 = .ok (.iinc 6 1, 3) := by decide +kernel
theorem dX12_read_77 : decode cX12_read 77 = .ok (.goto (-52), 3) := by decide +kernel
theorem dX12_read_80 : decode cX12_read 80 = .ok (.iload_n 1, 1) := by decide +kernel
theorem dX12_read_81 : decode cX12_read 81 = .ok (.ifCond .eq 8, 3) := by decide +kernel
theorem dX12_read_84 : decode cX12_read 84 = .ok (.iload 4, 2) := by decide +kernel
theorem dX12_read_86 : decode cX12_read 86 = .ok (.goto 4, 3) := by decide +kernel
theorem dX12_read_89 : decode cX12_read 89 = .ok (.iload_n 3, 1) := by decide +kernel
theorem dX12_read_90 : decode cX12_read 90 = .ok (.ireturn, 1) := by decide +kernel
theorem dX12_when_0 : decode cX12_when 0 = .ok (.aload_n 0, 1) := by decide +kernel
theorem dX12_when_1 : decode cX12_when 1 = .ok (.invokevirtual 392, 3) := by decide +kernel
theorem dX12_when_4 : decode cX12_when 4 = .ok (.istore_n 1, 1) := by decide +kernel
theorem dX12_when_5 : decode cX12_when 5 = .ok (.aload_n 0, 1) := by decide +kernel
theorem dX12_when_6 : decode cX12_when 6 = .ok (.getfield 59, 3) := by decide +kernel
theorem dX12_when_9 : decode cX12_when 9 = .ok (.ifCond .le 5, 3) := by decide +kernel
theorem dX12_when_12 : decode cX12_when 12 = .ok (.iconst 0, 1) := by decide +kernel
theorem dX12_when_13 : decode cX12_when 13 = .ok (.ireturn, 1) := by decide +kernel
theorem dX12_when_14 : decode cX12_when 14 = .ok (.iconst (-1), 1) := by decide +kernel
theorem dX12_when_15 : decode cX12_when 15 = .ok (.istore_n 2, 1) := by decide +kernel
theorem dX12_when_16 : decode cX12_when 16 = .ok (.ldc_w 339, 3) := by decide +kernel
theorem dX12_when_19 : decode cX12_when 19 = .ok (.istore_n 3, 1) := by decide +kernel
theorem dX12_when_20 : decode cX12_when 20 = .ok (.iconst 0, 1) := by decide +kernel
theorem dX12_when_21 : decode cX12_when 21 = .ok (.istore 4, 2) := by decide +kernel
theorem dX12_when_23 : decode cX12_when 23 = .ok (.iload 4, 2) := by decide +kernel
theorem dX12_when_25 : decode cX12_when 25 = .ok (.bipush 10, 2) := by decide +kernel
theorem dX12_when_27 : decode cX12_when 27 = .ok (.if_icmp .ge 132, 3) := by decide +kernel
theorem dX12_when_30 : decode cX12_when 30 = .ok (.iconst 0, 1) := by decide +kernel
theorem dX12_when_31 : decode cX12_when 31 = .ok (.istore 5, 2) := by decide +kernel
theorem dX12_when_33 : decode cX12_when 33 = .ok (.iload 5, 2) := by decide +kernel
theorem dX12_when_35 : decode cX12_when 35 = .ok (.sipush 243, 3) := by decide +kernel
theorem dX12_when_38 : decode cX12_when 38 = .ok (.if_icmp .ge 17, 3) := by decide +kernel
theorem dX12_when_41 : decode cX12_when 41 = .ok (.aload_n 0, 1) := by decide +kernel
theorem dX12_when_42 : decode cX12_when 42 = .ok (.getfield 56, 3) := by decide +kernel
theorem dX12_when_45 : decode cX12_when 45 = .ok (.iload 5, 2) := by decide +kernel
theorem dX12_when_47 : decode cX12_when 47 = .ok (.iconst 0, 1) := by decide +kernel
theorem dX12_when_48 : decode cX12_when 48 = .ok (.iastore, 1) := by decide +kernel
theorem dX12_when_49 : decode cX12_when 49 = .ok (.iinc 5 1, 3) := by decide +kernel
theorem dX12_when_52 : decode cX12_when 52 = .ok (.goto (-19), 3) := by decide +kernel
theorem dX12_when_55 : decode cX12_when 55 = .ok (.iconst 0, 1) := by decide +kernel
theorem dX12_when_56 : decode cX12_when 56 = .ok (.istore 5, 2) := by decide +kernel
theorem dX12_when_58 : decode cX12_when 58 = .ok (.iconst 0, 1) := by decide +kernel
theorem dX12_when_59 : decode cX12_when 59 = .ok (.istore 6, 2) := by decide +kernel
theorem dX12_when_61 : decode cX12_when 61 = .ok (.iconst 0, 1) := by decide +kernel
theorem dX12_when_62 : decode cX12_when 62 = .ok (.istore 7, 2) := by decide +kernel
theorem dX12_when_64 : decode cX12_when 64 = .ok (.iload 7, 2) := by decide +kernel
theorem dX12_when_66 : decode cX12_when 66 = .ok (.sipush 1539, 3) := by decide +kernel
theorem dX12_when_69 : decode cX12_when 69 = .ok (.if_icmp .ge 63, 3) := by decide +kernel
theorem dX12_when_72 : decode cX12_when 72 = .ok (.aload_n 0, 1) := by decide +kernel
theorem dX12_when_73 : decode cX12_when 73 = .ok (.iload 7, 2) := by decide +kernel
theorem dX12_when_75 : decode cX12_when 75 = .ok (.iload_n 1, 1) := by decide +kernel
theorem dX12_when_76 : decode cX12_when 76 = .ok (.invokevirtual 395, 3) := by decide +kernel
theorem dX12_when_79 : decode cX12_when 79 = .ok (.iconst 1, 1) := by decide +kernel
theorem dX12_when_80 : decode cX12_when 80 = .ok (.if_icmp .le 6, 3) := by decide +kernel
theorem dX12_when_83 : decode cX12_when 83 = .ok (.goto 43, 3) := by decide +kernel
theorem dX12_when_86 : decode cX12_when 86 = .ok (.iload 7, 2) := by decide +kernel
theorem dX12_when_88 : decode cX12_when 88 = .ok (.iload 4, 2) := by decide +kernel
theorem dX12_when_90 : decode cX12_when 90 = .ok (.invokestatic 389, 3) := by decide +kernel
theorem dX12_when_93 : decode cX12_when 93 = .ok (.bipush 121, 2) := by decide +kernel
theorem dX12_when_95 : decode cX12_when 95 = .ok (.iadd, 1) := by decide +kernel
theorem dX12_when_96 : decode cX12_when 96 = .ok (.istore 8, 2) := by decide +kernel
theorem dX12_when_98 : decode cX12_when 98 = .ok (.aload_n 0, 1) := by decide +kernel
theorem dX12_when_99 : decode cX12_when 99 = .ok (.getfield 56, 3) := by decide +kernel
theorem dX12_when_102 : decode cX12_when 102 = .ok (.iload 8, 2) := by decide +kernel
theorem dX12_when_104 : decode cX12_when 104 = .ok (.dup2, 1) := by decide +kernel
theorem dX12_when_105 : decode cX12_when 105 = .ok (.iaload, 1) := by decide +kernel
theorem dX12_when_106 : decode cX12_when 106 = .ok (.iconst 1, 1) := by decide +kernel
theorem dX12_when_107 : decode cX12_when 107 = .ok (.iadd, 1) := by decide +kernel
theorem dX12_when_108 : decode cX12_when 108 = .ok (.iastore, 1) := by decide +kernel
theorem dX12_when_109 : decode cX12_when 109 = .ok (.iinc 5 1, 3) := by decide +kernel
theorem dX12_when_112 : decode cX12_when 112 = .ok (.iload 6, 2) := by decide +kernel
theorem dX12_when_114 : decode cX12_when 114 = .ok (.aload_n 0, 1) := by decide +kernel
theorem dX12_when_115 : decode cX12_when 115 = .ok (.getfield 56, 3) := by decide +kernel
theorem dX12_when_118 : decode cX12_when 118 = .ok (.iload 8, 2) := by decide +kernel
theorem dX12_when_120 : decode cX12_when 120 = .ok (.iaload, 1) := by decide +kernel
theorem dX12_when_121 : decode cX12_when 121 = .ok (.invokestatic 73, 3) := by decide +kernel
theorem dX12_when_124 : decode cX12_when 124 = .ok (.istore 6, 2) := by decide +kernel
theorem dX12_when_126 : decode cX12_when 126 = .ok (.iinc 7 1, 3) := by decide +kernel
theorem dX12_when_129 : decode cX12_when 129 = .ok (.goto (-65), 3) := by decide +kernel
theorem dX12_when_132 : decode cX12_when 132 = .ok (.iload 5, 2) := by decide +kernel
theorem dX12_when_134 : decode cX12_when 134 = .ok (.iconst 2, 1) := by decide +kernel
theorem dX12_when_135 : decode cX12_when 135 = .ok (.if_icmp .lt 18, 3) := by decide +kernel
theorem dX12_when_138 : decode cX12_when 138 = .ok (.iload 6, 2) := by decide +kernel
theorem dX12_when_140 : decode cX12_when 140 = .ok (.iload_n 3, 1) := by decide +kernel
theorem dX12_when_141 : decode cX12_when 141 = .ok (.if_icmp .lt 6, 3) := by decide +kernel
theorem dX12_when_144 : decode cX12_when 144 = .ok (.goto 9, 3) := by decide +kernel
theorem dX12_when_147 : decode cX12_when 147 = .ok (.iload 6, 2) := by decide +kernel
theorem dX12_when_149 : decode cX12_when 149 = .ok (.istore_n 3, 1) := by decide +kernel
theorem dX12_when_150 : decode cX12_when 150 = .ok (.iload 4, 2) := by decide +kernel
theorem dX12_when_152 : decode cX12_when 152 = .ok (.istore_n 2, 1) := by decide +kernel
theorem dX12_when_153 : decode cX12_when 153 = .ok (.iinc 4 1, 3) := by decide +kernel
theorem dX12_when_156 : decode cX12_when 156 = .ok (.goto (-133), 3) := by decide +kernel
theorem dX12_when_159 : decode cX12_when 159 = .ok (.iload_n 2, 1) := by decide +kernel
theorem dX12_when_160 : decode cX12_when 160 = .ok (.ireturn, 1) := by decide +kernel
theorem dX12_wouldHear_0 : decode cX12_wouldHear 0 = .ok (.iload_n 0, 1) := by decide +kernel
theorem dX12_wouldHear_1 : decode cX12_wouldHear 1 = .ok (.iconst 1, 1) := by decide +kernel
theorem dX12_wouldHear_2 : decode cX12_wouldHear 2 = .ok (.iload_n 1, 1) := by decide +kernel
theorem dX12_wouldHear_3 : decode cX12_wouldHear 3 = .ok (.iadd, 1) := by decide +kernel
theorem dX12_wouldHear_4 : decode cX12_wouldHear 4 = .ok (.if_icmp .eq 15, 3) := by decide +kernel
theorem dX12_wouldHear_7 : decode cX12_wouldHear 7 = .ok (.iload_n 0, 1) := by decide +kernel
theorem dX12_wouldHear_8 : decode cX12_wouldHear 8 = .ok (.bipush 9, 2) := by decide +kernel
theorem dX12_wouldHear_10 : decode cX12_wouldHear 10 = .ok (.iload_n 2, 1) := by decide +kernel
theorem dX12_wouldHear_11 : decode cX12_wouldHear 11 = .ok (.iadd, 1) := by decide +kernel
theorem dX12_wouldHear_12 : decode cX12_wouldHear 12 = .ok (.if_icmp .eq 7, 3) := by decide +kernel
theorem dX12_wouldHear_15 : decode cX12_wouldHear 15 = .ok (.iconst 1, 1) := by decide +kernel
theorem dX12_wouldHear_16 : decode cX12_wouldHear 16 = .ok (.goto 4, 3) := by decide +kernel
theorem dX12_wouldHear_19 : decode cX12_wouldHear 19 = .ok (.iconst 0, 1) := by decide +kernel
theorem dX12_wouldHear_20 : decode cX12_wouldHear 20 = .ok (.ireturn, 1) := by decide +kernel
theorem dX12_blameMany_0 : decode cX12_blameMany 0 = .ok (.aload_n 0, 1) := by decide +kernel
theorem dX12_blameMany_1 : decode cX12_blameMany 1 = .ok (.getfield 76, 3) := by decide +kernel
theorem dX12_blameMany_4 : decode cX12_blameMany 4 = .ok (.istore_n 1, 1) := by decide +kernel
theorem dX12_blameMany_5 : decode cX12_blameMany 5 = .ok (.aload_n 0, 1) := by decide +kernel
theorem dX12_blameMany_6 : decode cX12_blameMany 6 = .ok (.iconst 0, 1) := by decide +kernel
theorem dX12_blameMany_7 : decode cX12_blameMany 7 = .ok (.putfield 76, 3) := by decide +kernel
theorem dX12_blameMany_10 : decode cX12_blameMany 10 = .ok (.iload_n 1, 1) := by decide +kernel
theorem dX12_blameMany_11 : decode cX12_blameMany 11 = .ok (.iconst 3, 1) := by decide +kernel
theorem dX12_blameMany_12 : decode cX12_blameMany 12 = .ok (.irem, 1) := by decide +kernel
theorem dX12_blameMany_13 : decode cX12_blameMany 13 = .ok (.ifCond .ne 13, 3) := by decide +kernel
theorem dX12_blameMany_16 : decode cX12_blameMany 16 = .ok (.iload_n 1, 1) := by decide +kernel
theorem dX12_blameMany_17 : decode cX12_blameMany 17 = .ok (.bipush 60, 2) := by decide +kernel
theorem dX12_blameMany_19 : decode cX12_blameMany 19 = .ok (.if_icmp .gt 7, 3) := by decide +kernel
theorem dX12_blameMany_22 : decode cX12_blameMany 22 = .ok (.iconst 1, 1) := by decide +kernel
theorem dX12_blameMany_23 : decode cX12_blameMany 23 = .ok (.goto 4, 3) := by decide +kernel
theorem dX12_blameMany_26 : decode cX12_blameMany 26 = .ok (.iconst 0, 1) := by decide +kernel
theorem dX12_blameMany_27 : decode cX12_blameMany 27 = .ok (.istore_n 2, 1) := by decide +kernel
theorem dX12_blameMany_28 : decode cX12_blameMany 28 = .ok (.iconst 0, 1) := by decide +kernel
theorem dX12_blameMany_29 : decode cX12_blameMany 29 = .ok (.istore_n 3, 1) := by decide +kernel
theorem dX12_blameMany_30 : decode cX12_blameMany 30 = .ok (.iload_n 3, 1) := by decide +kernel
theorem dX12_blameMany_31 : decode cX12_blameMany 31 = .ok (.iload_n 1, 1) := by decide +kernel
theorem dX12_blameMany_32 : decode cX12_blameMany 32 = .ok (.if_icmp .ge 72, 3) := by decide +kernel
theorem dX12_blameMany_35 : decode cX12_blameMany 35 = .ok (.iload_n 2, 1) := by decide +kernel
theorem dX12_blameMany_36 : decode cX12_blameMany 36 = .ok (.ifCond .eq 68, 3) := by decide +kernel
theorem dX12_blameMany_39 : decode cX12_blameMany 39 = .ok (.aload_n 0, 1) := by decide +kernel
theorem dX12_blameMany_40 : decode cX12_blameMany 40 = .ok (.getfield 22, 3) := by decide +kernel
theorem dX12_blameMany_43 : decode cX12_blameMany 43 = .ok (.iload_n 3, 1) := by decide +kernel
theorem dX12_blameMany_44 : decode cX12_blameMany 44 = .ok (.iaload, 1) := by decide +kernel
theorem dX12_blameMany_45 : decode cX12_blameMany 45 = .ok (.bipush 8, 2) := by decide +kernel
theorem dX12_blameMany_47 : decode cX12_blameMany 47 = .ok (.if_icmp .ge 49, 3) := by decide +kernel
theorem dX12_blameMany_50 : decode cX12_blameMany 50 = .ok (.aload_n 0, 1) := by decide +kernel
theorem dX12_blameMany_51 : decode cX12_blameMany 51 = .ok (.getfield 22, 3) := by decide +kernel
theorem dX12_blameMany_54 : decode cX12_blameMany 54 = .ok (.iload_n 3, 1) := by decide +kernel
theorem dX12_blameMany_55 : decode cX12_blameMany 55 = .ok (.iconst 1, 1) := by decide +kernel
theorem dX12_blameMany_56 : decode cX12_blameMany 56 = .ok (.iadd, 1) := by decide +kernel
theorem dX12_blameMany_57 : decode cX12_blameMany 57 = .ok (.iaload, 1) := by decide +kernel
theorem dX12_blameMany_58 : decode cX12_blameMany 58 = .ok (.bipush 8, 2) := by decide +kernel
theorem dX12_blameMany_60 : decode cX12_blameMany 60 = .ok (.if_icmp .ge 36, 3) := by decide +kernel
theorem dX12_blameMany_63 : decode cX12_blameMany 63 = .ok (.aload_n 0, 1) := by decide +kernel
theorem dX12_blameMany_64 : decode cX12_blameMany 64 = .ok (.getfield 22, 3) := by decide +kernel
theorem dX12_blameMany_67 : decode cX12_blameMany 67 = .ok (.iload_n 3, 1) := by decide +kernel
theorem dX12_blameMany_68 : decode cX12_blameMany 68 = .ok (.iaload, 1) := by decide +kernel
theorem dX12_blameMany_69 : decode cX12_blameMany 69 = .ok (.aload_n 0, 1) := by decide +kernel
theorem dX12_blameMany_70 : decode cX12_blameMany 70 = .ok (.getfield 22, 3) := by decide +kernel
theorem dX12_blameMany_73 : decode cX12_blameMany 73 = .ok (.iload_n 3, 1) := by decide +kernel
theorem dX12_blameMany_74 : decode cX12_blameMany 74 = .ok (.iconst 1, 1) := by decide +kernel
theorem dX12_blameMany_75 : decode cX12_blameMany 75 = .ok (.iadd, 1) := by decide +kernel
theorem dX12_blameMany_76 : decode cX12_blameMany 76 = .ok (.iaload, 1) := by decide +kernel
theorem dX12_blameMany_77 : decode cX12_blameMany 77 = .ok (.if_icmp .eq 19, 3) := by decide +kernel
theorem dX12_blameMany_80 : decode cX12_blameMany 80 = .ok (.aload_n 0, 1) := by decide +kernel
theorem dX12_blameMany_81 : decode cX12_blameMany 81 = .ok (.getfield 22, 3) := by decide +kernel
theorem dX12_blameMany_84 : decode cX12_blameMany 84 = .ok (.iload_n 3, 1) := by decide +kernel
theorem dX12_blameMany_85 : decode cX12_blameMany 85 = .ok (.iconst 2, 1) := by decide +kernel
theorem dX12_blameMany_86 : decode cX12_blameMany 86 = .ok (.iadd, 1) := by decide +kernel
theorem dX12_blameMany_87 : decode cX12_blameMany 87 = .ok (.iaload, 1) := by decide +kernel
theorem dX12_blameMany_88 : decode cX12_blameMany 88 = .ok (.iconst 2, 1) := by decide +kernel
theorem dX12_blameMany_89 : decode cX12_blameMany 89 = .ok (.if_icmp .ge 7, 3) := by decide +kernel
theorem dX12_blameMany_92 : decode cX12_blameMany 92 = .ok (.iconst 1, 1) := by decide +kernel
theorem dX12_blameMany_93 : decode cX12_blameMany 93 = .ok (.goto 4, 3) := by decide +kernel
theorem dX12_blameMany_96 : decode cX12_blameMany 96 = .ok (.iconst 0, 1) := by decide +kernel
theorem dX12_blameMany_97 : decode cX12_blameMany 97 = .ok (.istore_n 2, 1) := by decide +kernel
theorem dX12_blameMany_98 : decode cX12_blameMany 98 = .ok (.iinc 3 3, 3) := by decide +kernel
theorem dX12_blameMany_101 : decode cX12_blameMany 101 = .ok (.goto (-71), 3) := by decide +kernel
theorem dX12_blameMany_104 : decode cX12_blameMany 104 = .ok (.aload_n 0, 1) := by decide +kernel
theorem dX12_blameMany_105 : decode cX12_blameMany 105 = .ok (.iload_n 2, 1) := by decide +kernel
theorem dX12_blameMany_106 : decode cX12_blameMany 106 = .ok (.ifCond .eq 7, 3) := by decide +kernel
theorem dX12_blameMany_109 : decode cX12_blameMany 109 = .ok (.iconst 0, 1) := by decide +kernel
theorem dX12_blameMany_110 : decode cX12_blameMany 110 = .ok (.goto 4, 3) := by decide +kernel
theorem dX12_blameMany_113 : decode cX12_blameMany 113 = .ok (.iconst 1, 1) := by decide +kernel
theorem dX12_blameMany_114 : decode cX12_blameMany 114 = .ok (.putfield 59, 3) := by decide +kernel
theorem dX12_blameMany_117 : decode cX12_blameMany 117 = .ok (.iload_n 1, 1) := by decide +kernel
theorem dX12_blameMany_118 : decode cX12_blameMany 118 = .ok (.ireturn, 1) := by decide +kernel
theorem dX12_wrongBlames_0 : decode cX12_wrongBlames 0 = .ok (.iconst 0, 1) := by decide +kernel
theorem dX12_wrongBlames_1 : decode cX12_wrongBlames 1 = .ok (.istore_n 3, 1) := by decide +kernel
theorem dX12_wrongBlames_2 : decode cX12_wrongBlames 2 = .ok (.iconst 0, 1) := by decide +kernel
theorem dX12_wrongBlames_3 : decode cX12_wrongBlames 3 = .ok (.istore 4, 2) := by decide +kernel
theorem dX12_wrongBlames_5 : decode cX12_wrongBlames 5 = .ok (.iload 4, 2) := by decide +kernel
theorem dX12_wrongBlames_7 : decode cX12_wrongBlames 7 = .ok (.iload_n 2, 1) := by decide +kernel
theorem dX12_wrongBlames_8 : decode cX12_wrongBlames 8 = .ok (.if_icmp .ge 58, 3) := by decide +kernel
theorem dX12_wrongBlames_11 : decode cX12_wrongBlames 11 = .ok (.iload_n 3, 1) := by decide +kernel
theorem dX12_wrongBlames_12 : decode cX12_wrongBlames 12 = .ok (.iload_n 1, 1) := by decide +kernel
theorem dX12_wrongBlames_13 : decode cX12_wrongBlames 13 = .ok (.aload_n 0, 1) := by decide +kernel
theorem dX12_wrongBlames_14 : decode cX12_wrongBlames 14 = .ok (.getfield 22, 3) := by decide +kernel
theorem dX12_wrongBlames_17 : decode cX12_wrongBlames 17 = .ok (.iload 4, 2) := by decide +kernel
theorem dX12_wrongBlames_19 : decode cX12_wrongBlames 19 = .ok (.iaload, 1) := by decide +kernel
theorem dX12_wrongBlames_20 : decode cX12_wrongBlames 20 = .ok (.aload_n 0, 1) := by decide +kernel
theorem dX12_wrongBlames_21 : decode cX12_wrongBlames 21 = .ok (.getfield 22, 3) := by decide +kernel
theorem dX12_wrongBlames_24 : decode cX12_wrongBlames 24 = .ok (.iload 4, 2) := by decide +kernel
theorem dX12_wrongBlames_26 : decode cX12_wrongBlames 26 = .ok (.iconst 1, 1) := by decide +kernel
theorem dX12_wrongBlames_27 : decode cX12_wrongBlames 27 = .ok (.iadd, 1) := by decide +kernel
theorem dX12_wrongBlames_28 : decode cX12_wrongBlames 28 = .ok (.iaload, 1) := by decide +kernel
theorem dX12_wrongBlames_29 : decode cX12_wrongBlames 29 = .ok (.invokestatic 398, 3) := by decide +kernel
theorem dX12_wrongBlames_32 : decode cX12_wrongBlames 32 = .ok (.aload_n 0, 1) := by decide +kernel
theorem dX12_wrongBlames_33 : decode cX12_wrongBlames 33 = .ok (.getfield 22, 3) := by decide +kernel
theorem dX12_wrongBlames_36 : decode cX12_wrongBlames 36 = .ok (.iload 4, 2) := by decide +kernel
theorem dX12_wrongBlames_38 : decode cX12_wrongBlames 38 = .ok (.iconst 2, 1) := by decide +kernel
theorem dX12_wrongBlames_39 : decode cX12_wrongBlames 39 = .ok (.iadd, 1) := by decide +kernel
theorem dX12_wrongBlames_40 : decode cX12_wrongBlames 40 = .ok (.iaload, 1) := by decide +kernel
theorem dX12_wrongBlames_41 : decode cX12_wrongBlames 41 = .ok (.iconst 1, 1) := by decide +kernel
theorem dX12_wrongBlames_42 : decode cX12_wrongBlames 42 = .ok (.if_icmp .ne 7, 3) := by decide +kernel
theorem dX12_wrongBlames_45 : decode cX12_wrongBlames 45 = .ok (.iconst 1, 1) := by decide +kernel
theorem dX12_wrongBlames_46 : decode cX12_wrongBlames 46 = .ok (.goto 4, 3) := by decide +kernel
theorem dX12_wrongBlames_49 : decode cX12_wrongBlames 49 = .ok (.iconst 0, 1) := by decide +kernel
theorem dX12_wrongBlames_50 : decode cX12_wrongBlames 50 = .ok (.if_icmp .ne 7, 3) := by decide +kernel
theorem dX12_wrongBlames_53 : decode cX12_wrongBlames 53 = .ok (.iconst 0, 1) := by decide +kernel
theorem dX12_wrongBlames_54 : decode cX12_wrongBlames 54 = .ok (.goto 4, 3) := by decide +kernel
theorem dX12_wrongBlames_57 : decode cX12_wrongBlames 57 = .ok (.iconst 1, 1) := by decide +kernel
theorem dX12_wrongBlames_58 : decode cX12_wrongBlames 58 = .ok (.iadd, 1) := by decide +kernel
theorem dX12_wrongBlames_59 : decode cX12_wrongBlames 59 = .ok (.istore_n 3, 1) := by decide +kernel
theorem dX12_wrongBlames_60 : decode cX12_wrongBlames 60 = .ok (.iinc 4 3, 3) := by decide +kernel
theorem dX12_wrongBlames_63 : decode cX12_wrongBlames 63 = .ok (.goto (-58), 3) := by decide +kernel
theorem dX12_wrongBlames_66 : decode cX12_wrongBlames 66 = .ok (.iload_n 3, 1) := by decide +kernel
theorem dX12_wrongBlames_67 : decode cX12_wrongBlames 67 = .ok (.ireturn, 1) := by decide +kernel
theorem dX12_blame_0 : decode cX12_blame 0 = .ok (.aload_n 0, 1) := by decide +kernel
theorem dX12_blame_1 : decode cX12_blame 1 = .ok (.invokevirtual 401, 3) := by decide +kernel
theorem dX12_blame_4 : decode cX12_blame 4 = .ok (.istore_n 1, 1) := by decide +kernel
theorem dX12_blame_5 : decode cX12_blame 5 = .ok (.aload_n 0, 1) := by decide +kernel
theorem dX12_blame_6 : decode cX12_blame 6 = .ok (.getfield 59, 3) := by decide +kernel
theorem dX12_blame_9 : decode cX12_blame 9 = .ok (.ifCond .le 5, 3) := by decide +kernel
theorem dX12_blame_12 : decode cX12_blame 12 = .ok (.iconst 0, 1) := by decide +kernel
theorem dX12_blame_13 : decode cX12_blame 13 = .ok (.ireturn, 1) := by decide +kernel
theorem dX12_blame_14 : decode cX12_blame 14 = .ok (.iconst 0, 1) := by decide +kernel
theorem dX12_blame_15 : decode cX12_blame 15 = .ok (.istore_n 2, 1) := by decide +kernel
theorem dX12_blame_16 : decode cX12_blame 16 = .ok (.iconst 0, 1) := by decide +kernel
theorem dX12_blame_17 : decode cX12_blame 17 = .ok (.istore_n 3, 1) := by decide +kernel
theorem dX12_blame_18 : decode cX12_blame 18 = .ok (.iload_n 3, 1) := by decide +kernel
theorem dX12_blame_19 : decode cX12_blame 19 = .ok (.bipush 17, 2) := by decide +kernel
theorem dX12_blame_21 : decode cX12_blame 21 = .ok (.if_icmp .ge 27, 3) := by decide +kernel
theorem dX12_blame_24 : decode cX12_blame 24 = .ok (.iload_n 2, 1) := by decide +kernel
theorem dX12_blame_25 : decode cX12_blame 25 = .ok (.aload_n 0, 1) := by decide +kernel
theorem dX12_blame_26 : decode cX12_blame 26 = .ok (.iload_n 3, 1) := by decide +kernel
theorem dX12_blame_27 : decode cX12_blame 27 = .ok (.iload_n 1, 1) := by decide +kernel
theorem dX12_blame_28 : decode cX12_blame 28 = .ok (.invokevirtual 404, 3) := by decide +kernel
theorem dX12_blame_31 : decode cX12_blame 31 = .ok (.iconst 2, 1) := by decide +kernel
theorem dX12_blame_32 : decode cX12_blame 32 = .ok (.if_icmp .ge 7, 3) := by decide +kernel
theorem dX12_blame_35 : decode cX12_blame 35 = .ok (.iconst 1, 1) := by decide +kernel
theorem dX12_blame_36 : decode cX12_blame 36 = .ok (.goto 4, 3) := by decide +kernel
theorem dX12_blame_39 : decode cX12_blame 39 = .ok (.iconst 0, 1) := by decide +kernel
theorem dX12_blame_40 : decode cX12_blame 40 = .ok (.iadd, 1) := by decide +kernel
theorem dX12_blame_41 : decode cX12_blame 41 = .ok (.istore_n 2, 1) := by decide +kernel
theorem dX12_blame_42 : decode cX12_blame 42 = .ok (.iinc 3 1, 3) := by decide +kernel
theorem dX12_blame_45 : decode cX12_blame 45 = .ok (.goto (-27), 3) := by decide +kernel
theorem dX12_blame_48 : decode cX12_blame 48 = .ok (.iload_n 2, 1) := by decide +kernel
theorem dX12_blame_49 : decode cX12_blame 49 = .ok (.ireturn, 1) := by decide +kernel
theorem dX12_guilty_0 : decode cX12_guilty 0 = .ok (.aload_n 0, 1) := by decide +kernel
theorem dX12_guilty_1 : decode cX12_guilty 1 = .ok (.invokevirtual 401, 3) := by decide +kernel
theorem dX12_guilty_4 : decode cX12_guilty 4 = .ok (.istore_n 1, 1) := by decide +kernel
theorem dX12_guilty_5 : decode cX12_guilty 5 = .ok (.aload_n 0, 1) := by decide +kernel
theorem dX12_guilty_6 : decode cX12_guilty 6 = .ok (.getfield 59, 3) := by decide +kernel
theorem dX12_guilty_9 : decode cX12_guilty 9 = .ok (.ifCond .le 5, 3) := by decide +kernel
theorem dX12_guilty_12 : decode cX12_guilty 12 = .ok (.iconst 0, 1) := by decide +kernel
theorem dX12_guilty_13 : decode cX12_guilty 13 = .ok (.ireturn, 1) := by decide +kernel
theorem dX12_guilty_14 : decode cX12_guilty 14 = .ok (.iconst (-1), 1) := by decide +kernel
theorem dX12_guilty_15 : decode cX12_guilty 15 = .ok (.istore_n 2, 1) := by decide +kernel
theorem dX12_guilty_16 : decode cX12_guilty 16 = .ok (.iconst 2, 1) := by decide +kernel
theorem dX12_guilty_17 : decode cX12_guilty 17 = .ok (.istore_n 3, 1) := by decide +kernel
theorem dX12_guilty_18 : decode cX12_guilty 18 = .ok (.iconst 0, 1) := by decide +kernel
theorem dX12_guilty_19 : decode cX12_guilty 19 = .ok (.istore 4, 2) := by decide +kernel
theorem dX12_guilty_21 : decode cX12_guilty 21 = .ok (.iload 4, 2) := by decide +kernel
theorem dX12_guilty_23 : decode cX12_guilty 23 = .ok (.bipush 17, 2) := by decide +kernel
theorem dX12_guilty_25 : decode cX12_guilty 25 = .ok (.if_icmp .ge 34, 3) := by decide +kernel
theorem dX12_guilty_28 : decode cX12_guilty 28 = .ok (.aload_n 0, 1) := by decide +kernel
theorem dX12_guilty_29 : decode cX12_guilty 29 = .ok (.iload 4, 2) := by decide +kernel
theorem dX12_guilty_31 : decode cX12_guilty 31 = .ok (.iload_n 1, 1) := by decide +kernel
theorem dX12_guilty_32 : decode cX12_guilty 32 = .ok (.invokevirtual 404, 3) := by decide +kernel
theorem dX12_guilty_35 : decode cX12_guilty 35 = .ok (.iload_n 3, 1) := by decide +kernel
theorem dX12_guilty_36 : decode cX12_guilty 36 = .ok (.if_icmp .lt 6, 3) := by decide +kernel
theorem dX12_guilty_39 : decode cX12_guilty 39 = .ok (.goto 14, 3) := by decide +kernel
theorem dX12_guilty_42 : decode cX12_guilty 42 = .ok (.aload_n 0, 1) := by decide +kernel
theorem dX12_guilty_43 : decode cX12_guilty 43 = .ok (.iload 4, 2) := by decide +kernel
theorem dX12_guilty_45 : decode cX12_guilty 45 = .ok (.iload_n 1, 1) := by decide +kernel
theorem dX12_guilty_46 : decode cX12_guilty 46 = .ok (.invokevirtual 404, 3) := by decide +kernel
theorem dX12_guilty_49 : decode cX12_guilty 49 = .ok (.istore_n 3, 1) := by decide +kernel
theorem dX12_guilty_50 : decode cX12_guilty 50 = .ok (.iload 4, 2) := by decide +kernel
theorem dX12_guilty_52 : decode cX12_guilty 52 = .ok (.istore_n 2, 1) := by decide +kernel
theorem dX12_guilty_53 : decode cX12_guilty 53 = .ok (.iinc 4 1, 3) := by decide +kernel
theorem dX12_guilty_56 : decode cX12_guilty 56 = .ok (.goto (-35), 3) := by decide +kernel
theorem dX12_guilty_59 : decode cX12_guilty 59 = .ok (.iload_n 2, 1) := by decide +kernel
theorem dX12_guilty_60 : decode cX12_guilty 60 = .ok (.ireturn, 1) := by decide +kernel
theorem dX12_probe_0 : decode cX12_probe 0 = .ok (.aload_n 0, 1) := by decide +kernel
theorem dX12_probe_1 : decode cX12_probe 1 = .ok (.invokevirtual 401, 3) := by decide +kernel
theorem dX12_probe_4 : decode cX12_probe 4 = .ok (.istore_n 1, 1) := by decide +kernel
theorem dX12_probe_5 : decode cX12_probe 5 = .ok (.aload_n 0, 1) := by decide +kernel
theorem dX12_probe_6 : decode cX12_probe 6 = .ok (.getfield 59, 3) := by decide +kernel
theorem dX12_probe_9 : decode cX12_probe 9 = .ok (.ifCond .le 5, 3) := by decide +kernel
theorem dX12_probe_12 : decode cX12_probe 12 = .ok (.iconst 0, 1) := by decide +kernel
theorem dX12_probe_13 : decode cX12_probe 13 = .ok (.ireturn, 1) := by decide +kernel
theorem dX12_probe_14 : decode cX12_probe 14 = .ok (.iconst (-1), 1) := by decide +kernel
theorem dX12_probe_15 : decode cX12_probe 15 = .ok (.istore_n 2, 1) := by decide +kernel
theorem dX12_probe_16 : decode cX12_probe 16 = .ok (.ldc_w 339, 3) := by decide +kernel
theorem dX12_probe_19 : decode cX12_probe 19 = .ok (.istore_n 3, 1) := by decide +kernel
theorem dX12_probe_20 : decode cX12_probe 20 = .ok (.iconst 0, 1) := by decide +kernel
theorem dX12_probe_21 : decode cX12_probe 21 = .ok (.istore 4, 2) := by decide +kernel
theorem dX12_probe_23 : decode cX12_probe 23 = .ok (.iload 4, 2) := by decide +kernel
theorem dX12_probe_25 : decode cX12_probe 25 = .ok (.bipush 64, 2) := by decide +kernel
theorem dX12_probe_27 : decode cX12_probe 27 = .ok (.if_icmp .ge 125, 3) := by decide +kernel
theorem dX12_probe_30 : decode cX12_probe 30 = .ok (.iload 4, 2) := by decide +kernel
theorem dX12_probe_32 : decode cX12_probe 32 = .ok (.bipush 8, 2) := by decide +kernel
theorem dX12_probe_34 : decode cX12_probe 34 = .ok (.idiv, 1) := by decide +kernel
theorem dX12_probe_35 : decode cX12_probe 35 = .ok (.iload 4, 2) := by decide +kernel
theorem dX12_probe_37 : decode cX12_probe 37 = .ok (.bipush 8, 2) := by decide +kernel
theorem dX12_probe_39 : decode cX12_probe 39 = .ok (.irem, 1) := by decide +kernel
theorem dX12_probe_40 : decode cX12_probe 40 = .ok (.if_icmp .ne 6, 3) := by decide +kernel
theorem dX12_probe_43 : decode cX12_probe 43 = .ok (.goto 103, 3) := by decide +kernel
theorem dX12_probe_46 : decode cX12_probe 46 = .ok (.iconst 0, 1) := by decide +kernel
theorem dX12_probe_47 : decode cX12_probe 47 = .ok (.istore 5, 2) := by decide +kernel
theorem dX12_probe_49 : decode cX12_probe 49 = .ok (.iconst 0, 1) := by decide +kernel
theorem dX12_probe_50 : decode cX12_probe 50 = .ok (.istore 6, 2) := by decide +kernel
theorem dX12_probe_52 : decode cX12_probe 52 = .ok (.iconst 0, 1) := by decide +kernel
theorem dX12_probe_53 : decode cX12_probe 53 = .ok (.istore 7, 2) := by decide +kernel
theorem dX12_probe_55 : decode cX12_probe 55 = .ok (.iload 7, 2) := by decide +kernel
theorem dX12_probe_57 : decode cX12_probe 57 = .ok (.bipush 17, 2) := by decide +kernel
theorem dX12_probe_59 : decode cX12_probe 59 = .ok (.if_icmp .ge 54, 3) := by decide +kernel
theorem dX12_probe_62 : decode cX12_probe 62 = .ok (.aload_n 0, 1) := by decide +kernel
theorem dX12_probe_63 : decode cX12_probe 63 = .ok (.iload 7, 2) := by decide +kernel
theorem dX12_probe_65 : decode cX12_probe 65 = .ok (.iload_n 1, 1) := by decide +kernel
theorem dX12_probe_66 : decode cX12_probe 66 = .ok (.invokevirtual 404, 3) := by decide +kernel
theorem dX12_probe_69 : decode cX12_probe 69 = .ok (.iconst 1, 1) := by decide +kernel
theorem dX12_probe_70 : decode cX12_probe 70 = .ok (.if_icmp .le 6, 3) := by decide +kernel
theorem dX12_probe_73 : decode cX12_probe 73 = .ok (.goto 34, 3) := by decide +kernel
theorem dX12_probe_76 : decode cX12_probe 76 = .ok (.iinc 5 1, 3) := by decide +kernel
theorem dX12_probe_79 : decode cX12_probe 79 = .ok (.iload 6, 2) := by decide +kernel
theorem dX12_probe_81 : decode cX12_probe 81 = .ok (.iload 7, 2) := by decide +kernel
theorem dX12_probe_83 : decode cX12_probe 83 = .ok (.iload 4, 2) := by decide +kernel
theorem dX12_probe_85 : decode cX12_probe 85 = .ok (.bipush 8, 2) := by decide +kernel
theorem dX12_probe_87 : decode cX12_probe 87 = .ok (.idiv, 1) := by decide +kernel
theorem dX12_probe_88 : decode cX12_probe 88 = .ok (.iload 4, 2) := by decide +kernel
theorem dX12_probe_90 : decode cX12_probe 90 = .ok (.bipush 8, 2) := by decide +kernel
theorem dX12_probe_92 : decode cX12_probe 92 = .ok (.irem, 1) := by decide +kernel
theorem dX12_probe_93 : decode cX12_probe 93 = .ok (.invokestatic 398, 3) := by decide +kernel
theorem dX12_probe_96 : decode cX12_probe 96 = .ok (.ifCond .eq 7, 3) := by decide +kernel
theorem dX12_probe_99 : decode cX12_probe 99 = .ok (.iconst 1, 1) := by decide +kernel
theorem dX12_probe_100 : decode cX12_probe 100 = .ok (.goto 4, 3) := by decide +kernel
theorem dX12_probe_103 : decode cX12_probe 103 = .ok (.iconst 0, 1) := by decide +kernel
theorem dX12_probe_104 : decode cX12_probe 104 = .ok (.iadd, 1) := by decide +kernel
theorem dX12_probe_105 : decode cX12_probe 105 = .ok (.istore 6, 2) := by decide +kernel
theorem dX12_probe_107 : decode cX12_probe 107 = .ok (.iinc 7 1, 3) := by decide +kernel
theorem dX12_probe_110 : decode cX12_probe 110 = .ok (.goto (-55), 3) := by decide +kernel
theorem dX12_probe_113 : decode cX12_probe 113 = .ok (.iload 6, 2) := by decide +kernel
theorem dX12_probe_115 : decode cX12_probe 115 = .ok (.iload 5, 2) := by decide +kernel
theorem dX12_probe_117 : decode cX12_probe 117 = .ok (.iload 6, 2) := by decide +kernel
theorem dX12_probe_119 : decode cX12_probe 119 = .ok (.isub, 1) := by decide +kernel
theorem dX12_probe_120 : decode cX12_probe 120 = .ok (.invokestatic 73, 3) := by decide +kernel
theorem dX12_probe_123 : decode cX12_probe 123 = .ok (.istore 7, 2) := by decide +kernel
theorem dX12_probe_125 : decode cX12_probe 125 = .ok (.iload 5, 2) := by decide +kernel
theorem dX12_probe_127 : decode cX12_probe 127 = .ok (.iconst 2, 1) := by decide +kernel
theorem dX12_probe_128 : decode cX12_probe 128 = .ok (.if_icmp .lt 18, 3) := by decide +kernel
theorem dX12_probe_131 : decode cX12_probe 131 = .ok (.iload 7, 2) := by decide +kernel
theorem dX12_probe_133 : decode cX12_probe 133 = .ok (.iload_n 3, 1) := by decide +kernel
theorem dX12_probe_134 : decode cX12_probe 134 = .ok (.if_icmp .lt 6, 3) := by decide +kernel
theorem dX12_probe_137 : decode cX12_probe 137 = .ok (.goto 9, 3) := by decide +kernel
theorem dX12_probe_140 : decode cX12_probe 140 = .ok (.iload 7, 2) := by decide +kernel
theorem dX12_probe_142 : decode cX12_probe 142 = .ok (.istore_n 3, 1) := by decide +kernel
theorem dX12_probe_143 : decode cX12_probe 143 = .ok (.iload 4, 2) := by decide +kernel
theorem dX12_probe_145 : decode cX12_probe 145 = .ok (.istore_n 2, 1) := by decide +kernel
theorem dX12_probe_146 : decode cX12_probe 146 = .ok (.iinc 4 1, 3) := by decide +kernel
theorem dX12_probe_149 : decode cX12_probe 149 = .ok (.goto (-126), 3) := by decide +kernel
theorem dX12_probe_152 : decode cX12_probe 152 = .ok (.iload_n 2, 1) := by decide +kernel
theorem dX12_probe_153 : decode cX12_probe 153 = .ok (.ireturn, 1) := by decide +kernel
theorem dX12_both_0 : decode cX12_both 0 = .ok (.bipush 100, 2) := by decide +kernel
theorem dX12_both_2 : decode cX12_both 2 = .ok (.aload_n 0, 1) := by decide +kernel
theorem dX12_both_3 : decode cX12_both 3 = .ok (.iload_n 1, 1) := by decide +kernel
theorem dX12_both_4 : decode cX12_both 4 = .ok (.iload_n 2, 1) := by decide +kernel
theorem dX12_both_5 : decode cX12_both 5 = .ok (.invokevirtual 383, 3) := by decide +kernel
theorem dX12_both_8 : decode cX12_both 8 = .ok (.isub, 1) := by decide +kernel
theorem dX12_both_9 : decode cX12_both 9 = .ok (.istore_n 3, 1) := by decide +kernel
theorem dX12_both_10 : decode cX12_both 10 = .ok (.iload_n 3, 1) := by decide +kernel
theorem dX12_both_11 : decode cX12_both 11 = .ok (.ifCond .le 16, 3) := by decide +kernel
theorem dX12_both_14 : decode cX12_both 14 = .ok (.aload_n 0, 1) := by decide +kernel
theorem dX12_both_15 : decode cX12_both 15 = .ok (.iload_n 1, 1) := by decide +kernel
theorem dX12_both_16 : decode cX12_both 16 = .ok (.iload_n 2, 1) := by decide +kernel
theorem dX12_both_17 : decode cX12_both 17 = .ok (.invokevirtual 344, 3) := by decide +kernel
theorem dX12_both_20 : decode cX12_both 20 = .ok (.ifCond .eq 7, 3) := by decide +kernel
theorem dX12_both_23 : decode cX12_both 23 = .ok (.iload_n 3, 1) := by decide +kernel
theorem dX12_both_24 : decode cX12_both 24 = .ok (.goto 4, 3) := by decide +kernel
theorem dX12_both_27 : decode cX12_both 27 = .ok (.iconst (-1), 1) := by decide +kernel
theorem dX12_both_28 : decode cX12_both 28 = .ok (.ireturn, 1) := by decide +kernel
theorem dX12_allBest_0 : decode cX12_allBest 0 = .ok (.aload_n 0, 1) := by decide +kernel
theorem dX12_allBest_1 : decode cX12_allBest 1 = .ok (.getfield 47, 3) := by decide +kernel
theorem dX12_allBest_4 : decode cX12_allBest 4 = .ok (.iconst 0, 1) := by decide +kernel
theorem dX12_allBest_5 : decode cX12_allBest 5 = .ok (.iconst 0, 1) := by decide +kernel
theorem dX12_allBest_6 : decode cX12_allBest 6 = .ok (.iastore, 1) := by decide +kernel
theorem dX12_allBest_7 : decode cX12_allBest 7 = .ok (.iconst 1, 1) := by decide +kernel
theorem dX12_allBest_8 : decode cX12_allBest 8 = .ok (.istore_n 1, 1) := by decide +kernel
theorem dX12_allBest_9 : decode cX12_allBest 9 = .ok (.iload_n 1, 1) := by decide +kernel
theorem dX12_allBest_10 : decode cX12_allBest 10 = .ok (.iconst 1, 1) := by decide +kernel
theorem dX12_allBest_11 : decode cX12_allBest 11 = .ok (.aload_n 0, 1) := by decide +kernel
theorem dX12_allBest_12 : decode cX12_allBest 12 = .ok (.getfield 7, 3) := by decide +kernel
theorem dX12_allBest_15 : decode cX12_allBest 15 = .ok (.iconst 3, 1) := by decide +kernel
theorem dX12_allBest_16 : decode cX12_allBest 16 = .ok (.iaload, 1) := by decide +kernel
theorem dX12_allBest_17 : decode cX12_allBest 17 = .ok (.ishl, 1) := by decide +kernel
theorem dX12_allBest_18 : decode cX12_allBest 18 = .ok (.if_icmp .ge 121, 3) := by decide +kernel
theorem dX12_allBest_21 : decode cX12_allBest 21 = .ok (.iload_n 1, 1) := by decide +kernel
theorem dX12_allBest_22 : decode cX12_allBest 22 = .ok (.invokestatic 374, 3) := by decide +kernel
theorem dX12_allBest_25 : decode cX12_allBest 25 = .ok (.istore_n 2, 1) := by decide +kernel
theorem dX12_allBest_26 : decode cX12_allBest 26 = .ok (.iload_n 1, 1) := by decide +kernel
theorem dX12_allBest_27 : decode cX12_allBest 27 = .ok (.iconst 1, 1) := by decide +kernel
theorem dX12_allBest_28 : decode cX12_allBest 28 = .ok (.iload_n 2, 1) := by decide +kernel
theorem dX12_allBest_29 : decode cX12_allBest 29 = .ok (.ishl, 1) := by decide +kernel
theorem dX12_allBest_30 : decode cX12_allBest 30 = .ok (.iconst (-1), 1) := by decide +kernel
theorem dX12_allBest_31 : decode cX12_allBest 31 = .ok (.ixor, 1) := by decide +kernel
theorem dX12_allBest_32 : decode cX12_allBest 32 = .ok (.iand, 1) := by decide +kernel
theorem dX12_allBest_33 : decode cX12_allBest 33 = .ok (.istore_n 3, 1) := by decide +kernel
theorem dX12_allBest_34 : decode cX12_allBest 34 = .ok (.aload_n 0, 1) := by decide +kernel
theorem dX12_allBest_35 : decode cX12_allBest 35 = .ok (.getfield 47, 3) := by decide +kernel
theorem dX12_allBest_38 : decode cX12_allBest 38 = .ok (.iload_n 1, 1) := by decide +kernel
theorem dX12_allBest_39 : decode cX12_allBest 39 = .ok (.aload_n 0, 1) := by decide +kernel
theorem dX12_allBest_40 : decode cX12_allBest 40 = .ok (.getfield 47, 3) := by decide +kernel
theorem dX12_allBest_43 : decode cX12_allBest 43 = .ok (.iload_n 3, 1) := by decide +kernel
theorem dX12_allBest_44 : decode cX12_allBest 44 = .ok (.iaload, 1) := by decide +kernel
theorem dX12_allBest_45 : decode cX12_allBest 45 = .ok (.iastore, 1) := by decide +kernel
theorem dX12_allBest_46 : decode cX12_allBest 46 = .ok (.iload_n 2, 1) := by decide +kernel
theorem dX12_allBest_47 : decode cX12_allBest 47 = .ok (.iconst 1, 1) := by decide +kernel
theorem dX12_allBest_48 : decode cX12_allBest 48 = .ok (.iadd, 1) := by decide +kernel
theorem dX12_allBest_49 : decode cX12_allBest 49 = .ok (.istore 4, 2) := by decide +kernel
theorem dX12_allBest_51 : decode cX12_allBest 51 = .ok (.iload 4, 2) := by decide +kernel
theorem dX12_allBest_53 : decode cX12_allBest 53 = .ok (.aload_n 0, 1) := by decide +kernel
theorem dX12_allBest_54 : decode cX12_allBest 54 = .ok (.getfield 7, 3) := by decide +kernel
theorem dX12_allBest_57 : decode cX12_allBest 57 = .ok (.iconst 3, 1) := by decide +kernel
theorem dX12_allBest_58 : decode cX12_allBest 58 = .ok (.iaload, 1) := by decide +kernel
theorem dX12_allBest_59 : decode cX12_allBest 59 = .ok (.if_icmp .ge 74, 3) := by decide +kernel
theorem dX12_allBest_62 : decode cX12_allBest 62 = .ok (.iload_n 3, 1) := by decide +kernel
theorem dX12_allBest_63 : decode cX12_allBest 63 = .ok (.iload 4, 2) := by decide +kernel
theorem dX12_allBest_65 : decode cX12_allBest 65 = .ok (.invokestatic 274, 3) := by decide +kernel
theorem dX12_allBest_68 : decode cX12_allBest 68 = .ok (.ifCond .eq 59, 3) := by decide +kernel
theorem dX12_allBest_71 : decode cX12_allBest 71 = .ok (.aload_n 0, 1) := by decide +kernel
theorem dX12_allBest_72 : decode cX12_allBest 72 = .ok (.getfield 50, 3) := by decide +kernel
theorem dX12_allBest_75 : decode cX12_allBest 75 = .ok (.bipush 8, 2) := by decide +kernel
theorem dX12_allBest_77 : decode cX12_allBest 77 = .ok (.iload_n 2, 1) := by decide +kernel
theorem dX12_allBest_78 : decode cX12_allBest 78 = .ok (.imul, 1) := by decide +kernel
theorem dX12_allBest_79 : decode cX12_allBest 79 = .ok (.iload 4, 2) := by decide +kernel
theorem dX12_allBest_81 : decode cX12_allBest 81 = .ok (.iadd, 1) := by decide +kernel
theorem dX12_allBest_82 : decode cX12_allBest 82 = .ok (.iaload, 1) := by decide +kernel
theorem dX12_allBest_83 : decode cX12_allBest 83 = .ok (.ifCond .le 44, 3) := by decide +kernel
theorem dX12_allBest_86 : decode cX12_allBest 86 = .ok (.aload_n 0, 1) := by decide +kernel
theorem dX12_allBest_87 : decode cX12_allBest 87 = .ok (.getfield 47, 3) := by decide +kernel
theorem dX12_allBest_90 : decode cX12_allBest 90 = .ok (.iload_n 1, 1) := by decide +kernel
theorem dX12_allBest_91 : decode cX12_allBest 91 = .ok (.aload_n 0, 1) := by decide +kernel
theorem dX12_allBest_92 : decode cX12_allBest 92 = .ok (.getfield 47, 3) := by decide +kernel
theorem dX12_allBest_95 : decode cX12_allBest 95 = .ok (.iload_n 1, 1) := by decide +kernel
theorem dX12_allBest_96 : decode cX12_allBest 96 = .ok (.iaload, 1) := by decide +kernel
theorem dX12_allBest_97 : decode cX12_allBest 97 = .ok (.aload_n 0, 1) := by decide +kernel
theorem dX12_allBest_98 : decode cX12_allBest 98 = .ok (.getfield 50, 3) := by decide +kernel
theorem dX12_allBest_101 : decode cX12_allBest 101 = .ok (.bipush 8, 2) := by decide +kernel
theorem dX12_allBest_103 : decode cX12_allBest 103 = .ok (.iload_n 2, 1) := by decide +kernel
theorem dX12_allBest_104 : decode cX12_allBest 104 = .ok (.imul, 1) := by decide +kernel
theorem dX12_allBest_105 : decode cX12_allBest 105 = .ok (.iload 4, 2) := by decide +kernel
theorem dX12_allBest_107 : decode cX12_allBest 107 = .ok (.iadd, 1) := by decide +kernel
theorem dX12_allBest_108 : decode cX12_allBest 108 = .ok (.iaload, 1) := by decide +kernel
theorem dX12_allBest_109 : decode cX12_allBest 109 = .ok (.aload_n 0, 1) := by decide +kernel
theorem dX12_allBest_110 : decode cX12_allBest 110 = .ok (.getfield 47, 3) := by decide +kernel
theorem dX12_allBest_113 : decode cX12_allBest 113 = .ok (.iload_n 3, 1) := by decide +kernel
theorem dX12_allBest_114 : decode cX12_allBest 114 = .ok (.iconst 1, 1) := by decide +kernel
theorem dX12_allBest_115 : decode cX12_allBest 115 = .ok (.iload 4, 2) := by decide +kernel
theorem dX12_allBest_117 : decode cX12_allBest 117 = .ok (.ishl, 1) := by decide +kernel
theorem dX12_allBest_118 : decode cX12_allBest 118 = .ok (.iconst (-1), 1) := by decide +kernel
theorem dX12_allBest_119 : decode cX12_allBest 119 = .ok (.ixor, 1) := by decide +kernel
theorem dX12_allBest_120 : decode cX12_allBest 120 = .ok (.iand, 1) := by decide +kernel
theorem dX12_allBest_121 : decode cX12_allBest 121 = .ok (.iaload, 1) := by decide +kernel
theorem dX12_allBest_122 : decode cX12_allBest 122 = .ok (.iadd, 1) := by decide +kernel
theorem dX12_allBest_123 : decode cX12_allBest 123 = .ok (.invokestatic 73, 3) := by decide +kernel
theorem dX12_allBest_126 : decode cX12_allBest 126 = .ok (.iastore, 1) := by decide +kernel
theorem dX12_allBest_127 : decode cX12_allBest 127 = .ok (.iinc 4 1, 3) := by decide +kernel
theorem dX12_allBest_130 : decode cX12_allBest 130 = .ok (.goto (-79), 3) := by decide +kernel
theorem dX12_allBest_133 : decode cX12_allBest 133 = .ok (.iinc 1 1, 3) := by decide +kernel
theorem dX12_allBest_136 : decode cX12_allBest 136 = .ok (.goto (-127), 3) := by decide +kernel
theorem dX12_allBest_139 : decode cX12_allBest 139 = .ok (.return_, 1) := by decide +kernel
theorem dX12_pairs_0 : decode cX12_pairs 0 = .ok (.aload_n 0, 1) := by decide +kernel
theorem dX12_pairs_1 : decode cX12_pairs 1 = .ok (.iload_n 1, 1) := by decide +kernel
theorem dX12_pairs_2 : decode cX12_pairs 2 = .ok (.iconst (-1), 1) := by decide +kernel
theorem dX12_pairs_3 : decode cX12_pairs 3 = .ok (.if_icmp .eq 15, 3) := by decide +kernel
theorem dX12_pairs_6 : decode cX12_pairs 6 = .ok (.aload_n 0, 1) := by decide +kernel
theorem dX12_pairs_7 : decode cX12_pairs 7 = .ok (.iload_n 1, 1) := by decide +kernel
theorem dX12_pairs_8 : decode cX12_pairs 8 = .ok (.invokevirtual 347, 3) := by decide +kernel
theorem dX12_pairs_11 : decode cX12_pairs 11 = .ok (.ifCond .ne 7, 3) := by decide +kernel
theorem dX12_pairs_14 : decode cX12_pairs 14 = .ok (.iconst 1, 1) := by decide +kernel
theorem dX12_pairs_15 : decode cX12_pairs 15 = .ok (.goto 4, 3) := by decide +kernel
theorem dX12_pairs_18 : decode cX12_pairs 18 = .ok (.iconst 0, 1) := by decide +kernel
theorem dX12_pairs_19 : decode cX12_pairs 19 = .ok (.putfield 59, 3) := by decide +kernel
theorem dX12_pairs_22 : decode cX12_pairs 22 = .ok (.aload_n 0, 1) := by decide +kernel
theorem dX12_pairs_23 : decode cX12_pairs 23 = .ok (.getfield 59, 3) := by decide +kernel
theorem dX12_pairs_26 : decode cX12_pairs 26 = .ok (.ifCond .le 5, 3) := by decide +kernel
theorem dX12_pairs_29 : decode cX12_pairs 29 = .ok (.iconst 0, 1) := by decide +kernel
theorem dX12_pairs_30 : decode cX12_pairs 30 = .ok (.ireturn, 1) := by decide +kernel
theorem dX12_pairs_31 : decode cX12_pairs 31 = .ok (.iconst 0, 1) := by decide +kernel
theorem dX12_pairs_32 : decode cX12_pairs 32 = .ok (.istore_n 2, 1) := by decide +kernel
theorem dX12_pairs_33 : decode cX12_pairs 33 = .ok (.iload_n 2, 1) := by decide +kernel
theorem dX12_pairs_34 : decode cX12_pairs 34 = .ok (.aload_n 0, 1) := by decide +kernel
theorem dX12_pairs_35 : decode cX12_pairs 35 = .ok (.getfield 7, 3) := by decide +kernel
theorem dX12_pairs_38 : decode cX12_pairs 38 = .ok (.iconst 3, 1) := by decide +kernel
theorem dX12_pairs_39 : decode cX12_pairs 39 = .ok (.iaload, 1) := by decide +kernel
theorem dX12_pairs_40 : decode cX12_pairs 40 = .ok (.if_icmp .ge 53, 3) := by decide +kernel
theorem dX12_pairs_43 : decode cX12_pairs 43 = .ok (.iconst 0, 1) := by decide +kernel
theorem dX12_pairs_44 : decode cX12_pairs 44 = .ok (.istore_n 3, 1) := by decide +kernel
theorem dX12_pairs_45 : decode cX12_pairs 45 = .ok (.iload_n 3, 1) := by decide +kernel
theorem dX12_pairs_46 : decode cX12_pairs 46 = .ok (.aload_n 0, 1) := by decide +kernel
theorem dX12_pairs_47 : decode cX12_pairs 47 = .ok (.getfield 7, 3) := by decide +kernel
theorem dX12_pairs_50 : decode cX12_pairs 50 = .ok (.iconst 3, 1) := by decide +kernel
theorem dX12_pairs_51 : decode cX12_pairs 51 = .ok (.iaload, 1) := by decide +kernel
theorem dX12_pairs_52 : decode cX12_pairs 52 = .ok (.if_icmp .ge 35, 3) := by decide +kernel
theorem dX12_pairs_55 : decode cX12_pairs 55 = .ok (.aload_n 0, 1) := by decide +kernel
theorem dX12_pairs_56 : decode cX12_pairs 56 = .ok (.getfield 50, 3) := by decide +kernel
theorem dX12_pairs_59 : decode cX12_pairs 59 = .ok (.bipush 8, 2) := by decide +kernel
theorem dX12_pairs_61 : decode cX12_pairs 61 = .ok (.iload_n 2, 1) := by decide +kernel
theorem dX12_pairs_62 : decode cX12_pairs 62 = .ok (.imul, 1) := by decide +kernel
theorem dX12_pairs_63 : decode cX12_pairs 63 = .ok (.iload_n 3, 1) := by decide +kernel
theorem dX12_pairs_64 : decode cX12_pairs 64 = .ok (.iadd, 1) := by decide +kernel
theorem dX12_pairs_65 : decode cX12_pairs 65 = .ok (.iload_n 2, 1) := by decide +kernel
theorem dX12_pairs_66 : decode cX12_pairs 66 = .ok (.iload_n 3, 1) := by decide +kernel
theorem dX12_pairs_67 : decode cX12_pairs 67 = .ok (.if_icmp .ne 7, 3) := by decide +kernel
theorem dX12_pairs_70 : decode cX12_pairs 70 = .ok (.iconst (-1), 1) := by decide +kernel
theorem dX12_pairs_71 : decode cX12_pairs 71 = .ok (.goto 9, 3) := by decide +kernel
theorem dX12_pairs_74 : decode cX12_pairs 74 = .ok (.aload_n 0, 1) := by decide +kernel
theorem dX12_pairs_75 : decode cX12_pairs 75 = .ok (.iload_n 2, 1) := by decide +kernel
theorem dX12_pairs_76 : decode cX12_pairs 76 = .ok (.iload_n 3, 1) := by decide +kernel
theorem dX12_pairs_77 : decode cX12_pairs 77 = .ok (.invokevirtual 407, 3) := by decide +kernel
theorem dX12_pairs_80 : decode cX12_pairs 80 = .ok (.iastore, 1) := by decide +kernel
theorem dX12_pairs_81 : decode cX12_pairs 81 = .ok (.iinc 3 1, 3) := by decide +kernel
theorem dX12_pairs_84 : decode cX12_pairs 84 = .ok (.goto (-39), 3) := by decide +kernel
theorem dX12_pairs_87 : decode cX12_pairs 87 = .ok (.iinc 2 1, 3) := by decide +kernel
theorem dX12_pairs_90 : decode cX12_pairs 90 = .ok (.goto (-57), 3) := by decide +kernel
theorem dX12_pairs_93 : decode cX12_pairs 93 = .ok (.aload_n 0, 1) := by decide +kernel
theorem dX12_pairs_94 : decode cX12_pairs 94 = .ok (.invokevirtual 410, 3) := by decide +kernel
theorem dX12_pairs_97 : decode cX12_pairs 97 = .ok (.aload_n 0, 1) := by decide +kernel
theorem dX12_pairs_98 : decode cX12_pairs 98 = .ok (.iconst 2, 1) := by decide +kernel
theorem dX12_pairs_99 : decode cX12_pairs 99 = .ok (.invokevirtual 250, 3) := by decide +kernel
theorem dX12_pairs_102 : decode cX12_pairs 102 = .ok (.istore_n 2, 1) := by decide +kernel
theorem dX12_pairs_103 : decode cX12_pairs 103 = .ok (.iload_n 1, 1) := by decide +kernel
theorem dX12_pairs_104 : decode cX12_pairs 104 = .ok (.iconst (-1), 1) := by decide +kernel
theorem dX12_pairs_105 : decode cX12_pairs 105 = .ok (.if_icmp .ne 10, 3) := by decide +kernel
theorem dX12_pairs_108 : decode cX12_pairs 108 = .ok (.aload_n 0, 1) := by decide +kernel
theorem dX12_pairs_109 : decode cX12_pairs 109 = .ok (.getfield 47, 3) := by decide +kernel
theorem dX12_pairs_112 : decode cX12_pairs 112 = .ok (.iload_n 2, 1) := by decide +kernel
theorem dX12_pairs_113 : decode cX12_pairs 113 = .ok (.iaload, 1) := by decide +kernel
theorem dX12_pairs_114 : decode cX12_pairs 114 = .ok (.ireturn, 1) := by decide +kernel
theorem dX12_pairs_115 : decode cX12_pairs 115 = .ok (.iload_n 2, 1) := by decide +kernel
theorem dX12_pairs_116 : decode cX12_pairs 116 = .ok (.ifCond .eq 163, 3) := by decide +kernel
theorem dX12_pairs_119 : decode cX12_pairs 119 = .ok (.iload_n 2, 1) := by decide +kernel
theorem dX12_pairs_120 : decode cX12_pairs 120 = .ok (.invokestatic 374, 3) := by decide +kernel
theorem dX12_pairs_123 : decode cX12_pairs 123 = .ok (.istore_n 3, 1) := by decide +kernel
theorem dX12_pairs_124 : decode cX12_pairs 124 = .ok (.iload_n 2, 1) := by decide +kernel
theorem dX12_pairs_125 : decode cX12_pairs 125 = .ok (.iconst 1, 1) := by decide +kernel
theorem dX12_pairs_126 : decode cX12_pairs 126 = .ok (.iload_n 3, 1) := by decide +kernel
theorem dX12_pairs_127 : decode cX12_pairs 127 = .ok (.ishl, 1) := by decide +kernel
theorem dX12_pairs_128 : decode cX12_pairs 128 = .ok (.iconst (-1), 1) := by decide +kernel
theorem dX12_pairs_129 : decode cX12_pairs 129 = .ok (.ixor, 1) := by decide +kernel
theorem dX12_pairs_130 : decode cX12_pairs 130 = .ok (.iand, 1) := by decide +kernel
theorem dX12_pairs_131 : decode cX12_pairs 131 = .ok (.istore 4, 2) := by decide +kernel
theorem dX12_pairs_133 : decode cX12_pairs 133 = .ok (.iconst (-1), 1) := by decide +kernel
theorem dX12_pairs_134 : decode cX12_pairs 134 = .ok (.istore 5, 2) := by decide +kernel
theorem dX12_pairs_136 : decode cX12_pairs 136 = .ok (.aload_n 0, 1) := by decide +kernel
theorem dX12_pairs_137 : decode cX12_pairs 137 = .ok (.getfield 7, 3) := by decide +kernel
theorem dX12_pairs_140 : decode cX12_pairs 140 = .ok (.iconst 3, 1) := by decide +kernel
theorem dX12_pairs_141 : decode cX12_pairs 141 = .ok (.iaload, 1) := by decide +kernel
theorem dX12_pairs_142 : decode cX12_pairs 142 = .ok (.iconst 1, 1) := by decide +kernel
theorem dX12_pairs_143 : decode cX12_pairs 143 = .ok (.isub, 1) := by decide +kernel
theorem dX12_pairs_144 : decode cX12_pairs 144 = .ok (.istore 6, 2) := by decide +kernel
theorem dX12_pairs_146 : decode cX12_pairs 146 = .ok (.iload 6, 2) := by decide +kernel
theorem dX12_pairs_148 : decode cX12_pairs 148 = .ok (.iload_n 3, 1) := by decide +kernel
theorem dX12_pairs_149 : decode cX12_pairs 149 = .ok (.if_icmp .le 90, 3) := by decide +kernel
theorem dX12_pairs_152 : decode cX12_pairs 152 = .ok (.aload_n 0, 1) := by decide +kernel
theorem dX12_pairs_153 : decode cX12_pairs 153 = .ok (.getfield 47, 3) := by decide +kernel
theorem dX12_pairs_156 : decode cX12_pairs 156 = .ok (.iload 4, 2) := by decide +kernel
theorem dX12_pairs_158 : decode cX12_pairs 158 = .ok (.iaload, 1) := by decide +kernel
theorem dX12_pairs_159 : decode cX12_pairs 159 = .ok (.aload_n 0, 1) := by decide +kernel
theorem dX12_pairs_160 : decode cX12_pairs 160 = .ok (.getfield 47, 3) := by decide +kernel
theorem dX12_pairs_163 : decode cX12_pairs 163 = .ok (.iload_n 2, 1) := by decide +kernel
theorem dX12_pairs_164 : decode cX12_pairs 164 = .ok (.iaload, 1) := by decide +kernel
theorem dX12_pairs_165 : decode cX12_pairs 165 = .ok (.if_icmp .eq 74, 3) := by decide +kernel
theorem dX12_pairs_168 : decode cX12_pairs 168 = .ok (.iload 4, 2) := by decide +kernel
theorem dX12_pairs_170 : decode cX12_pairs 170 = .ok (.iload 6, 2) := by decide +kernel
theorem dX12_pairs_172 : decode cX12_pairs 172 = .ok (.invokestatic 274, 3) := by decide +kernel
theorem dX12_pairs_175 : decode cX12_pairs 175 = .ok (.ifCond .eq 58, 3) := by decide +kernel
theorem dX12_pairs_178 : decode cX12_pairs 178 = .ok (.aload_n 0, 1) := by decide +kernel
theorem dX12_pairs_179 : decode cX12_pairs 179 = .ok (.getfield 50, 3) := by decide +kernel
theorem dX12_pairs_182 : decode cX12_pairs 182 = .ok (.bipush 8, 2) := by decide +kernel
theorem dX12_pairs_184 : decode cX12_pairs 184 = .ok (.iload_n 3, 1) := by decide +kernel
theorem dX12_pairs_185 : decode cX12_pairs 185 = .ok (.imul, 1) := by decide +kernel
theorem dX12_pairs_186 : decode cX12_pairs 186 = .ok (.iload 6, 2) := by decide +kernel
theorem dX12_pairs_188 : decode cX12_pairs 188 = .ok (.iadd, 1) := by decide +kernel
theorem dX12_pairs_189 : decode cX12_pairs 189 = .ok (.iaload, 1) := by decide +kernel
theorem dX12_pairs_190 : decode cX12_pairs 190 = .ok (.ifCond .le 43, 3) := by decide +kernel
theorem dX12_pairs_193 : decode cX12_pairs 193 = .ok (.aload_n 0, 1) := by decide +kernel
theorem dX12_pairs_194 : decode cX12_pairs 194 = .ok (.getfield 50, 3) := by decide +kernel
theorem dX12_pairs_197 : decode cX12_pairs 197 = .ok (.bipush 8, 2) := by decide +kernel
theorem dX12_pairs_199 : decode cX12_pairs 199 = .ok (.iload_n 3, 1) := by decide +kernel
theorem dX12_pairs_200 : decode cX12_pairs 200 = .ok (.imul, 1) := by decide +kernel
theorem dX12_pairs_201 : decode cX12_pairs 201 = .ok (.iload 6, 2) := by decide +kernel
theorem dX12_pairs_203 : decode cX12_pairs 203 = .ok (.iadd, 1) := by decide +kernel
theorem dX12_pairs_204 : decode cX12_pairs 204 = .ok (.iaload, 1) := by decide +kernel
theorem dX12_pairs_205 : decode cX12_pairs 205 = .ok (.aload_n 0, 1) := by decide +kernel
theorem dX12_pairs_206 : decode cX12_pairs 206 = .ok (.getfield 47, 3) := by decide +kernel
theorem dX12_pairs_209 : decode cX12_pairs 209 = .ok (.iload 4, 2) := by decide +kernel
theorem dX12_pairs_211 : decode cX12_pairs 211 = .ok (.iconst 1, 1) := by decide +kernel
theorem dX12_pairs_212 : decode cX12_pairs 212 = .ok (.iload 6, 2) := by decide +kernel
theorem dX12_pairs_214 : decode cX12_pairs 214 = .ok (.ishl, 1) := by decide +kernel
theorem dX12_pairs_215 : decode cX12_pairs 215 = .ok (.iconst (-1), 1) := by decide +kernel
theorem dX12_pairs_216 : decode cX12_pairs 216 = .ok (.ixor, 1) := by decide +kernel
theorem dX12_pairs_217 : decode cX12_pairs 217 = .ok (.iand, 1) := by decide +kernel
theorem dX12_pairs_218 : decode cX12_pairs 218 = .ok (.iaload, 1) := by decide +kernel
theorem dX12_pairs_219 : decode cX12_pairs 219 = .ok (.iadd, 1) := by decide +kernel
theorem dX12_pairs_220 : decode cX12_pairs 220 = .ok (.aload_n 0, 1) := by decide +kernel
theorem dX12_pairs_221 : decode cX12_pairs 221 = .ok (.getfield 47, 3) := by decide +kernel
theorem dX12_pairs_224 : decode cX12_pairs 224 = .ok (.iload_n 2, 1) := by decide +kernel
theorem dX12_pairs_225 : decode cX12_pairs 225 = .ok (.iaload, 1) := by decide +kernel
theorem dX12_pairs_226 : decode cX12_pairs 226 = .ok (.if_icmp .ne 7, 3) := by decide +kernel
theorem dX12_pairs_229 : decode cX12_pairs 229 = .ok (.iload 6, 2) := by decide +kernel
theorem dX12_pairs_231 : decode cX12_pairs 231 = .ok (.istore 5, 2) := by decide +kernel
theorem dX12_pairs_233 : decode cX12_pairs 233 = .ok (.iinc 6 (-1), 3) := by decide +kernel
theorem dX12_pairs_236 : decode cX12_pairs 236 = .ok (.goto (-90), 3) := by decide +kernel
theorem dX12_pairs_239 : decode cX12_pairs 239 = .ok (.iload_n 3, 1) := by decide +kernel
theorem dX12_pairs_240 : decode cX12_pairs 240 = .ok (.iload_n 1, 1) := by decide +kernel
theorem dX12_pairs_241 : decode cX12_pairs 241 = .ok (.if_icmp .ne 6, 3) := by decide +kernel
theorem dX12_pairs_244 : decode cX12_pairs 244 = .ok (.iload 5, 2) := by decide +kernel
theorem dX12_pairs_246 : decode cX12_pairs 246 = .ok (.ireturn, 1) := by decide +kernel
theorem dX12_pairs_247 : decode cX12_pairs 247 = .ok (.iload 5, 2) := by decide +kernel
theorem dX12_pairs_249 : decode cX12_pairs 249 = .ok (.iload_n 1, 1) := by decide +kernel
theorem dX12_pairs_250 : decode cX12_pairs 250 = .ok (.if_icmp .ne 5, 3) := by decide +kernel
theorem dX12_pairs_253 : decode cX12_pairs 253 = .ok (.iload_n 3, 1) := by decide +kernel
theorem dX12_pairs_254 : decode cX12_pairs 254 = .ok (.ireturn, 1) := by decide +kernel
theorem dX12_pairs_255 : decode cX12_pairs 255 = .ok (.iload 5, 2) := by decide +kernel
theorem dX12_pairs_257 : decode cX12_pairs 257 = .ok (.iconst (-1), 1) := by decide +kernel
theorem dX12_pairs_258 : decode cX12_pairs 258 = .ok (.if_icmp .ne 8, 3) := by decide +kernel
theorem dX12_pairs_261 : decode cX12_pairs 261 = .ok (.iload 4, 2) := by decide +kernel
theorem dX12_pairs_263 : decode cX12_pairs 263 = .ok (.goto 12, 3) := by decide +kernel
theorem dX12_pairs_266 : decode cX12_pairs 266 = .ok (.iload 4, 2) := by decide +kernel
theorem dX12_pairs_268 : decode cX12_pairs 268 = .ok (.iconst 1, 1) := by decide +kernel
theorem dX12_pairs_269 : decode cX12_pairs 269 = .ok (.iload 5, 2) := by decide +kernel
theorem dX12_pairs_271 : decode cX12_pairs 271 = .ok (.ishl, 1) := by decide +kernel
theorem dX12_pairs_272 : decode cX12_pairs 272 = .ok (.iconst (-1), 1) := by decide +kernel
theorem dX12_pairs_273 : decode cX12_pairs 273 = .ok (.ixor, 1) := by decide +kernel
theorem dX12_pairs_274 : decode cX12_pairs 274 = .ok (.iand, 1) := by decide +kernel
theorem dX12_pairs_275 : decode cX12_pairs 275 = .ok (.istore_n 2, 1) := by decide +kernel
theorem dX12_pairs_276 : decode cX12_pairs 276 = .ok (.goto (-161), 3) := by decide +kernel
theorem dX12_pairs_279 : decode cX12_pairs 279 = .ok (.iconst (-1), 1) := by decide +kernel
theorem dX12_pairs_280 : decode cX12_pairs 280 = .ok (.ireturn, 1) := by decide +kernel
theorem dX12_share_0 : decode cX12_share 0 = .ok (.aload_n 0, 1) := by decide +kernel
theorem dX12_share_1 : decode cX12_share 1 = .ok (.aload_n 0, 1) := by decide +kernel
theorem dX12_share_2 : decode cX12_share 2 = .ok (.iload_n 1, 1) := by decide +kernel
theorem dX12_share_3 : decode cX12_share 3 = .ok (.invokevirtual 347, 3) := by decide +kernel
theorem dX12_share_6 : decode cX12_share 6 = .ok (.ifCond .ne 7, 3) := by decide +kernel
theorem dX12_share_9 : decode cX12_share 9 = .ok (.iconst 1, 1) := by decide +kernel
theorem dX12_share_10 : decode cX12_share 10 = .ok (.goto 18, 3) := by decide +kernel
theorem dX12_share_13 : decode cX12_share 13 = .ok (.iload_n 2, 1) := by decide +kernel
theorem dX12_share_14 : decode cX12_share 14 = .ok (.iconst 0, 1) := by decide +kernel
theorem dX12_share_15 : decode cX12_share 15 = .ok (.bipush 99, 2) := by decide +kernel
theorem dX12_share_17 : decode cX12_share 17 = .ok (.invokestatic 62, 3) := by decide +kernel
theorem dX12_share_20 : decode cX12_share 20 = .ok (.ifCond .ne 7, 3) := by decide +kernel
theorem dX12_share_23 : decode cX12_share 23 = .ok (.iconst 2, 1) := by decide +kernel
theorem dX12_share_24 : decode cX12_share 24 = .ok (.goto 4, 3) := by decide +kernel
theorem dX12_share_27 : decode cX12_share 27 = .ok (.iconst 0, 1) := by decide +kernel
theorem dX12_share_28 : decode cX12_share 28 = .ok (.putfield 59, 3) := by decide +kernel
theorem dX12_share_31 : decode cX12_share 31 = .ok (.aload_n 0, 1) := by decide +kernel
theorem dX12_share_32 : decode cX12_share 32 = .ok (.getfield 59, 3) := by decide +kernel
theorem dX12_share_35 : decode cX12_share 35 = .ok (.ifCond .le 5, 3) := by decide +kernel
theorem dX12_share_38 : decode cX12_share 38 = .ok (.iconst 0, 1) := by decide +kernel
theorem dX12_share_39 : decode cX12_share 39 = .ok (.ireturn, 1) := by decide +kernel
theorem dX12_share_40 : decode cX12_share 40 = .ok (.iconst 0, 1) := by decide +kernel
theorem dX12_share_41 : decode cX12_share 41 = .ok (.istore_n 3, 1) := by decide +kernel
theorem dX12_share_42 : decode cX12_share 42 = .ok (.iload_n 3, 1) := by decide +kernel
theorem dX12_share_43 : decode cX12_share 43 = .ok (.bipush 8, 2) := by decide +kernel
theorem dX12_share_45 : decode cX12_share 45 = .ok (.if_icmp .ge 16, 3) := by decide +kernel
theorem dX12_share_48 : decode cX12_share 48 = .ok (.aload_n 0, 1) := by decide +kernel
theorem dX12_share_49 : decode cX12_share 49 = .ok (.getfield 53, 3) := by decide +kernel
theorem dX12_share_52 : decode cX12_share 52 = .ok (.iload_n 3, 1) := by decide +kernel
theorem dX12_share_53 : decode cX12_share 53 = .ok (.iconst 0, 1) := by decide +kernel
theorem dX12_share_54 : decode cX12_share 54 = .ok (.iastore, 1) := by decide +kernel
theorem dX12_share_55 : decode cX12_share 55 = .ok (.iinc 3 1, 3) := by decide +kernel
theorem dX12_share_58 : decode cX12_share 58 = .ok (.goto (-16), 3) := by decide +kernel
theorem dX12_share_61 : decode cX12_share 61 = .ok (.iconst 0, 1) := by decide +kernel
theorem dX12_share_62 : decode cX12_share 62 = .ok (.istore_n 3, 1) := by decide +kernel
theorem dX12_share_63 : decode cX12_share 63 = .ok (.iload_n 3, 1) := by decide +kernel
theorem dX12_share_64 : decode cX12_share 64 = .ok (.iload_n 2, 1) := by decide +kernel
theorem dX12_share_65 : decode cX12_share 65 = .ok (.if_icmp .ge 92, 3) := by decide +kernel
theorem dX12_share_68 : decode cX12_share 68 = .ok (.iconst 0, 1) := by decide +kernel
theorem dX12_share_69 : decode cX12_share 69 = .ok (.istore 4, 2) := by decide +kernel
theorem dX12_share_71 : decode cX12_share 71 = .ok (.iconst 1, 1) := by decide +kernel
theorem dX12_share_72 : decode cX12_share 72 = .ok (.istore 5, 2) := by decide +kernel
theorem dX12_share_74 : decode cX12_share 74 = .ok (.iload 5, 2) := by decide +kernel
theorem dX12_share_76 : decode cX12_share 76 = .ok (.aload_n 0, 1) := by decide +kernel
theorem dX12_share_77 : decode cX12_share 77 = .ok (.getfield 7, 3) := by decide +kernel
theorem dX12_share_80 : decode cX12_share 80 = .ok (.iconst 3, 1) := by decide +kernel
theorem dX12_share_81 : decode cX12_share 81 = .ok (.iaload, 1) := by decide +kernel
theorem dX12_share_82 : decode cX12_share 82 = .ok (.if_icmp .ge 58, 3) := by decide +kernel
theorem dX12_share_85 : decode cX12_share 85 = .ok (.bipush 100, 2) := by decide +kernel
theorem dX12_share_87 : decode cX12_share 87 = .ok (.aload_n 0, 1) := by decide +kernel
theorem dX12_share_88 : decode cX12_share 88 = .ok (.iload 5, 2) := by decide +kernel
theorem dX12_share_90 : decode cX12_share 90 = .ok (.bipush 8, 2) := by decide +kernel
theorem dX12_share_92 : decode cX12_share 92 = .ok (.invokevirtual 66, 3) := by decide +kernel
theorem dX12_share_95 : decode cX12_share 95 = .ok (.isub, 1) := by decide +kernel
theorem dX12_share_96 : decode cX12_share 96 = .ok (.aload_n 0, 1) := by decide +kernel
theorem dX12_share_97 : decode cX12_share 97 = .ok (.getfield 53, 3) := by decide +kernel
theorem dX12_share_100 : decode cX12_share 100 = .ok (.iload 5, 2) := by decide +kernel
theorem dX12_share_102 : decode cX12_share 102 = .ok (.iaload, 1) := by decide +kernel
theorem dX12_share_103 : decode cX12_share 103 = .ok (.iconst 1, 1) := by decide +kernel
theorem dX12_share_104 : decode cX12_share 104 = .ok (.iadd, 1) := by decide +kernel
theorem dX12_share_105 : decode cX12_share 105 = .ok (.idiv, 1) := by decide +kernel
theorem dX12_share_106 : decode cX12_share 106 = .ok (.bipush 100, 2) := by decide +kernel
theorem dX12_share_108 : decode cX12_share 108 = .ok (.aload_n 0, 1) := by decide +kernel
theorem dX12_share_109 : decode cX12_share 109 = .ok (.iload 4, 2) := by decide +kernel
theorem dX12_share_111 : decode cX12_share 111 = .ok (.bipush 8, 2) := by decide +kernel
theorem dX12_share_113 : decode cX12_share 113 = .ok (.invokevirtual 66, 3) := by decide +kernel
theorem dX12_share_116 : decode cX12_share 116 = .ok (.isub, 1) := by decide +kernel
theorem dX12_share_117 : decode cX12_share 117 = .ok (.aload_n 0, 1) := by decide +kernel
theorem dX12_share_118 : decode cX12_share 118 = .ok (.getfield 53, 3) := by decide +kernel
theorem dX12_share_121 : decode cX12_share 121 = .ok (.iload 4, 2) := by decide +kernel
theorem dX12_share_123 : decode cX12_share 123 = .ok (.iaload, 1) := by decide +kernel
theorem dX12_share_124 : decode cX12_share 124 = .ok (.iconst 1, 1) := by decide +kernel
theorem dX12_share_125 : decode cX12_share 125 = .ok (.iadd, 1) := by decide +kernel
theorem dX12_share_126 : decode cX12_share 126 = .ok (.idiv, 1) := by decide +kernel
theorem dX12_share_127 : decode cX12_share 127 = .ok (.if_icmp .le 7, 3) := by decide +kernel
theorem dX12_share_130 : decode cX12_share 130 = .ok (.iload 5, 2) := by decide +kernel
theorem dX12_share_132 : decode cX12_share 132 = .ok (.istore 4, 2) := by decide +kernel
theorem dX12_share_134 : decode cX12_share 134 = .ok (.iinc 5 1, 3) := by decide +kernel
theorem dX12_share_137 : decode cX12_share 137 = .ok (.goto (-63), 3) := by decide +kernel
theorem dX12_share_140 : decode cX12_share 140 = .ok (.aload_n 0, 1) := by decide +kernel
theorem dX12_share_141 : decode cX12_share 141 = .ok (.getfield 53, 3) := by decide +kernel
theorem dX12_share_144 : decode cX12_share 144 = .ok (.iload 4, 2) := by decide +kernel
theorem dX12_share_146 : decode cX12_share 146 = .ok (.dup2, 1) := by decide +kernel
theorem dX12_share_147 : decode cX12_share 147 = .ok (.iaload, 1) := by decide +kernel
theorem dX12_share_148 : decode cX12_share 148 = .ok (.iconst 1, 1) := by decide +kernel
theorem dX12_share_149 : decode cX12_share 149 = .ok (.iadd, 1) := by decide +kernel
theorem dX12_share_150 : decode cX12_share 150 = .ok (.iastore, 1) := by decide +kernel
theorem dX12_share_151 : decode cX12_share 151 = .ok (.iinc 3 1, 3) := by decide +kernel
theorem dX12_share_154 : decode cX12_share 154 = .ok (.goto (-91), 3) := by decide +kernel
theorem dX12_share_157 : decode cX12_share 157 = .ok (.aload_n 0, 1) := by decide +kernel
theorem dX12_share_158 : decode cX12_share 158 = .ok (.getfield 53, 3) := by decide +kernel
theorem dX12_share_161 : decode cX12_share 161 = .ok (.iload_n 1, 1) := by decide +kernel
theorem dX12_share_162 : decode cX12_share 162 = .ok (.iaload, 1) := by decide +kernel
theorem dX12_share_163 : decode cX12_share 163 = .ok (.ireturn, 1) := by decide +kernel
theorem dX12_guardHas_0 : decode cX12_guardHas 0 = .ok (.iload_n 2, 1) := by decide +kernel
theorem dX12_guardHas_1 : decode cX12_guardHas 1 = .ok (.ifCond .ne 26, 3) := by decide +kernel
theorem dX12_guardHas_4 : decode cX12_guardHas 4 = .ok (.iload_n 3, 1) := by decide +kernel
theorem dX12_guardHas_5 : decode cX12_guardHas 5 = .ok (.ifCond .ne 13, 3) := by decide +kernel
theorem dX12_guardHas_8 : decode cX12_guardHas 8 = .ok (.aload_n 0, 1) := by decide +kernel
theorem dX12_guardHas_9 : decode cX12_guardHas 9 = .ok (.iload_n 1, 1) := by decide +kernel
theorem dX12_guardHas_10 : decode cX12_guardHas 10 = .ok (.bipush 6, 2) := by decide +kernel
theorem dX12_guardHas_12 : decode cX12_guardHas 12 = .ok (.invokevirtual 66, 3) := by decide +kernel
theorem dX12_guardHas_15 : decode cX12_guardHas 15 = .ok (.goto 11, 3) := by decide +kernel
theorem dX12_guardHas_18 : decode cX12_guardHas 18 = .ok (.aload_n 0, 1) := by decide +kernel
theorem dX12_guardHas_19 : decode cX12_guardHas 19 = .ok (.iload_n 1, 1) := by decide +kernel
theorem dX12_guardHas_20 : decode cX12_guardHas 20 = .ok (.bipush 6, 2) := by decide +kernel
theorem dX12_guardHas_22 : decode cX12_guardHas 22 = .ok (.invokevirtual 66, 3) := by decide +kernel
theorem dX12_guardHas_25 : decode cX12_guardHas 25 = .ok (.ineg, 1) := by decide +kernel
theorem dX12_guardHas_26 : decode cX12_guardHas 26 = .ok (.ireturn, 1) := by decide +kernel
theorem dX12_guardHas_27 : decode cX12_guardHas 27 = .ok (.iload_n 3, 1) := by decide +kernel
theorem dX12_guardHas_28 : decode cX12_guardHas 28 = .ok (.ifCond .ne 16, 3) := by decide +kernel
theorem dX12_guardHas_31 : decode cX12_guardHas 31 = .ok (.aload_n 0, 1) := by decide +kernel
theorem dX12_guardHas_32 : decode cX12_guardHas 32 = .ok (.iload_n 1, 1) := by decide +kernel
theorem dX12_guardHas_33 : decode cX12_guardHas 33 = .ok (.bipush 7, 2) := by decide +kernel
theorem dX12_guardHas_35 : decode cX12_guardHas 35 = .ok (.invokevirtual 66, 3) := by decide +kernel
theorem dX12_guardHas_38 : decode cX12_guardHas 38 = .ok (.ineg, 1) := by decide +kernel
theorem dX12_guardHas_39 : decode cX12_guardHas 39 = .ok (.iconst 1, 1) := by decide +kernel
theorem dX12_guardHas_40 : decode cX12_guardHas 40 = .ok (.isub, 1) := by decide +kernel
theorem dX12_guardHas_41 : decode cX12_guardHas 41 = .ok (.goto 4, 3) := by decide +kernel
theorem dX12_guardHas_44 : decode cX12_guardHas 44 = .ok (.iconst 2, 1) := by decide +kernel
theorem dX12_guardHas_45 : decode cX12_guardHas 45 = .ok (.ireturn, 1) := by decide +kernel
theorem dX12_talkHas_0 : decode cX12_talkHas 0 = .ok (.iload_n 0, 1) := by decide +kernel
theorem dX12_talkHas_1 : decode cX12_talkHas 1 = .ok (.ifCond .ne 13, 3) := by decide +kernel
theorem dX12_talkHas_4 : decode cX12_talkHas 4 = .ok (.iload_n 1, 1) := by decide +kernel
theorem dX12_talkHas_5 : decode cX12_talkHas 5 = .ok (.ifCond .ne 7, 3) := by decide +kernel
theorem dX12_talkHas_8 : decode cX12_talkHas 8 = .ok (.iconst (-1), 1) := by decide +kernel
theorem dX12_talkHas_9 : decode cX12_talkHas 9 = .ok (.goto 4, 3) := by decide +kernel
theorem dX12_talkHas_12 : decode cX12_talkHas 12 = .ok (.iconst 0, 1) := by decide +kernel
theorem dX12_talkHas_13 : decode cX12_talkHas 13 = .ok (.ireturn, 1) := by decide +kernel
theorem dX12_talkHas_14 : decode cX12_talkHas 14 = .ok (.iload_n 1, 1) := by decide +kernel
theorem dX12_talkHas_15 : decode cX12_talkHas 15 = .ok (.ifCond .ne 7, 3) := by decide +kernel
theorem dX12_talkHas_18 : decode cX12_talkHas 18 = .ok (.iconst 2, 1) := by decide +kernel
theorem dX12_talkHas_19 : decode cX12_talkHas 19 = .ok (.goto 4, 3) := by decide +kernel
theorem dX12_talkHas_22 : decode cX12_talkHas 22 = .ok (.iconst 1, 1) := by decide +kernel
theorem dX12_talkHas_23 : decode cX12_talkHas 23 = .ok (.ireturn, 1) := by decide +kernel
theorem dX12_rests_0 : decode cX12_rests 0 = .ok (.aload_n 0, 1) := by decide +kernel
theorem dX12_rests_1 : decode cX12_rests 1 = .ok (.aload_n 0, 1) := by decide +kernel
theorem dX12_rests_2 : decode cX12_rests 2 = .ok (.iload_n 1, 1) := by decide +kernel
theorem dX12_rests_3 : decode cX12_rests 3 = .ok (.invokevirtual 347, 3) := by decide +kernel
theorem dX12_rests_6 : decode cX12_rests 6 = .ok (.ifCond .ne 7, 3) := by decide +kernel
theorem dX12_rests_9 : decode cX12_rests 9 = .ok (.iconst 1, 1) := by decide +kernel
theorem dX12_rests_10 : decode cX12_rests 10 = .ok (.goto 4, 3) := by decide +kernel
theorem dX12_rests_13 : decode cX12_rests 13 = .ok (.iconst 0, 1) := by decide +kernel
theorem dX12_rests_14 : decode cX12_rests 14 = .ok (.putfield 59, 3) := by decide +kernel
theorem dX12_rests_17 : decode cX12_rests 17 = .ok (.aload_n 0, 1) := by decide +kernel
theorem dX12_rests_18 : decode cX12_rests 18 = .ok (.getfield 59, 3) := by decide +kernel
theorem dX12_rests_21 : decode cX12_rests 21 = .ok (.ifCond .le 5, 3) := by decide +kernel
theorem dX12_rests_24 : decode cX12_rests 24 = .ok (.iconst 0, 1) := by decide +kernel
theorem dX12_rests_25 : decode cX12_rests 25 = .ok (.ireturn, 1) := by decide +kernel
theorem dX12_rests_26 : decode cX12_rests 26 = .ok (.iconst 0, 1) := by decide +kernel
theorem dX12_rests_27 : decode cX12_rests 27 = .ok (.istore_n 2, 1) := by decide +kernel
theorem dX12_rests_28 : decode cX12_rests 28 = .ok (.iconst 0, 1) := by decide +kernel
theorem dX12_rests_29 : decode cX12_rests 29 = .ok (.istore_n 3, 1) := by decide +kernel
theorem dX12_rests_30 : decode cX12_rests 30 = .ok (.iload_n 3, 1) := by decide +kernel
theorem dX12_rests_31 : decode cX12_rests 31 = .ok (.iconst 4, 1) := by decide +kernel
theorem dX12_rests_32 : decode cX12_rests 32 = .ok (.if_icmp .ge 67, 3) := by decide +kernel
theorem dX12_rests_35 : decode cX12_rests 35 = .ok (.iload_n 3, 1) := by decide +kernel
theorem dX12_rests_36 : decode cX12_rests 36 = .ok (.iconst 2, 1) := by decide +kernel
theorem dX12_rests_37 : decode cX12_rests 37 = .ok (.idiv, 1) := by decide +kernel
theorem dX12_rests_38 : decode cX12_rests 38 = .ok (.istore 4, 2) := by decide +kernel
theorem dX12_rests_40 : decode cX12_rests 40 = .ok (.iload_n 3, 1) := by decide +kernel
theorem dX12_rests_41 : decode cX12_rests 41 = .ok (.iconst 2, 1) := by decide +kernel
theorem dX12_rests_42 : decode cX12_rests 42 = .ok (.irem, 1) := by decide +kernel
theorem dX12_rests_43 : decode cX12_rests 43 = .ok (.istore 5, 2) := by decide +kernel
theorem dX12_rests_45 : decode cX12_rests 45 = .ok (.aload_n 0, 1) := by decide +kernel
theorem dX12_rests_46 : decode cX12_rests 46 = .ok (.iload_n 1, 1) := by decide +kernel
theorem dX12_rests_47 : decode cX12_rests 47 = .ok (.iconst 1, 1) := by decide +kernel
theorem dX12_rests_48 : decode cX12_rests 48 = .ok (.iload 4, 2) := by decide +kernel
theorem dX12_rests_50 : decode cX12_rests 50 = .ok (.isub, 1) := by decide +kernel
theorem dX12_rests_51 : decode cX12_rests 51 = .ok (.iload 5, 2) := by decide +kernel
theorem dX12_rests_53 : decode cX12_rests 53 = .ok (.invokevirtual 413, 3) := by decide +kernel
theorem dX12_rests_56 : decode cX12_rests 56 = .ok (.aload_n 0, 1) := by decide +kernel
theorem dX12_rests_57 : decode cX12_rests 57 = .ok (.iload_n 1, 1) := by decide +kernel
theorem dX12_rests_58 : decode cX12_rests 58 = .ok (.iload 4, 2) := by decide +kernel
theorem dX12_rests_60 : decode cX12_rests 60 = .ok (.iload 5, 2) := by decide +kernel
theorem dX12_rests_62 : decode cX12_rests 62 = .ok (.invokevirtual 413, 3) := by decide +kernel
theorem dX12_rests_65 : decode cX12_rests 65 = .ok (.if_icmp .gt 28, 3) := by decide +kernel
theorem dX12_rests_68 : decode cX12_rests 68 = .ok (.iload 4, 2) := by decide +kernel
theorem dX12_rests_70 : decode cX12_rests 70 = .ok (.iconst 1, 1) := by decide +kernel
theorem dX12_rests_71 : decode cX12_rests 71 = .ok (.iload 5, 2) := by decide +kernel
theorem dX12_rests_73 : decode cX12_rests 73 = .ok (.isub, 1) := by decide +kernel
theorem dX12_rests_74 : decode cX12_rests 74 = .ok (.invokestatic 417, 3) := by decide +kernel
theorem dX12_rests_77 : decode cX12_rests 77 = .ok (.iload 4, 2) := by decide +kernel
theorem dX12_rests_79 : decode cX12_rests 79 = .ok (.iload 5, 2) := by decide +kernel
theorem dX12_rests_81 : decode cX12_rests 81 = .ok (.invokestatic 417, 3) := by decide +kernel
theorem dX12_rests_84 : decode cX12_rests 84 = .ok (.if_icmp .gt 9, 3) := by decide +kernel
theorem dX12_rests_87 : decode cX12_rests 87 = .ok (.iload_n 2, 1) := by decide +kernel
theorem dX12_rests_88 : decode cX12_rests 88 = .ok (.iconst 1, 1) := by decide +kernel
theorem dX12_rests_89 : decode cX12_rests 89 = .ok (.iload_n 3, 1) := by decide +kernel
theorem dX12_rests_90 : decode cX12_rests 90 = .ok (.ishl, 1) := by decide +kernel
theorem dX12_rests_91 : decode cX12_rests 91 = .ok (.ior, 1) := by decide +kernel
theorem dX12_rests_92 : decode cX12_rests 92 = .ok (.istore_n 2, 1) := by decide +kernel
theorem dX12_rests_93 : decode cX12_rests 93 = .ok (.iinc 3 1, 3) := by decide +kernel
theorem dX12_rests_96 : decode cX12_rests 96 = .ok (.goto (-66), 3) := by decide +kernel
theorem dX12_rests_99 : decode cX12_rests 99 = .ok (.iload_n 2, 1) := by decide +kernel
theorem dX12_rests_100 : decode cX12_rests 100 = .ok (.ireturn, 1) := by decide +kernel
theorem dX12_odds_0 : decode cX12_odds 0 = .ok (.aload_n 0, 1) := by decide +kernel
theorem dX12_odds_1 : decode cX12_odds 1 = .ok (.aload_n 0, 1) := by decide +kernel
theorem dX12_odds_2 : decode cX12_odds 2 = .ok (.iload_n 1, 1) := by decide +kernel
theorem dX12_odds_3 : decode cX12_odds 3 = .ok (.invokevirtual 347, 3) := by decide +kernel
theorem dX12_odds_6 : decode cX12_odds 6 = .ok (.ifCond .ne 7, 3) := by decide +kernel
theorem dX12_odds_9 : decode cX12_odds 9 = .ok (.iconst 1, 1) := by decide +kernel
theorem dX12_odds_10 : decode cX12_odds 10 = .ok (.goto 26, 3) := by decide +kernel
theorem dX12_odds_13 : decode cX12_odds 13 = .ok (.iload_n 2, 1) := by decide +kernel
theorem dX12_odds_14 : decode cX12_odds 14 = .ok (.iconst 0, 1) := by decide +kernel
theorem dX12_odds_15 : decode cX12_odds 15 = .ok (.iconst 5, 1) := by decide +kernel
theorem dX12_odds_16 : decode cX12_odds 16 = .ok (.invokestatic 62, 3) := by decide +kernel
theorem dX12_odds_19 : decode cX12_odds 19 = .ok (.ifCond .eq 12, 3) := by decide +kernel
theorem dX12_odds_22 : decode cX12_odds 22 = .ok (.iload_n 3, 1) := by decide +kernel
theorem dX12_odds_23 : decode cX12_odds 23 = .ok (.iconst 0, 1) := by decide +kernel
theorem dX12_odds_24 : decode cX12_odds 24 = .ok (.iconst 5, 1) := by decide +kernel
theorem dX12_odds_25 : decode cX12_odds 25 = .ok (.invokestatic 62, 3) := by decide +kernel
theorem dX12_odds_28 : decode cX12_odds 28 = .ok (.ifCond .ne 7, 3) := by decide +kernel
theorem dX12_odds_31 : decode cX12_odds 31 = .ok (.iconst 2, 1) := by decide +kernel
theorem dX12_odds_32 : decode cX12_odds 32 = .ok (.goto 4, 3) := by decide +kernel
theorem dX12_odds_35 : decode cX12_odds 35 = .ok (.iconst 0, 1) := by decide +kernel
theorem dX12_odds_36 : decode cX12_odds 36 = .ok (.putfield 59, 3) := by decide +kernel
theorem dX12_odds_39 : decode cX12_odds 39 = .ok (.aload_n 0, 1) := by decide +kernel
theorem dX12_odds_40 : decode cX12_odds 40 = .ok (.getfield 59, 3) := by decide +kernel
theorem dX12_odds_43 : decode cX12_odds 43 = .ok (.ifCond .le 5, 3) := by decide +kernel
theorem dX12_odds_46 : decode cX12_odds 46 = .ok (.iconst 0, 1) := by decide +kernel
theorem dX12_odds_47 : decode cX12_odds 47 = .ok (.ireturn, 1) := by decide +kernel
theorem dX12_odds_48 : decode cX12_odds 48 = .ok (.aload_n 0, 1) := by decide +kernel
theorem dX12_odds_49 : decode cX12_odds 49 = .ok (.iload_n 1, 1) := by decide +kernel
theorem dX12_odds_50 : decode cX12_odds 50 = .ok (.invokevirtual 253, 3) := by decide +kernel
theorem dX12_odds_53 : decode cX12_odds 53 = .ok (.aload_n 0, 1) := by decide +kernel
theorem dX12_odds_54 : decode cX12_odds 54 = .ok (.getfield 242, 3) := by decide +kernel
theorem dX12_odds_57 : decode cX12_odds 57 = .ok (.istore 4, 2) := by decide +kernel
theorem dX12_odds_59 : decode cX12_odds 59 = .ok (.lconst 0, 1) := by decide +kernel
theorem dX12_odds_60 : decode cX12_odds 60 = .ok (.lstore 5, 2) := by decide +kernel
theorem dX12_odds_62 : decode cX12_odds 62 = .ok (.lconst 1, 1) := by decide +kernel
theorem dX12_odds_63 : decode cX12_odds 63 = .ok (.lstore 7, 2) := by decide +kernel
theorem dX12_odds_65 : decode cX12_odds 65 = .ok (.iconst 0, 1) := by decide +kernel
theorem dX12_odds_66 : decode cX12_odds 66 = .ok (.istore 9, 2) := by decide +kernel
theorem dX12_odds_68 : decode cX12_odds 68 = .ok (.iload 9, 2) := by decide +kernel
theorem dX12_odds_70 : decode cX12_odds 70 = .ok (.iload_n 2, 1) := by decide +kernel
theorem dX12_odds_71 : decode cX12_odds 71 = .ok (.if_icmp .ge 17, 3) := by decide +kernel
theorem dX12_odds_74 : decode cX12_odds 74 = .ok (.lload 7, 2) := by decide +kernel
theorem dX12_odds_76 : decode cX12_odds 76 = .ok (.ldc2_w 420, 3) := by decide +kernel
theorem dX12_odds_79 : decode cX12_odds 79 = .ok (.lmul, 1) := by decide +kernel
theorem dX12_odds_80 : decode cX12_odds 80 = .ok (.lstore 7, 2) := by decide +kernel
theorem dX12_odds_82 : decode cX12_odds 82 = .ok (.iinc 9 1, 3) := by decide +kernel
theorem dX12_odds_85 : decode cX12_odds 85 = .ok (.goto (-17), 3) := by decide +kernel
theorem dX12_odds_88 : decode cX12_odds 88 = .ok (.iconst 0, 1) := by decide +kernel
theorem dX12_odds_89 : decode cX12_odds 89 = .ok (.istore 9, 2) := by decide +kernel
theorem dX12_odds_91 : decode cX12_odds 91 = .ok (.iload 9, 2) := by decide +kernel
theorem dX12_odds_93 : decode cX12_odds 93 = .ok (.iconst 1, 1) := by decide +kernel
theorem dX12_odds_94 : decode cX12_odds 94 = .ok (.iload_n 2, 1) := by decide +kernel
theorem dX12_odds_95 : decode cX12_odds 95 = .ok (.ishl, 1) := by decide +kernel
theorem dX12_odds_96 : decode cX12_odds 96 = .ok (.if_icmp .ge 74, 3) := by decide +kernel
theorem dX12_odds_99 : decode cX12_odds 99 = .ok (.iload 9, 2) := by decide +kernel
theorem dX12_odds_101 : decode cX12_odds 101 = .ok (.invokestatic 247, 3) := by decide +kernel
theorem dX12_odds_104 : decode cX12_odds 104 = .ok (.iload_n 3, 1) := by decide +kernel
theorem dX12_odds_105 : decode cX12_odds 105 = .ok (.if_icmp .ge 7, 3) := by decide +kernel
theorem dX12_odds_108 : decode cX12_odds 108 = .ok (.lconst 0, 1) := by decide +kernel
theorem dX12_odds_109 : decode cX12_odds 109 = .ok (.goto 4, 3) := by decide +kernel
theorem dX12_odds_112 : decode cX12_odds 112 = .ok (.lconst 1, 1) := by decide +kernel
theorem dX12_odds_113 : decode cX12_odds 113 = .ok (.lstore 10, 2) := by decide +kernel
theorem dX12_odds_115 : decode cX12_odds 115 = .ok (.iconst 0, 1) := by decide +kernel
theorem dX12_odds_116 : decode cX12_odds 116 = .ok (.istore 12, 2) := by decide +kernel
theorem dX12_odds_118 : decode cX12_odds 118 = .ok (.iload 12, 2) := by decide +kernel
theorem dX12_odds_120 : decode cX12_odds 120 = .ok (.iload_n 2, 1) := by decide +kernel
theorem dX12_odds_121 : decode cX12_odds 121 = .ok (.if_icmp .ge 36, 3) := by decide +kernel
theorem dX12_odds_124 : decode cX12_odds 124 = .ok (.lload 10, 2) := by decide +kernel
theorem dX12_odds_126 : decode cX12_odds 126 = .ok (.iload 9, 2) := by decide +kernel
theorem dX12_odds_128 : decode cX12_odds 128 = .ok (.iload 12, 2) := by decide +kernel
theorem dX12_odds_130 : decode cX12_odds 130 = .ok (.invokestatic 274, 3) := by decide +kernel
theorem dX12_odds_133 : decode cX12_odds 133 = .ok (.ifCond .eq 9, 3) := by decide +kernel
theorem dX12_odds_136 : decode cX12_odds 136 = .ok (.iload 4, 2) := by decide +kernel
theorem dX12_odds_138 : decode cX12_odds 138 = .ok (.i2l, 1) := by decide +kernel
theorem dX12_odds_139 : decode cX12_odds 139 = .ok (.goto 9, 3) := by decide +kernel
theorem dX12_odds_142 : decode cX12_odds 142 = .ok (.bipush 100, 2) := by decide +kernel
theorem dX12_odds_144 : decode cX12_odds 144 = .ok (.iload 4, 2) := by decide +kernel
theorem dX12_odds_146 : decode cX12_odds 146 = .ok (.isub, 1) := by decide +kernel
theorem dX12_odds_147 : decode cX12_odds 147 = .ok (.i2l, 1) := by decide +kernel
theorem dX12_odds_148 : decode cX12_odds 148 = .ok (.lmul, 1) := by decide +kernel
theorem dX12_odds_149 : decode cX12_odds 149 = .ok (.lstore 10, 2) := by decide +kernel
theorem dX12_odds_151 : decode cX12_odds 151 = .ok (.iinc 12 1, 3) := by decide +kernel
theorem dX12_odds_154 : decode cX12_odds 154 = .ok (.goto (-36), 3) := by decide +kernel
theorem dX12_odds_157 : decode cX12_odds 157 = .ok (.lload 5, 2) := by decide +kernel
theorem dX12_odds_159 : decode cX12_odds 159 = .ok (.lload 10, 2) := by decide +kernel
theorem dX12_odds_161 : decode cX12_odds 161 = .ok (.ladd, 1) := by decide +kernel
theorem dX12_odds_162 : decode cX12_odds 162 = .ok (.lstore 5, 2) := by decide +kernel
theorem dX12_odds_164 : decode cX12_odds 164 = .ok (.iinc 9 1, 3) := by decide +kernel
theorem dX12_odds_167 : decode cX12_odds 167 = .ok (.goto (-76), 3) := by decide +kernel
theorem dX12_odds_170 : decode cX12_odds 170 = .ok (.ldc2_w 422, 3) := by decide +kernel
theorem dX12_odds_173 : decode cX12_odds 173 = .ok (.lload 5, 2) := by decide +kernel
theorem dX12_odds_175 : decode cX12_odds 175 = .ok (.lmul, 1) := by decide +kernel
theorem dX12_odds_176 : decode cX12_odds 176 = .ok (.lload 7, 2) := by decide +kernel
theorem dX12_odds_178 : decode cX12_odds 178 = .ok (.ldiv, 1) := by decide +kernel
theorem dX12_odds_179 : decode cX12_odds 179 = .ok (.l2i, 1) := by decide +kernel
theorem dX12_odds_180 : decode cX12_odds 180 = .ok (.ireturn, 1) := by decide +kernel
theorem dX12_valueOf_0 : decode cX12_valueOf 0 = .ok (.aload_n 0, 1) := by decide +kernel
theorem dX12_valueOf_1 : decode cX12_valueOf 1 = .ok (.iload_n 2, 1) := by decide +kernel
theorem dX12_valueOf_2 : decode cX12_valueOf 2 = .ok (.iconst 1, 1) := by decide +kernel
theorem dX12_valueOf_3 : decode cX12_valueOf 3 = .ok (.invokevirtual 66, 3) := by decide +kernel
theorem dX12_valueOf_6 : decode cX12_valueOf 6 = .ok (.aload_n 0, 1) := by decide +kernel
theorem dX12_valueOf_7 : decode cX12_valueOf 7 = .ok (.iload_n 2, 1) := by decide +kernel
theorem dX12_valueOf_8 : decode cX12_valueOf 8 = .ok (.iconst 2, 1) := by decide +kernel
theorem dX12_valueOf_9 : decode cX12_valueOf 9 = .ok (.invokevirtual 66, 3) := by decide +kernel
theorem dX12_valueOf_12 : decode cX12_valueOf 12 = .ok (.iadd, 1) := by decide +kernel
theorem dX12_valueOf_13 : decode cX12_valueOf 13 = .ok (.istore_n 3, 1) := by decide +kernel
theorem dX12_valueOf_14 : decode cX12_valueOf 14 = .ok (.iload_n 1, 1) := by decide +kernel
theorem dX12_valueOf_15 : decode cX12_valueOf 15 = .ok (.ifCond .ne 7, 3) := by decide +kernel
theorem dX12_valueOf_18 : decode cX12_valueOf 18 = .ok (.iload_n 3, 1) := by decide +kernel
theorem dX12_valueOf_19 : decode cX12_valueOf 19 = .ok (.goto 22, 3) := by decide +kernel
theorem dX12_valueOf_22 : decode cX12_valueOf 22 = .ok (.iload_n 1, 1) := by decide +kernel
theorem dX12_valueOf_23 : decode cX12_valueOf 23 = .ok (.iconst 1, 1) := by decide +kernel
theorem dX12_valueOf_24 : decode cX12_valueOf 24 = .ok (.if_icmp .ne 8, 3) := by decide +kernel
theorem dX12_valueOf_27 : decode cX12_valueOf 27 = .ok (.iload_n 3, 1) := by decide +kernel
theorem dX12_valueOf_28 : decode cX12_valueOf 28 = .ok (.ineg, 1) := by decide +kernel
theorem dX12_valueOf_29 : decode cX12_valueOf 29 = .ok (.goto 12, 3) := by decide +kernel
theorem dX12_valueOf_32 : decode cX12_valueOf 32 = .ok (.aload_n 0, 1) := by decide +kernel
theorem dX12_valueOf_33 : decode cX12_valueOf 33 = .ok (.iload_n 2, 1) := by decide +kernel
theorem dX12_valueOf_34 : decode cX12_valueOf 34 = .ok (.iconst 0, 1) := by decide +kernel
theorem dX12_valueOf_35 : decode cX12_valueOf 35 = .ok (.invokevirtual 66, 3) := by decide +kernel
theorem dX12_valueOf_38 : decode cX12_valueOf 38 = .ok (.invokestatic 377, 3) := by decide +kernel
theorem dX12_valueOf_41 : decode cX12_valueOf 41 = .ok (.ireturn, 1) := by decide +kernel
theorem dX12_most_0 : decode cX12_most 0 = .ok (.aload_n 0, 1) := by decide +kernel
theorem dX12_most_1 : decode cX12_most 1 = .ok (.iload_n 1, 1) := by decide +kernel
theorem dX12_most_2 : decode cX12_most 2 = .ok (.iconst 0, 1) := by decide +kernel
theorem dX12_most_3 : decode cX12_most 3 = .ok (.iconst 2, 1) := by decide +kernel
theorem dX12_most_4 : decode cX12_most 4 = .ok (.invokestatic 62, 3) := by decide +kernel
theorem dX12_most_7 : decode cX12_most 7 = .ok (.ifCond .ne 7, 3) := by decide +kernel
theorem dX12_most_10 : decode cX12_most 10 = .ok (.iconst 1, 1) := by decide +kernel
theorem dX12_most_11 : decode cX12_most 11 = .ok (.goto 4, 3) := by decide +kernel
theorem dX12_most_14 : decode cX12_most 14 = .ok (.iconst 0, 1) := by decide +kernel
theorem dX12_most_15 : decode cX12_most 15 = .ok (.putfield 59, 3) := by decide +kernel
theorem dX12_most_18 : decode cX12_most 18 = .ok (.aload_n 0, 1) := by decide +kernel
theorem dX12_most_19 : decode cX12_most 19 = .ok (.getfield 59, 3) := by decide +kernel
theorem dX12_most_22 : decode cX12_most 22 = .ok (.ifCond .le 5, 3) := by decide +kernel
theorem dX12_most_25 : decode cX12_most 25 = .ok (.iconst 0, 1) := by decide +kernel
theorem dX12_most_26 : decode cX12_most 26 = .ok (.ireturn, 1) := by decide +kernel
theorem dX12_most_27 : decode cX12_most 27 = .ok (.iconst (-1), 1) := by decide +kernel
theorem dX12_most_28 : decode cX12_most 28 = .ok (.istore_n 2, 1) := by decide +kernel
theorem dX12_most_29 : decode cX12_most 29 = .ok (.iconst 0, 1) := by decide +kernel
theorem dX12_most_30 : decode cX12_most 30 = .ok (.istore_n 3, 1) := by decide +kernel
theorem dX12_most_31 : decode cX12_most 31 = .ok (.iload_n 3, 1) := by decide +kernel
theorem dX12_most_32 : decode cX12_most 32 = .ok (.aload_n 0, 1) := by decide +kernel
theorem dX12_most_33 : decode cX12_most 33 = .ok (.getfield 7, 3) := by decide +kernel
theorem dX12_most_36 : decode cX12_most 36 = .ok (.iconst 3, 1) := by decide +kernel
theorem dX12_most_37 : decode cX12_most 37 = .ok (.iaload, 1) := by decide +kernel
theorem dX12_most_38 : decode cX12_most 38 = .ok (.if_icmp .ge 31, 3) := by decide +kernel
theorem dX12_most_41 : decode cX12_most 41 = .ok (.iload_n 2, 1) := by decide +kernel
theorem dX12_most_42 : decode cX12_most 42 = .ok (.iconst (-1), 1) := by decide +kernel
theorem dX12_most_43 : decode cX12_most 43 = .ok (.if_icmp .eq 18, 3) := by decide +kernel
theorem dX12_most_46 : decode cX12_most 46 = .ok (.aload_n 0, 1) := by decide +kernel
theorem dX12_most_47 : decode cX12_most 47 = .ok (.iload_n 1, 1) := by decide +kernel
theorem dX12_most_48 : decode cX12_most 48 = .ok (.iload_n 3, 1) := by decide +kernel
theorem dX12_most_49 : decode cX12_most 49 = .ok (.invokevirtual 424, 3) := by decide +kernel
theorem dX12_most_52 : decode cX12_most 52 = .ok (.aload_n 0, 1) := by decide +kernel
theorem dX12_most_53 : decode cX12_most 53 = .ok (.iload_n 1, 1) := by decide +kernel
theorem dX12_most_54 : decode cX12_most 54 = .ok (.iload_n 2, 1) := by decide +kernel
theorem dX12_most_55 : decode cX12_most 55 = .ok (.invokevirtual 424, 3) := by decide +kernel
theorem dX12_most_58 : decode cX12_most 58 = .ok (.if_icmp .le 5, 3) := by decide +kernel
theorem dX12_most_61 : decode cX12_most 61 = .ok (.iload_n 3, 1) := by decide +kernel
theorem dX12_most_62 : decode cX12_most 62 = .ok (.istore_n 2, 1) := by decide +kernel
theorem dX12_most_63 : decode cX12_most 63 = .ok (.iinc 3 1, 3) := by decide +kernel
theorem dX12_most_66 : decode cX12_most 66 = .ok (.goto (-35), 3) := by decide +kernel
theorem dX12_most_69 : decode cX12_most 69 = .ok (.iload_n 2, 1) := by decide +kernel
theorem dX12_most_70 : decode cX12_most 70 = .ok (.ireturn, 1) := by decide +kernel
theorem dX12_byState_0 : decode cX12_byState 0 = .ok (.aload_n 0, 1) := by decide +kernel
theorem dX12_byState_1 : decode cX12_byState 1 = .ok (.iload_n 1, 1) := by decide +kernel
theorem dX12_byState_2 : decode cX12_byState 2 = .ok (.iconst 0, 1) := by decide +kernel
theorem dX12_byState_3 : decode cX12_byState 3 = .ok (.iconst 3, 1) := by decide +kernel
theorem dX12_byState_4 : decode cX12_byState 4 = .ok (.invokestatic 62, 3) := by decide +kernel
theorem dX12_byState_7 : decode cX12_byState 7 = .ok (.ifCond .ne 7, 3) := by decide +kernel
theorem dX12_byState_10 : decode cX12_byState 10 = .ok (.iconst 1, 1) := by decide +kernel
theorem dX12_byState_11 : decode cX12_byState 11 = .ok (.goto 4, 3) := by decide +kernel
theorem dX12_byState_14 : decode cX12_byState 14 = .ok (.iconst 0, 1) := by decide +kernel
theorem dX12_byState_15 : decode cX12_byState 15 = .ok (.putfield 59, 3) := by decide +kernel
theorem dX12_byState_18 : decode cX12_byState 18 = .ok (.aload_n 0, 1) := by decide +kernel
theorem dX12_byState_19 : decode cX12_byState 19 = .ok (.getfield 59, 3) := by decide +kernel
theorem dX12_byState_22 : decode cX12_byState 22 = .ok (.ifCond .le 7, 3) := by decide +kernel
theorem dX12_byState_25 : decode cX12_byState 25 = .ok (.iconst 0, 1) := by decide +kernel
theorem dX12_byState_26 : decode cX12_byState 26 = .ok (.goto 8, 3) := by decide +kernel
theorem dX12_byState_29 : decode cX12_byState 29 = .ok (.aload_n 0, 1) := by decide +kernel
theorem dX12_byState_30 : decode cX12_byState 30 = .ok (.iload_n 1, 1) := by decide +kernel
theorem dX12_byState_31 : decode cX12_byState 31 = .ok (.invokevirtual 250, 3) := by decide +kernel
theorem dX12_byState_34 : decode cX12_byState 34 = .ok (.ireturn, 1) := by decide +kernel
theorem dX12_twins_0 : decode cX12_twins 0 = .ok (.aload_n 0, 1) := by decide +kernel
theorem dX12_twins_1 : decode cX12_twins 1 = .ok (.iconst 0, 1) := by decide +kernel
theorem dX12_twins_2 : decode cX12_twins 2 = .ok (.putfield 59, 3) := by decide +kernel
theorem dX12_twins_5 : decode cX12_twins 5 = .ok (.iconst 0, 1) := by decide +kernel
theorem dX12_twins_6 : decode cX12_twins 6 = .ok (.istore_n 1, 1) := by decide +kernel
theorem dX12_twins_7 : decode cX12_twins 7 = .ok (.iconst 0, 1) := by decide +kernel
theorem dX12_twins_8 : decode cX12_twins 8 = .ok (.istore_n 2, 1) := by decide +kernel
theorem dX12_twins_9 : decode cX12_twins 9 = .ok (.iload_n 2, 1) := by decide +kernel
theorem dX12_twins_10 : decode cX12_twins 10 = .ok (.aload_n 0, 1) := by decide +kernel
theorem dX12_twins_11 : decode cX12_twins 11 = .ok (.getfield 7, 3) := by decide +kernel
theorem dX12_twins_14 : decode cX12_twins 14 = .ok (.iconst 3, 1) := by decide +kernel
theorem dX12_twins_15 : decode cX12_twins 15 = .ok (.iaload, 1) := by decide +kernel
theorem dX12_twins_16 : decode cX12_twins 16 = .ok (.if_icmp .ge 67, 3) := by decide +kernel
theorem dX12_twins_19 : decode cX12_twins 19 = .ok (.iload_n 2, 1) := by decide +kernel
theorem dX12_twins_20 : decode cX12_twins 20 = .ok (.iconst 1, 1) := by decide +kernel
theorem dX12_twins_21 : decode cX12_twins 21 = .ok (.iadd, 1) := by decide +kernel
theorem dX12_twins_22 : decode cX12_twins 22 = .ok (.istore_n 3, 1) := by decide +kernel
theorem dX12_twins_23 : decode cX12_twins 23 = .ok (.iload_n 3, 1) := by decide +kernel
theorem dX12_twins_24 : decode cX12_twins 24 = .ok (.aload_n 0, 1) := by decide +kernel
theorem dX12_twins_25 : decode cX12_twins 25 = .ok (.getfield 7, 3) := by decide +kernel
theorem dX12_twins_28 : decode cX12_twins 28 = .ok (.iconst 3, 1) := by decide +kernel
theorem dX12_twins_29 : decode cX12_twins 29 = .ok (.iaload, 1) := by decide +kernel
theorem dX12_twins_30 : decode cX12_twins 30 = .ok (.if_icmp .ge 47, 3) := by decide +kernel
theorem dX12_twins_33 : decode cX12_twins 33 = .ok (.iload_n 1, 1) := by decide +kernel
theorem dX12_twins_34 : decode cX12_twins 34 = .ok (.aload_n 0, 1) := by decide +kernel
theorem dX12_twins_35 : decode cX12_twins 35 = .ok (.iload_n 2, 1) := by decide +kernel
theorem dX12_twins_36 : decode cX12_twins 36 = .ok (.iconst 1, 1) := by decide +kernel
theorem dX12_twins_37 : decode cX12_twins 37 = .ok (.invokevirtual 66, 3) := by decide +kernel
theorem dX12_twins_40 : decode cX12_twins 40 = .ok (.aload_n 0, 1) := by decide +kernel
theorem dX12_twins_41 : decode cX12_twins 41 = .ok (.iload_n 3, 1) := by decide +kernel
theorem dX12_twins_42 : decode cX12_twins 42 = .ok (.iconst 1, 1) := by decide +kernel
theorem dX12_twins_43 : decode cX12_twins 43 = .ok (.invokevirtual 66, 3) := by decide +kernel
theorem dX12_twins_46 : decode cX12_twins 46 = .ok (.if_icmp .ne 22, 3) := by decide +kernel
theorem dX12_twins_49 : decode cX12_twins 49 = .ok (.aload_n 0, 1) := by decide +kernel
theorem dX12_twins_50 : decode cX12_twins 50 = .ok (.iload_n 2, 1) := by decide +kernel
theorem dX12_twins_51 : decode cX12_twins 51 = .ok (.iconst 3, 1) := by decide +kernel
theorem dX12_twins_52 : decode cX12_twins 52 = .ok (.invokevirtual 66, 3) := by decide +kernel
theorem dX12_twins_55 : decode cX12_twins 55 = .ok (.aload_n 0, 1) := by decide +kernel
theorem dX12_twins_56 : decode cX12_twins 56 = .ok (.iload_n 3, 1) := by decide +kernel
theorem dX12_twins_57 : decode cX12_twins 57 = .ok (.iconst 3, 1) := by decide +kernel
theorem dX12_twins_58 : decode cX12_twins 58 = .ok (.invokevirtual 66, 3) := by decide +kernel
theorem dX12_twins_61 : decode cX12_twins 61 = .ok (.if_icmp .ne 7, 3) := by decide +kernel
theorem dX12_twins_64 : decode cX12_twins 64 = .ok (.iconst 1, 1) := by decide +kernel
theorem dX12_twins_65 : decode cX12_twins 65 = .ok (.goto 4, 3) := by decide +kernel
theorem dX12_twins_68 : decode cX12_twins 68 = .ok (.iconst 0, 1) := by decide +kernel
theorem dX12_twins_69 : decode cX12_twins 69 = .ok (.iadd, 1) := by decide +kernel
theorem dX12_twins_70 : decode cX12_twins 70 = .ok (.istore_n 1, 1) := by decide +kernel
theorem dX12_twins_71 : decode cX12_twins 71 = .ok (.iinc 3 1, 3) := by decide +kernel
theorem dX12_twins_74 : decode cX12_twins 74 = .ok (.goto (-51), 3) := by decide +kernel
theorem dX12_twins_77 : decode cX12_twins 77 = .ok (.iinc 2 1, 3) := by decide +kernel
theorem dX12_twins_80 : decode cX12_twins 80 = .ok (.goto (-71), 3) := by decide +kernel
theorem dX12_twins_83 : decode cX12_twins 83 = .ok (.iload_n 1, 1) := by decide +kernel
theorem dX12_twins_84 : decode cX12_twins 84 = .ok (.ireturn, 1) := by decide +kernel
theorem dX12_ahead_0 : decode cX12_ahead 0 = .ok (.aload_n 0, 1) := by decide +kernel
theorem dX12_ahead_1 : decode cX12_ahead 1 = .ok (.aload_n 0, 1) := by decide +kernel
theorem dX12_ahead_2 : decode cX12_ahead 2 = .ok (.iload_n 1, 1) := by decide +kernel
theorem dX12_ahead_3 : decode cX12_ahead 3 = .ok (.invokevirtual 347, 3) := by decide +kernel
theorem dX12_ahead_6 : decode cX12_ahead 6 = .ok (.ifCond .ne 7, 3) := by decide +kernel
theorem dX12_ahead_9 : decode cX12_ahead 9 = .ok (.iconst 1, 1) := by decide +kernel
theorem dX12_ahead_10 : decode cX12_ahead 10 = .ok (.goto 18, 3) := by decide +kernel
theorem dX12_ahead_13 : decode cX12_ahead 13 = .ok (.iload_n 2, 1) := by decide +kernel
theorem dX12_ahead_14 : decode cX12_ahead 14 = .ok (.iconst 0, 1) := by decide +kernel
theorem dX12_ahead_15 : decode cX12_ahead 15 = .ok (.bipush 60, 2) := by decide +kernel
theorem dX12_ahead_17 : decode cX12_ahead 17 = .ok (.invokestatic 62, 3) := by decide +kernel
theorem dX12_ahead_20 : decode cX12_ahead 20 = .ok (.ifCond .ne 7, 3) := by decide +kernel
theorem dX12_ahead_23 : decode cX12_ahead 23 = .ok (.iconst 2, 1) := by decide +kernel
theorem dX12_ahead_24 : decode cX12_ahead 24 = .ok (.goto 4, 3) := by decide +kernel
theorem dX12_ahead_27 : decode cX12_ahead 27 = .ok (.iconst 0, 1) := by decide +kernel
theorem dX12_ahead_28 : decode cX12_ahead 28 = .ok (.putfield 59, 3) := by decide +kernel
theorem dX12_ahead_31 : decode cX12_ahead 31 = .ok (.aload_n 0, 1) := by decide +kernel
theorem dX12_ahead_32 : decode cX12_ahead 32 = .ok (.getfield 59, 3) := by decide +kernel
theorem dX12_ahead_35 : decode cX12_ahead 35 = .ok (.ifCond .le 5, 3) := by decide +kernel
theorem dX12_ahead_38 : decode cX12_ahead 38 = .ok (.iconst 0, 1) := by decide +kernel
theorem dX12_ahead_39 : decode cX12_ahead 39 = .ok (.ireturn, 1) := by decide +kernel
theorem dX12_ahead_40 : decode cX12_ahead 40 = .ok (.aload_n 0, 1) := by decide +kernel
theorem dX12_ahead_41 : decode cX12_ahead 41 = .ok (.invokevirtual 177, 3) := by decide +kernel
theorem dX12_ahead_44 : decode cX12_ahead 44 = .ok (.aload_n 0, 1) := by decide +kernel
theorem dX12_ahead_45 : decode cX12_ahead 45 = .ok (.iload_n 2, 1) := by decide +kernel
theorem dX12_ahead_46 : decode cX12_ahead 46 = .ok (.iconst 0, 1) := by decide +kernel
theorem dX12_ahead_47 : decode cX12_ahead 47 = .ok (.invokevirtual 365, 3) := by decide +kernel
theorem dX12_ahead_50 : decode cX12_ahead 50 = .ok (.istore 4, 2) := by decide +kernel
theorem dX12_ahead_52 : decode cX12_ahead 52 = .ok (.aload_n 0, 1) := by decide +kernel
theorem dX12_ahead_53 : decode cX12_ahead 53 = .ok (.iload_n 1, 1) := by decide +kernel
theorem dX12_ahead_54 : decode cX12_ahead 54 = .ok (.iload_n 3, 1) := by decide +kernel
theorem dX12_ahead_55 : decode cX12_ahead 55 = .ok (.ifCond .eq 7, 3) := by decide +kernel
theorem dX12_ahead_58 : decode cX12_ahead 58 = .ok (.iconst 3, 1) := by decide +kernel
theorem dX12_ahead_59 : decode cX12_ahead 59 = .ok (.goto 4, 3) := by decide +kernel
theorem dX12_ahead_62 : decode cX12_ahead 62 = .ok (.iconst 0, 1) := by decide +kernel
theorem dX12_ahead_63 : decode cX12_ahead 63 = .ok (.invokevirtual 66, 3) := by decide +kernel
theorem dX12_ahead_66 : decode cX12_ahead 66 = .ok (.istore 5, 2) := by decide +kernel
theorem dX12_ahead_68 : decode cX12_ahead 68 = .ok (.aload_n 0, 1) := by decide +kernel
theorem dX12_ahead_69 : decode cX12_ahead 69 = .ok (.invokevirtual 187, 3) := by decide +kernel
theorem dX12_ahead_72 : decode cX12_ahead 72 = .ok (.iload 5, 2) := by decide +kernel
theorem dX12_ahead_74 : decode cX12_ahead 74 = .ok (.ireturn, 1) := by decide +kernel
theorem dX12_trial_0 : decode cX12_trial 0 = .ok (.aload_n 0, 1) := by decide +kernel
theorem dX12_trial_1 : decode cX12_trial 1 = .ok (.iload_n 1, 1) := by decide +kernel
theorem dX12_trial_2 : decode cX12_trial 2 = .ok (.iconst 0, 1) := by decide +kernel
theorem dX12_trial_3 : decode cX12_trial 3 = .ok (.bipush 60, 2) := by decide +kernel
theorem dX12_trial_5 : decode cX12_trial 5 = .ok (.invokestatic 62, 3) := by decide +kernel
theorem dX12_trial_8 : decode cX12_trial 8 = .ok (.ifCond .ne 7, 3) := by decide +kernel
theorem dX12_trial_11 : decode cX12_trial 11 = .ok (.iconst 1, 1) := by decide +kernel
theorem dX12_trial_12 : decode cX12_trial 12 = .ok (.goto 4, 3) := by decide +kernel
theorem dX12_trial_15 : decode cX12_trial 15 = .ok (.iconst 0, 1) := by decide +kernel
theorem dX12_trial_16 : decode cX12_trial 16 = .ok (.putfield 59, 3) := by decide +kernel
theorem dX12_trial_19 : decode cX12_trial 19 = .ok (.aload_n 0, 1) := by decide +kernel
theorem dX12_trial_20 : decode cX12_trial 20 = .ok (.getfield 59, 3) := by decide +kernel
theorem dX12_trial_23 : decode cX12_trial 23 = .ok (.ifCond .le 5, 3) := by decide +kernel
theorem dX12_trial_26 : decode cX12_trial 26 = .ok (.iconst 0, 1) := by decide +kernel
theorem dX12_trial_27 : decode cX12_trial 27 = .ok (.ireturn, 1) := by decide +kernel
theorem dX12_trial_28 : decode cX12_trial 28 = .ok (.aload_n 0, 1) := by decide +kernel
theorem dX12_trial_29 : decode cX12_trial 29 = .ok (.invokevirtual 177, 3) := by decide +kernel
theorem dX12_trial_32 : decode cX12_trial 32 = .ok (.aload_n 0, 1) := by decide +kernel
theorem dX12_trial_33 : decode cX12_trial 33 = .ok (.iload_n 1, 1) := by decide +kernel
theorem dX12_trial_34 : decode cX12_trial 34 = .ok (.iconst 1, 1) := by decide +kernel
theorem dX12_trial_35 : decode cX12_trial 35 = .ok (.invokevirtual 365, 3) := by decide +kernel
theorem dX12_trial_38 : decode cX12_trial 38 = .ok (.istore_n 3, 1) := by decide +kernel
theorem dX12_trial_39 : decode cX12_trial 39 = .ok (.iload_n 2, 1) := by decide +kernel
theorem dX12_trial_40 : decode cX12_trial 40 = .ok (.ifCond .eq 10, 3) := by decide +kernel
theorem dX12_trial_43 : decode cX12_trial 43 = .ok (.aload_n 0, 1) := by decide +kernel
theorem dX12_trial_44 : decode cX12_trial 44 = .ok (.invokevirtual 371, 3) := by decide +kernel
theorem dX12_trial_47 : decode cX12_trial 47 = .ok (.goto 8, 3) := by decide +kernel
theorem dX12_trial_50 : decode cX12_trial 50 = .ok (.aload_n 0, 1) := by decide +kernel
theorem dX12_trial_51 : decode cX12_trial 51 = .ok (.iconst 2, 1) := by decide +kernel
theorem dX12_trial_52 : decode cX12_trial 52 = .ok (.invokevirtual 250, 3) := by decide +kernel
theorem dX12_trial_55 : decode cX12_trial 55 = .ok (.istore 4, 2) := by decide +kernel
theorem dX12_trial_57 : decode cX12_trial 57 = .ok (.aload_n 0, 1) := by decide +kernel
theorem dX12_trial_58 : decode cX12_trial 58 = .ok (.invokevirtual 187, 3) := by decide +kernel
theorem dX12_trial_61 : decode cX12_trial 61 = .ok (.iload 4, 2) := by decide +kernel
theorem dX12_trial_63 : decode cX12_trial 63 = .ok (.ireturn, 1) := by decide +kernel
theorem dX12_span_0 : decode cX12_span 0 = .ok (.aload_n 0, 1) := by decide +kernel
theorem dX12_span_1 : decode cX12_span 1 = .ok (.iload_n 1, 1) := by decide +kernel
theorem dX12_span_2 : decode cX12_span 2 = .ok (.iconst 0, 1) := by decide +kernel
theorem dX12_span_3 : decode cX12_span 3 = .ok (.bipush 60, 2) := by decide +kernel
theorem dX12_span_5 : decode cX12_span 5 = .ok (.invokestatic 62, 3) := by decide +kernel
theorem dX12_span_8 : decode cX12_span 8 = .ok (.ifCond .ne 7, 3) := by decide +kernel
theorem dX12_span_11 : decode cX12_span 11 = .ok (.iconst 1, 1) := by decide +kernel
theorem dX12_span_12 : decode cX12_span 12 = .ok (.goto 4, 3) := by decide +kernel
theorem dX12_span_15 : decode cX12_span 15 = .ok (.iconst 0, 1) := by decide +kernel
theorem dX12_span_16 : decode cX12_span 16 = .ok (.putfield 59, 3) := by decide +kernel
theorem dX12_span_19 : decode cX12_span 19 = .ok (.aload_n 0, 1) := by decide +kernel
theorem dX12_span_20 : decode cX12_span 20 = .ok (.getfield 59, 3) := by decide +kernel
theorem dX12_span_23 : decode cX12_span 23 = .ok (.ifCond .le 5, 3) := by decide +kernel
theorem dX12_span_26 : decode cX12_span 26 = .ok (.iconst 0, 1) := by decide +kernel
theorem dX12_span_27 : decode cX12_span 27 = .ok (.ireturn, 1) := by decide +kernel
theorem dX12_span_28 : decode cX12_span 28 = .ok (.aload_n 0, 1) := by decide +kernel
theorem dX12_span_29 : decode cX12_span 29 = .ok (.invokevirtual 177, 3) := by decide +kernel
theorem dX12_span_32 : decode cX12_span 32 = .ok (.iconst (-1), 1) := by decide +kernel
theorem dX12_span_33 : decode cX12_span 33 = .ok (.istore_n 3, 1) := by decide +kernel
theorem dX12_span_34 : decode cX12_span 34 = .ok (.iconst 1, 1) := by decide +kernel
theorem dX12_span_35 : decode cX12_span 35 = .ok (.istore 4, 2) := by decide +kernel
theorem dX12_span_37 : decode cX12_span 37 = .ok (.iload 4, 2) := by decide +kernel
theorem dX12_span_39 : decode cX12_span 39 = .ok (.bipush 6, 2) := by decide +kernel
theorem dX12_span_41 : decode cX12_span 41 = .ok (.if_icmp .gt 70, 3) := by decide +kernel
theorem dX12_span_44 : decode cX12_span 44 = .ok (.aload_n 0, 1) := by decide +kernel
theorem dX12_span_45 : decode cX12_span 45 = .ok (.getfield 7, 3) := by decide +kernel
theorem dX12_span_48 : decode cX12_span 48 = .ok (.bipush 8, 2) := by decide +kernel
theorem dX12_span_50 : decode cX12_span 50 = .ok (.iload 4, 2) := by decide +kernel
theorem dX12_span_52 : decode cX12_span 52 = .ok (.iastore, 1) := by decide +kernel
theorem dX12_span_53 : decode cX12_span 53 = .ok (.aload_n 0, 1) := by decide +kernel
theorem dX12_span_54 : decode cX12_span 54 = .ok (.iload_n 1, 1) := by decide +kernel
theorem dX12_span_55 : decode cX12_span 55 = .ok (.iconst 1, 1) := by decide +kernel
theorem dX12_span_56 : decode cX12_span 56 = .ok (.invokevirtual 365, 3) := by decide +kernel
theorem dX12_span_59 : decode cX12_span 59 = .ok (.istore 5, 2) := by decide +kernel
theorem dX12_span_61 : decode cX12_span 61 = .ok (.aload_n 0, 1) := by decide +kernel
theorem dX12_span_62 : decode cX12_span 62 = .ok (.iconst 2, 1) := by decide +kernel
theorem dX12_span_63 : decode cX12_span 63 = .ok (.invokevirtual 250, 3) := by decide +kernel
theorem dX12_span_66 : decode cX12_span 66 = .ok (.invokestatic 247, 3) := by decide +kernel
theorem dX12_span_69 : decode cX12_span 69 = .ok (.istore 6, 2) := by decide +kernel
theorem dX12_span_71 : decode cX12_span 71 = .ok (.aload_n 0, 1) := by decide +kernel
theorem dX12_span_72 : decode cX12_span 72 = .ok (.invokevirtual 187, 3) := by decide +kernel
theorem dX12_span_75 : decode cX12_span 75 = .ok (.iload_n 3, 1) := by decide +kernel
theorem dX12_span_76 : decode cX12_span 76 = .ok (.iconst (-1), 1) := by decide +kernel
theorem dX12_span_77 : decode cX12_span 77 = .ok (.if_icmp .ne 8, 3) := by decide +kernel
theorem dX12_span_80 : decode cX12_span 80 = .ok (.iload 6, 2) := by decide +kernel
theorem dX12_span_82 : decode cX12_span 82 = .ok (.goto 22, 3) := by decide +kernel
theorem dX12_span_85 : decode cX12_span 85 = .ok (.iload_n 2, 1) := by decide +kernel
theorem dX12_span_86 : decode cX12_span 86 = .ok (.ifCond .eq 12, 3) := by decide +kernel
theorem dX12_span_89 : decode cX12_span 89 = .ok (.iload_n 3, 1) := by decide +kernel
theorem dX12_span_90 : decode cX12_span 90 = .ok (.iload 6, 2) := by decide +kernel
theorem dX12_span_92 : decode cX12_span 92 = .ok (.invokestatic 73, 3) := by decide +kernel
theorem dX12_span_95 : decode cX12_span 95 = .ok (.goto 9, 3) := by decide +kernel
theorem dX12_span_98 : decode cX12_span 98 = .ok (.iload_n 3, 1) := by decide +kernel
theorem dX12_span_99 : decode cX12_span 99 = .ok (.iload 6, 2) := by decide +kernel
theorem dX12_span_101 : decode cX12_span 101 = .ok (.invokestatic 70, 3) := by decide +kernel
theorem dX12_span_104 : decode cX12_span 104 = .ok (.istore_n 3, 1) := by decide +kernel
theorem dX12_span_105 : decode cX12_span 105 = .ok (.iinc 4 1, 3) := by decide +kernel
theorem dX12_span_108 : decode cX12_span 108 = .ok (.goto (-71), 3) := by decide +kernel
theorem dX12_span_111 : decode cX12_span 111 = .ok (.iload_n 3, 1) := by decide +kernel
theorem dX12_span_112 : decode cX12_span 112 = .ok (.ireturn, 1) := by decide +kernel
theorem dX12_logged_0 : decode cX12_logged 0 = .ok (.aload_n 0, 1) := by decide +kernel
theorem dX12_logged_1 : decode cX12_logged 1 = .ok (.getfield 7, 3) := by decide +kernel
theorem dX12_logged_4 : decode cX12_logged 4 = .ok (.bipush 97, 2) := by decide +kernel
theorem dX12_logged_6 : decode cX12_logged 6 = .ok (.iconst 4, 1) := by decide +kernel
theorem dX12_logged_7 : decode cX12_logged 7 = .ok (.iload_n 1, 1) := by decide +kernel
theorem dX12_logged_8 : decode cX12_logged 8 = .ok (.imul, 1) := by decide +kernel
theorem dX12_logged_9 : decode cX12_logged 9 = .ok (.iadd, 1) := by decide +kernel
theorem dX12_logged_10 : decode cX12_logged 10 = .ok (.iload_n 2, 1) := by decide +kernel
theorem dX12_logged_11 : decode cX12_logged 11 = .ok (.iadd, 1) := by decide +kernel
theorem dX12_logged_12 : decode cX12_logged 12 = .ok (.iaload, 1) := by decide +kernel
theorem dX12_logged_13 : decode cX12_logged 13 = .ok (.ireturn, 1) := by decide +kernel
theorem dX12_led_0 : decode cX12_led 0 = .ok (.aload_n 0, 1) := by decide +kernel
theorem dX12_led_1 : decode cX12_led 1 = .ok (.aload_n 0, 1) := by decide +kernel
theorem dX12_led_2 : decode cX12_led 2 = .ok (.iload_n 1, 1) := by decide +kernel
theorem dX12_led_3 : decode cX12_led 3 = .ok (.invokevirtual 347, 3) := by decide +kernel
theorem dX12_led_6 : decode cX12_led 6 = .ok (.ifCond .ne 7, 3) := by decide +kernel
theorem dX12_led_9 : decode cX12_led 9 = .ok (.iconst 1, 1) := by decide +kernel
theorem dX12_led_10 : decode cX12_led 10 = .ok (.goto 4, 3) := by decide +kernel
theorem dX12_led_13 : decode cX12_led 13 = .ok (.iconst 0, 1) := by decide +kernel
theorem dX12_led_14 : decode cX12_led 14 = .ok (.putfield 59, 3) := by decide +kernel
theorem dX12_led_17 : decode cX12_led 17 = .ok (.aload_n 0, 1) := by decide +kernel
theorem dX12_led_18 : decode cX12_led 18 = .ok (.getfield 59, 3) := by decide +kernel
theorem dX12_led_21 : decode cX12_led 21 = .ok (.ifCond .le 5, 3) := by decide +kernel
theorem dX12_led_24 : decode cX12_led 24 = .ok (.iconst 0, 1) := by decide +kernel
theorem dX12_led_25 : decode cX12_led 25 = .ok (.ireturn, 1) := by decide +kernel
theorem dX12_led_26 : decode cX12_led 26 = .ok (.iconst 0, 1) := by decide +kernel
theorem dX12_led_27 : decode cX12_led 27 = .ok (.istore_n 3, 1) := by decide +kernel
theorem dX12_led_28 : decode cX12_led 28 = .ok (.iconst (-1), 1) := by decide +kernel
theorem dX12_led_29 : decode cX12_led 29 = .ok (.istore 4, 2) := by decide +kernel
theorem dX12_led_31 : decode cX12_led 31 = .ok (.aload_n 0, 1) := by decide +kernel
theorem dX12_led_32 : decode cX12_led 32 = .ok (.getfield 7, 3) := by decide +kernel
theorem dX12_led_35 : decode cX12_led 35 = .ok (.bipush 7, 2) := by decide +kernel
theorem dX12_led_37 : decode cX12_led 37 = .ok (.iaload, 1) := by decide +kernel
theorem dX12_led_38 : decode cX12_led 38 = .ok (.iconst 1, 1) := by decide +kernel
theorem dX12_led_39 : decode cX12_led 39 = .ok (.isub, 1) := by decide +kernel
theorem dX12_led_40 : decode cX12_led 40 = .ok (.istore 5, 2) := by decide +kernel
theorem dX12_led_42 : decode cX12_led 42 = .ok (.iload 5, 2) := by decide +kernel
theorem dX12_led_44 : decode cX12_led 44 = .ok (.ifCond .lt 35, 3) := by decide +kernel
theorem dX12_led_47 : decode cX12_led 47 = .ok (.aload_n 0, 1) := by decide +kernel
theorem dX12_led_48 : decode cX12_led 48 = .ok (.iload 5, 2) := by decide +kernel
theorem dX12_led_50 : decode cX12_led 50 = .ok (.iconst 1, 1) := by decide +kernel
theorem dX12_led_51 : decode cX12_led 51 = .ok (.invokevirtual 427, 3) := by decide +kernel
theorem dX12_led_54 : decode cX12_led 54 = .ok (.iload_n 1, 1) := by decide +kernel
theorem dX12_led_55 : decode cX12_led 55 = .ok (.if_icmp .eq 6, 3) := by decide +kernel
theorem dX12_led_58 : decode cX12_led 58 = .ok (.goto 15, 3) := by decide +kernel
theorem dX12_led_61 : decode cX12_led 61 = .ok (.iinc 3 1, 3) := by decide +kernel
theorem dX12_led_64 : decode cX12_led 64 = .ok (.aload_n 0, 1) := by decide +kernel
theorem dX12_led_65 : decode cX12_led 65 = .ok (.iload 5, 2) := by decide +kernel
theorem dX12_led_67 : decode cX12_led 67 = .ok (.iconst 0, 1) := by decide +kernel
theorem dX12_led_68 : decode cX12_led 68 = .ok (.invokevirtual 427, 3) := by decide +kernel
theorem dX12_led_71 : decode cX12_led 71 = .ok (.istore 4, 2) := by decide +kernel
theorem dX12_led_73 : decode cX12_led 73 = .ok (.iinc 5 (-1), 3) := by decide +kernel
theorem dX12_led_76 : decode cX12_led 76 = .ok (.goto (-34), 3) := by decide +kernel
theorem dX12_led_79 : decode cX12_led 79 = .ok (.iload_n 2, 1) := by decide +kernel
theorem dX12_led_80 : decode cX12_led 80 = .ok (.ifCond .eq 8, 3) := by decide +kernel
theorem dX12_led_83 : decode cX12_led 83 = .ok (.iload 4, 2) := by decide +kernel
theorem dX12_led_85 : decode cX12_led 85 = .ok (.goto 4, 3) := by decide +kernel
theorem dX12_led_88 : decode cX12_led 88 = .ok (.iload_n 3, 1) := by decide +kernel
theorem dX12_led_89 : decode cX12_led 89 = .ok (.ireturn, 1) := by decide +kernel
theorem dX12_log_0 : decode cX12_log 0 = .ok (.aload_n 0, 1) := by decide +kernel
theorem dX12_log_1 : decode cX12_log 1 = .ok (.iload_n 2, 1) := by decide +kernel
theorem dX12_log_2 : decode cX12_log 2 = .ok (.iconst 0, 1) := by decide +kernel
theorem dX12_log_3 : decode cX12_log 3 = .ok (.iconst 3, 1) := by decide +kernel
theorem dX12_log_4 : decode cX12_log 4 = .ok (.invokestatic 62, 3) := by decide +kernel
theorem dX12_log_7 : decode cX12_log 7 = .ok (.ifCond .ne 7, 3) := by decide +kernel
theorem dX12_log_10 : decode cX12_log 10 = .ok (.iconst 1, 1) := by decide +kernel
theorem dX12_log_11 : decode cX12_log 11 = .ok (.goto 4, 3) := by decide +kernel
theorem dX12_log_14 : decode cX12_log 14 = .ok (.iconst 0, 1) := by decide +kernel
theorem dX12_log_15 : decode cX12_log 15 = .ok (.putfield 59, 3) := by decide +kernel
theorem dX12_log_18 : decode cX12_log 18 = .ok (.aload_n 0, 1) := by decide +kernel
theorem dX12_log_19 : decode cX12_log 19 = .ok (.getfield 59, 3) := by decide +kernel
theorem dX12_log_22 : decode cX12_log 22 = .ok (.ifCond .le 5, 3) := by decide +kernel
theorem dX12_log_25 : decode cX12_log 25 = .ok (.iconst 0, 1) := by decide +kernel
theorem dX12_log_26 : decode cX12_log 26 = .ok (.ireturn, 1) := by decide +kernel
theorem dX12_log_27 : decode cX12_log 27 = .ok (.iload_n 1, 1) := by decide +kernel
theorem dX12_log_28 : decode cX12_log 28 = .ok (.iconst 0, 1) := by decide +kernel
theorem dX12_log_29 : decode cX12_log 29 = .ok (.aload_n 0, 1) := by decide +kernel
theorem dX12_log_30 : decode cX12_log 30 = .ok (.getfield 7, 3) := by decide +kernel
theorem dX12_log_33 : decode cX12_log 33 = .ok (.bipush 7, 2) := by decide +kernel
theorem dX12_log_35 : decode cX12_log 35 = .ok (.iaload, 1) := by decide +kernel
theorem dX12_log_36 : decode cX12_log 36 = .ok (.iconst 1, 1) := by decide +kernel
theorem dX12_log_37 : decode cX12_log 37 = .ok (.isub, 1) := by decide +kernel
theorem dX12_log_38 : decode cX12_log 38 = .ok (.invokestatic 62, 3) := by decide +kernel
theorem dX12_log_41 : decode cX12_log 41 = .ok (.ifCond .eq 12, 3) := by decide +kernel
theorem dX12_log_44 : decode cX12_log 44 = .ok (.aload_n 0, 1) := by decide +kernel
theorem dX12_log_45 : decode cX12_log 45 = .ok (.iload_n 1, 1) := by decide +kernel
theorem dX12_log_46 : decode cX12_log 46 = .ok (.iload_n 2, 1) := by decide +kernel
theorem dX12_log_47 : decode cX12_log 47 = .ok (.invokevirtual 427, 3) := by decide +kernel
theorem dX12_log_50 : decode cX12_log 50 = .ok (.goto 4, 3) := by decide +kernel
theorem dX12_log_53 : decode cX12_log 53 = .ok (.iconst (-1), 1) := by decide +kernel
theorem dX12_log_54 : decode cX12_log 54 = .ok (.ireturn, 1) := by decide +kernel
theorem dX12_seed_0 : decode cX12_seed 0 = .ok (.aload_n 0, 1) := by decide +kernel
theorem dX12_seed_1 : decode cX12_seed 1 = .ok (.iconst 0, 1) := by decide +kernel
theorem dX12_seed_2 : decode cX12_seed 2 = .ok (.putfield 59, 3) := by decide +kernel
theorem dX12_seed_5 : decode cX12_seed 5 = .ok (.aload_n 0, 1) := by decide +kernel
theorem dX12_seed_6 : decode cX12_seed 6 = .ok (.getfield 7, 3) := by decide +kernel
theorem dX12_seed_9 : decode cX12_seed 9 = .ok (.bipush 8, 2) := by decide +kernel
theorem dX12_seed_11 : decode cX12_seed 11 = .ok (.iaload, 1) := by decide +kernel
theorem dX12_seed_12 : decode cX12_seed 12 = .ok (.istore_n 2, 1) := by decide +kernel
theorem dX12_seed_13 : decode cX12_seed 13 = .ok (.aload_n 0, 1) := by decide +kernel
theorem dX12_seed_14 : decode cX12_seed 14 = .ok (.getfield 7, 3) := by decide +kernel
theorem dX12_seed_17 : decode cX12_seed 17 = .ok (.bipush 8, 2) := by decide +kernel
theorem dX12_seed_19 : decode cX12_seed 19 = .ok (.iload_n 1, 1) := by decide +kernel
theorem dX12_seed_20 : decode cX12_seed 20 = .ok (.iastore, 1) := by decide +kernel
theorem dX12_seed_21 : decode cX12_seed 21 = .ok (.iload_n 2, 1) := by decide +kernel
theorem dX12_seed_22 : decode cX12_seed 22 = .ok (.ireturn, 1) := by decide +kernel
theorem dX12_undo_0 : decode cX12_undo 0 = .ok (.aload_n 0, 1) := by decide +kernel
theorem dX12_undo_1 : decode cX12_undo 1 = .ok (.iconst 0, 1) := by decide +kernel
theorem dX12_undo_2 : decode cX12_undo 2 = .ok (.putfield 59, 3) := by decide +kernel
theorem dX12_undo_5 : decode cX12_undo 5 = .ok (.aload_n 0, 1) := by decide +kernel
theorem dX12_undo_6 : decode cX12_undo 6 = .ok (.getfield 190, 3) := by decide +kernel
theorem dX12_undo_9 : decode cX12_undo 9 = .ok (.ifCond .ne 5, 3) := by decide +kernel
theorem dX12_undo_12 : decode cX12_undo 12 = .ok (.iconst 0, 1) := by decide +kernel
theorem dX12_undo_13 : decode cX12_undo 13 = .ok (.ireturn, 1) := by decide +kernel
theorem dX12_undo_14 : decode cX12_undo 14 = .ok (.aload_n 0, 1) := by decide +kernel
theorem dX12_undo_15 : decode cX12_undo 15 = .ok (.dup, 1) := by decide +kernel
theorem dX12_undo_16 : decode cX12_undo 16 = .ok (.getfield 190, 3) := by decide +kernel
theorem dX12_undo_19 : decode cX12_undo 19 = .ok (.iconst 1, 1) := by decide +kernel
theorem dX12_undo_20 : decode cX12_undo 20 = .ok (.isub, 1) := by decide +kernel
theorem dX12_undo_21 : decode cX12_undo 21 = .ok (.putfield 190, 3) := by decide +kernel
theorem dX12_undo_24 : decode cX12_undo 24 = .ok (.iconst 0, 1) := by decide +kernel
theorem dX12_undo_25 : decode cX12_undo 25 = .ok (.istore_n 1, 1) := by decide +kernel
theorem dX12_undo_26 : decode cX12_undo 26 = .ok (.iload_n 1, 1) := by decide +kernel
theorem dX12_undo_27 : decode cX12_undo 27 = .ok (.sipush 337, 3) := by decide +kernel
theorem dX12_undo_30 : decode cX12_undo 30 = .ok (.if_icmp .ge 30, 3) := by decide +kernel
theorem dX12_undo_33 : decode cX12_undo 33 = .ok (.aload_n 0, 1) := by decide +kernel
theorem dX12_undo_34 : decode cX12_undo 34 = .ok (.getfield 7, 3) := by decide +kernel
theorem dX12_undo_37 : decode cX12_undo 37 = .ok (.iload_n 1, 1) := by decide +kernel
theorem dX12_undo_38 : decode cX12_undo 38 = .ok (.aload_n 0, 1) := by decide +kernel
theorem dX12_undo_39 : decode cX12_undo 39 = .ok (.getfield 19, 3) := by decide +kernel
theorem dX12_undo_42 : decode cX12_undo 42 = .ok (.sipush 337, 3) := by decide +kernel
theorem dX12_undo_45 : decode cX12_undo 45 = .ok (.aload_n 0, 1) := by decide +kernel
theorem dX12_undo_46 : decode cX12_undo 46 = .ok (.getfield 190, 3) := by decide +kernel
theorem dX12_undo_49 : decode cX12_undo 49 = .ok (.imul, 1) := by decide +kernel
theorem dX12_undo_50 : decode cX12_undo 50 = .ok (.iload_n 1, 1) := by decide +kernel
theorem dX12_undo_51 : decode cX12_undo 51 = .ok (.iadd, 1) := by decide +kernel
theorem dX12_undo_52 : decode cX12_undo 52 = .ok (.iaload, 1) := by decide +kernel
theorem dX12_undo_53 : decode cX12_undo 53 = .ok (.iastore, 1) := by decide +kernel
theorem dX12_undo_54 : decode cX12_undo 54 = .ok (.iinc 1 1, 3) := by decide +kernel
theorem dX12_undo_57 : decode cX12_undo 57 = .ok (.goto (-31), 3) := by decide +kernel
theorem dX12_undo_60 : decode cX12_undo 60 = .ok (.iconst 1, 1) := by decide +kernel
theorem dX12_undo_61 : decode cX12_undo 61 = .ok (.ireturn, 1) := by decide +kernel
theorem dX12_image_0 : decode cX12_image 0 = .ok (.aload_n 0, 1) := by decide +kernel
theorem dX12_image_1 : decode cX12_image 1 = .ok (.iconst 0, 1) := by decide +kernel
theorem dX12_image_2 : decode cX12_image 2 = .ok (.putfield 59, 3) := by decide +kernel
theorem dX12_image_5 : decode cX12_image 5 = .ok (.iconst 0, 1) := by decide +kernel
theorem dX12_image_6 : decode cX12_image 6 = .ok (.istore_n 1, 1) := by decide +kernel
theorem dX12_image_7 : decode cX12_image 7 = .ok (.iload_n 1, 1) := by decide +kernel
theorem dX12_image_8 : decode cX12_image 8 = .ok (.sipush 737, 3) := by decide +kernel
theorem dX12_image_11 : decode cX12_image 11 = .ok (.if_icmp .ge 21, 3) := by decide +kernel
theorem dX12_image_14 : decode cX12_image 14 = .ok (.aload_n 0, 1) := by decide +kernel
theorem dX12_image_15 : decode cX12_image 15 = .ok (.getfield 13, 3) := by decide +kernel
theorem dX12_image_18 : decode cX12_image 18 = .ok (.iload_n 1, 1) := by decide +kernel
theorem dX12_image_19 : decode cX12_image 19 = .ok (.aload_n 0, 1) := by decide +kernel
theorem dX12_image_20 : decode cX12_image 20 = .ok (.getfield 7, 3) := by decide +kernel
theorem dX12_image_23 : decode cX12_image 23 = .ok (.iload_n 1, 1) := by decide +kernel
theorem dX12_image_24 : decode cX12_image 24 = .ok (.iaload, 1) := by decide +kernel
theorem dX12_image_25 : decode cX12_image 25 = .ok (.iastore, 1) := by decide +kernel
theorem dX12_image_26 : decode cX12_image 26 = .ok (.iinc 1 1, 3) := by decide +kernel
theorem dX12_image_29 : decode cX12_image 29 = .ok (.goto (-22), 3) := by decide +kernel
theorem dX12_image_32 : decode cX12_image 32 = .ok (.aload_n 0, 1) := by decide +kernel
theorem dX12_image_33 : decode cX12_image 33 = .ok (.iconst 1, 1) := by decide +kernel
theorem dX12_image_34 : decode cX12_image 34 = .ok (.putfield 430, 3) := by decide +kernel
theorem dX12_image_37 : decode cX12_image 37 = .ok (.return_, 1) := by decide +kernel
theorem dX12_back_0 : decode cX12_back 0 = .ok (.aload_n 0, 1) := by decide +kernel
theorem dX12_back_1 : decode cX12_back 1 = .ok (.iconst 0, 1) := by decide +kernel
theorem dX12_back_2 : decode cX12_back 2 = .ok (.putfield 59, 3) := by decide +kernel
theorem dX12_back_5 : decode cX12_back 5 = .ok (.aload_n 0, 1) := by decide +kernel
theorem dX12_back_6 : decode cX12_back 6 = .ok (.getfield 430, 3) := by decide +kernel
theorem dX12_back_9 : decode cX12_back 9 = .ok (.ifCond .ne 5, 3) := by decide +kernel
theorem dX12_back_12 : decode cX12_back 12 = .ok (.iconst 0, 1) := by decide +kernel
theorem dX12_back_13 : decode cX12_back 13 = .ok (.ireturn, 1) := by decide +kernel
theorem dX12_back_14 : decode cX12_back 14 = .ok (.iconst 0, 1) := by decide +kernel
theorem dX12_back_15 : decode cX12_back 15 = .ok (.istore_n 1, 1) := by decide +kernel
theorem dX12_back_16 : decode cX12_back 16 = .ok (.iload_n 1, 1) := by decide +kernel
theorem dX12_back_17 : decode cX12_back 17 = .ok (.sipush 737, 3) := by decide +kernel
theorem dX12_back_20 : decode cX12_back 20 = .ok (.if_icmp .ge 21, 3) := by decide +kernel
theorem dX12_back_23 : decode cX12_back 23 = .ok (.aload_n 0, 1) := by decide +kernel
theorem dX12_back_24 : decode cX12_back 24 = .ok (.getfield 7, 3) := by decide +kernel
theorem dX12_back_27 : decode cX12_back 27 = .ok (.iload_n 1, 1) := by decide +kernel
theorem dX12_back_28 : decode cX12_back 28 = .ok (.aload_n 0, 1) := by decide +kernel
theorem dX12_back_29 : decode cX12_back 29 = .ok (.getfield 13, 3) := by decide +kernel
theorem dX12_back_32 : decode cX12_back 32 = .ok (.iload_n 1, 1) := by decide +kernel
theorem dX12_back_33 : decode cX12_back 33 = .ok (.iaload, 1) := by decide +kernel
theorem dX12_back_34 : decode cX12_back 34 = .ok (.iastore, 1) := by decide +kernel
theorem dX12_back_35 : decode cX12_back 35 = .ok (.iinc 1 1, 3) := by decide +kernel
theorem dX12_back_38 : decode cX12_back 38 = .ok (.goto (-22), 3) := by decide +kernel
theorem dX12_back_41 : decode cX12_back 41 = .ok (.aload_n 0, 1) := by decide +kernel
theorem dX12_back_42 : decode cX12_back 42 = .ok (.iconst 0, 1) := by decide +kernel
theorem dX12_back_43 : decode cX12_back 43 = .ok (.putfield 190, 3) := by decide +kernel
theorem dX12_back_46 : decode cX12_back 46 = .ok (.iconst 1, 1) := by decide +kernel
theorem dX12_back_47 : decode cX12_back 47 = .ok (.ireturn, 1) := by decide +kernel
theorem dX12_count_0 : decode cX12_count 0 = .ok (.aload_n 0, 1) := by decide +kernel
theorem dX12_count_1 : decode cX12_count 1 = .ok (.iconst 0, 1) := by decide +kernel
theorem dX12_count_2 : decode cX12_count 2 = .ok (.putfield 59, 3) := by decide +kernel
theorem dX12_count_5 : decode cX12_count 5 = .ok (.iload_n 1, 1) := by decide +kernel
theorem dX12_count_6 : decode cX12_count 6 = .ok (.ifCond .ne 10, 3) := by decide +kernel
theorem dX12_count_9 : decode cX12_count 9 = .ok (.aload_n 0, 1) := by decide +kernel
theorem dX12_count_10 : decode cX12_count 10 = .ok (.getfield 7, 3) := by decide +kernel
theorem dX12_count_13 : decode cX12_count 13 = .ok (.iconst 3, 1) := by decide +kernel
theorem dX12_count_14 : decode cX12_count 14 = .ok (.iaload, 1) := by decide +kernel
theorem dX12_count_15 : decode cX12_count 15 = .ok (.ireturn, 1) := by decide +kernel
theorem dX12_count_16 : decode cX12_count 16 = .ok (.iload_n 1, 1) := by decide +kernel
theorem dX12_count_17 : decode cX12_count 17 = .ok (.iconst 1, 1) := by decide +kernel
theorem dX12_count_18 : decode cX12_count 18 = .ok (.if_icmp .ne 10, 3) := by decide +kernel
theorem dX12_count_21 : decode cX12_count 21 = .ok (.aload_n 0, 1) := by decide +kernel
theorem dX12_count_22 : decode cX12_count 22 = .ok (.getfield 7, 3) := by decide +kernel
theorem dX12_count_25 : decode cX12_count 25 = .ok (.iconst 0, 1) := by decide +kernel
theorem dX12_count_26 : decode cX12_count 26 = .ok (.iaload, 1) := by decide +kernel
theorem dX12_count_27 : decode cX12_count 27 = .ok (.ireturn, 1) := by decide +kernel
theorem dX12_count_28 : decode cX12_count 28 = .ok (.iload_n 1, 1) := by decide +kernel
theorem dX12_count_29 : decode cX12_count 29 = .ok (.iconst 2, 1) := by decide +kernel
theorem dX12_count_30 : decode cX12_count 30 = .ok (.if_icmp .ne 10, 3) := by decide +kernel
theorem dX12_count_33 : decode cX12_count 33 = .ok (.aload_n 0, 1) := by decide +kernel
theorem dX12_count_34 : decode cX12_count 34 = .ok (.getfield 7, 3) := by decide +kernel
theorem dX12_count_37 : decode cX12_count 37 = .ok (.iconst 1, 1) := by decide +kernel
theorem dX12_count_38 : decode cX12_count 38 = .ok (.iaload, 1) := by decide +kernel
theorem dX12_count_39 : decode cX12_count 39 = .ok (.ireturn, 1) := by decide +kernel
theorem dX12_count_40 : decode cX12_count 40 = .ok (.iload_n 1, 1) := by decide +kernel
theorem dX12_count_41 : decode cX12_count 41 = .ok (.iconst 3, 1) := by decide +kernel
theorem dX12_count_42 : decode cX12_count 42 = .ok (.iconst 5, 1) := by decide +kernel
theorem dX12_count_43 : decode cX12_count 43 = .ok (.invokestatic 62, 3) := by decide +kernel
theorem dX12_count_46 : decode cX12_count 46 = .ok (.ifCond .eq 14, 3) := by decide +kernel
theorem dX12_count_49 : decode cX12_count 49 = .ok (.aload_n 0, 1) := by decide +kernel
theorem dX12_count_50 : decode cX12_count 50 = .ok (.getfield 7, 3) := by decide +kernel
theorem dX12_count_53 : decode cX12_count 53 = .ok (.iconst 4, 1) := by decide +kernel
theorem dX12_count_54 : decode cX12_count 54 = .ok (.iload_n 1, 1) := by decide +kernel
theorem dX12_count_55 : decode cX12_count 55 = .ok (.iadd, 1) := by decide +kernel
theorem dX12_count_56 : decode cX12_count 56 = .ok (.iconst 3, 1) := by decide +kernel
theorem dX12_count_57 : decode cX12_count 57 = .ok (.isub, 1) := by decide +kernel
theorem dX12_count_58 : decode cX12_count 58 = .ok (.iaload, 1) := by decide +kernel
theorem dX12_count_59 : decode cX12_count 59 = .ok (.ireturn, 1) := by decide +kernel
theorem dX12_count_60 : decode cX12_count 60 = .ok (.iload_n 1, 1) := by decide +kernel
theorem dX12_count_61 : decode cX12_count 61 = .ok (.bipush 6, 2) := by decide +kernel
theorem dX12_count_63 : decode cX12_count 63 = .ok (.if_icmp .ne 12, 3) := by decide +kernel
theorem dX12_count_66 : decode cX12_count 66 = .ok (.aload_n 0, 1) := by decide +kernel
theorem dX12_count_67 : decode cX12_count 67 = .ok (.iconst 2, 1) := by decide +kernel
theorem dX12_count_68 : decode cX12_count 68 = .ok (.invokevirtual 250, 3) := by decide +kernel
theorem dX12_count_71 : decode cX12_count 71 = .ok (.invokestatic 247, 3) := by decide +kernel
theorem dX12_count_74 : decode cX12_count 74 = .ok (.ireturn, 1) := by decide +kernel
theorem dX12_count_75 : decode cX12_count 75 = .ok (.iload_n 1, 1) := by decide +kernel
theorem dX12_count_76 : decode cX12_count 76 = .ok (.bipush 7, 2) := by decide +kernel
theorem dX12_count_78 : decode cX12_count 78 = .ok (.if_icmp .ne 11, 3) := by decide +kernel
theorem dX12_count_81 : decode cX12_count 81 = .ok (.aload_n 0, 1) := by decide +kernel
theorem dX12_count_82 : decode cX12_count 82 = .ok (.getfield 7, 3) := by decide +kernel
theorem dX12_count_85 : decode cX12_count 85 = .ok (.bipush 7, 2) := by decide +kernel
theorem dX12_count_87 : decode cX12_count 87 = .ok (.iaload, 1) := by decide +kernel
theorem dX12_count_88 : decode cX12_count 88 = .ok (.ireturn, 1) := by decide +kernel
theorem dX12_count_89 : decode cX12_count 89 = .ok (.iload_n 1, 1) := by decide +kernel
theorem dX12_count_90 : decode cX12_count 90 = .ok (.bipush 8, 2) := by decide +kernel
theorem dX12_count_92 : decode cX12_count 92 = .ok (.if_icmp .ne 10, 3) := by decide +kernel
theorem dX12_count_95 : decode cX12_count 95 = .ok (.aload_n 0, 1) := by decide +kernel
theorem dX12_count_96 : decode cX12_count 96 = .ok (.getfield 190, 3) := by decide +kernel
theorem dX12_count_99 : decode cX12_count 99 = .ok (.goto 4, 3) := by decide +kernel
theorem dX12_count_102 : decode cX12_count 102 = .ok (.iconst (-1), 1) := by decide +kernel
theorem dX12_count_103 : decode cX12_count 103 = .ok (.ireturn, 1) := by decide +kernel
theorem dJ6_bitCount_0f7a4_0 : decode cJ6_bitCount_0f7a4 0 = .ok (.iload_n 0, 1) := by decide +kernel
theorem dJ6_bitCount_0f7a4_1 : decode cJ6_bitCount_0f7a4 1 = .ok (.iload_n 0, 1) := by decide +kernel
theorem dJ6_bitCount_0f7a4_2 : decode cJ6_bitCount_0f7a4 2 = .ok (.iconst 1, 1) := by decide +kernel
theorem dJ6_bitCount_0f7a4_3 : decode cJ6_bitCount_0f7a4 3 = .ok (.iushr, 1) := by decide +kernel
theorem dJ6_bitCount_0f7a4_4 : decode cJ6_bitCount_0f7a4 4 = .ok (.ldc_w 265, 3) := by decide +kernel
theorem dJ6_bitCount_0f7a4_7 : decode cJ6_bitCount_0f7a4 7 = .ok (.iand, 1) := by decide +kernel
theorem dJ6_bitCount_0f7a4_8 : decode cJ6_bitCount_0f7a4 8 = .ok (.isub, 1) := by decide +kernel
theorem dJ6_bitCount_0f7a4_9 : decode cJ6_bitCount_0f7a4 9 = .ok (.istore_n 0, 1) := by decide +kernel
theorem dJ6_bitCount_0f7a4_10 : decode cJ6_bitCount_0f7a4 10 = .ok (.iload_n 0, 1) := by decide +kernel
theorem dJ6_bitCount_0f7a4_11 : decode cJ6_bitCount_0f7a4 11 = .ok (.ldc_w 266, 3) := by decide +kernel
theorem dJ6_bitCount_0f7a4_14 : decode cJ6_bitCount_0f7a4 14 = .ok (.iand, 1) := by decide +kernel
theorem dJ6_bitCount_0f7a4_15 : decode cJ6_bitCount_0f7a4 15 = .ok (.iload_n 0, 1) := by decide +kernel
theorem dJ6_bitCount_0f7a4_16 : decode cJ6_bitCount_0f7a4 16 = .ok (.iconst 2, 1) := by decide +kernel
theorem dJ6_bitCount_0f7a4_17 : decode cJ6_bitCount_0f7a4 17 = .ok (.iushr, 1) := by decide +kernel
theorem dJ6_bitCount_0f7a4_18 : decode cJ6_bitCount_0f7a4 18 = .ok (.ldc_w 266, 3) := by decide +kernel
theorem dJ6_bitCount_0f7a4_21 : decode cJ6_bitCount_0f7a4 21 = .ok (.iand, 1) := by decide +kernel
theorem dJ6_bitCount_0f7a4_22 : decode cJ6_bitCount_0f7a4 22 = .ok (.iadd, 1) := by decide +kernel
theorem dJ6_bitCount_0f7a4_23 : decode cJ6_bitCount_0f7a4 23 = .ok (.istore_n 0, 1) := by decide +kernel
theorem dJ6_bitCount_0f7a4_24 : decode cJ6_bitCount_0f7a4 24 = .ok (.iload_n 0, 1) := by decide +kernel
theorem dJ6_bitCount_0f7a4_25 : decode cJ6_bitCount_0f7a4 25 = .ok (.iload_n 0, 1) := by decide +kernel
theorem dJ6_bitCount_0f7a4_26 : decode cJ6_bitCount_0f7a4 26 = .ok (.iconst 4, 1) := by decide +kernel
theorem dJ6_bitCount_0f7a4_27 : decode cJ6_bitCount_0f7a4 27 = .ok (.iushr, 1) := by decide +kernel
theorem dJ6_bitCount_0f7a4_28 : decode cJ6_bitCount_0f7a4 28 = .ok (.iadd, 1) := by decide +kernel
theorem dJ6_bitCount_0f7a4_29 : decode cJ6_bitCount_0f7a4 29 = .ok (.ldc_w 267, 3) := by decide +kernel
theorem dJ6_bitCount_0f7a4_32 : decode cJ6_bitCount_0f7a4 32 = .ok (.iand, 1) := by decide +kernel
theorem dJ6_bitCount_0f7a4_33 : decode cJ6_bitCount_0f7a4 33 = .ok (.istore_n 0, 1) := by decide +kernel
theorem dJ6_bitCount_0f7a4_34 : decode cJ6_bitCount_0f7a4 34 = .ok (.iload_n 0, 1) := by decide +kernel
theorem dJ6_bitCount_0f7a4_35 : decode cJ6_bitCount_0f7a4 35 = .ok (.iload_n 0, 1) := by decide +kernel
theorem dJ6_bitCount_0f7a4_36 : decode cJ6_bitCount_0f7a4 36 = .ok (.bipush 8, 2) := by decide +kernel
theorem dJ6_bitCount_0f7a4_38 : decode cJ6_bitCount_0f7a4 38 = .ok (.iushr, 1) := by decide +kernel
theorem dJ6_bitCount_0f7a4_39 : decode cJ6_bitCount_0f7a4 39 = .ok (.iadd, 1) := by decide +kernel
theorem dJ6_bitCount_0f7a4_40 : decode cJ6_bitCount_0f7a4 40 = .ok (.istore_n 0, 1) := by decide +kernel
theorem dJ6_bitCount_0f7a4_41 : decode cJ6_bitCount_0f7a4 41 = .ok (.iload_n 0, 1) := by decide +kernel
theorem dJ6_bitCount_0f7a4_42 : decode cJ6_bitCount_0f7a4 42 = .ok (.iload_n 0, 1) := by decide +kernel
theorem dJ6_bitCount_0f7a4_43 : decode cJ6_bitCount_0f7a4 43 = .ok (.bipush 16, 2) := by decide +kernel
theorem dJ6_bitCount_0f7a4_45 : decode cJ6_bitCount_0f7a4 45 = .ok (.iushr, 1) := by decide +kernel
theorem dJ6_bitCount_0f7a4_46 : decode cJ6_bitCount_0f7a4 46 = .ok (.iadd, 1) := by decide +kernel
theorem dJ6_bitCount_0f7a4_47 : decode cJ6_bitCount_0f7a4 47 = .ok (.istore_n 0, 1) := by decide +kernel
theorem dJ6_bitCount_0f7a4_48 : decode cJ6_bitCount_0f7a4 48 = .ok (.iload_n 0, 1) := by decide +kernel
theorem dJ6_bitCount_0f7a4_49 : decode cJ6_bitCount_0f7a4 49 = .ok (.bipush 63, 2) := by decide +kernel
theorem dJ6_bitCount_0f7a4_51 : decode cJ6_bitCount_0f7a4 51 = .ok (.iand, 1) := by decide +kernel
theorem dJ6_bitCount_0f7a4_52 : decode cJ6_bitCount_0f7a4 52 = .ok (.ireturn, 1) := by decide +kernel
theorem dJ0_length_8abf5_0 : decode cJ0_length_8abf5 0 = .ok (.aload_n 0, 1) := by decide +kernel
theorem dJ0_length_8abf5_1 : decode cJ0_length_8abf5 1 = .ok (.getfield 9, 3) := by decide +kernel
theorem dJ0_length_8abf5_4 : decode cJ0_length_8abf5 4 = .ok (.arraylength, 1) := by decide +kernel
theorem dJ0_length_8abf5_5 : decode cJ0_length_8abf5 5 = .ok (.aload_n 0, 1) := by decide +kernel
theorem dJ0_length_8abf5_6 : decode cJ0_length_8abf5 6 = .ok (.invokevirtual 335, 3) := by decide +kernel
theorem dJ0_length_8abf5_9 : decode cJ0_length_8abf5 9 = .ok (.ishr, 1) := by decide +kernel
theorem dJ0_length_8abf5_10 : decode cJ0_length_8abf5 10 = .ok (.ireturn, 1) := by decide +kernel
theorem dJ0_charAt_5068e_0 : decode cJ0_charAt_5068e 0 = .ok (.aload_n 0, 1) := by decide +kernel
theorem dJ0_charAt_5068e_1 : decode cJ0_charAt_5068e 1 = .ok (.invokevirtual 492, 3) := by decide +kernel
theorem dJ0_charAt_5068e_4 : decode cJ0_charAt_5068e 4 = .ok (.ifCond .eq 12, 3) := by decide +kernel
theorem dJ0_charAt_5068e_7 : decode cJ0_charAt_5068e 7 = .ok (.aload_n 0, 1) := by decide +kernel
theorem dJ0_charAt_5068e_8 : decode cJ0_charAt_5068e 8 = .ok (.getfield 9, 3) := by decide +kernel
theorem dJ0_charAt_5068e_11 : decode cJ0_charAt_5068e 11 = .ok (.iload_n 1, 1) := by decide +kernel
theorem dJ0_charAt_5068e_12 : decode cJ0_charAt_5068e 12 = .ok (.invokestatic 495, 3) := by decide +kernel
theorem dJ0_charAt_5068e_15 : decode cJ0_charAt_5068e 15 = .ok (.ireturn, 1) := by decide +kernel
theorem dJ0_charAt_5068e_16 : decode cJ0_charAt_5068e 16 = .ok (.aload_n 0, 1) := by decide +kernel
theorem dJ0_charAt_5068e_17 : decode cJ0_charAt_5068e 17 = .ok (.getfield 9, 3) := by decide +kernel
theorem dJ0_charAt_5068e_20 : decode cJ0_charAt_5068e 20 = .ok (.iload_n 1, 1) := by decide +kernel
theorem dJ0_charAt_5068e_21 : decode cJ0_charAt_5068e 21 = .ok (.invokestatic 498, 3) := by decide +kernel
theorem dJ0_charAt_5068e_24 : decode cJ0_charAt_5068e 24 = .ok (.ireturn, 1) := by decide +kernel
theorem dJ0_coder_7d493_0 : decode cJ0_coder_7d493 0 = .ok (.getstatic 38, 3) := by decide +kernel
theorem dJ0_coder_7d493_3 : decode cJ0_coder_7d493 3 = .ok (.ifCond .eq 10, 3) := by decide +kernel
theorem dJ0_coder_7d493_6 : decode cJ0_coder_7d493 6 = .ok (.aload_n 0, 1) := by decide +kernel
theorem dJ0_coder_7d493_7 : decode cJ0_coder_7d493 7 = .ok (.getfield 15, 3) := by decide +kernel
theorem dJ0_coder_7d493_10 : decode cJ0_coder_7d493 10 = .ok (.goto 4, 3) := by decide +kernel
theorem dJ0_coder_7d493_13 : decode cJ0_coder_7d493 13 = .ok (.iconst 1, 1) := by decide +kernel
theorem dJ0_coder_7d493_14 : decode cJ0_coder_7d493 14 = .ok (.ireturn, 1) := by decide +kernel
theorem dJ0_isLatin1_aae02_0 : decode cJ0_isLatin1_aae02 0 = .ok (.getstatic 38, 3) := by decide +kernel
theorem dJ0_isLatin1_aae02_3 : decode cJ0_isLatin1_aae02 3 = .ok (.ifCond .eq 14, 3) := by decide +kernel
theorem dJ0_isLatin1_aae02_6 : decode cJ0_isLatin1_aae02 6 = .ok (.aload_n 0, 1) := by decide +kernel
theorem dJ0_isLatin1_aae02_7 : decode cJ0_isLatin1_aae02 7 = .ok (.getfield 15, 3) := by decide +kernel
theorem dJ0_isLatin1_aae02_10 : decode cJ0_isLatin1_aae02 10 = .ok (.ifCond .ne 7, 3) := by decide +kernel
theorem dJ0_isLatin1_aae02_13 : decode cJ0_isLatin1_aae02 13 = .ok (.iconst 1, 1) := by decide +kernel
theorem dJ0_isLatin1_aae02_14 : decode cJ0_isLatin1_aae02 14 = .ok (.goto 4, 3) := by decide +kernel
theorem dJ0_isLatin1_aae02_17 : decode cJ0_isLatin1_aae02 17 = .ok (.iconst 0, 1) := by decide +kernel
theorem dJ0_isLatin1_aae02_18 : decode cJ0_isLatin1_aae02 18 = .ok (.ireturn, 1) := by decide +kernel
theorem dJ0_checkIndex_df160_0 : decode cJ0_checkIndex_df160 0 = .ok (.iload_n 0, 1) := by decide +kernel
theorem dJ0_checkIndex_df160_1 : decode cJ0_checkIndex_df160 1 = .ok (.iload_n 1, 1) := by decide +kernel
theorem dJ0_checkIndex_df160_2 : decode cJ0_checkIndex_df160 2 = .ok (.getstatic 1053, 3) := by decide +kernel
theorem dJ0_checkIndex_df160_5 : decode cJ0_checkIndex_df160 5 = .ok (.invokestatic 1059, 3) := by decide +kernel
theorem dJ0_checkIndex_df160_8 : decode cJ0_checkIndex_df160 8 = .ok (.pop, 1) := by decide +kernel
theorem dJ0_checkIndex_df160_9 : decode cJ0_checkIndex_df160 9 = .ok (.return_, 1) := by decide +kernel
theorem dJ1_charAt_3b067_0 : decode cJ1_charAt_3b067 0 = .ok (.iload_n 1, 1) := by decide +kernel
theorem dJ1_charAt_3b067_1 : decode cJ1_charAt_3b067 1 = .ok (.aload_n 0, 1) := by decide +kernel
theorem dJ1_charAt_3b067_2 : decode cJ1_charAt_3b067 2 = .ok (.arraylength, 1) := by decide +kernel
theorem dJ1_charAt_3b067_3 : decode cJ1_charAt_3b067 3 = .ok (.invokestatic 9, 3) := by decide +kernel
theorem dJ1_charAt_3b067_6 : decode cJ1_charAt_3b067 6 = .ok (.aload_n 0, 1) := by decide +kernel
theorem dJ1_charAt_3b067_7 : decode cJ1_charAt_3b067 7 = .ok (.iload_n 1, 1) := by decide +kernel
theorem dJ1_charAt_3b067_8 : decode cJ1_charAt_3b067 8 = .ok (.baload, 1) := by decide +kernel
theorem dJ1_charAt_3b067_9 : decode cJ1_charAt_3b067 9 = .ok (.sipush 255, 3) := by decide +kernel
theorem dJ1_charAt_3b067_12 : decode cJ1_charAt_3b067 12 = .ok (.iand, 1) := by decide +kernel
theorem dJ1_charAt_3b067_13 : decode cJ1_charAt_3b067 13 = .ok (.i2c, 1) := by decide +kernel
theorem dJ1_charAt_3b067_14 : decode cJ1_charAt_3b067 14 = .ok (.ireturn, 1) := by decide +kernel
theorem dJ3_checkIndex_8e157_0 : decode cJ3_checkIndex_8e157 0 = .ok (.iload_n 0, 1) := by decide +kernel
theorem dJ3_checkIndex_8e157_1 : decode cJ3_checkIndex_8e157 1 = .ok (.ifCond .lt 8, 3) := by decide +kernel
theorem dJ3_checkIndex_8e157_4 : decode cJ3_checkIndex_8e157 4 = .ok (.iload_n 0, 1) := by decide +kernel
theorem dJ3_checkIndex_8e157_5 : decode cJ3_checkIndex_8e157 5 = .ok (.iload_n 1, 1) := by decide +kernel
theorem dJ3_checkIndex_8e157_6 : decode cJ3_checkIndex_8e157 6 = .ok (.if_icmp .lt 10, 3) := by decide +kernel
theorem dJ3_checkIndex_8e157_9 : decode cJ3_checkIndex_8e157 9 = .ok (.aload_n 2, 1) := by decide +kernel
theorem dJ3_checkIndex_8e157_10 : decode cJ3_checkIndex_8e157 10 = .ok (.iload_n 0, 1) := by decide +kernel
theorem dJ3_checkIndex_8e157_11 : decode cJ3_checkIndex_8e157 11 = .ok (.iload_n 1, 1) := by decide +kernel
theorem dJ3_checkIndex_8e157_12 : decode cJ3_checkIndex_8e157 12 = .ok (.invokestatic 95, 3) := by decide +kernel
theorem dJ3_checkIndex_8e157_15 : decode cJ3_checkIndex_8e157 15 = .ok (.athrow, 1) := by decide +kernel
theorem dJ3_checkIndex_8e157_16 : decode cJ3_checkIndex_8e157 16 = .ok (.iload_n 0, 1) := by decide +kernel
theorem dJ3_checkIndex_8e157_17 : decode cJ3_checkIndex_8e157 17 = .ok (.ireturn, 1) := by decide +kernel
