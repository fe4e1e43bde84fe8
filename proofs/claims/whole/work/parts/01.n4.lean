theorem dX11_node_241 : decode cX11_node 241 = .ok (.iload_n 1, 1) := by decide +kernel
theorem dX11_node_242 : decode cX11_node 242 = .ok (.invokevirtual 202, 3) := by decide +kernel
theorem dX11_node_245 : decode cX11_node 245 = .ok (.ireturn, 1) := by decide +kernel
set_option maxRecDepth 20000 in
theorem ggX11_shift_X11_isNode : GoodIn wsX11_shift wsX11_isNode := goodIn_r _ [13, 7, 14, 95, 96, 97, 98, 99, 100, 101, 102, 103, 104, 105, 106, 107, 108, 109, 110, 120, 121, 122, 123, 124, 125, 126, 127, 128, 129, 130] (by decide +kernel) (by decide +kernel)
set_option maxRecDepth 20000 in
theorem gX11_shift_X11_isNode : GoodIn wsX11_shift (wsV RX11 148 RX11 yX11_isNode wsX11_isNode) := goodIn_app (goodIn_of _ (by decide +kernel)) ggX11_shift_X11_isNode
set_option maxRecDepth 20000 in
theorem ggX11_shift_X10_look : GoodIn wsX11_shift wsX10_look := goodIn_r _ [19, 20, 21, 22, 23, 24, 25, 26, 27, 28, 29, 30, 31, 32, 33, 34, 35, 36, 37, 38, 39, 40, 41, 42, 43, 44, 45, 46, 47, 48, 49, 50, 51, 12, 52, 53, 54, 55, 56, 57, 58, 59, 60, 61, 62, 63, 64, 65, 66, 67, 68, 69, 70, 71, 72, 73, 74, 75, 76, 77, 78, 79, 80, 81, 82, 83, 84, 85, 86, 87, 88, 89, 90, 91, 92, 93, 94, 113, 114, 115, 116, 117, 118, 119, 120, 121, 122, 123, 124, 125, 126, 127, 128, 129, 130, 131, 132, 133, 134, 135, 136, 137, 138, 139, 140, 141, 142, 143, 144, 145, 146, 147] (by decide +kernel) (by decide +kernel)
set_option maxRecDepth 20000 in
theorem gX11_shift_X10_look : GoodIn wsX11_shift (wsV RX11 172 RX10 yX10_look wsX10_look) := goodIn_app (goodIn_of _ (by decide +kernel)) ggX11_shift_X10_look
theorem dX11_shift_0 : decode cX11_shift 0 = .ok (.aload_n 0, 1) := by decide +kernel
theorem dX11_shift_1 : decode cX11_shift 1 = .ok (.iload_n 1, 1) := by decide +kernel
theorem dX11_shift_2 : decode cX11_shift 2 = .ok (.invokevirtual 148, 3) := by decide +kernel
theorem dX11_shift_5 : decode cX11_shift 5 = .ok (.ifCond .eq 11, 3) := by decide +kernel
theorem dX11_shift_8 : decode cX11_shift 8 = .ok (.aload_n 0, 1) := by decide +kernel
theorem dX11_shift_9 : decode cX11_shift 9 = .ok (.iload_n 2, 1) := by decide +kernel
theorem dX11_shift_10 : decode cX11_shift 10 = .ok (.invokevirtual 148, 3) := by decide +kernel
theorem dX11_shift_13 : decode cX11_shift 13 = .ok (.ifCond .ne 11, 3) := by decide +kernel
theorem dX11_shift_16 : decode cX11_shift 16 = .ok (.new 152, 3) := by decide +kernel
theorem dX11_shift_19 : decode cX11_shift 19 = .ok (.dup, 1) := by decide +kernel
theorem dX11_shift_20 : decode cX11_shift 20 = .ok (.invokespecial 154, 3) := by decide +kernel
theorem dX11_shift_23 : decode cX11_shift 23 = .ok (.athrow, 1) := by decide +kernel
theorem dX11_shift_24 : decode cX11_shift 24 = .ok (.iload_n 1, 1) := by decide +kernel
theorem dX11_shift_25 : decode cX11_shift 25 = .ok (.iload_n 2, 1) := by decide +kernel
theorem dX11_shift_26 : decode cX11_shift 26 = .ok (.if_icmp .ne 11, 3) := by decide +kernel
theorem dX11_shift_29 : decode cX11_shift 29 = .ok (.new 119, 3) := by decide +kernel
theorem dX11_shift_32 : decode cX11_shift 32 = .ok (.dup, 1) := by decide +kernel
theorem dX11_shift_33 : decode cX11_shift 33 = .ok (.invokespecial 121, 3) := by decide +kernel
theorem dX11_shift_36 : decode cX11_shift 36 = .ok (.athrow, 1) := by decide +kernel
theorem dX11_shift_37 : decode cX11_shift 37 = .ok (.aload_n 0, 1) := by decide +kernel
theorem dX11_shift_38 : decode cX11_shift 38 = .ok (.getfield 20, 3) := by decide +kernel
theorem dX11_shift_41 : decode cX11_shift 41 = .ok (.getfield 168, 3) := by decide +kernel
theorem dX11_shift_44 : decode cX11_shift 44 = .ok (.aload_n 0, 1) := by decide +kernel
theorem dX11_shift_45 : decode cX11_shift 45 = .ok (.getfield 77, 3) := by decide +kernel
theorem dX11_shift_48 : decode cX11_shift 48 = .ok (.invokevirtual 172, 3) := by decide +kernel
theorem dX11_shift_51 : decode cX11_shift 51 = .ok (.aload_n 0, 1) := by decide +kernel
theorem dX11_shift_52 : decode cX11_shift 52 = .ok (.getfield 20, 3) := by decide +kernel
theorem dX11_shift_55 : decode cX11_shift 55 = .ok (.getfield 168, 3) := by decide +kernel
theorem dX11_shift_58 : decode cX11_shift 58 = .ok (.getfield 205, 3) := by decide +kernel
theorem dX11_shift_61 : decode cX11_shift 61 = .ok (.iload_n 1, 1) := by decide +kernel
theorem dX11_shift_62 : decode cX11_shift 62 = .ok (.aaload, 1) := by decide +kernel
theorem dX11_shift_63 : decode cX11_shift 63 = .ok (.iload_n 2, 1) := by decide +kernel
theorem dX11_shift_64 : decode cX11_shift 64 = .ok (.iaload, 1) := by decide +kernel
theorem dX11_shift_65 : decode cX11_shift 65 = .ok (.ireturn, 1) := by decide +kernel
set_option maxRecDepth 20000 in
theorem ggX11_hears_X11_isNode : GoodIn wsX11_hears wsX11_isNode := goodIn_r _ [13, 7, 14, 98, 99, 100, 101, 102, 103, 104, 105, 106, 107, 108, 109, 110, 111, 112, 113, 123, 124, 125, 126, 127, 128, 129, 130, 131, 132, 133] (by decide +kernel) (by decide +kernel)
set_option maxRecDepth 20000 in
theorem gX11_hears_X11_isNode : GoodIn wsX11_hears (wsV RX11 148 RX11 yX11_isNode wsX11_isNode) := goodIn_app (goodIn_of _ (by decide +kernel)) ggX11_hears_X11_isNode
set_option maxRecDepth 20000 in
theorem ggX11_hears_X10_look : GoodIn wsX11_hears wsX10_look := goodIn_r _ [19, 20, 21, 22, 23, 24, 25, 26, 27, 28, 29, 30, 31, 32, 33, 34, 35, 36, 37, 38, 39, 40, 41, 42, 43, 44, 45, 46, 47, 48, 49, 50, 51, 12, 52, 53, 54, 55, 56, 57, 58, 59, 60, 61, 62, 63, 64, 65, 66, 67, 68, 69, 70, 71, 72, 73, 74, 75, 76, 77, 78, 79, 80, 81, 82, 83, 84, 85, 86, 87, 88, 89, 90, 91, 92, 93, 94, 116, 117, 118, 119, 120, 121, 122, 123, 124, 125, 126, 127, 128, 129, 130, 131, 132, 133, 134, 135, 136, 137, 138, 139, 140, 141, 142, 143, 144, 145, 146, 147, 148, 149, 150] (by decide +kernel) (by decide +kernel)
set_option maxRecDepth 20000 in
theorem gX11_hears_X10_look : GoodIn wsX11_hears (wsV RX11 172 RX10 yX10_look wsX10_look) := goodIn_app (goodIn_of _ (by decide +kernel)) ggX11_hears_X10_look
set_option maxRecDepth 20000 in
theorem ggX11_hears_X11_isIn : GoodIn wsX11_hears wsX11_isIn := goodIn_r _ [97] (by decide +kernel) (by decide +kernel)
set_option maxRecDepth 20000 in
theorem gX11_hears_X11_isIn : GoodIn wsX11_hears (va_wsS RX11 212 yX11_isIn wsX11_isIn) := goodIn_app (goodIn_of _ (by decide +kernel)) ggX11_hears_X11_isIn
theorem dX11_hears_0 : decode cX11_hears 0 = .ok (.aload_n 0, 1) := by decide +kernel
theorem dX11_hears_1 : decode cX11_hears 1 = .ok (.iload_n 1, 1) := by decide +kernel
theorem dX11_hears_2 : decode cX11_hears 2 = .ok (.invokevirtual 148, 3) := by decide +kernel
theorem dX11_hears_5 : decode cX11_hears 5 = .ok (.ifCond .eq 11, 3) := by decide +kernel
theorem dX11_hears_8 : decode cX11_hears 8 = .ok (.aload_n 0, 1) := by decide +kernel
theorem dX11_hears_9 : decode cX11_hears 9 = .ok (.iload_n 2, 1) := by decide +kernel
theorem dX11_hears_10 : decode cX11_hears 10 = .ok (.invokevirtual 148, 3) := by decide +kernel
theorem dX11_hears_13 : decode cX11_hears 13 = .ok (.ifCond .ne 11, 3) := by decide +kernel
theorem dX11_hears_16 : decode cX11_hears 16 = .ok (.new 152, 3) := by decide +kernel
theorem dX11_hears_19 : decode cX11_hears 19 = .ok (.dup, 1) := by decide +kernel
theorem dX11_hears_20 : decode cX11_hears 20 = .ok (.invokespecial 154, 3) := by decide +kernel
theorem dX11_hears_23 : decode cX11_hears 23 = .ok (.athrow, 1) := by decide +kernel
theorem dX11_hears_24 : decode cX11_hears 24 = .ok (.iload_n 1, 1) := by decide +kernel
theorem dX11_hears_25 : decode cX11_hears 25 = .ok (.iload_n 2, 1) := by decide +kernel
theorem dX11_hears_26 : decode cX11_hears 26 = .ok (.if_icmp .ne 11, 3) := by decide +kernel
theorem dX11_hears_29 : decode cX11_hears 29 = .ok (.new 119, 3) := by decide +kernel
theorem dX11_hears_32 : decode cX11_hears 32 = .ok (.dup, 1) := by decide +kernel
theorem dX11_hears_33 : decode cX11_hears 33 = .ok (.invokespecial 121, 3) := by decide +kernel
theorem dX11_hears_36 : decode cX11_hears 36 = .ok (.athrow, 1) := by decide +kernel
theorem dX11_hears_37 : decode cX11_hears 37 = .ok (.aload_n 0, 1) := by decide +kernel
theorem dX11_hears_38 : decode cX11_hears 38 = .ok (.getfield 20, 3) := by decide +kernel
theorem dX11_hears_41 : decode cX11_hears 41 = .ok (.getfield 168, 3) := by decide +kernel
theorem dX11_hears_44 : decode cX11_hears 44 = .ok (.aload_n 0, 1) := by decide +kernel
theorem dX11_hears_45 : decode cX11_hears 45 = .ok (.getfield 77, 3) := by decide +kernel
theorem dX11_hears_48 : decode cX11_hears 48 = .ok (.invokevirtual 172, 3) := by decide +kernel
theorem dX11_hears_51 : decode cX11_hears 51 = .ok (.aload_n 0, 1) := by decide +kernel
theorem dX11_hears_52 : decode cX11_hears 52 = .ok (.getfield 20, 3) := by decide +kernel
theorem dX11_hears_55 : decode cX11_hears 55 = .ok (.getfield 168, 3) := by decide +kernel
theorem dX11_hears_58 : decode cX11_hears 58 = .ok (.getfield 209, 3) := by decide +kernel
theorem dX11_hears_61 : decode cX11_hears 61 = .ok (.iload_n 1, 1) := by decide +kernel
theorem dX11_hears_62 : decode cX11_hears 62 = .ok (.iaload, 1) := by decide +kernel
theorem dX11_hears_63 : decode cX11_hears 63 = .ok (.iload_n 2, 1) := by decide +kernel
theorem dX11_hears_64 : decode cX11_hears 64 = .ok (.invokestatic 212, 3) := by decide +kernel
theorem dX11_hears_67 : decode cX11_hears 67 = .ok (.ireturn, 1) := by decide +kernel
set_option maxRecDepth 20000 in
theorem ggX11_rounds_X6_remember : GoodIn wsX11_rounds wsX6_remember := goodIn_r _ [10, 11, 12, 13, 14, 15, 16, 17, 18, 19, 20, 21, 22, 23, 24, 25, 26, 27, 28, 29, 30, 31, 32, 33, 34, 35, 36, 37, 38, 39, 40, 41, 42, 43, 44, 45, 46, 47, 48, 49, 50, 51, 52, 53, 237, 238, 239, 240, 241, 242, 243, 244, 245, 246, 247, 248, 249, 250, 251, 252, 253, 254, 255, 256, 257, 258, 259, 260, 261] (by decide +kernel) (by decide +kernel)
set_option maxRecDepth 20000 in
theorem gX11_rounds_X6_remember : GoodIn wsX11_rounds (wsV RX11 216 RX6 yX6_remember wsX6_remember) := goodIn_app (goodIn_of _ (by decide +kernel)) ggX11_rounds_X6_remember
set_option maxRecDepth 20000 in
theorem ggX11_rounds_X9_play : GoodIn wsX11_rounds wsX9_play := goodIn_r _ [58, 59, 60, 61, 62, 15, 16, 17, 63, 64, 65, 66, 67, 68, 69, 70, 71, 72, 73, 74, 75, 76, 77, 78, 79, 80, 81, 82, 83, 84, 85, 86, 87, 88, 89, 90, 21, 91, 31, 23, 92, 93, 94, 95, 96, 97, 98, 99, 100, 101, 102, 103, 104, 105, 106, 107, 108, 109, 110, 111, 112, 113, 114, 115, 116, 117, 118, 119, 120, 121, 122, 123, 124, 125, 126, 127, 128, 129, 130, 131, 132, 133, 134, 135, 136, 137, 138, 139, 140, 57, 141, 142, 143, 144, 145, 146, 147, 148, 149, 150, 151, 35, 152, 153, 154, 155, 156, 157, 158, 159, 160, 161, 162, 163, 164, 165, 166, 167, 30, 24, 34, 29, 168, 169, 170, 171, 172, 173, 174, 175, 176, 177, 178, 179, 180, 181, 182, 183, 184, 185, 186, 187, 188, 189, 190, 191, 192, 193, 194, 195, 196, 197, 198, 199, 200, 201, 202, 203, 204, 205, 206, 207, 208, 209, 210, 211, 212, 213, 214, 215, 216, 217, 218, 219, 220, 262, 263, 264, 265, 266, 267, 268, 269, 270, 240, 241, 242, 243, 244, 245, 246, 247, 248, 249, 250, 251, 252, 253, 254, 255, 256, 257, 258, 259, 260, 261, 271, 272, 273, 274, 275, 276] (by decide +kernel) (by decide +kernel)
set_option maxRecDepth 20000 in
theorem gX11_rounds_X9_play : GoodIn wsX11_rounds (wsV RX11 219 RX9 yX9_play wsX9_play) := goodIn_app (goodIn_of _ (by decide +kernel)) ggX11_rounds_X9_play
theorem dX11_rounds_0 : decode cX11_rounds 0 = .ok (.iload_n 1, 1) := by decide +kernel
theorem dX11_rounds_1 : decode cX11_rounds 1 = .ok (.iconst 1, 1) := by decide +kernel
theorem dX11_rounds_2 : decode cX11_rounds 2 = .ok (.if_icmp .lt 9, 3) := by decide +kernel
theorem dX11_rounds_5 : decode cX11_rounds 5 = .ok (.iload_n 1, 1) := by decide +kernel
theorem dX11_rounds_6 : decode cX11_rounds 6 = .ok (.bipush 60, 2) := by decide +kernel
theorem dX11_rounds_8 : decode cX11_rounds 8 = .ok (.if_icmp .le 11, 3) := by decide +kernel
theorem dX11_rounds_11 : decode cX11_rounds 11 = .ok (.new 119, 3) := by decide +kernel
theorem dX11_rounds_14 : decode cX11_rounds 14 = .ok (.dup, 1) := by decide +kernel
theorem dX11_rounds_15 : decode cX11_rounds 15 = .ok (.invokespecial 121, 3) := by decide +kernel
theorem dX11_rounds_18 : decode cX11_rounds 18 = .ok (.athrow, 1) := by decide +kernel
theorem dX11_rounds_19 : decode cX11_rounds 19 = .ok (.aload_n 0, 1) := by decide +kernel
theorem dX11_rounds_20 : decode cX11_rounds 20 = .ok (.getfield 90, 3) := by decide +kernel
theorem dX11_rounds_23 : decode cX11_rounds 23 = .ok (.aload_n 0, 1) := by decide +kernel
theorem dX11_rounds_24 : decode cX11_rounds 24 = .ok (.getfield 77, 3) := by decide +kernel
theorem dX11_rounds_27 : decode cX11_rounds 27 = .ok (.invokevirtual 216, 3) := by decide +kernel
theorem dX11_rounds_30 : decode cX11_rounds 30 = .ok (.iconst 0, 1) := by decide +kernel
theorem dX11_rounds_31 : decode cX11_rounds 31 = .ok (.istore_n 2, 1) := by decide +kernel
theorem dX11_rounds_32 : decode cX11_rounds 32 = .ok (.iconst 0, 1) := by decide +kernel
theorem dX11_rounds_33 : decode cX11_rounds 33 = .ok (.istore_n 3, 1) := by decide +kernel
theorem dX11_rounds_34 : decode cX11_rounds 34 = .ok (.iload_n 3, 1) := by decide +kernel
theorem dX11_rounds_35 : decode cX11_rounds 35 = .ok (.iload_n 1, 1) := by decide +kernel
theorem dX11_rounds_36 : decode cX11_rounds 36 = .ok (.if_icmp .ge 24, 3) := by decide +kernel
theorem dX11_rounds_39 : decode cX11_rounds 39 = .ok (.iload_n 2, 1) := by decide +kernel
theorem dX11_rounds_40 : decode cX11_rounds 40 = .ok (.aload_n 0, 1) := by decide +kernel
theorem dX11_rounds_41 : decode cX11_rounds 41 = .ok (.getfield 20, 3) := by decide +kernel
theorem dX11_rounds_44 : decode cX11_rounds 44 = .ok (.aload_n 0, 1) := by decide +kernel
theorem dX11_rounds_45 : decode cX11_rounds 45 = .ok (.getfield 77, 3) := by decide +kernel
theorem dX11_rounds_48 : decode cX11_rounds 48 = .ok (.iconst 1, 1) := by decide +kernel
theorem dX11_rounds_49 : decode cX11_rounds 49 = .ok (.invokevirtual 219, 3) := by decide +kernel
theorem dX11_rounds_52 : decode cX11_rounds 52 = .ok (.iadd, 1) := by decide +kernel
theorem dX11_rounds_53 : decode cX11_rounds 53 = .ok (.istore_n 2, 1) := by decide +kernel
theorem dX11_rounds_54 : decode cX11_rounds 54 = .ok (.iinc 3 1, 3) := by decide +kernel
theorem dX11_rounds_57 : decode cX11_rounds 57 = .ok (.goto (-23), 3) := by decide +kernel
theorem dX11_rounds_60 : decode cX11_rounds 60 = .ok (.iload_n 2, 1) := by decide +kernel
theorem dX11_rounds_61 : decode cX11_rounds 61 = .ok (.ireturn, 1) := by decide +kernel
set_option maxRecDepth 20000 in
theorem ggX11_add_X6_remember : GoodIn wsX11_add wsX6_remember := goodIn_r _ [12, 13, 14, 15, 16, 17, 18, 19, 20, 21, 22, 23, 24, 25, 26, 27, 28, 29, 30, 31, 32, 33, 34, 35, 36, 37, 38, 39, 40, 41, 42, 43, 44, 45, 46, 47, 48, 49, 50, 51, 52, 53, 54, 55, 91, 92, 93, 80, 81, 82, 83, 84, 85, 86, 87, 88, 89, 90, 94, 95, 96, 97, 98, 99, 100, 101, 102, 103, 104] (by decide +kernel) (by decide +kernel)
set_option maxRecDepth 20000 in
theorem gX11_add_X6_remember : GoodIn wsX11_add (wsV RX11 216 RX6 yX6_remember wsX6_remember) := goodIn_app (goodIn_of _ (by decide +kernel)) ggX11_add_X6_remember
set_option maxRecDepth 20000 in
theorem ggX11_add_X7_addNode : GoodIn wsX11_add wsX7_addNode := goodIn_r _ [59, 33, 25, 60, 61, 62, 43, 63, 45, 46, 47, 48, 49, 50, 51, 52, 53, 54, 55, 80, 81, 82, 83, 84, 85, 86, 87, 88, 89, 90, 94, 95, 96, 97, 98, 99, 100, 101, 102, 103, 104] (by decide +kernel) (by decide +kernel)
set_option maxRecDepth 20000 in
theorem gX11_add_X7_addNode : GoodIn wsX11_add (wsV RX11 226 RX7 yX7_addNode wsX7_addNode) := goodIn_app (goodIn_of _ (by decide +kernel)) ggX11_add_X7_addNode
theorem dX11_add_0 : decode cX11_add 0 = .ok (.iload_n 1, 1) := by decide +kernel
theorem dX11_add_1 : decode cX11_add 1 = .ok (.bipush (-9), 2) := by decide +kernel
theorem dX11_add_3 : decode cX11_add 3 = .ok (.if_icmp .lt 9, 3) := by decide +kernel
theorem dX11_add_6 : decode cX11_add 6 = .ok (.iload_n 1, 1) := by decide +kernel
theorem dX11_add_7 : decode cX11_add 7 = .ok (.bipush 9, 2) := by decide +kernel
theorem dX11_add_9 : decode cX11_add 9 = .ok (.if_icmp .le 11, 3) := by decide +kernel
theorem dX11_add_12 : decode cX11_add 12 = .ok (.new 119, 3) := by decide +kernel
theorem dX11_add_15 : decode cX11_add 15 = .ok (.dup, 1) := by decide +kernel
theorem dX11_add_16 : decode cX11_add 16 = .ok (.invokespecial 121, 3) := by decide +kernel
theorem dX11_add_19 : decode cX11_add 19 = .ok (.athrow, 1) := by decide +kernel
theorem dX11_add_20 : decode cX11_add 20 = .ok (.aload_n 0, 1) := by decide +kernel
theorem dX11_add_21 : decode cX11_add 21 = .ok (.getfield 77, 3) := by decide +kernel
theorem dX11_add_24 : decode cX11_add 24 = .ok (.getfield 145, 3) := by decide +kernel
theorem dX11_add_27 : decode cX11_add 27 = .ok (.bipush 8, 2) := by decide +kernel
theorem dX11_add_29 : decode cX11_add 29 = .ok (.if_icmp .lt 11, 3) := by decide +kernel
theorem dX11_add_32 : decode cX11_add 32 = .ok (.new 223, 3) := by decide +kernel
theorem dX11_add_35 : decode cX11_add 35 = .ok (.dup, 1) := by decide +kernel
theorem dX11_add_36 : decode cX11_add 36 = .ok (.invokespecial 225, 3) := by decide +kernel
theorem dX11_add_39 : decode cX11_add 39 = .ok (.athrow, 1) := by decide +kernel
theorem dX11_add_40 : decode cX11_add 40 = .ok (.aload_n 0, 1) := by decide +kernel
theorem dX11_add_41 : decode cX11_add 41 = .ok (.getfield 90, 3) := by decide +kernel
theorem dX11_add_44 : decode cX11_add 44 = .ok (.aload_n 0, 1) := by decide +kernel
theorem dX11_add_45 : decode cX11_add 45 = .ok (.getfield 77, 3) := by decide +kernel
theorem dX11_add_48 : decode cX11_add 48 = .ok (.invokevirtual 216, 3) := by decide +kernel
theorem dX11_add_51 : decode cX11_add 51 = .ok (.aload_n 0, 1) := by decide +kernel
theorem dX11_add_52 : decode cX11_add 52 = .ok (.getfield 77, 3) := by decide +kernel
theorem dX11_add_55 : decode cX11_add 55 = .ok (.iload_n 1, 1) := by decide +kernel
theorem dX11_add_56 : decode cX11_add 56 = .ok (.invokevirtual 226, 3) := by decide +kernel
theorem dX11_add_59 : decode cX11_add 59 = .ok (.ireturn, 1) := by decide +kernel
set_option maxRecDepth 20000 in
theorem ggX11_power_X11_isNode : GoodIn wsX11_power wsX11_isNode := goodIn_r _ [22, 5, 23, 117, 118, 119, 120, 121, 122, 123, 124, 125, 126, 127, 128, 129, 130, 131, 132, 133, 134, 135, 136, 137, 138, 139, 140, 141, 142, 143] (by decide +kernel) (by decide +kernel)
set_option maxRecDepth 20000 in
theorem gX11_power_X11_isNode : GoodIn wsX11_power (wsV RX11 148 RX11 yX11_isNode wsX11_isNode) := goodIn_app (goodIn_of _ (by decide +kernel)) ggX11_power_X11_isNode
set_option maxRecDepth 20000 in
theorem ggX11_power_X6_remember : GoodIn wsX11_power wsX6_remember := goodIn_r _ [28, 29, 30, 31, 32, 11, 12, 13, 33, 34, 35, 36, 37, 38, 39, 40, 41, 42, 43, 44, 45, 46, 47, 48, 49, 50, 51, 52, 53, 54, 55, 56, 57, 58, 59, 60, 61, 62, 63, 64, 65, 66, 67, 68, 155, 156, 157, 133, 134, 135, 136, 137, 138, 139, 140, 141, 142, 143, 144, 145, 146, 147, 148, 149, 150, 151, 152, 153, 154] (by decide +kernel) (by decide +kernel)
set_option maxRecDepth 20000 in
theorem gX11_power_X6_remember : GoodIn wsX11_power (wsV RX11 216 RX6 yX6_remember wsX6_remember) := goodIn_app (goodIn_of _ (by decide +kernel)) ggX11_power_X6_remember
set_option maxRecDepth 20000 in
theorem ggX11_power_X3_sum : GoodIn wsX11_power wsX3_sum := goodIn_r _ [73, 74, 75, 76, 77, 78, 79, 36, 80, 46, 38, 81, 82, 21, 83, 84, 85, 86, 72, 87, 88, 89, 90, 12, 91, 92, 93, 94, 95, 96, 97, 98, 99, 100, 101, 102, 103, 104, 105, 106, 107, 108, 109, 110, 111, 112, 113, 114, 115, 116, 158, 159, 160, 161, 162, 163, 133, 134, 135, 136, 137, 138, 139, 140, 141, 142, 143, 144, 145, 146, 147, 148, 149, 150, 151, 152, 153, 154] (by decide +kernel) (by decide +kernel)
set_option maxRecDepth 20000 in
theorem gX11_power_X3_sum : GoodIn wsX11_power (wsV RX11 183 RX3 yX3_sum wsX3_sum) := goodIn_app (goodIn_of _ (by decide +kernel)) ggX11_power_X3_sum
theorem dX11_power_0 : decode cX11_power 0 = .ok (.aload_n 0, 1) := by decide +kernel
theorem dX11_power_1 : decode cX11_power 1 = .ok (.iload_n 1, 1) := by decide +kernel
theorem dX11_power_2 : decode cX11_power 2 = .ok (.invokevirtual 148, 3) := by decide +kernel
theorem dX11_power_5 : decode cX11_power 5 = .ok (.ifCond .ne 11, 3) := by decide +kernel
theorem dX11_power_8 : decode cX11_power 8 = .ok (.new 152, 3) := by decide +kernel
theorem dX11_power_11 : decode cX11_power 11 = .ok (.dup, 1) := by decide +kernel
theorem dX11_power_12 : decode cX11_power 12 = .ok (.invokespecial 154, 3) := by decide +kernel
theorem dX11_power_15 : decode cX11_power 15 = .ok (.athrow, 1) := by decide +kernel
theorem dX11_power_16 : decode cX11_power 16 = .ok (.aload_n 0, 1) := by decide +kernel
theorem dX11_power_17 : decode cX11_power 17 = .ok (.getfield 77, 3) := by decide +kernel
theorem dX11_power_20 : decode cX11_power 20 = .ok (.getfield 158, 3) := by decide +kernel
theorem dX11_power_23 : decode cX11_power 23 = .ok (.iload_n 1, 1) := by decide +kernel
theorem dX11_power_24 : decode cX11_power 24 = .ok (.aaload, 1) := by decide +kernel
theorem dX11_power_25 : decode cX11_power 25 = .ok (.astore_n 3, 1) := by decide +kernel
theorem dX11_power_26 : decode cX11_power 26 = .ok (.aload_n 3, 1) := by decide +kernel
theorem dX11_power_27 : decode cX11_power 27 = .ok (.getfield 196, 3) := by decide +kernel
theorem dX11_power_30 : decode cX11_power 30 = .ok (.istore 4, 2) := by decide +kernel
theorem dX11_power_32 : decode cX11_power 32 = .ok (.iload 4, 2) := by decide +kernel
theorem dX11_power_34 : decode cX11_power 34 = .ok (.iconst 1, 1) := by decide +kernel
theorem dX11_power_35 : decode cX11_power 35 = .ok (.if_icmp .eq 9, 3) := by decide +kernel
theorem dX11_power_38 : decode cX11_power 38 = .ok (.iload 4, 2) := by decide +kernel
theorem dX11_power_40 : decode cX11_power 40 = .ok (.iconst 2, 1) := by decide +kernel
theorem dX11_power_41 : decode cX11_power 41 = .ok (.if_icmp .ne 7, 3) := by decide +kernel
theorem dX11_power_44 : decode cX11_power 44 = .ok (.iconst 1, 1) := by decide +kernel
theorem dX11_power_45 : decode cX11_power 45 = .ok (.goto 4, 3) := by decide +kernel
theorem dX11_power_48 : decode cX11_power 48 = .ok (.iconst 0, 1) := by decide +kernel
theorem dX11_power_49 : decode cX11_power 49 = .ok (.istore 5, 2) := by decide +kernel
theorem dX11_power_51 : decode cX11_power 51 = .ok (.iload_n 2, 1) := by decide +kernel
theorem dX11_power_52 : decode cX11_power 52 = .ok (.ifCond .eq 11, 3) := by decide +kernel
theorem dX11_power_55 : decode cX11_power 55 = .ok (.iload 5, 2) := by decide +kernel
theorem dX11_power_57 : decode cX11_power 57 = .ok (.ifCond .eq 19, 3) := by decide +kernel
theorem dX11_power_60 : decode cX11_power 60 = .ok (.goto 8, 3) := by decide +kernel
theorem dX11_power_63 : decode cX11_power 63 = .ok (.iload 4, 2) := by decide +kernel
theorem dX11_power_65 : decode cX11_power 65 = .ok (.ifCond .ne 11, 3) := by decide +kernel
theorem dX11_power_68 : decode cX11_power 68 = .ok (.new 223, 3) := by decide +kernel
theorem dX11_power_71 : decode cX11_power 71 = .ok (.dup, 1) := by decide +kernel
theorem dX11_power_72 : decode cX11_power 72 = .ok (.invokespecial 225, 3) := by decide +kernel
theorem dX11_power_75 : decode cX11_power 75 = .ok (.athrow, 1) := by decide +kernel
theorem dX11_power_76 : decode cX11_power 76 = .ok (.aload_n 0, 1) := by decide +kernel
theorem dX11_power_77 : decode cX11_power 77 = .ok (.getfield 90, 3) := by decide +kernel
theorem dX11_power_80 : decode cX11_power 80 = .ok (.aload_n 0, 1) := by decide +kernel
theorem dX11_power_81 : decode cX11_power 81 = .ok (.getfield 77, 3) := by decide +kernel
theorem dX11_power_84 : decode cX11_power 84 = .ok (.invokevirtual 216, 3) := by decide +kernel
theorem dX11_power_87 : decode cX11_power 87 = .ok (.iload_n 2, 1) := by decide +kernel
theorem dX11_power_88 : decode cX11_power 88 = .ok (.ifCond .eq 44, 3) := by decide +kernel
theorem dX11_power_91 : decode cX11_power 91 = .ok (.aload_n 3, 1) := by decide +kernel
theorem dX11_power_92 : decode cX11_power 92 = .ok (.bipush 99, 2) := by decide +kernel
theorem dX11_power_94 : decode cX11_power 94 = .ok (.iconst 2, 1) := by decide +kernel
theorem dX11_power_95 : decode cX11_power 95 = .ok (.iload_n 1, 1) := by decide +kernel
theorem dX11_power_96 : decode cX11_power 96 = .ok (.iadd, 1) := by decide +kernel
theorem dX11_power_97 : decode cX11_power 97 = .ok (.aload_n 0, 1) := by decide +kernel
theorem dX11_power_98 : decode cX11_power 98 = .ok (.getfield 77, 3) := by decide +kernel
theorem dX11_power_101 : decode cX11_power 101 = .ok (.getfield 138, 3) := by decide +kernel
theorem dX11_power_104 : decode cX11_power 104 = .ok (.aload_n 0, 1) := by decide +kernel
theorem dX11_power_105 : decode cX11_power 105 = .ok (.getfield 77, 3) := by decide +kernel
theorem dX11_power_108 : decode cX11_power 108 = .ok (.iload_n 1, 1) := by decide +kernel
theorem dX11_power_109 : decode cX11_power 109 = .ok (.sipush 1012, 3) := by decide +kernel
theorem dX11_power_112 : decode cX11_power 112 = .ok (.invokevirtual 183, 3) := by decide +kernel
theorem dX11_power_115 : decode cX11_power 115 = .ok (.iadd, 1) := by decide +kernel
theorem dX11_power_116 : decode cX11_power 116 = .ok (.invokestatic 229, 3) := by decide +kernel
theorem dX11_power_119 : decode cX11_power 119 = .ok (.putfield 235, 3) := by decide +kernel
theorem dX11_power_122 : decode cX11_power 122 = .ok (.aload_n 3, 1) := by decide +kernel
theorem dX11_power_123 : decode cX11_power 123 = .ok (.iconst 0, 1) := by decide +kernel
theorem dX11_power_124 : decode cX11_power 124 = .ok (.putfield 238, 3) := by decide +kernel
theorem dX11_power_127 : decode cX11_power 127 = .ok (.aload_n 3, 1) := by decide +kernel
theorem dX11_power_128 : decode cX11_power 128 = .ok (.iconst 0, 1) := by decide +kernel
theorem dX11_power_129 : decode cX11_power 129 = .ok (.putfield 241, 3) := by decide +kernel
theorem dX11_power_132 : decode cX11_power 132 = .ok (.aload_n 3, 1) := by decide +kernel
theorem dX11_power_133 : decode cX11_power 133 = .ok (.iconst 0, 1) := by decide +kernel
theorem dX11_power_134 : decode cX11_power 134 = .ok (.putfield 244, 3) := by decide +kernel
theorem dX11_power_137 : decode cX11_power 137 = .ok (.aload_n 3, 1) := by decide +kernel
theorem dX11_power_138 : decode cX11_power 138 = .ok (.iload_n 2, 1) := by decide +kernel
theorem dX11_power_139 : decode cX11_power 139 = .ok (.ifCond .eq 7, 3) := by decide +kernel
theorem dX11_power_142 : decode cX11_power 142 = .ok (.iconst 1, 1) := by decide +kernel
theorem dX11_power_143 : decode cX11_power 143 = .ok (.goto 4, 3) := by decide +kernel
theorem dX11_power_146 : decode cX11_power 146 = .ok (.iconst 0, 1) := by decide +kernel
theorem dX11_power_147 : decode cX11_power 147 = .ok (.putfield 196, 3) := by decide +kernel
theorem dX11_power_150 : decode cX11_power 150 = .ok (.iload 4, 2) := by decide +kernel
theorem dX11_power_152 : decode cX11_power 152 = .ok (.ireturn, 1) := by decide +kernel
set_option maxRecDepth 20000 in
theorem ggX11_spoil_X11_isNode : GoodIn wsX11_spoil wsX11_isNode := goodIn_r _ [14, 6, 15, 64, 65, 66, 67, 68, 69, 70, 71, 72, 73, 74, 75, 76, 77, 78, 79, 80, 81, 82, 83, 84, 85, 86, 87, 88, 89, 90] (by decide +kernel) (by decide +kernel)
set_option maxRecDepth 20000 in
theorem gX11_spoil_X11_isNode : GoodIn wsX11_spoil (wsV RX11 148 RX11 yX11_isNode wsX11_isNode) := goodIn_app (goodIn_of _ (by decide +kernel)) ggX11_spoil_X11_isNode
set_option maxRecDepth 20000 in
theorem ggX11_spoil_X6_remember : GoodIn wsX11_spoil wsX6_remember := goodIn_r _ [20, 21, 22, 23, 24, 25, 26, 27, 28, 29, 30, 31, 32, 33, 34, 35, 36, 37, 38, 39, 40, 41, 42, 43, 44, 45, 46, 47, 48, 49, 50, 51, 52, 53, 54, 55, 56, 57, 58, 59, 60, 61, 62, 63, 102, 103, 104, 80, 81, 82, 83, 84, 85, 86, 87, 88, 89, 90, 91, 92, 93, 94, 95, 96, 97, 98, 99, 100, 101] (by decide +kernel) (by decide +kernel)
set_option maxRecDepth 20000 in
theorem gX11_spoil_X6_remember : GoodIn wsX11_spoil (wsV RX11 216 RX6 yX6_remember wsX6_remember) := goodIn_app (goodIn_of _ (by decide +kernel)) ggX11_spoil_X6_remember
theorem dX11_spoil_0 : decode cX11_spoil 0 = .ok (.aload_n 0, 1) := by decide +kernel
theorem dX11_spoil_1 : decode cX11_spoil 1 = .ok (.iload_n 1, 1) := by decide +kernel
theorem dX11_spoil_2 : decode cX11_spoil 2 = .ok (.invokevirtual 148, 3) := by decide +kernel
theorem dX11_spoil_5 : decode cX11_spoil 5 = .ok (.ifCond .ne 11, 3) := by decide +kernel
theorem dX11_spoil_8 : decode cX11_spoil 8 = .ok (.new 152, 3) := by decide +kernel
theorem dX11_spoil_11 : decode cX11_spoil 11 = .ok (.dup, 1) := by decide +kernel
theorem dX11_spoil_12 : decode cX11_spoil 12 = .ok (.invokespecial 154, 3) := by decide +kernel
theorem dX11_spoil_15 : decode cX11_spoil 15 = .ok (.athrow, 1) := by decide +kernel
theorem dX11_spoil_16 : decode cX11_spoil 16 = .ok (.iload_n 2, 1) := by decide +kernel
theorem dX11_spoil_17 : decode cX11_spoil 17 = .ok (.ifCond .lt 8, 3) := by decide +kernel
theorem dX11_spoil_20 : decode cX11_spoil 20 = .ok (.iload_n 2, 1) := by decide +kernel
theorem dX11_spoil_21 : decode cX11_spoil 21 = .ok (.iconst 3, 1) := by decide +kernel
theorem dX11_spoil_22 : decode cX11_spoil 22 = .ok (.if_icmp .le 11, 3) := by decide +kernel
theorem dX11_spoil_25 : decode cX11_spoil 25 = .ok (.new 119, 3) := by decide +kernel
theorem dX11_spoil_28 : decode cX11_spoil 28 = .ok (.dup, 1) := by decide +kernel
theorem dX11_spoil_29 : decode cX11_spoil 29 = .ok (.invokespecial 121, 3) := by decide +kernel
theorem dX11_spoil_32 : decode cX11_spoil 32 = .ok (.athrow, 1) := by decide +kernel
theorem dX11_spoil_33 : decode cX11_spoil 33 = .ok (.iload_n 2, 1) := by decide +kernel
theorem dX11_spoil_34 : decode cX11_spoil 34 = .ok (.iconst 1, 1) := by decide +kernel
theorem dX11_spoil_35 : decode cX11_spoil 35 = .ok (.if_icmp .eq 8, 3) := by decide +kernel
theorem dX11_spoil_38 : decode cX11_spoil 38 = .ok (.iload_n 2, 1) := by decide +kernel
theorem dX11_spoil_39 : decode cX11_spoil 39 = .ok (.iconst 3, 1) := by decide +kernel
theorem dX11_spoil_40 : decode cX11_spoil 40 = .ok (.if_icmp .ne 7, 3) := by decide +kernel
theorem dX11_spoil_43 : decode cX11_spoil 43 = .ok (.iconst 1, 1) := by decide +kernel
theorem dX11_spoil_44 : decode cX11_spoil 44 = .ok (.goto 4, 3) := by decide +kernel
theorem dX11_spoil_47 : decode cX11_spoil 47 = .ok (.iconst 0, 1) := by decide +kernel
theorem dX11_spoil_48 : decode cX11_spoil 48 = .ok (.istore 4, 2) := by decide +kernel
theorem dX11_spoil_50 : decode cX11_spoil 50 = .ok (.iload 4, 2) := by decide +kernel
theorem dX11_spoil_52 : decode cX11_spoil 52 = .ok (.ifCond .eq 21, 3) := by decide +kernel
theorem dX11_spoil_55 : decode cX11_spoil 55 = .ok (.iload_n 3, 1) := by decide +kernel
theorem dX11_spoil_56 : decode cX11_spoil 56 = .ok (.ifCond .lt 9, 3) := by decide +kernel
theorem dX11_spoil_59 : decode cX11_spoil 59 = .ok (.iload_n 3, 1) := by decide +kernel
theorem dX11_spoil_60 : decode cX11_spoil 60 = .ok (.bipush 99, 2) := by decide +kernel
theorem dX11_spoil_62 : decode cX11_spoil 62 = .ok (.if_icmp .le 11, 3) := by decide +kernel
theorem dX11_spoil_65 : decode cX11_spoil 65 = .ok (.new 119, 3) := by decide +kernel
theorem dX11_spoil_68 : decode cX11_spoil 68 = .ok (.dup, 1) := by decide +kernel
theorem dX11_spoil_69 : decode cX11_spoil 69 = .ok (.invokespecial 121, 3) := by decide +kernel
theorem dX11_spoil_72 : decode cX11_spoil 72 = .ok (.athrow, 1) := by decide +kernel
theorem dX11_spoil_73 : decode cX11_spoil 73 = .ok (.aload_n 0, 1) := by decide +kernel
theorem dX11_spoil_74 : decode cX11_spoil 74 = .ok (.getfield 90, 3) := by decide +kernel
theorem dX11_spoil_77 : decode cX11_spoil 77 = .ok (.aload_n 0, 1) := by decide +kernel
theorem dX11_spoil_78 : decode cX11_spoil 78 = .ok (.getfield 77, 3) := by decide +kernel
theorem dX11_spoil_81 : decode cX11_spoil 81 = .ok (.invokevirtual 216, 3) := by decide +kernel
theorem dX11_spoil_84 : decode cX11_spoil 84 = .ok (.aload_n 0, 1) := by decide +kernel
theorem dX11_spoil_85 : decode cX11_spoil 85 = .ok (.getfield 77, 3) := by decide +kernel
theorem dX11_spoil_88 : decode cX11_spoil 88 = .ok (.getfield 158, 3) := by decide +kernel
theorem dX11_spoil_91 : decode cX11_spoil 91 = .ok (.iload_n 1, 1) := by decide +kernel
theorem dX11_spoil_92 : decode cX11_spoil 92 = .ok (.aaload, 1) := by decide +kernel
theorem dX11_spoil_93 : decode cX11_spoil 93 = .ok (.getfield 247, 3) := by decide +kernel
theorem dX11_spoil_96 : decode cX11_spoil 96 = .ok (.istore 5, 2) := by decide +kernel
theorem dX11_spoil_98 : decode cX11_spoil 98 = .ok (.aload_n 0, 1) := by decide +kernel
theorem dX11_spoil_99 : decode cX11_spoil 99 = .ok (.getfield 77, 3) := by decide +kernel
theorem dX11_spoil_102 : decode cX11_spoil 102 = .ok (.getfield 158, 3) := by decide +kernel
theorem dX11_spoil_105 : decode cX11_spoil 105 = .ok (.iload_n 1, 1) := by decide +kernel
theorem dX11_spoil_106 : decode cX11_spoil 106 = .ok (.aaload, 1) := by decide +kernel
theorem dX11_spoil_107 : decode cX11_spoil 107 = .ok (.iload_n 2, 1) := by decide +kernel
theorem dX11_spoil_108 : decode cX11_spoil 108 = .ok (.putfield 247, 3) := by decide +kernel
theorem dX11_spoil_111 : decode cX11_spoil 111 = .ok (.aload_n 0, 1) := by decide +kernel
theorem dX11_spoil_112 : decode cX11_spoil 112 = .ok (.getfield 77, 3) := by decide +kernel
theorem dX11_spoil_115 : decode cX11_spoil 115 = .ok (.getfield 158, 3) := by decide +kernel
theorem dX11_spoil_118 : decode cX11_spoil 118 = .ok (.iload_n 1, 1) := by decide +kernel
theorem dX11_spoil_119 : decode cX11_spoil 119 = .ok (.aaload, 1) := by decide +kernel
theorem dX11_spoil_120 : decode cX11_spoil 120 = .ok (.iload 4, 2) := by decide +kernel
theorem dX11_spoil_122 : decode cX11_spoil 122 = .ok (.ifCond .eq 7, 3) := by decide +kernel
theorem dX11_spoil_125 : decode cX11_spoil 125 = .ok (.iload_n 3, 1) := by decide +kernel
theorem dX11_spoil_126 : decode cX11_spoil 126 = .ok (.goto 4, 3) := by decide +kernel
theorem dX11_spoil_129 : decode cX11_spoil 129 = .ok (.iconst 0, 1) := by decide +kernel
theorem dX11_spoil_130 : decode cX11_spoil 130 = .ok (.putfield 250, 3) := by decide +kernel
theorem dX11_spoil_133 : decode cX11_spoil 133 = .ok (.iload 5, 2) := by decide +kernel
theorem dX11_spoil_135 : decode cX11_spoil 135 = .ok (.ireturn, 1) := by decide +kernel
set_option maxRecDepth 20000 in
theorem ggX11_set_X11_isNode : GoodIn wsX11_set wsX11_isNode := goodIn_r _ [13, 6, 14, 63, 64, 65, 66, 67, 68, 69, 70, 71, 72, 73, 74, 75, 76, 77, 78, 79, 80, 81, 82, 83, 84, 85, 86, 87, 88, 89] (by decide +kernel) (by decide +kernel)
set_option maxRecDepth 20000 in
theorem gX11_set_X11_isNode : GoodIn wsX11_set (wsV RX11 148 RX11 yX11_isNode wsX11_isNode) := goodIn_app (goodIn_of _ (by decide +kernel)) ggX11_set_X11_isNode
set_option maxRecDepth 20000 in
theorem ggX11_set_X6_remember : GoodIn wsX11_set wsX6_remember := goodIn_r _ [19, 20, 21, 22, 23, 24, 25, 26, 27, 28, 29, 30, 31, 32, 33, 34, 35, 36, 37, 38, 39, 40, 41, 42, 43, 44, 45, 46, 47, 48, 49, 50, 51, 52, 53, 54, 55, 56, 57, 58, 59, 60, 61, 62, 101, 102, 103, 79, 80, 81, 82, 83, 84, 85, 86, 87, 88, 89, 90, 91, 92, 93, 94, 95, 96, 97, 98, 99, 100] (by decide +kernel) (by decide +kernel)
set_option maxRecDepth 20000 in
theorem gX11_set_X6_remember : GoodIn wsX11_set (wsV RX11 216 RX6 yX6_remember wsX6_remember) := goodIn_app (goodIn_of _ (by decide +kernel)) ggX11_set_X6_remember
theorem dX11_set_0 : decode cX11_set 0 = .ok (.aload_n 0, 1) := by decide +kernel
theorem dX11_set_1 : decode cX11_set 1 = .ok (.iload_n 1, 1) := by decide +kernel
theorem dX11_set_2 : decode cX11_set 2 = .ok (.invokevirtual 148, 3) := by decide +kernel
theorem dX11_set_5 : decode cX11_set 5 = .ok (.ifCond .ne 11, 3) := by decide +kernel
theorem dX11_set_8 : decode cX11_set 8 = .ok (.new 152, 3) := by decide +kernel
theorem dX11_set_11 : decode cX11_set 11 = .ok (.dup, 1) := by decide +kernel
theorem dX11_set_12 : decode cX11_set 12 = .ok (.invokespecial 154, 3) := by decide +kernel
theorem dX11_set_15 : decode cX11_set 15 = .ok (.athrow, 1) := by decide +kernel
theorem dX11_set_16 : decode cX11_set 16 = .ok (.iload_n 2, 1) := by decide +kernel
theorem dX11_set_17 : decode cX11_set 17 = .ok (.sipush (-999), 3) := by decide +kernel
theorem dX11_set_20 : decode cX11_set 20 = .ok (.if_icmp .lt 10, 3) := by decide +kernel
theorem dX11_set_23 : decode cX11_set 23 = .ok (.iload_n 2, 1) := by decide +kernel
theorem dX11_set_24 : decode cX11_set 24 = .ok (.sipush 999, 3) := by decide +kernel
theorem dX11_set_27 : decode cX11_set 27 = .ok (.if_icmp .le 11, 3) := by decide +kernel
theorem dX11_set_30 : decode cX11_set 30 = .ok (.new 119, 3) := by decide +kernel
theorem dX11_set_33 : decode cX11_set 33 = .ok (.dup, 1) := by decide +kernel
theorem dX11_set_34 : decode cX11_set 34 = .ok (.invokespecial 121, 3) := by decide +kernel
theorem dX11_set_37 : decode cX11_set 37 = .ok (.athrow, 1) := by decide +kernel
theorem dX11_set_38 : decode cX11_set 38 = .ok (.aload_n 0, 1) := by decide +kernel
theorem dX11_set_39 : decode cX11_set 39 = .ok (.getfield 90, 3) := by decide +kernel
theorem dX11_set_42 : decode cX11_set 42 = .ok (.aload_n 0, 1) := by decide +kernel
theorem dX11_set_43 : decode cX11_set 43 = .ok (.getfield 77, 3) := by decide +kernel
theorem dX11_set_46 : decode cX11_set 46 = .ok (.invokevirtual 216, 3) := by decide +kernel
theorem dX11_set_49 : decode cX11_set 49 = .ok (.aload_n 0, 1) := by decide +kernel
theorem dX11_set_50 : decode cX11_set 50 = .ok (.getfield 77, 3) := by decide +kernel
theorem dX11_set_53 : decode cX11_set 53 = .ok (.getfield 158, 3) := by decide +kernel
theorem dX11_set_56 : decode cX11_set 56 = .ok (.iload_n 1, 1) := by decide +kernel
theorem dX11_set_57 : decode cX11_set 57 = .ok (.aaload, 1) := by decide +kernel
theorem dX11_set_58 : decode cX11_set 58 = .ok (.getfield 253, 3) := by decide +kernel
theorem dX11_set_61 : decode cX11_set 61 = .ok (.istore_n 3, 1) := by decide +kernel
theorem dX11_set_62 : decode cX11_set 62 = .ok (.aload_n 0, 1) := by decide +kernel
theorem dX11_set_63 : decode cX11_set 63 = .ok (.getfield 77, 3) := by decide +kernel
theorem dX11_set_66 : decode cX11_set 66 = .ok (.getfield 158, 3) := by decide +kernel
theorem dX11_set_69 : decode cX11_set 69 = .ok (.iload_n 1, 1) := by decide +kernel
theorem dX11_set_70 : decode cX11_set 70 = .ok (.aaload, 1) := by decide +kernel
theorem dX11_set_71 : decode cX11_set 71 = .ok (.iload_n 2, 1) := by decide +kernel
theorem dX11_set_72 : decode cX11_set 72 = .ok (.putfield 253, 3) := by decide +kernel
theorem dX11_set_75 : decode cX11_set 75 = .ok (.iload_n 3, 1) := by decide +kernel
theorem dX11_set_76 : decode cX11_set 76 = .ok (.ireturn, 1) := by decide +kernel
set_option maxRecDepth 20000 in
theorem ggX11_tune_X6_remember : GoodIn wsX11_tune wsX6_remember := goodIn_r _ [11, 12, 13, 14, 15, 16, 17, 18, 19, 20, 21, 22, 23, 24, 25, 26, 27, 28, 29, 30, 31, 32, 33, 34, 35, 36, 37, 38, 39, 40, 41, 42, 43, 44, 45, 46, 47, 48, 49, 50, 51, 52, 53, 54, 82, 83, 84, 71, 72, 73, 74, 75, 76, 77, 78, 79, 80, 81, 85, 86, 87, 88, 89, 90, 91, 92, 93, 94, 95] (by decide +kernel) (by decide +kernel)
set_option maxRecDepth 20000 in
theorem gX11_tune_X6_remember : GoodIn wsX11_tune (wsV RX11 216 RX6 yX6_remember wsX6_remember) := goodIn_app (goodIn_of _ (by decide +kernel)) ggX11_tune_X6_remember
theorem dX11_tune_0 : decode cX11_tune 0 = .ok (.iload_n 2, 1) := by decide +kernel
theorem dX11_tune_1 : decode cX11_tune 1 = .ok (.iconst 1, 1) := by decide +kernel
theorem dX11_tune_2 : decode cX11_tune 2 = .ok (.if_icmp .lt 10, 3) := by decide +kernel
theorem dX11_tune_5 : decode cX11_tune 5 = .ok (.iload_n 2, 1) := by decide +kernel
theorem dX11_tune_6 : decode cX11_tune 6 = .ok (.sipush 999, 3) := by decide +kernel
theorem dX11_tune_9 : decode cX11_tune 9 = .ok (.if_icmp .le 11, 3) := by decide +kernel
theorem dX11_tune_12 : decode cX11_tune 12 = .ok (.new 119, 3) := by decide +kernel
theorem dX11_tune_15 : decode cX11_tune 15 = .ok (.dup, 1) := by decide +kernel
theorem dX11_tune_16 : decode cX11_tune 16 = .ok (.invokespecial 121, 3) := by decide +kernel
theorem dX11_tune_19 : decode cX11_tune 19 = .ok (.athrow, 1) := by decide +kernel
theorem dX11_tune_20 : decode cX11_tune 20 = .ok (.aload_n 0, 1) := by decide +kernel
theorem dX11_tune_21 : decode cX11_tune 21 = .ok (.getfield 90, 3) := by decide +kernel
theorem dX11_tune_24 : decode cX11_tune 24 = .ok (.aload_n 0, 1) := by decide +kernel
theorem dX11_tune_25 : decode cX11_tune 25 = .ok (.getfield 77, 3) := by decide +kernel
theorem dX11_tune_28 : decode cX11_tune 28 = .ok (.invokevirtual 216, 3) := by decide +kernel
theorem dX11_tune_31 : decode cX11_tune 31 = .ok (.iload_n 1, 1) := by decide +kernel
theorem dX11_tune_32 : decode cX11_tune 32 = .ok (.ifCond .eq 13, 3) := by decide +kernel
theorem dX11_tune_35 : decode cX11_tune 35 = .ok (.aload_n 0, 1) := by decide +kernel
theorem dX11_tune_36 : decode cX11_tune 36 = .ok (.getfield 77, 3) := by decide +kernel
theorem dX11_tune_39 : decode cX11_tune 39 = .ok (.getfield 256, 3) := by decide +kernel
theorem dX11_tune_42 : decode cX11_tune 42 = .ok (.goto 10, 3) := by decide +kernel
theorem dX11_tune_45 : decode cX11_tune 45 = .ok (.aload_n 0, 1) := by decide +kernel
theorem dX11_tune_46 : decode cX11_tune 46 = .ok (.getfield 77, 3) := by decide +kernel
theorem dX11_tune_49 : decode cX11_tune 49 = .ok (.getfield 259, 3) := by decide +kernel
theorem dX11_tune_52 : decode cX11_tune 52 = .ok (.istore_n 3, 1) := by decide +kernel
theorem dX11_tune_53 : decode cX11_tune 53 = .ok (.iload_n 1, 1) := by decide +kernel
theorem dX11_tune_54 : decode cX11_tune 54 = .ok (.ifCond .eq 14, 3) := by decide +kernel
theorem dX11_tune_57 : decode cX11_tune 57 = .ok (.aload_n 0, 1) := by decide +kernel
theorem dX11_tune_58 : decode cX11_tune 58 = .ok (.getfield 77, 3) := by decide +kernel
theorem dX11_tune_61 : decode cX11_tune 61 = .ok (.iload_n 2, 1) := by decide +kernel
theorem dX11_tune_62 : decode cX11_tune 62 = .ok (.putfield 256, 3) := by decide +kernel
theorem dX11_tune_65 : decode cX11_tune 65 = .ok (.goto 11, 3) := by decide +kernel
theorem dX11_tune_68 : decode cX11_tune 68 = .ok (.aload_n 0, 1) := by decide +kernel
theorem dX11_tune_69 : decode cX11_tune 69 = .ok (.getfield 77, 3) := by decide +kernel
theorem dX11_tune_72 : decode cX11_tune 72 = .ok (.iload_n 2, 1) := by decide +kernel
theorem dX11_tune_73 : decode cX11_tune 73 = .ok (.putfield 259, 3) := by decide +kernel
theorem dX11_tune_76 : decode cX11_tune 76 = .ok (.iload_n 3, 1) := by decide +kernel
theorem dX11_tune_77 : decode cX11_tune 77 = .ok (.ireturn, 1) := by decide +kernel
set_option maxRecDepth 20000 in
theorem ggX11_mid_X11_useTape : GoodIn wsX11_mid wsX11_useTape := goodIn_r _ [9, 10, 17, 18, 19, 20, 21, 22, 23, 24, 25, 26, 27, 28, 29, 30, 31, 32] (by decide +kernel) (by decide +kernel)
set_option maxRecDepth 20000 in
theorem gX11_mid_X11_useTape : GoodIn wsX11_mid (wsV RX11 101 RX11 yX11_useTape wsX11_useTape) := goodIn_app (goodIn_of _ (by decide +kernel)) ggX11_mid_X11_useTape
set_option maxRecDepth 20000 in
theorem ggX11_mid_X11_midOf : GoodIn wsX11_mid wsX11_midOf := goodIn_r _ [13, 14, 15, 8, 16] (by decide +kernel) (by decide +kernel)
set_option maxRecDepth 20000 in
theorem gX11_mid_X11_midOf : GoodIn wsX11_mid (va_wsS RX11 262 yX11_midOf wsX11_midOf) := goodIn_app (goodIn_of _ (by decide +kernel)) ggX11_mid_X11_midOf
theorem dX11_mid_0 : decode cX11_mid 0 = .ok (.aload_n 0, 1) := by decide +kernel
theorem dX11_mid_1 : decode cX11_mid 1 = .ok (.invokevirtual 101, 3) := by decide +kernel
theorem dX11_mid_4 : decode cX11_mid 4 = .ok (.istore_n 1, 1) := by decide +kernel
theorem dX11_mid_5 : decode cX11_mid 5 = .ok (.iload_n 1, 1) := by decide +kernel
theorem dX11_mid_6 : decode cX11_mid 6 = .ok (.bipush 20, 2) := by decide +kernel
theorem dX11_mid_8 : decode cX11_mid 8 = .ok (.if_icmp .le 11, 3) := by decide +kernel
theorem dX11_mid_11 : decode cX11_mid 11 = .ok (.new 119, 3) := by decide +kernel
theorem dX11_mid_14 : decode cX11_mid 14 = .ok (.dup, 1) := by decide +kernel
theorem dX11_mid_15 : decode cX11_mid 15 = .ok (.invokespecial 121, 3) := by decide +kernel
theorem dX11_mid_18 : decode cX11_mid 18 = .ok (.athrow, 1) := by decide +kernel
theorem dX11_mid_19 : decode cX11_mid 19 = .ok (.iconst 0, 1) := by decide +kernel
theorem dX11_mid_20 : decode cX11_mid 20 = .ok (.istore_n 2, 1) := by decide +kernel
theorem dX11_mid_21 : decode cX11_mid 21 = .ok (.iload_n 2, 1) := by decide +kernel
theorem dX11_mid_22 : decode cX11_mid 22 = .ok (.iload_n 1, 1) := by decide +kernel
theorem dX11_mid_23 : decode cX11_mid 23 = .ok (.if_icmp .ge 25, 3) := by decide +kernel
theorem dX11_mid_26 : decode cX11_mid 26 = .ok (.aload_n 0, 1) := by decide +kernel
theorem dX11_mid_27 : decode cX11_mid 27 = .ok (.getfield 61, 3) := by decide +kernel
theorem dX11_mid_30 : decode cX11_mid 30 = .ok (.iload_n 2, 1) := by decide +kernel
theorem dX11_mid_31 : decode cX11_mid 31 = .ok (.aload_n 0, 1) := by decide +kernel
theorem dX11_mid_32 : decode cX11_mid 32 = .ok (.getfield 9, 3) := by decide +kernel
theorem dX11_mid_35 : decode cX11_mid 35 = .ok (.iload_n 2, 1) := by decide +kernel
theorem dX11_mid_36 : decode cX11_mid 36 = .ok (.iaload, 1) := by decide +kernel
theorem dX11_mid_37 : decode cX11_mid 37 = .ok (.sipush 128, 3) := by decide +kernel
theorem dX11_mid_40 : decode cX11_mid 40 = .ok (.isub, 1) := by decide +kernel
theorem dX11_mid_41 : decode cX11_mid 41 = .ok (.iastore, 1) := by decide +kernel
theorem dX11_mid_42 : decode cX11_mid 42 = .ok (.iinc 2 1, 3) := by decide +kernel
theorem dX11_mid_45 : decode cX11_mid 45 = .ok (.goto (-24), 3) := by decide +kernel
theorem dX11_mid_48 : decode cX11_mid 48 = .ok (.aload_n 0, 1) := by decide +kernel
theorem dX11_mid_49 : decode cX11_mid 49 = .ok (.getfield 61, 3) := by decide +kernel
theorem dX11_mid_52 : decode cX11_mid 52 = .ok (.iload_n 1, 1) := by decide +kernel
theorem dX11_mid_53 : decode cX11_mid 53 = .ok (.invokestatic 262, 3) := by decide +kernel
theorem dX11_mid_56 : decode cX11_mid 56 = .ok (.ireturn, 1) := by decide +kernel
set_option maxRecDepth 20000 in
theorem ggX11_spread_X7_spreadOfClocks : GoodIn wsX11_spread wsX7_spreadOfClocks := goodIn_r _ [6, 7, 8, 9, 10, 11, 12, 13, 14, 15, 16, 17, 34, 35, 36, 37, 38, 39, 40, 41, 42, 43, 44, 45, 46, 47, 48, 49, 50, 51, 52, 53, 54, 55] (by decide +kernel) (by decide +kernel)
set_option maxRecDepth 20000 in
theorem gX11_spread_X7_spreadOfClocks : GoodIn wsX11_spread (wsV RX11 266 RX7 yX7_spreadOfClocks wsX7_spreadOfClocks) := goodIn_app (goodIn_of _ (by decide +kernel)) ggX11_spread_X7_spreadOfClocks
theorem dX11_spread_0 : decode cX11_spread 0 = .ok (.aload_n 0, 1) := by decide +kernel
theorem dX11_spread_1 : decode cX11_spread 1 = .ok (.getfield 77, 3) := by decide +kernel
theorem dX11_spread_4 : decode cX11_spread 4 = .ok (.invokevirtual 266, 3) := by decide +kernel
theorem dX11_spread_7 : decode cX11_spread 7 = .ok (.ireturn, 1) := by decide +kernel
theorem dX11_agreed_0 : decode cX11_agreed 0 = .ok (.iconst (-1), 1) := by decide +kernel
theorem dX11_agreed_1 : decode cX11_agreed 1 = .ok (.istore_n 1, 1) := by decide +kernel
theorem dX11_agreed_2 : decode cX11_agreed 2 = .ok (.iconst 0, 1) := by decide +kernel
theorem dX11_agreed_3 : decode cX11_agreed 3 = .ok (.istore_n 2, 1) := by decide +kernel
theorem dX11_agreed_4 : decode cX11_agreed 4 = .ok (.iload_n 2, 1) := by decide +kernel
theorem dX11_agreed_5 : decode cX11_agreed 5 = .ok (.aload_n 0, 1) := by decide +kernel
theorem dX11_agreed_6 : decode cX11_agreed 6 = .ok (.getfield 77, 3) := by decide +kernel
theorem dX11_agreed_9 : decode cX11_agreed 9 = .ok (.getfield 145, 3) := by decide +kernel
theorem dX11_agreed_12 : decode cX11_agreed 12 = .ok (.if_icmp .ge 61, 3) := by decide +kernel
theorem dX11_agreed_15 : decode cX11_agreed 15 = .ok (.aload_n 0, 1) := by decide +kernel
theorem dX11_agreed_16 : decode cX11_agreed 16 = .ok (.getfield 77, 3) := by decide +kernel
theorem dX11_agreed_19 : decode cX11_agreed 19 = .ok (.getfield 158, 3) := by decide +kernel
theorem dX11_agreed_22 : decode cX11_agreed 22 = .ok (.iload_n 2, 1) := by decide +kernel
theorem dX11_agreed_23 : decode cX11_agreed 23 = .ok (.aaload, 1) := by decide +kernel
theorem dX11_agreed_24 : decode cX11_agreed 24 = .ok (.getfield 196, 3) := by decide +kernel
theorem dX11_agreed_27 : decode cX11_agreed 27 = .ok (.iconst 2, 1) := by decide +kernel
theorem dX11_agreed_28 : decode cX11_agreed 28 = .ok (.if_icmp .ne 39, 3) := by decide +kernel
theorem dX11_agreed_31 : decode cX11_agreed 31 = .ok (.iload_n 1, 1) := by decide +kernel
theorem dX11_agreed_32 : decode cX11_agreed 32 = .ok (.iconst (-1), 1) := by decide +kernel
theorem dX11_agreed_33 : decode cX11_agreed 33 = .ok (.if_icmp .eq 21, 3) := by decide +kernel
theorem dX11_agreed_36 : decode cX11_agreed 36 = .ok (.iload_n 1, 1) := by decide +kernel
theorem dX11_agreed_37 : decode cX11_agreed 37 = .ok (.aload_n 0, 1) := by decide +kernel
theorem dX11_agreed_38 : decode cX11_agreed 38 = .ok (.getfield 77, 3) := by decide +kernel
theorem dX11_agreed_41 : decode cX11_agreed 41 = .ok (.getfield 158, 3) := by decide +kernel
theorem dX11_agreed_44 : decode cX11_agreed 44 = .ok (.iload_n 2, 1) := by decide +kernel
theorem dX11_agreed_45 : decode cX11_agreed 45 = .ok (.aaload, 1) := by decide +kernel
theorem dX11_agreed_46 : decode cX11_agreed 46 = .ok (.getfield 244, 3) := by decide +kernel
theorem dX11_agreed_49 : decode cX11_agreed 49 = .ok (.if_icmp .eq 5, 3) := by decide +kernel
theorem dX11_agreed_52 : decode cX11_agreed 52 = .ok (.iconst 0, 1) := by decide +kernel
theorem dX11_agreed_53 : decode cX11_agreed 53 = .ok (.ireturn, 1) := by decide +kernel
theorem dX11_agreed_54 : decode cX11_agreed 54 = .ok (.aload_n 0, 1) := by decide +kernel
theorem dX11_agreed_55 : decode cX11_agreed 55 = .ok (.getfield 77, 3) := by decide +kernel
theorem dX11_agreed_58 : decode cX11_agreed 58 = .ok (.getfield 158, 3) := by decide +kernel
theorem dX11_agreed_61 : decode cX11_agreed 61 = .ok (.iload_n 2, 1) := by decide +kernel
theorem dX11_agreed_62 : decode cX11_agreed 62 = .ok (.aaload, 1) := by decide +kernel
theorem dX11_agreed_63 : decode cX11_agreed 63 = .ok (.getfield 244, 3) := by decide +kernel
theorem dX11_agreed_66 : decode cX11_agreed 66 = .ok (.istore_n 1, 1) := by decide +kernel
theorem dX11_agreed_67 : decode cX11_agreed 67 = .ok (.iinc 2 1, 3) := by decide +kernel
theorem dX11_agreed_70 : decode cX11_agreed 70 = .ok (.goto (-66), 3) := by decide +kernel
theorem dX11_agreed_73 : decode cX11_agreed 73 = .ok (.iconst 1, 1) := by decide +kernel
theorem dX11_agreed_74 : decode cX11_agreed 74 = .ok (.ireturn, 1) := by decide +kernel
set_option maxRecDepth 20000 in
theorem ggX11_cliques_X10_look : GoodIn wsX11_cliques wsX10_look := goodIn_r _ [9, 10, 11, 12, 13, 14, 15, 16, 17, 18, 19, 20, 21, 22, 23, 24, 25, 26, 27, 28, 29, 30, 31, 32, 33, 34, 35, 36, 37, 38, 39, 40, 41, 42, 43, 44, 45, 46, 47, 48, 49, 50, 51, 52, 53, 54, 55, 56, 57, 58, 59, 60, 61, 62, 63, 64, 65, 66, 67, 68, 69, 70, 71, 72, 73, 74, 75, 76, 77, 78, 79, 80, 81, 82, 83, 84, 85, 123, 124, 125, 126, 127, 128, 129, 130, 131, 132, 133, 134, 135, 136, 137, 138, 139, 140, 141, 142, 143, 144, 145, 146, 147, 148, 149, 150, 151, 152, 153, 154, 155, 156, 157] (by decide +kernel) (by decide +kernel)
set_option maxRecDepth 20000 in
theorem gX11_cliques_X10_look : GoodIn wsX11_cliques (wsV RX11 172 RX10 yX10_look wsX10_look) := goodIn_app (goodIn_of _ (by decide +kernel)) ggX11_cliques_X10_look
set_option maxRecDepth 20000 in
theorem ggX11_cliques_X1_load : GoodIn wsX11_cliques wsX1_load := goodIn_r _ [90, 91, 92, 93, 94, 95, 42, 96, 41, 43, 123, 124, 125, 126, 127, 128, 129, 158, 159, 160, 161, 162] (by decide +kernel) (by decide +kernel)
set_option maxRecDepth 20000 in
theorem gX11_cliques_X1_load : GoodIn wsX11_cliques (wsV RX11 190 RX1 yX1_load wsX1_load) := goodIn_app (goodIn_of _ (by decide +kernel)) ggX11_cliques_X1_load
set_option maxRecDepth 20000 in
theorem ggX11_cliques_X1_countCliques : GoodIn wsX11_cliques wsX1_countCliques := goodIn_r _ [100, 92, 95, 42, 96, 101, 102, 103, 89, 104, 93, 41, 43, 158, 159, 160, 161, 162] (by decide +kernel) (by decide +kernel)
set_option maxRecDepth 20000 in
theorem gX11_cliques_X1_countCliques : GoodIn wsX11_cliques (wsV RX11 269 RX1 yX1_countCliques wsX1_countCliques) := goodIn_app (goodIn_of _ (by decide +kernel)) ggX11_cliques_X1_countCliques
theorem dX11_cliques_0 : decode cX11_cliques 0 = .ok (.aload_n 0, 1) := by decide +kernel
theorem dX11_cliques_1 : decode cX11_cliques 1 = .ok (.getfield 20, 3) := by decide +kernel
theorem dX11_cliques_4 : decode cX11_cliques 4 = .ok (.getfield 168, 3) := by decide +kernel
theorem dX11_cliques_7 : decode cX11_cliques 7 = .ok (.aload_n 0, 1) := by decide +kernel
theorem dX11_cliques_8 : decode cX11_cliques 8 = .ok (.getfield 77, 3) := by decide +kernel
theorem dX11_cliques_11 : decode cX11_cliques 11 = .ok (.invokevirtual 172, 3) := by decide +kernel
theorem dX11_cliques_14 : decode cX11_cliques 14 = .ok (.aload_n 0, 1) := by decide +kernel
theorem dX11_cliques_15 : decode cX11_cliques 15 = .ok (.getfield 27, 3) := by decide +kernel
theorem dX11_cliques_18 : decode cX11_cliques 18 = .ok (.aload_n 0, 1) := by decide +kernel
theorem dX11_cliques_19 : decode cX11_cliques 19 = .ok (.getfield 20, 3) := by decide +kernel
theorem dX11_cliques_22 : decode cX11_cliques 22 = .ok (.getfield 168, 3) := by decide +kernel
theorem dX11_cliques_25 : decode cX11_cliques 25 = .ok (.invokevirtual 190, 3) := by decide +kernel
theorem dX11_cliques_28 : decode cX11_cliques 28 = .ok (.aload_n 0, 1) := by decide +kernel
theorem dX11_cliques_29 : decode cX11_cliques 29 = .ok (.getfield 27, 3) := by decide +kernel
theorem dX11_cliques_32 : decode cX11_cliques 32 = .ok (.invokevirtual 269, 3) := by decide +kernel
theorem dX11_cliques_35 : decode cX11_cliques 35 = .ok (.ireturn, 1) := by decide +kernel
set_option maxRecDepth 20000 in
theorem ggX11_settles_X7_copyFrom : GoodIn wsX11_settles wsX7_copyFrom := goodIn_r _ [10, 11, 12, 13, 14, 15, 16, 17, 18, 19, 20, 21, 22, 23, 24, 25, 26, 27, 28, 29, 30, 31, 32, 33, 34, 35, 36, 37, 38, 39, 40, 41, 236, 237, 238, 239, 240, 241, 242, 243, 244, 245, 246, 247, 248, 249, 250, 251, 252, 253, 254, 255, 256, 257] (by decide +kernel) (by decide +kernel)
set_option maxRecDepth 20000 in
theorem gX11_settles_X7_copyFrom : GoodIn wsX11_settles (wsV RX11 109 RX7 yX7_copyFrom wsX7_copyFrom) := goodIn_app (goodIn_of _ (by decide +kernel)) ggX11_settles_X7_copyFrom
set_option maxRecDepth 20000 in
theorem ggX11_settles_X7_inState : GoodIn wsX11_settles wsX7_inState := goodIn_r _ [45, 19, 11, 46, 47, 48, 49, 236, 237, 238, 239, 240, 241, 242, 243, 244, 245, 246, 247, 248, 249, 250, 251, 252, 253, 254, 255, 256, 257] (by decide +kernel) (by decide +kernel)
set_option maxRecDepth 20000 in
theorem gX11_settles_X7_inState : GoodIn wsX11_settles (wsV RX11 272 RX7 yX7_inState wsX7_inState) := goodIn_app (goodIn_of _ (by decide +kernel)) ggX11_settles_X7_inState
set_option maxRecDepth 20000 in
theorem ggX11_settles_J6_bitCount_0f7a4 : GoodIn wsX11_settles wsJ6_bitCount_0f7a4 := goodIn_r _ [53, 54, 55, 56] (by decide +kernel) (by decide +kernel)
set_option maxRecDepth 20000 in
theorem gX11_settles_J6_bitCount_0f7a4 : GoodIn wsX11_settles (va_wsS RX11 275 yJ6_bitCount_0f7a4 wsJ6_bitCount_0f7a4) := goodIn_app (goodIn_of _ (by decide +kernel)) ggX11_settles_J6_bitCount_0f7a4
set_option maxRecDepth 20000 in
theorem ggX11_settles_X7_spreadOfClocks : GoodIn wsX11_settles wsX7_spreadOfClocks := goodIn_r _ [60, 19, 11, 46, 61, 62, 63, 64, 65, 66, 67, 68, 236, 237, 238, 239, 240, 241, 242, 243, 244, 245, 246, 247, 248, 249, 250, 251, 252, 253, 254, 255, 256, 257] (by decide +kernel) (by decide +kernel)
set_option maxRecDepth 20000 in
theorem gX11_settles_X7_spreadOfClocks : GoodIn wsX11_settles (wsV RX11 266 RX7 yX7_spreadOfClocks wsX7_spreadOfClocks) := goodIn_app (goodIn_of _ (by decide +kernel)) ggX11_settles_X7_spreadOfClocks
set_option maxRecDepth 20000 in
theorem ggX11_settles_X9_play : GoodIn wsX11_settles wsX9_play := goodIn_r _ [73, 74, 75, 76, 77, 63, 64, 65, 78, 79, 80, 81, 82, 83, 84, 85, 86, 87, 88, 89, 90, 91, 92, 93, 94, 95, 96, 97, 98, 99, 100, 101, 102, 103, 43, 44, 9, 45, 19, 11, 46, 47, 48, 49, 104, 105, 106, 107, 108, 109, 110, 111, 112, 113, 114, 115, 116, 117, 118, 67, 68, 119, 120, 121, 122, 123, 124, 125, 126, 127, 128, 129, 130, 131, 132, 133, 134, 51, 52, 53, 54, 55, 56, 135, 136, 137, 138, 139, 140, 72, 141, 142, 143, 144, 145, 146, 147, 148, 149, 150, 151, 23, 152, 153, 154, 155, 156, 157, 158, 159, 160, 161, 162, 163, 164, 165, 166, 167, 18, 12, 22, 17, 62, 168, 169, 170, 171, 172, 173, 174, 175, 176, 177, 178, 179, 180, 181, 182, 183, 184, 185, 186, 187, 188, 189, 190, 191, 192, 193, 194, 195, 196, 197, 198, 199, 200, 201, 202, 203, 204, 205, 206, 207, 208, 209, 210, 211, 212, 213, 214, 215, 216, 217, 218, 219, 258, 259, 260, 261, 262, 263, 264, 265, 266, 236, 237, 238, 239, 240, 241, 242, 243, 244, 245, 246, 247, 248, 249, 250, 251, 252, 253, 254, 255, 256, 257, 267, 268, 269, 270, 271, 272] (by decide +kernel) (by decide +kernel)
set_option maxRecDepth 20000 in
theorem gX11_settles_X9_play : GoodIn wsX11_settles (wsV RX11 219 RX9 yX9_play wsX9_play) := goodIn_app (goodIn_of _ (by decide +kernel)) ggX11_settles_X9_play
theorem dX11_settles_0 : decode cX11_settles 0 = .ok (.iload_n 1, 1) := by decide +kernel
theorem dX11_settles_1 : decode cX11_settles 1 = .ok (.ifCond .lt 10, 3) := by decide +kernel
theorem dX11_settles_4 : decode cX11_settles 4 = .ok (.iload_n 1, 1) := by decide +kernel
theorem dX11_settles_5 : decode cX11_settles 5 = .ok (.sipush 999, 3) := by decide +kernel
theorem dX11_settles_8 : decode cX11_settles 8 = .ok (.if_icmp .le 11, 3) := by decide +kernel
theorem dX11_settles_11 : decode cX11_settles 11 = .ok (.new 119, 3) := by decide +kernel
theorem dX11_settles_14 : decode cX11_settles 14 = .ok (.dup, 1) := by decide +kernel
theorem dX11_settles_15 : decode cX11_settles 15 = .ok (.invokespecial 121, 3) := by decide +kernel
theorem dX11_settles_18 : decode cX11_settles 18 = .ok (.athrow, 1) := by decide +kernel
theorem dX11_settles_19 : decode cX11_settles 19 = .ok (.aload_n 0, 1) := by decide +kernel
theorem dX11_settles_20 : decode cX11_settles 20 = .ok (.getfield 81, 3) := by decide +kernel
theorem dX11_settles_23 : decode cX11_settles 23 = .ok (.aload_n 0, 1) := by decide +kernel
theorem dX11_settles_24 : decode cX11_settles 24 = .ok (.getfield 77, 3) := by decide +kernel
theorem dX11_settles_27 : decode cX11_settles 27 = .ok (.invokevirtual 109, 3) := by decide +kernel
theorem dX11_settles_30 : decode cX11_settles 30 = .ok (.iconst 0, 1) := by decide +kernel
theorem dX11_settles_31 : decode cX11_settles 31 = .ok (.istore_n 2, 1) := by decide +kernel
theorem dX11_settles_32 : decode cX11_settles 32 = .ok (.iload_n 2, 1) := by decide +kernel
theorem dX11_settles_33 : decode cX11_settles 33 = .ok (.bipush 60, 2) := by decide +kernel
theorem dX11_settles_35 : decode cX11_settles 35 = .ok (.if_icmp .gt 50, 3) := by decide +kernel
theorem dX11_settles_38 : decode cX11_settles 38 = .ok (.aload_n 0, 1) := by decide +kernel
theorem dX11_settles_39 : decode cX11_settles 39 = .ok (.getfield 81, 3) := by decide +kernel
theorem dX11_settles_42 : decode cX11_settles 42 = .ok (.iconst 2, 1) := by decide +kernel
theorem dX11_settles_43 : decode cX11_settles 43 = .ok (.invokevirtual 272, 3) := by decide +kernel
theorem dX11_settles_46 : decode cX11_settles 46 = .ok (.invokestatic 275, 3) := by decide +kernel
theorem dX11_settles_49 : decode cX11_settles 49 = .ok (.iconst 2, 1) := by decide +kernel
theorem dX11_settles_50 : decode cX11_settles 50 = .ok (.if_icmp .lt 16, 3) := by decide +kernel
theorem dX11_settles_53 : decode cX11_settles 53 = .ok (.aload_n 0, 1) := by decide +kernel
theorem dX11_settles_54 : decode cX11_settles 54 = .ok (.getfield 81, 3) := by decide +kernel
theorem dX11_settles_57 : decode cX11_settles 57 = .ok (.invokevirtual 266, 3) := by decide +kernel
theorem dX11_settles_60 : decode cX11_settles 60 = .ok (.iload_n 1, 1) := by decide +kernel
theorem dX11_settles_61 : decode cX11_settles 61 = .ok (.if_icmp .gt 5, 3) := by decide +kernel
theorem dX11_settles_64 : decode cX11_settles 64 = .ok (.iload_n 2, 1) := by decide +kernel
theorem dX11_settles_65 : decode cX11_settles 65 = .ok (.ireturn, 1) := by decide +kernel
theorem dX11_settles_66 : decode cX11_settles 66 = .ok (.aload_n 0, 1) := by decide +kernel
theorem dX11_settles_67 : decode cX11_settles 67 = .ok (.getfield 20, 3) := by decide +kernel
theorem dX11_settles_70 : decode cX11_settles 70 = .ok (.aload_n 0, 1) := by decide +kernel
theorem dX11_settles_71 : decode cX11_settles 71 = .ok (.getfield 81, 3) := by decide +kernel
theorem dX11_settles_74 : decode cX11_settles 74 = .ok (.iconst 0, 1) := by decide +kernel
theorem dX11_settles_75 : decode cX11_settles 75 = .ok (.invokevirtual 219, 3) := by decide +kernel
theorem dX11_settles_78 : decode cX11_settles 78 = .ok (.pop, 1) := by decide +kernel
theorem dX11_settles_79 : decode cX11_settles 79 = .ok (.iinc 2 1, 3) := by decide +kernel
theorem dX11_settles_82 : decode cX11_settles 82 = .ok (.goto (-50), 3) := by decide +kernel
theorem dX11_settles_85 : decode cX11_settles 85 = .ok (.iconst (-1), 1) := by decide +kernel
theorem dX11_settles_86 : decode cX11_settles 86 = .ok (.ireturn, 1) := by decide +kernel
theorem dX11_isAhead_0 : decode cX11_isAhead 0 = .ok (.iload_n 0, 1) := by decide +kernel
theorem dX11_isAhead_1 : decode cX11_isAhead 1 = .ok (.ifCond .lt 13, 3) := by decide +kernel
theorem dX11_isAhead_4 : decode cX11_isAhead 4 = .ok (.iload_n 0, 1) := by decide +kernel
theorem dX11_isAhead_5 : decode cX11_isAhead 5 = .ok (.bipush 60, 2) := by decide +kernel
theorem dX11_isAhead_7 : decode cX11_isAhead 7 = .ok (.if_icmp .gt 7, 3) := by decide +kernel
theorem dX11_isAhead_10 : decode cX11_isAhead 10 = .ok (.iconst 1, 1) := by decide +kernel
theorem dX11_isAhead_11 : decode cX11_isAhead 11 = .ok (.goto 4, 3) := by decide +kernel
theorem dX11_isAhead_14 : decode cX11_isAhead 14 = .ok (.iconst 0, 1) := by decide +kernel
theorem dX11_isAhead_15 : decode cX11_isAhead 15 = .ok (.ireturn, 1) := by decide +kernel
set_option maxRecDepth 20000 in
theorem ggX11_widest_X11_isAhead : GoodIn wsX11_widest wsX11_isAhead := goodIn_r _ [13] (by decide +kernel) (by decide +kernel)
set_option maxRecDepth 20000 in
theorem gX11_widest_X11_isAhead : GoodIn wsX11_widest (va_wsS RX11 280 yX11_isAhead wsX11_isAhead) := goodIn_app (goodIn_of _ (by decide +kernel)) ggX11_widest_X11_isAhead
set_option maxRecDepth 20000 in
theorem ggX11_widest_X7_copyFrom : GoodIn wsX11_widest wsX7_copyFrom := goodIn_r _ [18, 19, 20, 21, 22, 23, 24, 25, 26, 27, 28, 29, 30, 31, 32, 33, 34, 35, 36, 37, 38, 39, 40, 41, 42, 43, 44, 45, 46, 47, 48, 49, 237, 238, 239, 240, 241, 242, 243, 244, 245, 246, 247, 248, 249, 250, 251, 252, 253, 254, 255, 256, 257, 258] (by decide +kernel) (by decide +kernel)
set_option maxRecDepth 20000 in
theorem gX11_widest_X7_copyFrom : GoodIn wsX11_widest (wsV RX11 109 RX7 yX7_copyFrom wsX7_copyFrom) := goodIn_app (goodIn_of _ (by decide +kernel)) ggX11_widest_X7_copyFrom
set_option maxRecDepth 20000 in
theorem ggX11_widest_X7_spreadOfClocks : GoodIn wsX11_widest wsX7_spreadOfClocks := goodIn_r _ [53, 27, 19, 54, 55, 56, 57, 8, 58, 59, 7, 9, 237, 238, 239, 240, 241, 242, 243, 244, 245, 246, 247, 248, 249, 250, 251, 252, 253, 254, 255, 256, 257, 258] (by decide +kernel) (by decide +kernel)
set_option maxRecDepth 20000 in
theorem gX11_widest_X7_spreadOfClocks : GoodIn wsX11_widest (wsV RX11 266 RX7 yX7_spreadOfClocks wsX7_spreadOfClocks) := goodIn_app (goodIn_of _ (by decide +kernel)) ggX11_widest_X7_spreadOfClocks
set_option maxRecDepth 20000 in
theorem ggX11_widest_X9_play : GoodIn wsX11_widest wsX9_play := goodIn_r _ [64, 65, 66, 67, 68, 57, 8, 58, 69, 70, 71, 72, 73, 74, 75, 76, 77, 78, 79, 80, 81, 82, 83, 84, 85, 86, 87, 88, 89, 90, 91, 92, 93, 94, 95, 96, 17, 97, 27, 19, 54, 98, 12, 99, 100, 101, 102, 103, 104, 105, 106, 107, 108, 109, 110, 111, 112, 113, 114, 7, 9, 115, 116, 117, 118, 119, 120, 121, 122, 123, 124, 125, 126, 127, 128, 129, 130, 131, 132, 133, 134, 135, 136, 137, 138, 139, 140, 141, 142, 63, 143, 144, 145, 146, 147, 148, 149, 150, 151, 152, 153, 31, 154, 155, 156, 157, 158, 159, 160, 161, 162, 163, 164, 165, 166, 167, 168, 169, 26, 20, 30, 25, 56, 170, 171, 172, 173, 174, 175, 176, 177, 178, 179, 180, 181, 6, 182, 183, 184, 185, 186, 187, 188, 189, 190, 191, 192, 193, 194, 195, 196, 197, 198, 199, 200, 201, 202, 203, 204, 205, 206, 207, 208, 209, 210, 211, 212, 213, 214, 215, 216, 217, 218, 219, 220, 259, 260, 261, 262, 263, 264, 265, 266, 267, 237, 238, 239, 240, 241, 242, 243, 244, 245, 246, 247, 248, 249, 250, 251, 252, 253, 254, 255, 256, 257, 258, 268, 269, 270, 271, 272, 273] (by decide +kernel) (by decide +kernel)
set_option maxRecDepth 20000 in
theorem gX11_widest_X9_play : GoodIn wsX11_widest (wsV RX11 219 RX9 yX9_play wsX9_play) := goodIn_app (goodIn_of _ (by decide +kernel)) ggX11_widest_X9_play
theorem dX11_widest_0 : decode cX11_widest 0 = .ok (.iload_n 1, 1) := by decide +kernel
theorem dX11_widest_1 : decode cX11_widest 1 = .ok (.invokestatic 280, 3) := by decide +kernel
theorem dX11_widest_4 : decode cX11_widest 4 = .ok (.ifCond .ne 11, 3) := by decide +kernel
theorem dX11_widest_7 : decode cX11_widest 7 = .ok (.new 119, 3) := by decide +kernel
theorem dX11_widest_10 : decode cX11_widest 10 = .ok (.dup, 1) := by decide +kernel
theorem dX11_widest_11 : decode cX11_widest 11 = .ok (.invokespecial 121, 3) := by decide +kernel
theorem dX11_widest_14 : decode cX11_widest 14 = .ok (.athrow, 1) := by decide +kernel
theorem dX11_widest_15 : decode cX11_widest 15 = .ok (.aload_n 0, 1) := by decide +kernel
theorem dX11_widest_16 : decode cX11_widest 16 = .ok (.getfield 81, 3) := by decide +kernel
theorem dX11_widest_19 : decode cX11_widest 19 = .ok (.aload_n 0, 1) := by decide +kernel
theorem dX11_widest_20 : decode cX11_widest 20 = .ok (.getfield 77, 3) := by decide +kernel
theorem dX11_widest_23 : decode cX11_widest 23 = .ok (.invokevirtual 109, 3) := by decide +kernel
theorem dX11_widest_26 : decode cX11_widest 26 = .ok (.aload_n 0, 1) := by decide +kernel
theorem dX11_widest_27 : decode cX11_widest 27 = .ok (.getfield 81, 3) := by decide +kernel
theorem dX11_widest_30 : decode cX11_widest 30 = .ok (.invokevirtual 266, 3) := by decide +kernel
theorem dX11_widest_33 : decode cX11_widest 33 = .ok (.istore_n 2, 1) := by decide +kernel
theorem dX11_widest_34 : decode cX11_widest 34 = .ok (.iconst 0, 1) := by decide +kernel
theorem dX11_widest_35 : decode cX11_widest 35 = .ok (.istore_n 3, 1) := by decide +kernel
theorem dX11_widest_36 : decode cX11_widest 36 = .ok (.iload_n 3, 1) := by decide +kernel
theorem dX11_widest_37 : decode cX11_widest 37 = .ok (.iload_n 1, 1) := by decide +kernel
theorem dX11_widest_38 : decode cX11_widest 38 = .ok (.if_icmp .ge 34, 3) := by decide +kernel
theorem dX11_widest_41 : decode cX11_widest 41 = .ok (.aload_n 0, 1) := by decide +kernel
theorem dX11_widest_42 : decode cX11_widest 42 = .ok (.getfield 20, 3) := by decide +kernel
theorem dX11_widest_45 : decode cX11_widest 45 = .ok (.aload_n 0, 1) := by decide +kernel
theorem dX11_widest_46 : decode cX11_widest 46 = .ok (.getfield 81, 3) := by decide +kernel
theorem dX11_widest_49 : decode cX11_widest 49 = .ok (.iconst 0, 1) := by decide +kernel
theorem dX11_widest_50 : decode cX11_widest 50 = .ok (.invokevirtual 219, 3) := by decide +kernel
theorem dX11_widest_53 : decode cX11_widest 53 = .ok (.pop, 1) := by decide +kernel
theorem dX11_widest_54 : decode cX11_widest 54 = .ok (.iload_n 2, 1) := by decide +kernel
theorem dX11_widest_55 : decode cX11_widest 55 = .ok (.aload_n 0, 1) := by decide +kernel
theorem dX11_widest_56 : decode cX11_widest 56 = .ok (.getfield 81, 3) := by decide +kernel
theorem dX11_widest_59 : decode cX11_widest 59 = .ok (.invokevirtual 266, 3) := by decide +kernel
theorem dX11_widest_62 : decode cX11_widest 62 = .ok (.invokestatic 283, 3) := by decide +kernel
theorem dX11_widest_65 : decode cX11_widest 65 = .ok (.istore_n 2, 1) := by decide +kernel
theorem dX11_widest_66 : decode cX11_widest 66 = .ok (.iinc 3 1, 3) := by decide +kernel
theorem dX11_widest_69 : decode cX11_widest 69 = .ok (.goto (-33), 3) := by decide +kernel
theorem dX11_widest_72 : decode cX11_widest 72 = .ok (.iload_n 2, 1) := by decide +kernel
theorem dX11_widest_73 : decode cX11_widest 73 = .ok (.ireturn, 1) := by decide +kernel
set_option maxRecDepth 20000 in
theorem ggX11_leads_X7_copyFrom : GoodIn wsX11_leads wsX7_copyFrom := goodIn_r _ [8, 9, 10, 11, 12, 13, 14, 15, 16, 17, 18, 19, 20, 21, 22, 23, 24, 25, 26, 27, 28, 29, 30, 31, 32, 33, 34, 35, 36, 37, 38, 39, 228, 229, 230, 231, 232, 233, 234, 235, 236, 237, 238, 239, 240, 241, 242, 243, 244, 245, 246, 247, 248, 249] (by decide +kernel) (by decide +kernel)
set_option maxRecDepth 20000 in
theorem gX11_leads_X7_copyFrom : GoodIn wsX11_leads (wsV RX11 109 RX7 yX7_copyFrom wsX7_copyFrom) := goodIn_app (goodIn_of _ (by decide +kernel)) ggX11_leads_X7_copyFrom
set_option maxRecDepth 20000 in
theorem ggX11_leads_X7_inState : GoodIn wsX11_leads wsX7_inState := goodIn_r _ [43, 17, 9, 44, 45, 46, 47, 228, 229, 230, 231, 232, 233, 234, 235, 236, 237, 238, 239, 240, 241, 242, 243, 244, 245, 246, 247, 248, 249] (by decide +kernel) (by decide +kernel)
set_option maxRecDepth 20000 in
theorem gX11_leads_X7_inState : GoodIn wsX11_leads (wsV RX11 272 RX7 yX7_inState wsX7_inState) := goodIn_app (goodIn_of _ (by decide +kernel)) ggX11_leads_X7_inState
set_option maxRecDepth 20000 in
theorem ggX11_leads_X11_lowest : GoodIn wsX11_leads wsX11_lowest := goodIn_r _ [50, 51, 52, 46, 53] (by decide +kernel) (by decide +kernel)
set_option maxRecDepth 20000 in
theorem gX11_leads_X11_lowest : GoodIn wsX11_leads (va_wsS RX11 286 yX11_lowest wsX11_lowest) := goodIn_app (goodIn_of _ (by decide +kernel)) ggX11_leads_X11_lowest
set_option maxRecDepth 20000 in
theorem ggX11_leads_X9_play : GoodIn wsX11_leads wsX9_play := goodIn_r _ [58, 59, 60, 61, 62, 63, 64, 65, 66, 67, 68, 69, 70, 71, 72, 73, 74, 75, 76, 77, 78, 79, 80, 81, 82, 83, 84, 85, 86, 87, 88, 89, 90, 91, 41, 42, 7, 43, 17, 9, 44, 45, 46, 47, 92, 93, 94, 95, 96, 97, 98, 99, 100, 101, 102, 103, 104, 105, 106, 107, 108, 109, 110, 111, 112, 113, 114, 115, 116, 117, 118, 119, 120, 121, 122, 123, 124, 125, 126, 127, 128, 129, 130, 131, 132, 133, 134, 135, 136, 57, 137, 138, 139, 140, 52, 53, 141, 142, 143, 144, 145, 21, 146, 147, 148, 149, 150, 151, 152, 153, 154, 155, 156, 157, 158, 159, 160, 161, 16, 10, 20, 15, 162, 163, 164, 165, 166, 167, 168, 49, 50, 51, 169, 170, 171, 172, 173, 174, 175, 176, 177, 178, 179, 180, 181, 182, 183, 184, 185, 186, 187, 188, 189, 190, 191, 192, 193, 194, 195, 196, 197, 198, 199, 200, 201, 202, 203, 204, 205, 206, 207, 208, 209, 210, 211, 250, 251, 252, 253, 254, 255, 256, 257, 258, 228, 229, 230, 231, 232, 233, 234, 235, 236, 237, 238, 239, 240, 241, 242, 243, 244, 245, 246, 247, 248, 249, 259, 260, 261, 262, 263, 264] (by decide +kernel) (by decide +kernel)
set_option maxRecDepth 20000 in
theorem gX11_leads_X9_play : GoodIn wsX11_leads (wsV RX11 219 RX9 yX9_play wsX9_play) := goodIn_app (goodIn_of _ (by decide +kernel)) ggX11_leads_X9_play
theorem dX11_leads_0 : decode cX11_leads 0 = .ok (.aload_n 0, 1) := by decide +kernel
theorem dX11_leads_1 : decode cX11_leads 1 = .ok (.getfield 81, 3) := by decide +kernel
theorem dX11_leads_4 : decode cX11_leads 4 = .ok (.aload_n 0, 1) := by decide +kernel
theorem dX11_leads_5 : decode cX11_leads 5 = .ok (.getfield 77, 3) := by decide +kernel
theorem dX11_leads_8 : decode cX11_leads 8 = .ok (.invokevirtual 109, 3) := by decide +kernel
theorem dX11_leads_11 : decode cX11_leads 11 = .ok (.iconst 0, 1) := by decide +kernel
theorem dX11_leads_12 : decode cX11_leads 12 = .ok (.istore_n 2, 1) := by decide +kernel
theorem dX11_leads_13 : decode cX11_leads 13 = .ok (.iload_n 2, 1) := by decide +kernel
theorem dX11_leads_14 : decode cX11_leads 14 = .ok (.bipush 60, 2) := by decide +kernel
theorem dX11_leads_16 : decode cX11_leads 16 = .ok (.if_icmp .gt 48, 3) := by decide +kernel
theorem dX11_leads_19 : decode cX11_leads 19 = .ok (.aload_n 0, 1) := by decide +kernel
theorem dX11_leads_20 : decode cX11_leads 20 = .ok (.getfield 81, 3) := by decide +kernel
theorem dX11_leads_23 : decode cX11_leads 23 = .ok (.iconst 2, 1) := by decide +kernel
theorem dX11_leads_24 : decode cX11_leads 24 = .ok (.invokevirtual 272, 3) := by decide +kernel
theorem dX11_leads_27 : decode cX11_leads 27 = .ok (.istore_n 3, 1) := by decide +kernel
theorem dX11_leads_28 : decode cX11_leads 28 = .ok (.iload_n 3, 1) := by decide +kernel
theorem dX11_leads_29 : decode cX11_leads 29 = .ok (.ifCond .eq 16, 3) := by decide +kernel
theorem dX11_leads_32 : decode cX11_leads 32 = .ok (.iload_n 1, 1) := by decide +kernel
theorem dX11_leads_33 : decode cX11_leads 33 = .ok (.ifCond .eq 10, 3) := by decide +kernel
theorem dX11_leads_36 : decode cX11_leads 36 = .ok (.iload_n 3, 1) := by decide +kernel
theorem dX11_leads_37 : decode cX11_leads 37 = .ok (.invokestatic 286, 3) := by decide +kernel
theorem dX11_leads_40 : decode cX11_leads 40 = .ok (.goto 4, 3) := by decide +kernel
theorem dX11_leads_43 : decode cX11_leads 43 = .ok (.iload_n 2, 1) := by decide +kernel
theorem dX11_leads_44 : decode cX11_leads 44 = .ok (.ireturn, 1) := by decide +kernel
theorem dX11_leads_45 : decode cX11_leads 45 = .ok (.aload_n 0, 1) := by decide +kernel
theorem dX11_leads_46 : decode cX11_leads 46 = .ok (.getfield 20, 3) := by decide +kernel
theorem dX11_leads_49 : decode cX11_leads 49 = .ok (.aload_n 0, 1) := by decide +kernel
theorem dX11_leads_50 : decode cX11_leads 50 = .ok (.getfield 81, 3) := by decide +kernel
theorem dX11_leads_53 : decode cX11_leads 53 = .ok (.iconst 0, 1) := by decide +kernel
theorem dX11_leads_54 : decode cX11_leads 54 = .ok (.invokevirtual 219, 3) := by decide +kernel
theorem dX11_leads_57 : decode cX11_leads 57 = .ok (.pop, 1) := by decide +kernel
theorem dX11_leads_58 : decode cX11_leads 58 = .ok (.iinc 2 1, 3) := by decide +kernel
theorem dX11_leads_61 : decode cX11_leads 61 = .ok (.goto (-48), 3) := by decide +kernel
theorem dX11_leads_64 : decode cX11_leads 64 = .ok (.iconst (-1), 1) := by decide +kernel
theorem dX11_leads_65 : decode cX11_leads 65 = .ok (.ireturn, 1) := by decide +kernel
set_option maxRecDepth 20000 in
theorem ggX11_narrow_X10_look : GoodIn wsX11_narrow wsX10_look := goodIn_r _ [21, 22, 23, 24, 25, 26, 27, 28, 29, 30, 31, 32, 33, 12, 34, 35, 36, 37, 38, 11, 13, 39, 40, 41, 42, 43, 44, 45, 46, 47, 48, 49, 50, 51, 52, 53, 54, 55, 56, 57, 58, 59, 60, 61, 62, 63, 64, 65, 66, 67, 15, 16, 68, 69, 70, 71, 72, 73, 74, 75, 76, 77, 78, 79, 80, 81, 82, 83, 84, 85, 86, 87, 88, 89, 90, 91, 92, 133, 134, 135, 136, 137, 138, 139, 111, 112, 113, 114, 115, 116, 117, 118, 119, 120, 121, 122, 123, 124, 125, 126, 127, 128, 129, 130, 131, 132, 140, 141, 142, 143, 144, 145] (by decide +kernel) (by decide +kernel)
set_option maxRecDepth 20000 in
theorem gX11_narrow_X10_look : GoodIn wsX11_narrow (wsV RX11 172 RX10 yX10_look wsX10_look) := goodIn_app (goodIn_of _ (by decide +kernel)) ggX11_narrow_X10_look
theorem dX11_narrow_0 : decode cX11_narrow 0 = .ok (.aload_n 0, 1) := by decide +kernel
theorem dX11_narrow_1 : decode cX11_narrow 1 = .ok (.getfield 20, 3) := by decide +kernel
theorem dX11_narrow_4 : decode cX11_narrow 4 = .ok (.getfield 168, 3) := by decide +kernel
theorem dX11_narrow_7 : decode cX11_narrow 7 = .ok (.aload_n 0, 1) := by decide +kernel
theorem dX11_narrow_8 : decode cX11_narrow 8 = .ok (.getfield 77, 3) := by decide +kernel
theorem dX11_narrow_11 : decode cX11_narrow 11 = .ok (.invokevirtual 172, 3) := by decide +kernel
theorem dX11_narrow_14 : decode cX11_narrow 14 = .ok (.iconst 1, 1) := by decide +kernel
theorem dX11_narrow_15 : decode cX11_narrow 15 = .ok (.istore_n 1, 1) := by decide +kernel
theorem dX11_narrow_16 : decode cX11_narrow 16 = .ok (.iconst 0, 1) := by decide +kernel
theorem dX11_narrow_17 : decode cX11_narrow 17 = .ok (.istore_n 2, 1) := by decide +kernel
theorem dX11_narrow_18 : decode cX11_narrow 18 = .ok (.iload_n 2, 1) := by decide +kernel
theorem dX11_narrow_19 : decode cX11_narrow 19 = .ok (.aload_n 0, 1) := by decide +kernel
theorem dX11_narrow_20 : decode cX11_narrow 20 = .ok (.getfield 77, 3) := by decide +kernel
theorem dX11_narrow_23 : decode cX11_narrow 23 = .ok (.getfield 145, 3) := by decide +kernel
theorem dX11_narrow_26 : decode cX11_narrow 26 = .ok (.if_icmp .ge 60, 3) := by decide +kernel
theorem dX11_narrow_29 : decode cX11_narrow 29 = .ok (.aload_n 0, 1) := by decide +kernel
theorem dX11_narrow_30 : decode cX11_narrow 30 = .ok (.getfield 77, 3) := by decide +kernel
theorem dX11_narrow_33 : decode cX11_narrow 33 = .ok (.getfield 158, 3) := by decide +kernel
theorem dX11_narrow_36 : decode cX11_narrow 36 = .ok (.iload_n 2, 1) := by decide +kernel
theorem dX11_narrow_37 : decode cX11_narrow 37 = .ok (.aaload, 1) := by decide +kernel
theorem dX11_narrow_38 : decode cX11_narrow 38 = .ok (.astore_n 3, 1) := by decide +kernel
theorem dX11_narrow_39 : decode cX11_narrow 39 = .ok (.aload_n 3, 1) := by decide +kernel
theorem dX11_narrow_40 : decode cX11_narrow 40 = .ok (.getfield 196, 3) := by decide +kernel
theorem dX11_narrow_43 : decode cX11_narrow 43 = .ok (.iconst 2, 1) := by decide +kernel
theorem dX11_narrow_44 : decode cX11_narrow 44 = .ok (.if_icmp .ne 36, 3) := by decide +kernel
theorem dX11_narrow_47 : decode cX11_narrow 47 = .ok (.aload_n 3, 1) := by decide +kernel
theorem dX11_narrow_48 : decode cX11_narrow 48 = .ok (.getfield 247, 3) := by decide +kernel
theorem dX11_narrow_51 : decode cX11_narrow 51 = .ok (.iconst 2, 1) := by decide +kernel
theorem dX11_narrow_52 : decode cX11_narrow 52 = .ok (.if_icmp .eq 28, 3) := by decide +kernel
theorem dX11_narrow_55 : decode cX11_narrow 55 = .ok (.iload_n 1, 1) := by decide +kernel
theorem dX11_narrow_56 : decode cX11_narrow 56 = .ok (.aload_n 3, 1) := by decide +kernel
theorem dX11_narrow_57 : decode cX11_narrow 57 = .ok (.getfield 253, 3) := by decide +kernel
theorem dX11_narrow_60 : decode cX11_narrow 60 = .ok (.aload_n 0, 1) := by decide +kernel
theorem dX11_narrow_61 : decode cX11_narrow 61 = .ok (.getfield 20, 3) := by decide +kernel
theorem dX11_narrow_64 : decode cX11_narrow 64 = .ok (.getfield 168, 3) := by decide +kernel
theorem dX11_narrow_67 : decode cX11_narrow 67 = .ok (.getfield 177, 3) := by decide +kernel
theorem dX11_narrow_70 : decode cX11_narrow 70 = .ok (.iload_n 2, 1) := by decide +kernel
theorem dX11_narrow_71 : decode cX11_narrow 71 = .ok (.iaload, 1) := by decide +kernel
theorem dX11_narrow_72 : decode cX11_narrow 72 = .ok (.iadd, 1) := by decide +kernel
theorem dX11_narrow_73 : decode cX11_narrow 73 = .ok (.invokestatic 289, 3) := by decide +kernel
theorem dX11_narrow_76 : decode cX11_narrow 76 = .ok (.invokestatic 283, 3) := by decide +kernel
theorem dX11_narrow_79 : decode cX11_narrow 79 = .ok (.istore_n 1, 1) := by decide +kernel
theorem dX11_narrow_80 : decode cX11_narrow 80 = .ok (.iinc 2 1, 3) := by decide +kernel
theorem dX11_narrow_83 : decode cX11_narrow 83 = .ok (.goto (-65), 3) := by decide +kernel
theorem dX11_narrow_86 : decode cX11_narrow 86 = .ok (.iload_n 1, 1) := by decide +kernel
theorem dX11_narrow_87 : decode cX11_narrow 87 = .ok (.sipush 999, 3) := by decide +kernel
theorem dX11_narrow_90 : decode cX11_narrow 90 = .ok (.if_icmp .le 7, 3) := by decide +kernel
theorem dX11_narrow_93 : decode cX11_narrow 93 = .ok (.iconst (-1), 1) := by decide +kernel
theorem dX11_narrow_94 : decode cX11_narrow 94 = .ok (.goto 4, 3) := by decide +kernel
theorem dX11_narrow_97 : decode cX11_narrow 97 = .ok (.iload_n 1, 1) := by decide +kernel
theorem dX11_narrow_98 : decode cX11_narrow 98 = .ok (.ireturn, 1) := by decide +kernel
set_option maxRecDepth 20000 in
theorem ggX11_tight_X10_look : GoodIn wsX11_tight wsX10_look := goodIn_r _ [20, 21, 22, 23, 24, 25, 26, 27, 28, 29, 30, 31, 32, 11, 33, 34, 35, 36, 37, 10, 12, 38, 39, 40, 41, 42, 43, 44, 45, 46, 47, 48, 49, 50, 51, 52, 53, 54, 55, 56, 57, 58, 59, 60, 61, 62, 63, 64, 65, 66, 14, 15, 67, 68, 69, 70, 71, 72, 73, 74, 75, 76, 77, 78, 79, 80, 81, 82, 83, 84, 85, 86, 87, 88, 89, 90, 91, 113, 114, 115, 116, 117, 118, 119, 120, 121, 122, 123, 124, 125, 126, 127, 128, 129, 130, 131, 132, 133, 134, 135, 136, 137, 138, 139, 140, 141, 142, 143, 144, 145, 146, 147] (by decide +kernel) (by decide +kernel)
set_option maxRecDepth 20000 in
theorem gX11_tight_X10_look : GoodIn wsX11_tight (wsV RX11 172 RX10 yX10_look wsX10_look) := goodIn_app (goodIn_of _ (by decide +kernel)) ggX11_tight_X10_look
set_option maxRecDepth 20000 in
theorem ggX11_tight_X11_isIn : GoodIn wsX11_tight wsX11_isIn := goodIn_r _ [94] (by decide +kernel) (by decide +kernel)
set_option maxRecDepth 20000 in
theorem gX11_tight_X11_isIn : GoodIn wsX11_tight (va_wsS RX11 212 yX11_isIn wsX11_isIn) := goodIn_app (goodIn_of _ (by decide +kernel)) ggX11_tight_X11_isIn
theorem dX11_tight_0 : decode cX11_tight 0 = .ok (.aload_n 0, 1) := by decide +kernel
theorem dX11_tight_1 : decode cX11_tight 1 = .ok (.getfield 20, 3) := by decide +kernel
theorem dX11_tight_4 : decode cX11_tight 4 = .ok (.getfield 168, 3) := by decide +kernel
theorem dX11_tight_7 : decode cX11_tight 7 = .ok (.aload_n 0, 1) := by decide +kernel
theorem dX11_tight_8 : decode cX11_tight 8 = .ok (.getfield 77, 3) := by decide +kernel
theorem dX11_tight_11 : decode cX11_tight 11 = .ok (.invokevirtual 172, 3) := by decide +kernel
theorem dX11_tight_14 : decode cX11_tight 14 = .ok (.aload_n 0, 1) := by decide +kernel
theorem dX11_tight_15 : decode cX11_tight 15 = .ok (.getfield 20, 3) := by decide +kernel
theorem dX11_tight_18 : decode cX11_tight 18 = .ok (.getfield 168, 3) := by decide +kernel
theorem dX11_tight_21 : decode cX11_tight 21 = .ok (.getfield 292, 3) := by decide +kernel
theorem dX11_tight_24 : decode cX11_tight 24 = .ok (.istore_n 1, 1) := by decide +kernel
theorem dX11_tight_25 : decode cX11_tight 25 = .ok (.iconst 1, 1) := by decide +kernel
theorem dX11_tight_26 : decode cX11_tight 26 = .ok (.istore_n 2, 1) := by decide +kernel
theorem dX11_tight_27 : decode cX11_tight 27 = .ok (.iconst 0, 1) := by decide +kernel
theorem dX11_tight_28 : decode cX11_tight 28 = .ok (.istore_n 3, 1) := by decide +kernel
theorem dX11_tight_29 : decode cX11_tight 29 = .ok (.iload_n 3, 1) := by decide +kernel
theorem dX11_tight_30 : decode cX11_tight 30 = .ok (.aload_n 0, 1) := by decide +kernel
theorem dX11_tight_31 : decode cX11_tight 31 = .ok (.getfield 77, 3) := by decide +kernel
theorem dX11_tight_34 : decode cX11_tight 34 = .ok (.getfield 145, 3) := by decide +kernel
theorem dX11_tight_37 : decode cX11_tight 37 = .ok (.if_icmp .ge 89, 3) := by decide +kernel
theorem dX11_tight_40 : decode cX11_tight 40 = .ok (.iconst 0, 1) := by decide +kernel
theorem dX11_tight_41 : decode cX11_tight 41 = .ok (.istore 4, 2) := by decide +kernel
theorem dX11_tight_43 : decode cX11_tight 43 = .ok (.iload 4, 2) := by decide +kernel
theorem dX11_tight_45 : decode cX11_tight 45 = .ok (.aload_n 0, 1) := by decide +kernel
theorem dX11_tight_46 : decode cX11_tight 46 = .ok (.getfield 77, 3) := by decide +kernel
theorem dX11_tight_49 : decode cX11_tight 49 = .ok (.getfield 145, 3) := by decide +kernel
theorem dX11_tight_52 : decode cX11_tight 52 = .ok (.if_icmp .ge 68, 3) := by decide +kernel
theorem dX11_tight_55 : decode cX11_tight 55 = .ok (.iload_n 3, 1) := by decide +kernel
theorem dX11_tight_56 : decode cX11_tight 56 = .ok (.iload 4, 2) := by decide +kernel
theorem dX11_tight_58 : decode cX11_tight 58 = .ok (.if_icmp .eq 56, 3) := by decide +kernel
theorem dX11_tight_61 : decode cX11_tight 61 = .ok (.iload_n 1, 1) := by decide +kernel
theorem dX11_tight_62 : decode cX11_tight 62 = .ok (.iload_n 3, 1) := by decide +kernel
theorem dX11_tight_63 : decode cX11_tight 63 = .ok (.invokestatic 212, 3) := by decide +kernel
theorem dX11_tight_66 : decode cX11_tight 66 = .ok (.ifCond .eq 48, 3) := by decide +kernel
theorem dX11_tight_69 : decode cX11_tight 69 = .ok (.iload_n 1, 1) := by decide +kernel
theorem dX11_tight_70 : decode cX11_tight 70 = .ok (.iload 4, 2) := by decide +kernel
theorem dX11_tight_72 : decode cX11_tight 72 = .ok (.invokestatic 212, 3) := by decide +kernel
theorem dX11_tight_75 : decode cX11_tight 75 = .ok (.ifCond .eq 39, 3) := by decide +kernel
theorem dX11_tight_78 : decode cX11_tight 78 = .ok (.iload_n 2, 1) := by decide +kernel
theorem dX11_tight_79 : decode cX11_tight 79 = .ok (.aload_n 0, 1) := by decide +kernel
theorem dX11_tight_80 : decode cX11_tight 80 = .ok (.getfield 20, 3) := by decide +kernel
theorem dX11_tight_83 : decode cX11_tight 83 = .ok (.getfield 168, 3) := by decide +kernel
theorem dX11_tight_86 : decode cX11_tight 86 = .ok (.getfield 205, 3) := by decide +kernel
theorem dX11_tight_89 : decode cX11_tight 89 = .ok (.iload 4, 2) := by decide +kernel
theorem dX11_tight_91 : decode cX11_tight 91 = .ok (.aaload, 1) := by decide +kernel
theorem dX11_tight_92 : decode cX11_tight 92 = .ok (.iload_n 3, 1) := by decide +kernel
theorem dX11_tight_93 : decode cX11_tight 93 = .ok (.iaload, 1) := by decide +kernel
theorem dX11_tight_94 : decode cX11_tight 94 = .ok (.aload_n 0, 1) := by decide +kernel
theorem dX11_tight_95 : decode cX11_tight 95 = .ok (.getfield 77, 3) := by decide +kernel
theorem dX11_tight_98 : decode cX11_tight 98 = .ok (.getfield 158, 3) := by decide +kernel
theorem dX11_tight_101 : decode cX11_tight 101 = .ok (.iload_n 3, 1) := by decide +kernel
theorem dX11_tight_102 : decode cX11_tight 102 = .ok (.aaload, 1) := by decide +kernel
theorem dX11_tight_103 : decode cX11_tight 103 = .ok (.getfield 253, 3) := by decide +kernel
theorem dX11_tight_106 : decode cX11_tight 106 = .ok (.isub, 1) := by decide +kernel
theorem dX11_tight_107 : decode cX11_tight 107 = .ok (.invokestatic 289, 3) := by decide +kernel
theorem dX11_tight_110 : decode cX11_tight 110 = .ok (.invokestatic 283, 3) := by decide +kernel
theorem dX11_tight_113 : decode cX11_tight 113 = .ok (.istore_n 2, 1) := by decide +kernel
theorem dX11_tight_114 : decode cX11_tight 114 = .ok (.iinc 4 1, 3) := by decide +kernel
theorem dX11_tight_117 : decode cX11_tight 117 = .ok (.goto (-74), 3) := by decide +kernel
theorem dX11_tight_120 : decode cX11_tight 120 = .ok (.iinc 3 1, 3) := by decide +kernel
theorem dX11_tight_123 : decode cX11_tight 123 = .ok (.goto (-94), 3) := by decide +kernel
theorem dX11_tight_126 : decode cX11_tight 126 = .ok (.iload_n 2, 1) := by decide +kernel
theorem dX11_tight_127 : decode cX11_tight 127 = .ok (.sipush 999, 3) := by decide +kernel
theorem dX11_tight_130 : decode cX11_tight 130 = .ok (.if_icmp .le 7, 3) := by decide +kernel
theorem dX11_tight_133 : decode cX11_tight 133 = .ok (.iconst (-1), 1) := by decide +kernel
theorem dX11_tight_134 : decode cX11_tight 134 = .ok (.goto 4, 3) := by decide +kernel
theorem dX11_tight_137 : decode cX11_tight 137 = .ok (.iload_n 2, 1) := by decide +kernel
theorem dX11_tight_138 : decode cX11_tight 138 = .ok (.ireturn, 1) := by decide +kernel
set_option maxRecDepth 20000 in
theorem ggX11_spare_X10_look : GoodIn wsX11_spare wsX10_look := goodIn_r _ [9, 10, 11, 12, 13, 14, 15, 16, 17, 18, 19, 20, 21, 22, 23, 24, 25, 26, 27, 28, 29, 30, 31, 32, 33, 34, 35, 36, 37, 38, 39, 40, 41, 42, 43, 44, 45, 46, 47, 48, 49, 50, 51, 52, 53, 54, 55, 56, 57, 58, 59, 60, 61, 62, 63, 64, 65, 66, 67, 68, 69, 70, 71, 72, 73, 74, 75, 76, 77, 78, 79, 80, 81, 82, 83, 84, 85, 124, 125, 126, 127, 128, 129, 130, 131, 132, 133, 134, 135, 136, 137, 138, 139, 140, 141, 142, 143, 144, 145, 146, 147, 148, 149, 150, 151, 152, 153, 154, 155, 156, 157, 158] (by decide +kernel) (by decide +kernel)
set_option maxRecDepth 20000 in
theorem gX11_spare_X10_look : GoodIn wsX11_spare (wsV RX11 172 RX10 yX10_look wsX10_look) := goodIn_app (goodIn_of _ (by decide +kernel)) ggX11_spare_X10_look
set_option maxRecDepth 20000 in
theorem ggX11_spare_X1_load : GoodIn wsX11_spare wsX1_load := goodIn_r _ [90, 91, 92, 93, 94, 95, 42, 96, 41, 43, 124, 125, 126, 127, 128, 129, 130, 159, 160, 161, 162, 163] (by decide +kernel) (by decide +kernel)
set_option maxRecDepth 20000 in
theorem gX11_spare_X1_load : GoodIn wsX11_spare (wsV RX11 190 RX1 yX1_load wsX1_load) := goodIn_app (goodIn_of _ (by decide +kernel)) ggX11_spare_X1_load
set_option maxRecDepth 20000 in
theorem ggX11_spare_X1_fewestToSpare : GoodIn wsX11_spare wsX1_fewestToSpare := goodIn_r _ [100, 92, 101, 77, 78, 79, 80, 81, 82, 102, 103, 104, 89, 105, 93, 95, 42, 96, 41, 43, 159, 160, 161, 162, 163] (by decide +kernel) (by decide +kernel)
set_option maxRecDepth 20000 in
theorem gX11_spare_X1_fewestToSpare : GoodIn wsX11_spare (wsV RX11 295 RX1 yX1_fewestToSpare wsX1_fewestToSpare) := goodIn_app (goodIn_of _ (by decide +kernel)) ggX11_spare_X1_fewestToSpare
theorem dX11_spare_0 : decode cX11_spare 0 = .ok (.aload_n 0, 1) := by decide +kernel
theorem dX11_spare_1 : decode cX11_spare 1 = .ok (.getfield 20, 3) := by decide +kernel
theorem dX11_spare_4 : decode cX11_spare 4 = .ok (.getfield 168, 3) := by decide +kernel
theorem dX11_spare_7 : decode cX11_spare 7 = .ok (.aload_n 0, 1) := by decide +kernel
theorem dX11_spare_8 : decode cX11_spare 8 = .ok (.getfield 77, 3) := by decide +kernel
theorem dX11_spare_11 : decode cX11_spare 11 = .ok (.invokevirtual 172, 3) := by decide +kernel
theorem dX11_spare_14 : decode cX11_spare 14 = .ok (.aload_n 0, 1) := by decide +kernel
theorem dX11_spare_15 : decode cX11_spare 15 = .ok (.getfield 27, 3) := by decide +kernel
theorem dX11_spare_18 : decode cX11_spare 18 = .ok (.aload_n 0, 1) := by decide +kernel
theorem dX11_spare_19 : decode cX11_spare 19 = .ok (.getfield 20, 3) := by decide +kernel
theorem dX11_spare_22 : decode cX11_spare 22 = .ok (.getfield 168, 3) := by decide +kernel
theorem dX11_spare_25 : decode cX11_spare 25 = .ok (.invokevirtual 190, 3) := by decide +kernel
theorem dX11_spare_28 : decode cX11_spare 28 = .ok (.aload_n 0, 1) := by decide +kernel
theorem dX11_spare_29 : decode cX11_spare 29 = .ok (.getfield 27, 3) := by decide +kernel
theorem dX11_spare_32 : decode cX11_spare 32 = .ok (.invokevirtual 295, 3) := by decide +kernel
theorem dX11_spare_35 : decode cX11_spare 35 = .ok (.ireturn, 1) := by decide +kernel
set_option maxRecDepth 20000 in
theorem ggX11_order_X7_spreadOfClocks : GoodIn wsX11_order wsX7_spreadOfClocks := goodIn_r _ [7, 8, 9, 10, 11, 12, 13, 14, 15, 16, 17, 18, 49, 50, 51, 52, 53, 54, 55, 56, 57, 58, 59, 60, 61, 62, 63, 64, 65, 66, 67, 68, 69, 70] (by decide +kernel) (by decide +kernel)
set_option maxRecDepth 20000 in
theorem gX11_order_X7_spreadOfClocks : GoodIn wsX11_order (wsV RX11 266 RX7 yX7_spreadOfClocks wsX7_spreadOfClocks) := goodIn_app (goodIn_of _ (by decide +kernel)) ggX11_order_X7_spreadOfClocks
set_option maxRecDepth 20000 in
theorem ggX11_order_X1_inOrder : GoodIn wsX11_order wsX1_inOrder := goodIn_r _ [23, 24, 25, 26, 27, 22, 28, 29, 30, 31, 32, 71, 72, 73, 74, 75, 49, 50, 51, 52, 53, 54, 55, 56, 57, 58, 59, 60, 61, 62, 63, 64, 65, 66, 67, 68, 69, 70] (by decide +kernel) (by decide +kernel)
set_option maxRecDepth 20000 in
theorem gX11_order_X1_inOrder : GoodIn wsX11_order (wsV RX11 298 RX1 yX1_inOrder wsX1_inOrder) := goodIn_app (goodIn_of _ (by decide +kernel)) ggX11_order_X1_inOrder
theorem dX11_order_0 : decode cX11_order 0 = .ok (.iload_n 1, 1) := by decide +kernel
theorem dX11_order_1 : decode cX11_order 1 = .ok (.iconst (-1), 1) := by decide +kernel
theorem dX11_order_2 : decode cX11_order 2 = .ok (.if_icmp .ne 13, 3) := by decide +kernel
theorem dX11_order_5 : decode cX11_order 5 = .ok (.aload_n 0, 1) := by decide +kernel
theorem dX11_order_6 : decode cX11_order 6 = .ok (.getfield 77, 3) := by decide +kernel
theorem dX11_order_9 : decode cX11_order 9 = .ok (.invokevirtual 266, 3) := by decide +kernel
theorem dX11_order_12 : decode cX11_order 12 = .ok (.goto 15, 3) := by decide +kernel
theorem dX11_order_15 : decode cX11_order 15 = .ok (.aload_n 0, 1) := by decide +kernel
theorem dX11_order_16 : decode cX11_order 16 = .ok (.getfield 27, 3) := by decide +kernel
theorem dX11_order_19 : decode cX11_order 19 = .ok (.aload_n 0, 1) := by decide +kernel
theorem dX11_order_20 : decode cX11_order 20 = .ok (.getfield 77, 3) := by decide +kernel
theorem dX11_order_23 : decode cX11_order 23 = .ok (.iload_n 1, 1) := by decide +kernel
theorem dX11_order_24 : decode cX11_order 24 = .ok (.invokevirtual 298, 3) := by decide +kernel
theorem dX11_order_27 : decode cX11_order 27 = .ok (.ireturn, 1) := by decide +kernel
set_option maxRecDepth 20000 in
theorem ggX11_courseRows_X11_useTape : GoodIn wsX11_courseRows wsX11_useTape := goodIn_r _ [6, 7, 8, 9, 10, 11, 12, 13, 14, 15, 16, 17, 18, 19, 20, 21, 22, 23] (by decide +kernel) (by decide +kernel)
set_option maxRecDepth 20000 in
theorem gX11_courseRows_X11_useTape : GoodIn wsX11_courseRows (wsV RX11 101 RX11 yX11_useTape wsX11_useTape) := goodIn_app (goodIn_of _ (by decide +kernel)) ggX11_courseRows_X11_useTape
theorem dX11_courseRows_0 : decode cX11_courseRows 0 = .ok (.aload_n 0, 1) := by decide +kernel
theorem dX11_courseRows_1 : decode cX11_courseRows 1 = .ok (.invokevirtual 101, 3) := by decide +kernel
theorem dX11_courseRows_4 : decode cX11_courseRows 4 = .ok (.istore_n 1, 1) := by decide +kernel
theorem dX11_courseRows_5 : decode cX11_courseRows 5 = .ok (.iload_n 1, 1) := by decide +kernel
theorem dX11_courseRows_6 : decode cX11_courseRows 6 = .ok (.bipush 40, 2) := by decide +kernel
theorem dX11_courseRows_8 : decode cX11_courseRows 8 = .ok (.if_icmp .gt 9, 3) := by decide +kernel
theorem dX11_courseRows_11 : decode cX11_courseRows 11 = .ok (.iload_n 1, 1) := by decide +kernel
theorem dX11_courseRows_12 : decode cX11_courseRows 12 = .ok (.iconst 2, 1) := by decide +kernel
theorem dX11_courseRows_13 : decode cX11_courseRows 13 = .ok (.irem, 1) := by decide +kernel
theorem dX11_courseRows_14 : decode cX11_courseRows 14 = .ok (.ifCond .eq 5, 3) := by decide +kernel
theorem dX11_courseRows_17 : decode cX11_courseRows 17 = .ok (.iconst (-1), 1) := by decide +kernel
theorem dX11_courseRows_18 : decode cX11_courseRows 18 = .ok (.ireturn, 1) := by decide +kernel
theorem dX11_courseRows_19 : decode cX11_courseRows 19 = .ok (.iconst 0, 1) := by decide +kernel
theorem dX11_courseRows_20 : decode cX11_courseRows 20 = .ok (.istore_n 2, 1) := by decide +kernel
theorem dX11_courseRows_21 : decode cX11_courseRows 21 = .ok (.iload_n 2, 1) := by decide +kernel
theorem dX11_courseRows_22 : decode cX11_courseRows 22 = .ok (.iload_n 1, 1) := by decide +kernel
theorem dX11_courseRows_23 : decode cX11_courseRows 23 = .ok (.if_icmp .ge 22, 3) := by decide +kernel
theorem dX11_courseRows_26 : decode cX11_courseRows 26 = .ok (.aload_n 0, 1) := by decide +kernel
theorem dX11_courseRows_27 : decode cX11_courseRows 27 = .ok (.getfield 9, 3) := by decide +kernel
theorem dX11_courseRows_30 : decode cX11_courseRows 30 = .ok (.iload_n 2, 1) := by decide +kernel
theorem dX11_courseRows_31 : decode cX11_courseRows 31 = .ok (.iaload, 1) := by decide +kernel
theorem dX11_courseRows_32 : decode cX11_courseRows 32 = .ok (.bipush 99, 2) := by decide +kernel
theorem dX11_courseRows_34 : decode cX11_courseRows 34 = .ok (.if_icmp .le 5, 3) := by decide +kernel
theorem dX11_courseRows_37 : decode cX11_courseRows 37 = .ok (.iconst (-1), 1) := by decide +kernel
theorem dX11_courseRows_38 : decode cX11_courseRows 38 = .ok (.ireturn, 1) := by decide +kernel
theorem dX11_courseRows_39 : decode cX11_courseRows 39 = .ok (.iinc 2 2, 3) := by decide +kernel
theorem dX11_courseRows_42 : decode cX11_courseRows 42 = .ok (.goto (-21), 3) := by decide +kernel
theorem dX11_courseRows_45 : decode cX11_courseRows 45 = .ok (.iload_n 1, 1) := by decide +kernel
theorem dX11_courseRows_46 : decode cX11_courseRows 46 = .ok (.iconst 2, 1) := by decide +kernel
theorem dX11_courseRows_47 : decode cX11_courseRows 47 = .ok (.idiv, 1) := by decide +kernel
theorem dX11_courseRows_48 : decode cX11_courseRows 48 = .ok (.ireturn, 1) := by decide +kernel
set_option maxRecDepth 20000 in
theorem ggX11_read_X11_courseRows : GoodIn wsX11_read wsX11_courseRows := goodIn_r _ [9, 4, 10, 11, 12, 8, 13, 14, 33, 34, 35, 36, 37, 38, 39, 40, 41, 42, 43, 44, 45, 46, 47, 48] (by decide +kernel) (by decide +kernel)
set_option maxRecDepth 20000 in
theorem gX11_read_X11_courseRows : GoodIn wsX11_read (wsV RX11 302 RX11 yX11_courseRows wsX11_courseRows) := goodIn_app (goodIn_of _ (by decide +kernel)) ggX11_read_X11_courseRows
set_option maxRecDepth 20000 in
theorem ggX11_read_X2_weighCourses : GoodIn wsX11_read wsX2_weighCourses := goodIn_r _ [19, 20, 21, 22, 23, 18, 24, 49, 50, 51] (by decide +kernel) (by decide +kernel)
set_option maxRecDepth 20000 in
theorem gX11_read_X2_weighCourses : GoodIn wsX11_read (wsV RX11 305 RX2 yX2_weighCourses wsX2_weighCourses) := goodIn_app (goodIn_of _ (by decide +kernel)) ggX11_read_X2_weighCourses
set_option maxRecDepth 20000 in
theorem ggX11_read_X2_firstFit : GoodIn wsX11_read wsX2_firstFit := goodIn_r _ [28, 20, 21, 49, 50, 51] (by decide +kernel) (by decide +kernel)
set_option maxRecDepth 20000 in
theorem gX11_read_X2_firstFit : GoodIn wsX11_read (wsV RX11 308 RX2 yX2_firstFit wsX2_firstFit) := goodIn_app (goodIn_of _ (by decide +kernel)) ggX11_read_X2_firstFit
set_option maxRecDepth 20000 in
theorem ggX11_read_X2_countFits : GoodIn wsX11_read wsX2_countFits := goodIn_r _ [32, 20, 21, 49, 50, 51] (by decide +kernel) (by decide +kernel)
set_option maxRecDepth 20000 in
theorem gX11_read_X2_countFits : GoodIn wsX11_read (wsV RX11 311 RX2 yX2_countFits wsX2_countFits) := goodIn_app (goodIn_of _ (by decide +kernel)) ggX11_read_X2_countFits
theorem dX11_read_0 : decode cX11_read 0 = .ok (.aload_n 0, 1) := by decide +kernel
theorem dX11_read_1 : decode cX11_read 1 = .ok (.invokevirtual 302, 3) := by decide +kernel
theorem dX11_read_4 : decode cX11_read 4 = .ok (.istore_n 2, 1) := by decide +kernel
theorem dX11_read_5 : decode cX11_read 5 = .ok (.iload_n 2, 1) := by decide +kernel
theorem dX11_read_6 : decode cX11_read 6 = .ok (.iconst (-1), 1) := by decide +kernel
theorem dX11_read_7 : decode cX11_read 7 = .ok (.if_icmp .ne 11, 3) := by decide +kernel
theorem dX11_read_10 : decode cX11_read 10 = .ok (.new 119, 3) := by decide +kernel
theorem dX11_read_13 : decode cX11_read 13 = .ok (.dup, 1) := by decide +kernel
theorem dX11_read_14 : decode cX11_read 14 = .ok (.invokespecial 121, 3) := by decide +kernel
theorem dX11_read_17 : decode cX11_read 17 = .ok (.athrow, 1) := by decide +kernel
theorem dX11_read_18 : decode cX11_read 18 = .ok (.aload_n 0, 1) := by decide +kernel
theorem dX11_read_19 : decode cX11_read 19 = .ok (.getfield 34, 3) := by decide +kernel
theorem dX11_read_22 : decode cX11_read 22 = .ok (.aload_n 0, 1) := by decide +kernel
theorem dX11_read_23 : decode cX11_read 23 = .ok (.getfield 9, 3) := by decide +kernel
theorem dX11_read_26 : decode cX11_read 26 = .ok (.iload_n 2, 1) := by decide +kernel
theorem dX11_read_27 : decode cX11_read 27 = .ok (.invokevirtual 305, 3) := by decide +kernel
theorem dX11_read_30 : decode cX11_read 30 = .ok (.iload_n 1, 1) := by decide +kernel
theorem dX11_read_31 : decode cX11_read 31 = .ok (.ifCond .eq 13, 3) := by decide +kernel
theorem dX11_read_34 : decode cX11_read 34 = .ok (.aload_n 0, 1) := by decide +kernel
theorem dX11_read_35 : decode cX11_read 35 = .ok (.getfield 34, 3) := by decide +kernel
theorem dX11_read_38 : decode cX11_read 38 = .ok (.invokevirtual 308, 3) := by decide +kernel
theorem dX11_read_41 : decode cX11_read 41 = .ok (.goto 10, 3) := by decide +kernel
theorem dX11_read_44 : decode cX11_read 44 = .ok (.aload_n 0, 1) := by decide +kernel
theorem dX11_read_45 : decode cX11_read 45 = .ok (.getfield 34, 3) := by decide +kernel
theorem dX11_read_48 : decode cX11_read 48 = .ok (.invokevirtual 311, 3) := by decide +kernel
theorem dX11_read_51 : decode cX11_read 51 = .ok (.ireturn, 1) := by decide +kernel
set_option maxRecDepth 20000 in
theorem ggX11_when_X11_courseRows : GoodIn wsX11_when wsX11_courseRows := goodIn_r _ [9, 4, 10, 11, 12, 8, 13, 14, 42, 43, 44, 45, 46, 47, 48, 49, 50, 51, 52, 53, 54, 55, 56, 57] (by decide +kernel) (by decide +kernel)
set_option maxRecDepth 20000 in
theorem gX11_when_X11_courseRows : GoodIn wsX11_when (wsV RX11 302 RX11 yX11_courseRows wsX11_courseRows) := goodIn_app (goodIn_of _ (by decide +kernel)) ggX11_when_X11_courseRows
set_option maxRecDepth 20000 in
theorem ggX11_when_X2_weighCourses : GoodIn wsX11_when wsX2_weighCourses := goodIn_r _ [19, 20, 21, 22, 23, 18, 24, 58, 59, 60] (by decide +kernel) (by decide +kernel)
set_option maxRecDepth 20000 in
theorem gX11_when_X2_weighCourses : GoodIn wsX11_when (wsV RX11 305 RX2 yX2_weighCourses wsX2_weighCourses) := goodIn_app (goodIn_of _ (by decide +kernel)) ggX11_when_X2_weighCourses
set_option maxRecDepth 20000 in
theorem ggX11_when_X2_bestRound : GoodIn wsX11_when wsX2_bestRound := goodIn_r _ [28, 29, 30, 31, 18, 32, 20, 21, 33, 34, 35, 36, 37, 38, 39, 40, 41, 22, 23, 24, 58, 59, 60] (by decide +kernel) (by decide +kernel)
set_option maxRecDepth 20000 in
theorem gX11_when_X2_bestRound : GoodIn wsX11_when (wsV RX11 314 RX2 yX2_bestRound wsX2_bestRound) := goodIn_app (goodIn_of _ (by decide +kernel)) ggX11_when_X2_bestRound
theorem dX11_when_0 : decode cX11_when 0 = .ok (.aload_n 0, 1) := by decide +kernel
theorem dX11_when_1 : decode cX11_when 1 = .ok (.invokevirtual 302, 3) := by decide +kernel
theorem dX11_when_4 : decode cX11_when 4 = .ok (.istore_n 1, 1) := by decide +kernel
theorem dX11_when_5 : decode cX11_when 5 = .ok (.iload_n 1, 1) := by decide +kernel
theorem dX11_when_6 : decode cX11_when 6 = .ok (.iconst (-1), 1) := by decide +kernel
theorem dX11_when_7 : decode cX11_when 7 = .ok (.if_icmp .ne 11, 3) := by decide +kernel
theorem dX11_when_10 : decode cX11_when 10 = .ok (.new 119, 3) := by decide +kernel
theorem dX11_when_13 : decode cX11_when 13 = .ok (.dup, 1) := by decide +kernel
theorem dX11_when_14 : decode cX11_when 14 = .ok (.invokespecial 121, 3) := by decide +kernel
theorem dX11_when_17 : decode cX11_when 17 = .ok (.athrow, 1) := by decide +kernel
theorem dX11_when_18 : decode cX11_when 18 = .ok (.aload_n 0, 1) := by decide +kernel
theorem dX11_when_19 : decode cX11_when 19 = .ok (.getfield 34, 3) := by decide +kernel
theorem dX11_when_22 : decode cX11_when 22 = .ok (.aload_n 0, 1) := by decide +kernel
theorem dX11_when_23 : decode cX11_when 23 = .ok (.getfield 9, 3) := by decide +kernel
theorem dX11_when_26 : decode cX11_when 26 = .ok (.iload_n 1, 1) := by decide +kernel
theorem dX11_when_27 : decode cX11_when 27 = .ok (.invokevirtual 305, 3) := by decide +kernel
theorem dX11_when_30 : decode cX11_when 30 = .ok (.aload_n 0, 1) := by decide +kernel
theorem dX11_when_31 : decode cX11_when 31 = .ok (.getfield 34, 3) := by decide +kernel
theorem dX11_when_34 : decode cX11_when 34 = .ok (.invokevirtual 314, 3) := by decide +kernel
theorem dX11_when_37 : decode cX11_when 37 = .ok (.ireturn, 1) := by decide +kernel
set_option maxRecDepth 20000 in
theorem ggX11_judgementRows_X11_useTape : GoodIn wsX11_judgementRows wsX11_useTape := goodIn_r _ [6, 7, 8, 9, 10, 11, 12, 13, 14, 15, 16, 17, 18, 19, 20, 21, 22, 23] (by decide +kernel) (by decide +kernel)
set_option maxRecDepth 20000 in
theorem gX11_judgementRows_X11_useTape : GoodIn wsX11_judgementRows (wsV RX11 101 RX11 yX11_useTape wsX11_useTape) := goodIn_app (goodIn_of _ (by decide +kernel)) ggX11_judgementRows_X11_useTape
theorem dX11_judgementRows_0 : decode cX11_judgementRows 0 = .ok (.aload_n 0, 1) := by decide +kernel
theorem dX11_judgementRows_1 : decode cX11_judgementRows 1 = .ok (.invokevirtual 101, 3) := by decide +kernel
theorem dX11_judgementRows_4 : decode cX11_judgementRows 4 = .ok (.istore_n 1, 1) := by decide +kernel
theorem dX11_judgementRows_5 : decode cX11_judgementRows 5 = .ok (.iload_n 1, 1) := by decide +kernel
theorem dX11_judgementRows_6 : decode cX11_judgementRows 6 = .ok (.bipush 60, 2) := by decide +kernel
theorem dX11_judgementRows_8 : decode cX11_judgementRows 8 = .ok (.if_icmp .gt 9, 3) := by decide +kernel
theorem dX11_judgementRows_11 : decode cX11_judgementRows 11 = .ok (.iload_n 1, 1) := by decide +kernel
theorem dX11_judgementRows_12 : decode cX11_judgementRows 12 = .ok (.iconst 3, 1) := by decide +kernel
theorem dX11_judgementRows_13 : decode cX11_judgementRows 13 = .ok (.irem, 1) := by decide +kernel
theorem dX11_judgementRows_14 : decode cX11_judgementRows 14 = .ok (.ifCond .eq 5, 3) := by decide +kernel
theorem dX11_judgementRows_17 : decode cX11_judgementRows 17 = .ok (.iconst (-1), 1) := by decide +kernel
theorem dX11_judgementRows_18 : decode cX11_judgementRows 18 = .ok (.ireturn, 1) := by decide +kernel
theorem dX11_judgementRows_19 : decode cX11_judgementRows 19 = .ok (.iconst 0, 1) := by decide +kernel
theorem dX11_judgementRows_20 : decode cX11_judgementRows 20 = .ok (.istore_n 2, 1) := by decide +kernel
theorem dX11_judgementRows_21 : decode cX11_judgementRows 21 = .ok (.iload_n 2, 1) := by decide +kernel
theorem dX11_judgementRows_22 : decode cX11_judgementRows 22 = .ok (.iconst 2, 1) := by decide +kernel
theorem dX11_judgementRows_23 : decode cX11_judgementRows 23 = .ok (.iadd, 1) := by decide +kernel
theorem dX11_judgementRows_24 : decode cX11_judgementRows 24 = .ok (.iload_n 1, 1) := by decide +kernel
theorem dX11_judgementRows_25 : decode cX11_judgementRows 25 = .ok (.if_icmp .ge 74, 3) := by decide +kernel
theorem dX11_judgementRows_28 : decode cX11_judgementRows 28 = .ok (.aload_n 0, 1) := by decide +kernel
theorem dX11_judgementRows_29 : decode cX11_judgementRows 29 = .ok (.getfield 9, 3) := by decide +kernel
theorem dX11_judgementRows_32 : decode cX11_judgementRows 32 = .ok (.iload_n 2, 1) := by decide +kernel
theorem dX11_judgementRows_33 : decode cX11_judgementRows 33 = .ok (.iaload, 1) := by decide +kernel
theorem dX11_judgementRows_34 : decode cX11_judgementRows 34 = .ok (.bipush 8, 2) := by decide +kernel
theorem dX11_judgementRows_36 : decode cX11_judgementRows 36 = .ok (.if_icmp .ge 37, 3) := by decide +kernel
theorem dX11_judgementRows_39 : decode cX11_judgementRows 39 = .ok (.aload_n 0, 1) := by decide +kernel
theorem dX11_judgementRows_40 : decode cX11_judgementRows 40 = .ok (.getfield 9, 3) := by decide +kernel
theorem dX11_judgementRows_43 : decode cX11_judgementRows 43 = .ok (.iload_n 2, 1) := by decide +kernel
theorem dX11_judgementRows_44 : decode cX11_judgementRows 44 = .ok (.iconst 1, 1) := by decide +kernel
theorem dX11_judgementRows_45 : decode cX11_judgementRows 45 = .ok (.iadd, 1) := by decide +kernel
theorem dX11_judgementRows_46 : decode cX11_judgementRows 46 = .ok (.iaload, 1) := by decide +kernel
theorem dX11_judgementRows_47 : decode cX11_judgementRows 47 = .ok (.bipush 8, 2) := by decide +kernel
theorem dX11_judgementRows_49 : decode cX11_judgementRows 49 = .ok (.if_icmp .ge 24, 3) := by decide +kernel
theorem dX11_judgementRows_52 : decode cX11_judgementRows 52 = .ok (.aload_n 0, 1) := by decide +kernel
theorem dX11_judgementRows_53 : decode cX11_judgementRows 53 = .ok (.getfield 9, 3) := by decide +kernel
theorem dX11_judgementRows_56 : decode cX11_judgementRows 56 = .ok (.iload_n 2, 1) := by decide +kernel
theorem dX11_judgementRows_57 : decode cX11_judgementRows 57 = .ok (.iaload, 1) := by decide +kernel
theorem dX11_judgementRows_58 : decode cX11_judgementRows 58 = .ok (.aload_n 0, 1) := by decide +kernel
theorem dX11_judgementRows_59 : decode cX11_judgementRows 59 = .ok (.getfield 9, 3) := by decide +kernel
theorem dX11_judgementRows_62 : decode cX11_judgementRows 62 = .ok (.iload_n 2, 1) := by decide +kernel
theorem dX11_judgementRows_63 : decode cX11_judgementRows 63 = .ok (.iconst 1, 1) := by decide +kernel
theorem dX11_judgementRows_64 : decode cX11_judgementRows 64 = .ok (.iadd, 1) := by decide +kernel
theorem dX11_judgementRows_65 : decode cX11_judgementRows 65 = .ok (.iaload, 1) := by decide +kernel
theorem dX11_judgementRows_66 : decode cX11_judgementRows 66 = .ok (.if_icmp .eq 7, 3) := by decide +kernel
theorem dX11_judgementRows_69 : decode cX11_judgementRows 69 = .ok (.iconst 1, 1) := by decide +kernel
theorem dX11_judgementRows_70 : decode cX11_judgementRows 70 = .ok (.goto 4, 3) := by decide +kernel
theorem dX11_judgementRows_73 : decode cX11_judgementRows 73 = .ok (.iconst 0, 1) := by decide +kernel
theorem dX11_judgementRows_74 : decode cX11_judgementRows 74 = .ok (.istore_n 3, 1) := by decide +kernel
theorem dX11_judgementRows_75 : decode cX11_judgementRows 75 = .ok (.iload_n 3, 1) := by decide +kernel
theorem dX11_judgementRows_76 : decode cX11_judgementRows 76 = .ok (.ifCond .eq 15, 3) := by decide +kernel
theorem dX11_judgementRows_79 : decode cX11_judgementRows 79 = .ok (.aload_n 0, 1) := by decide +kernel
theorem dX11_judgementRows_80 : decode cX11_judgementRows 80 = .ok (.getfield 9, 3) := by decide +kernel
theorem dX11_judgementRows_83 : decode cX11_judgementRows 83 = .ok (.iload_n 2, 1) := by decide +kernel
theorem dX11_judgementRows_84 : decode cX11_judgementRows 84 = .ok (.iconst 2, 1) := by decide +kernel
theorem dX11_judgementRows_85 : decode cX11_judgementRows 85 = .ok (.iadd, 1) := by decide +kernel
theorem dX11_judgementRows_86 : decode cX11_judgementRows 86 = .ok (.iaload, 1) := by decide +kernel
theorem dX11_judgementRows_87 : decode cX11_judgementRows 87 = .ok (.iconst 1, 1) := by decide +kernel
theorem dX11_judgementRows_88 : decode cX11_judgementRows 88 = .ok (.if_icmp .le 5, 3) := by decide +kernel
theorem dX11_judgementRows_91 : decode cX11_judgementRows 91 = .ok (.iconst (-1), 1) := by decide +kernel
theorem dX11_judgementRows_92 : decode cX11_judgementRows 92 = .ok (.ireturn, 1) := by decide +kernel
theorem dX11_judgementRows_93 : decode cX11_judgementRows 93 = .ok (.iinc 2 3, 3) := by decide +kernel
theorem dX11_judgementRows_96 : decode cX11_judgementRows 96 = .ok (.goto (-75), 3) := by decide +kernel
theorem dX11_judgementRows_99 : decode cX11_judgementRows 99 = .ok (.iload_n 1, 1) := by decide +kernel
theorem dX11_judgementRows_100 : decode cX11_judgementRows 100 = .ok (.iconst 3, 1) := by decide +kernel
theorem dX11_judgementRows_101 : decode cX11_judgementRows 101 = .ok (.idiv, 1) := by decide +kernel
theorem dX11_judgementRows_102 : decode cX11_judgementRows 102 = .ok (.ireturn, 1) := by decide +kernel
set_option maxRecDepth 20000 in
theorem ggX11_blame_X11_judgementRows : GoodIn wsX11_blame wsX11_judgementRows := goodIn_r _ [9, 4, 10, 11, 12, 8, 13, 14, 29, 30, 31, 32, 33, 34, 35, 36, 37, 38, 39, 40, 41, 42, 43, 44] (by decide +kernel) (by decide +kernel)
set_option maxRecDepth 20000 in
theorem gX11_blame_X11_judgementRows : GoodIn wsX11_blame (wsV RX11 317 RX11 yX11_judgementRows wsX11_judgementRows) := goodIn_app (goodIn_of _ (by decide +kernel)) ggX11_blame_X11_judgementRows
set_option maxRecDepth 20000 in
theorem ggX11_blame_X2_weighBlames : GoodIn wsX11_blame wsX2_weighBlames := goodIn_r _ [19, 20, 21, 22, 23, 18, 24, 45, 46, 47] (by decide +kernel) (by decide +kernel)
set_option maxRecDepth 20000 in
theorem gX11_blame_X2_weighBlames : GoodIn wsX11_blame (wsV RX11 320 RX2 yX2_weighBlames wsX2_weighBlames) := goodIn_app (goodIn_of _ (by decide +kernel)) ggX11_blame_X2_weighBlames
set_option maxRecDepth 20000 in
theorem ggX11_blame_X2_countFits : GoodIn wsX11_blame wsX2_countFits := goodIn_r _ [28, 20, 21, 45, 46, 47] (by decide +kernel) (by decide +kernel)
set_option maxRecDepth 20000 in
theorem gX11_blame_X2_countFits : GoodIn wsX11_blame (wsV RX11 311 RX2 yX2_countFits wsX2_countFits) := goodIn_app (goodIn_of _ (by decide +kernel)) ggX11_blame_X2_countFits
theorem dX11_blame_0 : decode cX11_blame 0 = .ok (.aload_n 0, 1) := by decide +kernel
theorem dX11_blame_1 : decode cX11_blame 1 = .ok (.invokevirtual 317, 3) := by decide +kernel
theorem dX11_blame_4 : decode cX11_blame 4 = .ok (.istore_n 1, 1) := by decide +kernel
theorem dX11_blame_5 : decode cX11_blame 5 = .ok (.iload_n 1, 1) := by decide +kernel
theorem dX11_blame_6 : decode cX11_blame 6 = .ok (.iconst (-1), 1) := by decide +kernel
theorem dX11_blame_7 : decode cX11_blame 7 = .ok (.if_icmp .ne 11, 3) := by decide +kernel
theorem dX11_blame_10 : decode cX11_blame 10 = .ok (.new 119, 3) := by decide +kernel
theorem dX11_blame_13 : decode cX11_blame 13 = .ok (.dup, 1) := by decide +kernel
theorem dX11_blame_14 : decode cX11_blame 14 = .ok (.invokespecial 121, 3) := by decide +kernel
theorem dX11_blame_17 : decode cX11_blame 17 = .ok (.athrow, 1) := by decide +kernel
theorem dX11_blame_18 : decode cX11_blame 18 = .ok (.aload_n 0, 1) := by decide +kernel
theorem dX11_blame_19 : decode cX11_blame 19 = .ok (.getfield 34, 3) := by decide +kernel
theorem dX11_blame_22 : decode cX11_blame 22 = .ok (.aload_n 0, 1) := by decide +kernel
theorem dX11_blame_23 : decode cX11_blame 23 = .ok (.getfield 9, 3) := by decide +kernel
theorem dX11_blame_26 : decode cX11_blame 26 = .ok (.iload_n 1, 1) := by decide +kernel
theorem dX11_blame_27 : decode cX11_blame 27 = .ok (.invokevirtual 320, 3) := by decide +kernel
theorem dX11_blame_30 : decode cX11_blame 30 = .ok (.aload_n 0, 1) := by decide +kernel
theorem dX11_blame_31 : decode cX11_blame 31 = .ok (.getfield 34, 3) := by decide +kernel
theorem dX11_blame_34 : decode cX11_blame 34 = .ok (.invokevirtual 311, 3) := by decide +kernel
theorem dX11_blame_37 : decode cX11_blame 37 = .ok (.ireturn, 1) := by decide +kernel
set_option maxRecDepth 20000 in
theorem ggX11_guilty_X11_judgementRows : GoodIn wsX11_guilty wsX11_judgementRows := goodIn_r _ [9, 4, 10, 11, 12, 8, 13, 14, 29, 30, 31, 32, 33, 34, 35, 36, 37, 38, 39, 40, 41, 42, 43, 44] (by decide +kernel) (by decide +kernel)
set_option maxRecDepth 20000 in
theorem gX11_guilty_X11_judgementRows : GoodIn wsX11_guilty (wsV RX11 317 RX11 yX11_judgementRows wsX11_judgementRows) := goodIn_app (goodIn_of _ (by decide +kernel)) ggX11_guilty_X11_judgementRows
set_option maxRecDepth 20000 in
theorem ggX11_guilty_X2_weighBlames : GoodIn wsX11_guilty wsX2_weighBlames := goodIn_r _ [19, 20, 21, 22, 23, 18, 24, 45, 46, 47] (by decide +kernel) (by decide +kernel)
set_option maxRecDepth 20000 in
theorem gX11_guilty_X2_weighBlames : GoodIn wsX11_guilty (wsV RX11 320 RX2 yX2_weighBlames wsX2_weighBlames) := goodIn_app (goodIn_of _ (by decide +kernel)) ggX11_guilty_X2_weighBlames
set_option maxRecDepth 20000 in
theorem ggX11_guilty_X2_firstFit : GoodIn wsX11_guilty wsX2_firstFit := goodIn_r _ [28, 20, 21, 45, 46, 47] (by decide +kernel) (by decide +kernel)
set_option maxRecDepth 20000 in
theorem gX11_guilty_X2_firstFit : GoodIn wsX11_guilty (wsV RX11 308 RX2 yX2_firstFit wsX2_firstFit) := goodIn_app (goodIn_of _ (by decide +kernel)) ggX11_guilty_X2_firstFit
theorem dX11_guilty_0 : decode cX11_guilty 0 = .ok (.aload_n 0, 1) := by decide +kernel
theorem dX11_guilty_1 : decode cX11_guilty 1 = .ok (.invokevirtual 317, 3) := by decide +kernel
theorem dX11_guilty_4 : decode cX11_guilty 4 = .ok (.istore_n 1, 1) := by decide +kernel
theorem dX11_guilty_5 : decode cX11_guilty 5 = .ok (.iload_n 1, 1) := by decide +kernel
theorem dX11_guilty_6 : decode cX11_guilty 6 = .ok (.iconst (-1), 1) := by decide +kernel
theorem dX11_guilty_7 : decode cX11_guilty 7 = .ok (.if_icmp .ne 11, 3) := by decide +kernel
theorem dX11_guilty_10 : decode cX11_guilty 10 = .ok (.new 119, 3) := by decide +kernel
theorem dX11_guilty_13 : decode cX11_guilty 13 = .ok (.dup, 1) := by decide +kernel
theorem dX11_guilty_14 : decode cX11_guilty 14 = .ok (.invokespecial 121, 3) := by decide +kernel
theorem dX11_guilty_17 : decode cX11_guilty 17 = .ok (.athrow, 1) := by decide +kernel
theorem dX11_guilty_18 : decode cX11_guilty 18 = .ok (.aload_n 0, 1) := by decide +kernel
theorem dX11_guilty_19 : decode cX11_guilty 19 = .ok (.getfield 34, 3) := by decide +kernel
theorem dX11_guilty_22 : decode cX11_guilty 22 = .ok (.aload_n 0, 1) := by decide +kernel
theorem dX11_guilty_23 : decode cX11_guilty 23 = .ok (.getfield 9, 3) := by decide +kernel
theorem dX11_guilty_26 : decode cX11_guilty 26 = .ok (.iload_n 1, 1) := by decide +kernel
theorem dX11_guilty_27 : decode cX11_guilty 27 = .ok (.invokevirtual 320, 3) := by decide +kernel
theorem dX11_guilty_30 : decode cX11_guilty 30 = .ok (.aload_n 0, 1) := by decide +kernel
theorem dX11_guilty_31 : decode cX11_guilty 31 = .ok (.getfield 34, 3) := by decide +kernel
theorem dX11_guilty_34 : decode cX11_guilty 34 = .ok (.invokevirtual 308, 3) := by decide +kernel
theorem dX11_guilty_37 : decode cX11_guilty 37 = .ok (.ireturn, 1) := by decide +kernel
set_option maxRecDepth 20000 in
theorem ggX11_probe_X11_judgementRows : GoodIn wsX11_probe wsX11_judgementRows := goodIn_r _ [9, 4, 10, 11, 12, 8, 13, 14, 41, 42, 43, 44, 45, 46, 47, 48, 49, 50, 51, 52, 53, 54, 55, 56] (by decide +kernel) (by decide +kernel)
set_option maxRecDepth 20000 in
theorem gX11_probe_X11_judgementRows : GoodIn wsX11_probe (wsV RX11 317 RX11 yX11_judgementRows wsX11_judgementRows) := goodIn_app (goodIn_of _ (by decide +kernel)) ggX11_probe_X11_judgementRows
set_option maxRecDepth 20000 in
theorem ggX11_probe_X2_weighBlames : GoodIn wsX11_probe wsX2_weighBlames := goodIn_r _ [19, 20, 21, 22, 23, 18, 24, 57, 58, 59] (by decide +kernel) (by decide +kernel)
set_option maxRecDepth 20000 in
theorem gX11_probe_X2_weighBlames : GoodIn wsX11_probe (wsV RX11 320 RX2 yX2_weighBlames wsX2_weighBlames) := goodIn_app (goodIn_of _ (by decide +kernel)) ggX11_probe_X2_weighBlames
set_option maxRecDepth 20000 in
theorem ggX11_probe_X2_bestPair : GoodIn wsX11_probe wsX2_bestPair := goodIn_r _ [28, 29, 30, 31, 32, 33, 34, 35, 18, 36, 20, 21, 37, 38, 39, 40, 22, 23, 24, 57, 58, 59] (by decide +kernel) (by decide +kernel)
set_option maxRecDepth 20000 in
theorem gX11_probe_X2_bestPair : GoodIn wsX11_probe (wsV RX11 323 RX2 yX2_bestPair wsX2_bestPair) := goodIn_app (goodIn_of _ (by decide +kernel)) ggX11_probe_X2_bestPair
theorem dX11_probe_0 : decode cX11_probe 0 = .ok (.aload_n 0, 1) := by decide +kernel
theorem dX11_probe_1 : decode cX11_probe 1 = .ok (.invokevirtual 317, 3) := by decide +kernel
theorem dX11_probe_4 : decode cX11_probe 4 = .ok (.istore_n 1, 1) := by decide +kernel
theorem dX11_probe_5 : decode cX11_probe 5 = .ok (.iload_n 1, 1) := by decide +kernel
theorem dX11_probe_6 : decode cX11_probe 6 = .ok (.iconst (-1), 1) := by decide +kernel
theorem dX11_probe_7 : decode cX11_probe 7 = .ok (.if_icmp .ne 11, 3) := by decide +kernel
theorem dX11_probe_10 : decode cX11_probe 10 = .ok (.new 119, 3) := by decide +kernel
theorem dX11_probe_13 : decode cX11_probe 13 = .ok (.dup, 1) := by decide +kernel
theorem dX11_probe_14 : decode cX11_probe 14 = .ok (.invokespecial 121, 3) := by decide +kernel
theorem dX11_probe_17 : decode cX11_probe 17 = .ok (.athrow, 1) := by decide +kernel
theorem dX11_probe_18 : decode cX11_probe 18 = .ok (.aload_n 0, 1) := by decide +kernel
theorem dX11_probe_19 : decode cX11_probe 19 = .ok (.getfield 34, 3) := by decide +kernel
theorem dX11_probe_22 : decode cX11_probe 22 = .ok (.aload_n 0, 1) := by decide +kernel
theorem dX11_probe_23 : decode cX11_probe 23 = .ok (.getfield 9, 3) := by decide +kernel
theorem dX11_probe_26 : decode cX11_probe 26 = .ok (.iload_n 1, 1) := by decide +kernel
theorem dX11_probe_27 : decode cX11_probe 27 = .ok (.invokevirtual 320, 3) := by decide +kernel
theorem dX11_probe_30 : decode cX11_probe 30 = .ok (.aload_n 0, 1) := by decide +kernel
theorem dX11_probe_31 : decode cX11_probe 31 = .ok (.getfield 34, 3) := by decide +kernel
theorem dX11_probe_34 : decode cX11_probe 34 = .ok (.invokevirtual 323, 3) := by decide +kernel
theorem dX11_probe_37 : decode cX11_probe 37 = .ok (.ireturn, 1) := by decide +kernel
set_option maxRecDepth 20000 in
theorem ggX11_pairs_X11_isNode : GoodIn wsX11_pairs wsX11_isNode := goodIn_r _ [11, 5, 12, 129, 130, 131, 132, 133, 134, 135, 136, 137, 138, 139, 140, 141, 142, 143, 144, 147, 148, 149, 150, 151, 152, 153, 154, 155, 156, 157] (by decide +kernel) (by decide +kernel)
set_option maxRecDepth 20000 in
theorem gX11_pairs_X11_isNode : GoodIn wsX11_pairs (wsV RX11 148 RX11 yX11_isNode wsX11_isNode) := goodIn_app (goodIn_of _ (by decide +kernel)) ggX11_pairs_X11_isNode
set_option maxRecDepth 20000 in
theorem ggX11_pairs_X10_look : GoodIn wsX11_pairs wsX10_look := goodIn_r _ [17, 18, 19, 20, 21, 22, 23, 24, 25, 26, 27, 28, 29, 30, 31, 32, 33, 34, 35, 36, 37, 38, 39, 40, 41, 42, 43, 44, 45, 46, 47, 48, 49, 10, 50, 51, 52, 53, 54, 55, 56, 57, 58, 59, 60, 61, 62, 63, 64, 65, 66, 67, 68, 69, 70, 71, 72, 73, 74, 75, 76, 77, 78, 79, 80, 81, 82, 83, 84, 85, 86, 87, 88, 89, 90, 91, 92, 158, 159, 160, 161, 162, 163, 164, 147, 148, 149, 150, 151, 152, 153, 154, 155, 156, 157, 165, 166, 167, 168, 169, 170, 171, 172, 173, 174, 175, 176, 177, 178, 179, 180, 181] (by decide +kernel) (by decide +kernel)
set_option maxRecDepth 20000 in
theorem gX11_pairs_X10_look : GoodIn wsX11_pairs (wsV RX11 172 RX10 yX10_look wsX10_look) := goodIn_app (goodIn_of _ (by decide +kernel)) ggX11_pairs_X10_look
set_option maxRecDepth 20000 in
theorem ggX11_pairs_X1_load : GoodIn wsX11_pairs wsX1_load := goodIn_r _ [97, 98, 99, 100, 101, 102, 10, 103, 49, 50, 158, 159, 160, 161, 162, 163, 164, 182, 183, 184, 185, 186] (by decide +kernel) (by decide +kernel)
set_option maxRecDepth 20000 in
theorem gX11_pairs_X1_load : GoodIn wsX11_pairs (wsV RX11 190 RX1 yX1_load wsX1_load) := goodIn_app (goodIn_of _ (by decide +kernel)) ggX11_pairs_X1_load
set_option maxRecDepth 20000 in
theorem ggX11_pairs_X1_weighPairs : GoodIn wsX11_pairs wsX1_weighPairs := goodIn_r _ [107, 108, 109, 110, 36, 30, 37, 111, 100, 112, 66, 67, 113, 102, 10, 103, 114, 115, 116, 49, 50, 147, 148, 149, 150, 151, 152, 153, 154, 155, 156, 157, 165, 166, 167, 168, 169, 170, 171, 172, 173, 174, 175, 182, 183, 184, 185, 186] (by decide +kernel) (by decide +kernel)
set_option maxRecDepth 20000 in
theorem gX11_pairs_X1_weighPairs : GoodIn wsX11_pairs (wsV RX11 326 RX1 yX1_weighPairs wsX1_weighPairs) := goodIn_app (goodIn_of _ (by decide +kernel)) ggX11_pairs_X1_weighPairs
set_option maxRecDepth 20000 in
theorem ggX11_pairs_X1_mostOfPairs : GoodIn wsX11_pairs wsX1_mostOfPairs := goodIn_r _ [120, 113, 182, 183, 184, 185, 186] (by decide +kernel) (by decide +kernel)
set_option maxRecDepth 20000 in
theorem gX11_pairs_X1_mostOfPairs : GoodIn wsX11_pairs (wsV RX11 329 RX1 yX1_mostOfPairs wsX1_mostOfPairs) := goodIn_app (goodIn_of _ (by decide +kernel)) ggX11_pairs_X1_mostOfPairs
set_option maxRecDepth 20000 in
theorem ggX11_pairs_X1_partnerOf : GoodIn wsX11_pairs wsX1_partnerOf := goodIn_r _ [124, 113, 102, 10, 103, 49, 50, 125, 126, 127, 96, 128, 111, 182, 183, 184, 185, 186] (by decide +kernel) (by decide +kernel)
set_option maxRecDepth 20000 in
theorem gX11_pairs_X1_partnerOf : GoodIn wsX11_pairs (wsV RX11 332 RX1 yX1_partnerOf wsX1_partnerOf) := goodIn_app (goodIn_of _ (by decide +kernel)) ggX11_pairs_X1_partnerOf
theorem dX11_pairs_0 : decode cX11_pairs 0 = .ok (.iload_n 1, 1) := by decide +kernel
theorem dX11_pairs_1 : decode cX11_pairs 1 = .ok (.iconst (-1), 1) := by decide +kernel
theorem dX11_pairs_2 : decode cX11_pairs 2 = .ok (.if_icmp .eq 19, 3) := by decide +kernel
theorem dX11_pairs_5 : decode cX11_pairs 5 = .ok (.aload_n 0, 1) := by decide +kernel
theorem dX11_pairs_6 : decode cX11_pairs 6 = .ok (.iload_n 1, 1) := by decide +kernel
theorem dX11_pairs_7 : decode cX11_pairs 7 = .ok (.invokevirtual 148, 3) := by decide +kernel
theorem dX11_pairs_10 : decode cX11_pairs 10 = .ok (.ifCond .ne 11, 3) := by decide +kernel
theorem dX11_pairs_13 : decode cX11_pairs 13 = .ok (.new 152, 3) := by decide +kernel
theorem dX11_pairs_16 : decode cX11_pairs 16 = .ok (.dup, 1) := by decide +kernel
theorem dX11_pairs_17 : decode cX11_pairs 17 = .ok (.invokespecial 154, 3) := by decide +kernel
theorem dX11_pairs_20 : decode cX11_pairs 20 = .ok (.athrow, 1) := by decide +kernel
theorem dX11_pairs_21 : decode cX11_pairs 21 = .ok (.aload_n 0, 1) := by decide +kernel
theorem dX11_pairs_22 : decode cX11_pairs 22 = .ok (.getfield 20, 3) := by decide +kernel
theorem dX11_pairs_25 : decode cX11_pairs 25 = .ok (.getfield 168, 3) := by decide +kernel
theorem dX11_pairs_28 : decode cX11_pairs 28 = .ok (.aload_n 0, 1) := by decide +kernel
theorem dX11_pairs_29 : decode cX11_pairs 29 = .ok (.getfield 77, 3) := by decide +kernel
theorem dX11_pairs_32 : decode cX11_pairs 32 = .ok (.invokevirtual 172, 3) := by decide +kernel
theorem dX11_pairs_35 : decode cX11_pairs 35 = .ok (.aload_n 0, 1) := by decide +kernel
theorem dX11_pairs_36 : decode cX11_pairs 36 = .ok (.getfield 27, 3) := by decide +kernel
theorem dX11_pairs_39 : decode cX11_pairs 39 = .ok (.aload_n 0, 1) := by decide +kernel
theorem dX11_pairs_40 : decode cX11_pairs 40 = .ok (.getfield 20, 3) := by decide +kernel
theorem dX11_pairs_43 : decode cX11_pairs 43 = .ok (.getfield 168, 3) := by decide +kernel
theorem dX11_pairs_46 : decode cX11_pairs 46 = .ok (.invokevirtual 190, 3) := by decide +kernel
theorem dX11_pairs_49 : decode cX11_pairs 49 = .ok (.aload_n 0, 1) := by decide +kernel
theorem dX11_pairs_50 : decode cX11_pairs 50 = .ok (.getfield 27, 3) := by decide +kernel
theorem dX11_pairs_53 : decode cX11_pairs 53 = .ok (.aload_n 0, 1) := by decide +kernel
theorem dX11_pairs_54 : decode cX11_pairs 54 = .ok (.getfield 77, 3) := by decide +kernel
theorem dX11_pairs_57 : decode cX11_pairs 57 = .ok (.invokevirtual 326, 3) := by decide +kernel
theorem dX11_pairs_60 : decode cX11_pairs 60 = .ok (.iload_n 1, 1) := by decide +kernel
theorem dX11_pairs_61 : decode cX11_pairs 61 = .ok (.iconst (-1), 1) := by decide +kernel
theorem dX11_pairs_62 : decode cX11_pairs 62 = .ok (.if_icmp .ne 13, 3) := by decide +kernel
theorem dX11_pairs_65 : decode cX11_pairs 65 = .ok (.aload_n 0, 1) := by decide +kernel
theorem dX11_pairs_66 : decode cX11_pairs 66 = .ok (.getfield 27, 3) := by decide +kernel
theorem dX11_pairs_69 : decode cX11_pairs 69 = .ok (.invokevirtual 329, 3) := by decide +kernel
theorem dX11_pairs_72 : decode cX11_pairs 72 = .ok (.goto 11, 3) := by decide +kernel
theorem dX11_pairs_75 : decode cX11_pairs 75 = .ok (.aload_n 0, 1) := by decide +kernel
theorem dX11_pairs_76 : decode cX11_pairs 76 = .ok (.getfield 27, 3) := by decide +kernel
theorem dX11_pairs_79 : decode cX11_pairs 79 = .ok (.iload_n 1, 1) := by decide +kernel
theorem dX11_pairs_80 : decode cX11_pairs 80 = .ok (.invokevirtual 332, 3) := by decide +kernel
theorem dX11_pairs_83 : decode cX11_pairs 83 = .ok (.ireturn, 1) := by decide +kernel
set_option maxRecDepth 20000 in
theorem ggX11_share_X11_isNode : GoodIn wsX11_share wsX11_isNode := goodIn_r _ [10, 11, 12, 23, 24, 25, 26, 27, 28, 29, 30, 31, 32, 33, 34, 35, 36, 37, 38, 39, 40, 41, 42, 43, 44, 45, 46, 47, 48, 49] (by decide +kernel) (by decide +kernel)
set_option maxRecDepth 20000 in
theorem gX11_share_X11_isNode : GoodIn wsX11_share (wsV RX11 148 RX11 yX11_isNode wsX11_isNode) := goodIn_app (goodIn_of _ (by decide +kernel)) ggX11_share_X11_isNode
set_option maxRecDepth 20000 in
theorem ggX11_share_X11_nextOfShare : GoodIn wsX11_share wsX11_nextOfShare := goodIn_r _ [16, 11, 12, 17, 18, 5, 19, 20, 21, 22, 23, 24, 25, 26, 27, 28, 29, 30, 31, 32, 33, 34, 35, 36, 37, 38, 39, 40, 41, 42, 43, 44, 45, 46, 47, 48, 49, 50, 51, 52, 53, 54, 55, 56, 57, 58, 59, 60] (by decide +kernel) (by decide +kernel)
set_option maxRecDepth 20000 in
theorem gX11_share_X11_nextOfShare : GoodIn wsX11_share (wsV RX11 335 RX11 yX11_nextOfShare wsX11_nextOfShare) := goodIn_app (goodIn_of _ (by decide +kernel)) ggX11_share_X11_nextOfShare
theorem dX11_share_0 : decode cX11_share 0 = .ok (.aload_n 0, 1) := by decide +kernel
theorem dX11_share_1 : decode cX11_share 1 = .ok (.iload_n 1, 1) := by decide +kernel
theorem dX11_share_2 : decode cX11_share 2 = .ok (.invokevirtual 148, 3) := by decide +kernel
theorem dX11_share_5 : decode cX11_share 5 = .ok (.ifCond .ne 11, 3) := by decide +kernel
theorem dX11_share_8 : decode cX11_share 8 = .ok (.new 152, 3) := by decide +kernel
theorem dX11_share_11 : decode cX11_share 11 = .ok (.dup, 1) := by decide +kernel
theorem dX11_share_12 : decode cX11_share 12 = .ok (.invokespecial 154, 3) := by decide +kernel
theorem dX11_share_15 : decode cX11_share 15 = .ok (.athrow, 1) := by decide +kernel
theorem dX11_share_16 : decode cX11_share 16 = .ok (.iload_n 2, 1) := by decide +kernel
theorem dX11_share_17 : decode cX11_share 17 = .ok (.ifCond .lt 9, 3) := by decide +kernel
theorem dX11_share_20 : decode cX11_share 20 = .ok (.iload_n 2, 1) := by decide +kernel
theorem dX11_share_21 : decode cX11_share 21 = .ok (.bipush 99, 2) := by decide +kernel
theorem dX11_share_23 : decode cX11_share 23 = .ok (.if_icmp .le 11, 3) := by decide +kernel
theorem dX11_share_26 : decode cX11_share 26 = .ok (.new 119, 3) := by decide +kernel
theorem dX11_share_29 : decode cX11_share 29 = .ok (.dup, 1) := by decide +kernel
theorem dX11_share_30 : decode cX11_share 30 = .ok (.invokespecial 121, 3) := by decide +kernel
theorem dX11_share_33 : decode cX11_share 33 = .ok (.athrow, 1) := by decide +kernel
theorem dX11_share_34 : decode cX11_share 34 = .ok (.iconst 0, 1) := by decide +kernel
theorem dX11_share_35 : decode cX11_share 35 = .ok (.istore_n 3, 1) := by decide +kernel
theorem dX11_share_36 : decode cX11_share 36 = .ok (.iload_n 3, 1) := by decide +kernel
theorem dX11_share_37 : decode cX11_share 37 = .ok (.aload_n 0, 1) := by decide +kernel
theorem dX11_share_38 : decode cX11_share 38 = .ok (.getfield 64, 3) := by decide +kernel
theorem dX11_share_41 : decode cX11_share 41 = .ok (.arraylength, 1) := by decide +kernel
theorem dX11_share_42 : decode cX11_share 42 = .ok (.if_icmp .ge 16, 3) := by decide +kernel
theorem dX11_share_45 : decode cX11_share 45 = .ok (.aload_n 0, 1) := by decide +kernel
theorem dX11_share_46 : decode cX11_share 46 = .ok (.getfield 64, 3) := by decide +kernel
theorem dX11_share_49 : decode cX11_share 49 = .ok (.iload_n 3, 1) := by decide +kernel
theorem dX11_share_50 : decode cX11_share 50 = .ok (.iconst 0, 1) := by decide +kernel
theorem dX11_share_51 : decode cX11_share 51 = .ok (.iastore, 1) := by decide +kernel
theorem dX11_share_52 : decode cX11_share 52 = .ok (.iinc 3 1, 3) := by decide +kernel
theorem dX11_share_55 : decode cX11_share 55 = .ok (.goto (-19), 3) := by decide +kernel
theorem dX11_share_58 : decode cX11_share 58 = .ok (.iconst 0, 1) := by decide +kernel
theorem dX11_share_59 : decode cX11_share 59 = .ok (.istore_n 3, 1) := by decide +kernel
theorem dX11_share_60 : decode cX11_share 60 = .ok (.iload_n 3, 1) := by decide +kernel
theorem dX11_share_61 : decode cX11_share 61 = .ok (.iload_n 2, 1) := by decide +kernel
theorem dX11_share_62 : decode cX11_share 62 = .ok (.if_icmp .ge 22, 3) := by decide +kernel
theorem dX11_share_65 : decode cX11_share 65 = .ok (.aload_n 0, 1) := by decide +kernel
theorem dX11_share_66 : decode cX11_share 66 = .ok (.getfield 64, 3) := by decide +kernel
theorem dX11_share_69 : decode cX11_share 69 = .ok (.aload_n 0, 1) := by decide +kernel
theorem dX11_share_70 : decode cX11_share 70 = .ok (.invokevirtual 335, 3) := by decide +kernel
theorem dX11_share_73 : decode cX11_share 73 = .ok (.dup2, 1) := by decide +kernel
theorem dX11_share_74 : decode cX11_share 74 = .ok (.iaload, 1) := by decide +kernel
theorem dX11_share_75 : decode cX11_share 75 = .ok (.iconst 1, 1) := by decide +kernel
theorem dX11_share_76 : decode cX11_share 76 = .ok (.iadd, 1) := by decide +kernel
theorem dX11_share_77 : decode cX11_share 77 = .ok (.iastore, 1) := by decide +kernel
theorem dX11_share_78 : decode cX11_share 78 = .ok (.iinc 3 1, 3) := by decide +kernel
theorem dX11_share_81 : decode cX11_share 81 = .ok (.goto (-21), 3) := by decide +kernel
theorem dX11_share_84 : decode cX11_share 84 = .ok (.aload_n 0, 1) := by decide +kernel
theorem dX11_share_85 : decode cX11_share 85 = .ok (.getfield 64, 3) := by decide +kernel
theorem dX11_share_88 : decode cX11_share 88 = .ok (.iload_n 1, 1) := by decide +kernel
theorem dX11_share_89 : decode cX11_share 89 = .ok (.iaload, 1) := by decide +kernel
theorem dX11_share_90 : decode cX11_share 90 = .ok (.ireturn, 1) := by decide +kernel
theorem dX11_nextOfShare_0 : decode cX11_nextOfShare 0 = .ok (.iconst 0, 1) := by decide +kernel
theorem dX11_nextOfShare_1 : decode cX11_nextOfShare 1 = .ok (.istore_n 1, 1) := by decide +kernel
theorem dX11_nextOfShare_2 : decode cX11_nextOfShare 2 = .ok (.iconst (-1), 1) := by decide +kernel
theorem dX11_nextOfShare_3 : decode cX11_nextOfShare 3 = .ok (.istore_n 2, 1) := by decide +kernel
theorem dX11_nextOfShare_4 : decode cX11_nextOfShare 4 = .ok (.iconst 0, 1) := by decide +kernel
theorem dX11_nextOfShare_5 : decode cX11_nextOfShare 5 = .ok (.istore_n 3, 1) := by decide +kernel
theorem dX11_nextOfShare_6 : decode cX11_nextOfShare 6 = .ok (.iload_n 3, 1) := by decide +kernel
theorem dX11_nextOfShare_7 : decode cX11_nextOfShare 7 = .ok (.aload_n 0, 1) := by decide +kernel
theorem dX11_nextOfShare_8 : decode cX11_nextOfShare 8 = .ok (.getfield 77, 3) := by decide +kernel
theorem dX11_nextOfShare_11 : decode cX11_nextOfShare 11 = .ok (.getfield 145, 3) := by decide +kernel
theorem dX11_nextOfShare_14 : decode cX11_nextOfShare 14 = .ok (.if_icmp .ge 50, 3) := by decide +kernel
theorem dX11_nextOfShare_17 : decode cX11_nextOfShare 17 = .ok (.bipush 100, 2) := by decide +kernel
theorem dX11_nextOfShare_19 : decode cX11_nextOfShare 19 = .ok (.aload_n 0, 1) := by decide +kernel
theorem dX11_nextOfShare_20 : decode cX11_nextOfShare 20 = .ok (.getfield 77, 3) := by decide +kernel
theorem dX11_nextOfShare_23 : decode cX11_nextOfShare 23 = .ok (.getfield 158, 3) := by decide +kernel
theorem dX11_nextOfShare_26 : decode cX11_nextOfShare 26 = .ok (.iload_n 3, 1) := by decide +kernel
theorem dX11_nextOfShare_27 : decode cX11_nextOfShare 27 = .ok (.aaload, 1) := by decide +kernel
theorem dX11_nextOfShare_28 : decode cX11_nextOfShare 28 = .ok (.getfield 338, 3) := by decide +kernel
theorem dX11_nextOfShare_31 : decode cX11_nextOfShare 31 = .ok (.isub, 1) := by decide +kernel
theorem dX11_nextOfShare_32 : decode cX11_nextOfShare 32 = .ok (.iconst 0, 1) := by decide +kernel
theorem dX11_nextOfShare_33 : decode cX11_nextOfShare 33 = .ok (.aload_n 0, 1) := by decide +kernel
theorem dX11_nextOfShare_34 : decode cX11_nextOfShare 34 = .ok (.getfield 64, 3) := by decide +kernel
theorem dX11_nextOfShare_37 : decode cX11_nextOfShare 37 = .ok (.iload_n 3, 1) := by decide +kernel
theorem dX11_nextOfShare_38 : decode cX11_nextOfShare 38 = .ok (.iaload, 1) := by decide +kernel
theorem dX11_nextOfShare_39 : decode cX11_nextOfShare 39 = .ok (.invokestatic 283, 3) := by decide +kernel
theorem dX11_nextOfShare_42 : decode cX11_nextOfShare 42 = .ok (.iconst 1, 1) := by decide +kernel
theorem dX11_nextOfShare_43 : decode cX11_nextOfShare 43 = .ok (.iadd, 1) := by decide +kernel
theorem dX11_nextOfShare_44 : decode cX11_nextOfShare 44 = .ok (.idiv, 1) := by decide +kernel
theorem dX11_nextOfShare_45 : decode cX11_nextOfShare 45 = .ok (.istore 4, 2) := by decide +kernel
theorem dX11_nextOfShare_47 : decode cX11_nextOfShare 47 = .ok (.iload 4, 2) := by decide +kernel
theorem dX11_nextOfShare_49 : decode cX11_nextOfShare 49 = .ok (.iload_n 2, 1) := by decide +kernel
theorem dX11_nextOfShare_50 : decode cX11_nextOfShare 50 = .ok (.if_icmp .le 8, 3) := by decide +kernel
theorem dX11_nextOfShare_53 : decode cX11_nextOfShare 53 = .ok (.iload 4, 2) := by decide +kernel
theorem dX11_nextOfShare_55 : decode cX11_nextOfShare 55 = .ok (.istore_n 2, 1) := by decide +kernel
theorem dX11_nextOfShare_56 : decode cX11_nextOfShare 56 = .ok (.iload_n 3, 1) := by decide +kernel
theorem dX11_nextOfShare_57 : decode cX11_nextOfShare 57 = .ok (.istore_n 1, 1) := by decide +kernel
theorem dX11_nextOfShare_58 : decode cX11_nextOfShare 58 = .ok (.iinc 3 1, 3) := by decide +kernel
theorem dX11_nextOfShare_61 : decode cX11_nextOfShare 61 = .ok (.goto (-55), 3) := by decide +kernel
theorem dX11_nextOfShare_64 : decode cX11_nextOfShare 64 = .ok (.iload_n 1, 1) := by decide +kernel
theorem dX11_nextOfShare_65 : decode cX11_nextOfShare 65 = .ok (.ireturn, 1) := by decide +kernel
set_option maxRecDepth 20000 in
theorem ggX11_rests_X11_isNode : GoodIn wsX11_rests wsX11_isNode := goodIn_r _ [7, 8, 9, 23, 24, 25, 26, 27, 28, 29, 30, 31, 32, 33, 34, 35, 36, 37, 38, 39, 40, 41, 42, 43, 44, 45, 46, 47, 48, 49] (by decide +kernel) (by decide +kernel)
set_option maxRecDepth 20000 in
theorem gX11_rests_X11_isNode : GoodIn wsX11_rests (wsV RX11 148 RX11 yX11_isNode wsX11_isNode) := goodIn_app (goodIn_of _ (by decide +kernel)) ggX11_rests_X11_isNode
set_option maxRecDepth 20000 in
theorem ggX11_rests_X11_guardianHas : GoodIn wsX11_rests wsX11_guardianHas := goodIn_r _ [13, 8, 14, 15, 16, 3, 4, 5, 6, 7, 9, 23, 24, 25, 26, 27, 28, 29, 30, 31, 32, 33, 34, 35, 36, 37, 38, 39, 40, 41, 42, 43, 44, 45, 46, 47, 48, 49, 50, 51, 52, 53, 54, 55, 56, 57, 58, 59, 60] (by decide +kernel) (by decide +kernel)
set_option maxRecDepth 20000 in
theorem gX11_rests_X11_guardianHas : GoodIn wsX11_rests (wsV RX11 341 RX11 yX11_guardianHas wsX11_guardianHas) := goodIn_app (goodIn_of _ (by decide +kernel)) ggX11_rests_X11_guardianHas
set_option maxRecDepth 20000 in
theorem ggX11_rests_X11_babblerHas : GoodIn wsX11_rests wsX11_babblerHas := goodIn_r _ [19] (by decide +kernel) (by decide +kernel)
set_option maxRecDepth 20000 in
theorem gX11_rests_X11_babblerHas : GoodIn wsX11_rests (va_wsS RX11 345 yX11_babblerHas wsX11_babblerHas) := goodIn_app (goodIn_of _ (by decide +kernel)) ggX11_rests_X11_babblerHas
set_option maxRecDepth 20000 in
theorem ggX11_rests_X11_bit : GoodIn wsX11_rests wsX11_bit := goodIn_r _ [22] (by decide +kernel) (by decide +kernel)
set_option maxRecDepth 20000 in
theorem gX11_rests_X11_bit : GoodIn wsX11_rests (va_wsS RX11 348 yX11_bit wsX11_bit) := goodIn_app (goodIn_of _ (by decide +kernel)) ggX11_rests_X11_bit
theorem dX11_rests_0 : decode cX11_rests 0 = .ok (.aload_n 0, 1) := by decide +kernel
theorem dX11_rests_1 : decode cX11_rests 1 = .ok (.iload_n 1, 1) := by decide +kernel
theorem dX11_rests_2 : decode cX11_rests 2 = .ok (.invokevirtual 148, 3) := by decide +kernel
theorem dX11_rests_5 : decode cX11_rests 5 = .ok (.ifCond .ne 11, 3) := by decide +kernel
theorem dX11_rests_8 : decode cX11_rests 8 = .ok (.new 152, 3) := by decide +kernel
theorem dX11_rests_11 : decode cX11_rests 11 = .ok (.dup, 1) := by decide +kernel
theorem dX11_rests_12 : decode cX11_rests 12 = .ok (.invokespecial 154, 3) := by decide +kernel
theorem dX11_rests_15 : decode cX11_rests 15 = .ok (.athrow, 1) := by decide +kernel
theorem dX11_rests_16 : decode cX11_rests 16 = .ok (.iconst 0, 1) := by decide +kernel
theorem dX11_rests_17 : decode cX11_rests 17 = .ok (.istore_n 2, 1) := by decide +kernel
theorem dX11_rests_18 : decode cX11_rests 18 = .ok (.iconst 0, 1) := by decide +kernel
theorem dX11_rests_19 : decode cX11_rests 19 = .ok (.istore_n 3, 1) := by decide +kernel
theorem dX11_rests_20 : decode cX11_rests 20 = .ok (.iload_n 3, 1) := by decide +kernel
theorem dX11_rests_21 : decode cX11_rests 21 = .ok (.iconst 2, 1) := by decide +kernel
theorem dX11_rests_22 : decode cX11_rests 22 = .ok (.if_icmp .ge 86, 3) := by decide +kernel
theorem dX11_rests_25 : decode cX11_rests 25 = .ok (.iconst 0, 1) := by decide +kernel
theorem dX11_rests_26 : decode cX11_rests 26 = .ok (.istore 4, 2) := by decide +kernel
theorem dX11_rests_28 : decode cX11_rests 28 = .ok (.iload 4, 2) := by decide +kernel
theorem dX11_rests_30 : decode cX11_rests 30 = .ok (.iconst 2, 1) := by decide +kernel
theorem dX11_rests_31 : decode cX11_rests 31 = .ok (.if_icmp .ge 71, 3) := by decide +kernel
theorem dX11_rests_34 : decode cX11_rests 34 = .ok (.aload_n 0, 1) := by decide +kernel
theorem dX11_rests_35 : decode cX11_rests 35 = .ok (.iload_n 1, 1) := by decide +kernel
theorem dX11_rests_36 : decode cX11_rests 36 = .ok (.iload_n 3, 1) := by decide +kernel
theorem dX11_rests_37 : decode cX11_rests 37 = .ok (.iload 4, 2) := by decide +kernel
theorem dX11_rests_39 : decode cX11_rests 39 = .ok (.invokevirtual 341, 3) := by decide +kernel
theorem dX11_rests_42 : decode cX11_rests 42 = .ok (.aload_n 0, 1) := by decide +kernel
theorem dX11_rests_43 : decode cX11_rests 43 = .ok (.iload_n 1, 1) := by decide +kernel
theorem dX11_rests_44 : decode cX11_rests 44 = .ok (.iconst 1, 1) := by decide +kernel
theorem dX11_rests_45 : decode cX11_rests 45 = .ok (.iload_n 3, 1) := by decide +kernel
theorem dX11_rests_46 : decode cX11_rests 46 = .ok (.isub, 1) := by decide +kernel
theorem dX11_rests_47 : decode cX11_rests 47 = .ok (.iload 4, 2) := by decide +kernel
theorem dX11_rests_49 : decode cX11_rests 49 = .ok (.invokevirtual 341, 3) := by decide +kernel
theorem dX11_rests_52 : decode cX11_rests 52 = .ok (.if_icmp .lt 24, 3) := by decide +kernel
theorem dX11_rests_55 : decode cX11_rests 55 = .ok (.iload_n 3, 1) := by decide +kernel
theorem dX11_rests_56 : decode cX11_rests 56 = .ok (.iload 4, 2) := by decide +kernel
theorem dX11_rests_58 : decode cX11_rests 58 = .ok (.invokestatic 345, 3) := by decide +kernel
theorem dX11_rests_61 : decode cX11_rests 61 = .ok (.iload_n 3, 1) := by decide +kernel
theorem dX11_rests_62 : decode cX11_rests 62 = .ok (.iconst 1, 1) := by decide +kernel
theorem dX11_rests_63 : decode cX11_rests 63 = .ok (.iload 4, 2) := by decide +kernel
theorem dX11_rests_65 : decode cX11_rests 65 = .ok (.isub, 1) := by decide +kernel
theorem dX11_rests_66 : decode cX11_rests 66 = .ok (.invokestatic 345, 3) := by decide +kernel
theorem dX11_rests_69 : decode cX11_rests 69 = .ok (.if_icmp .lt 7, 3) := by decide +kernel
theorem dX11_rests_72 : decode cX11_rests 72 = .ok (.iconst 1, 1) := by decide +kernel
theorem dX11_rests_73 : decode cX11_rests 73 = .ok (.goto 4, 3) := by decide +kernel
theorem dX11_rests_76 : decode cX11_rests 76 = .ok (.iconst 0, 1) := by decide +kernel
theorem dX11_rests_77 : decode cX11_rests 77 = .ok (.istore 5, 2) := by decide +kernel
theorem dX11_rests_79 : decode cX11_rests 79 = .ok (.iload 5, 2) := by decide +kernel
theorem dX11_rests_81 : decode cX11_rests 81 = .ok (.ifCond .eq 15, 3) := by decide +kernel
theorem dX11_rests_84 : decode cX11_rests 84 = .ok (.iload_n 2, 1) := by decide +kernel
theorem dX11_rests_85 : decode cX11_rests 85 = .ok (.iconst 2, 1) := by decide +kernel
theorem dX11_rests_86 : decode cX11_rests 86 = .ok (.iload_n 3, 1) := by decide +kernel
theorem dX11_rests_87 : decode cX11_rests 87 = .ok (.imul, 1) := by decide +kernel
theorem dX11_rests_88 : decode cX11_rests 88 = .ok (.iload 4, 2) := by decide +kernel
theorem dX11_rests_90 : decode cX11_rests 90 = .ok (.iadd, 1) := by decide +kernel
theorem dX11_rests_91 : decode cX11_rests 91 = .ok (.invokestatic 348, 3) := by decide +kernel
theorem dX11_rests_94 : decode cX11_rests 94 = .ok (.ior, 1) := by decide +kernel
theorem dX11_rests_95 : decode cX11_rests 95 = .ok (.istore_n 2, 1) := by decide +kernel
theorem dX11_rests_96 : decode cX11_rests 96 = .ok (.iinc 4 1, 3) := by decide +kernel
theorem dX11_rests_99 : decode cX11_rests 99 = .ok (.goto (-71), 3) := by decide +kernel
theorem dX11_rests_102 : decode cX11_rests 102 = .ok (.iinc 3 1, 3) := by decide +kernel
theorem dX11_rests_105 : decode cX11_rests 105 = .ok (.goto (-85), 3) := by decide +kernel
theorem dX11_rests_108 : decode cX11_rests 108 = .ok (.iload_n 2, 1) := by decide +kernel
theorem dX11_rests_109 : decode cX11_rests 109 = .ok (.ireturn, 1) := by decide +kernel
set_option maxRecDepth 20000 in
theorem ggX11_guardianHas_X11_isNode : GoodIn wsX11_guardianHas wsX11_isNode := goodIn_r _ [9, 1, 10, 11, 12, 13, 14, 15, 16, 17, 18, 19, 20, 21, 22, 23, 24, 25, 26, 27, 28, 29, 30, 31, 32, 33, 34, 35, 36, 37] (by decide +kernel) (by decide +kernel)
set_option maxRecDepth 20000 in
theorem gX11_guardianHas_X11_isNode : GoodIn wsX11_guardianHas (wsV RX11 148 RX11 yX11_isNode wsX11_isNode) := goodIn_app (goodIn_of _ (by decide +kernel)) ggX11_guardianHas_X11_isNode
theorem dX11_guardianHas_0 : decode cX11_guardianHas 0 = .ok (.aload_n 0, 1) := by decide +kernel
theorem dX11_guardianHas_1 : decode cX11_guardianHas 1 = .ok (.iload_n 1, 1) := by decide +kernel
theorem dX11_guardianHas_2 : decode cX11_guardianHas 2 = .ok (.invokevirtual 148, 3) := by decide +kernel
theorem dX11_guardianHas_5 : decode cX11_guardianHas 5 = .ok (.ifCond .ne 5, 3) := by decide +kernel
theorem dX11_guardianHas_8 : decode cX11_guardianHas 8 = .ok (.iconst 0, 1) := by decide +kernel
theorem dX11_guardianHas_9 : decode cX11_guardianHas 9 = .ok (.ireturn, 1) := by decide +kernel
theorem dX11_guardianHas_10 : decode cX11_guardianHas 10 = .ok (.aload_n 0, 1) := by decide +kernel
theorem dX11_guardianHas_11 : decode cX11_guardianHas 11 = .ok (.getfield 77, 3) := by decide +kernel
theorem dX11_guardianHas_14 : decode cX11_guardianHas 14 = .ok (.getfield 158, 3) := by decide +kernel
theorem dX11_guardianHas_17 : decode cX11_guardianHas 17 = .ok (.iload_n 1, 1) := by decide +kernel
theorem dX11_guardianHas_18 : decode cX11_guardianHas 18 = .ok (.aaload, 1) := by decide +kernel
theorem dX11_guardianHas_19 : decode cX11_guardianHas 19 = .ok (.astore 4, 2) := by decide +kernel
theorem dX11_guardianHas_21 : decode cX11_guardianHas 21 = .ok (.iload_n 2, 1) := by decide +kernel
theorem dX11_guardianHas_22 : decode cX11_guardianHas 22 = .ok (.ifCond .ne 22, 3) := by decide +kernel
theorem dX11_guardianHas_25 : decode cX11_guardianHas 25 = .ok (.iload_n 3, 1) := by decide +kernel
theorem dX11_guardianHas_26 : decode cX11_guardianHas 26 = .ok (.ifCond .ne 11, 3) := by decide +kernel
theorem dX11_guardianHas_29 : decode cX11_guardianHas 29 = .ok (.aload 4, 2) := by decide +kernel
theorem dX11_guardianHas_31 : decode cX11_guardianHas 31 = .ok (.getfield 238, 3) := by decide +kernel
theorem dX11_guardianHas_34 : decode cX11_guardianHas 34 = .ok (.goto 9, 3) := by decide +kernel
theorem dX11_guardianHas_37 : decode cX11_guardianHas 37 = .ok (.aload 4, 2) := by decide +kernel
theorem dX11_guardianHas_39 : decode cX11_guardianHas 39 = .ok (.getfield 238, 3) := by decide +kernel
theorem dX11_guardianHas_42 : decode cX11_guardianHas 42 = .ok (.ineg, 1) := by decide +kernel
theorem dX11_guardianHas_43 : decode cX11_guardianHas 43 = .ok (.ireturn, 1) := by decide +kernel
theorem dX11_guardianHas_44 : decode cX11_guardianHas 44 = .ok (.iload_n 3, 1) := by decide +kernel
theorem dX11_guardianHas_45 : decode cX11_guardianHas 45 = .ok (.ifCond .ne 14, 3) := by decide +kernel
theorem dX11_guardianHas_48 : decode cX11_guardianHas 48 = .ok (.aload 4, 2) := by decide +kernel
theorem dX11_guardianHas_50 : decode cX11_guardianHas 50 = .ok (.getfield 241, 3) := by decide +kernel
theorem dX11_guardianHas_53 : decode cX11_guardianHas 53 = .ok (.ineg, 1) := by decide +kernel
theorem dX11_guardianHas_54 : decode cX11_guardianHas 54 = .ok (.iconst 1, 1) := by decide +kernel
theorem dX11_guardianHas_55 : decode cX11_guardianHas 55 = .ok (.isub, 1) := by decide +kernel
theorem dX11_guardianHas_56 : decode cX11_guardianHas 56 = .ok (.goto 4, 3) := by decide +kernel
theorem dX11_guardianHas_59 : decode cX11_guardianHas 59 = .ok (.iconst 2, 1) := by decide +kernel
theorem dX11_guardianHas_60 : decode cX11_guardianHas 60 = .ok (.ireturn, 1) := by decide +kernel
theorem dX11_babblerHas_0 : decode cX11_babblerHas 0 = .ok (.iload_n 0, 1) := by decide +kernel
theorem dX11_babblerHas_1 : decode cX11_babblerHas 1 = .ok (.ifCond .ne 13, 3) := by decide +kernel
theorem dX11_babblerHas_4 : decode cX11_babblerHas 4 = .ok (.iload_n 1, 1) := by decide +kernel
theorem dX11_babblerHas_5 : decode cX11_babblerHas 5 = .ok (.ifCond .ne 7, 3) := by decide +kernel
theorem dX11_babblerHas_8 : decode cX11_babblerHas 8 = .ok (.iconst (-1), 1) := by decide +kernel
theorem dX11_babblerHas_9 : decode cX11_babblerHas 9 = .ok (.goto 4, 3) := by decide +kernel
theorem dX11_babblerHas_12 : decode cX11_babblerHas 12 = .ok (.iconst 0, 1) := by decide +kernel
theorem dX11_babblerHas_13 : decode cX11_babblerHas 13 = .ok (.ireturn, 1) := by decide +kernel
theorem dX11_babblerHas_14 : decode cX11_babblerHas 14 = .ok (.iload_n 1, 1) := by decide +kernel
theorem dX11_babblerHas_15 : decode cX11_babblerHas 15 = .ok (.ifCond .ne 7, 3) := by decide +kernel
theorem dX11_babblerHas_18 : decode cX11_babblerHas 18 = .ok (.iconst 2, 1) := by decide +kernel
theorem dX11_babblerHas_19 : decode cX11_babblerHas 19 = .ok (.goto 4, 3) := by decide +kernel
theorem dX11_babblerHas_22 : decode cX11_babblerHas 22 = .ok (.iconst 1, 1) := by decide +kernel
theorem dX11_babblerHas_23 : decode cX11_babblerHas 23 = .ok (.ireturn, 1) := by decide +kernel
set_option maxRecDepth 20000 in
theorem ggX11_odds_X11_isNode : GoodIn wsX11_odds wsX11_isNode := goodIn_r _ [19, 7, 20, 103, 104, 105, 106, 107, 108, 109, 110, 111, 112, 113, 114, 115, 116, 117, 118, 128, 129, 130, 131, 132, 133, 134, 135, 136, 137, 138] (by decide +kernel) (by decide +kernel)
set_option maxRecDepth 20000 in
theorem gX11_odds_X11_isNode : GoodIn wsX11_odds (wsV RX11 148 RX11 yX11_isNode wsX11_isNode) := goodIn_app (goodIn_of _ (by decide +kernel)) ggX11_odds_X11_isNode
set_option maxRecDepth 20000 in
theorem ggX11_odds_X10_look : GoodIn wsX11_odds wsX10_look := goodIn_r _ [25, 26, 27, 28, 29, 30, 31, 32, 33, 34, 35, 36, 37, 13, 38, 39, 40, 41, 42, 43, 44, 45, 46, 47, 48, 49, 50, 51, 52, 53, 54, 55, 56, 18, 57, 58, 59, 60, 61, 62, 63, 64, 65, 66, 67, 68, 69, 70, 71, 72, 73, 74, 75, 76, 77, 78, 79, 80, 81, 82, 83, 84, 85, 86, 87, 88, 89, 90, 91, 92, 93, 94, 95, 96, 97, 98, 99, 121, 122, 123, 124, 125, 126, 127, 128, 129, 130, 131, 132, 133, 134, 135, 136, 137, 138, 139, 140, 141, 142, 143, 144, 145, 146, 147, 148, 149, 150, 151, 152, 153, 154, 155] (by decide +kernel) (by decide +kernel)
set_option maxRecDepth 20000 in
theorem gX11_odds_X10_look : GoodIn wsX11_odds (wsV RX11 172 RX10 yX10_look wsX10_look) := goodIn_app (goodIn_of _ (by decide +kernel)) ggX11_odds_X10_look
set_option maxRecDepth 20000 in
theorem ggX11_odds_X11_choose : GoodIn wsX11_odds wsX11_choose := goodIn_r _ [102] (by decide +kernel) (by decide +kernel)
set_option maxRecDepth 20000 in
theorem gX11_odds_X11_choose : GoodIn wsX11_odds (va_wsS RX11 353 yX11_choose wsX11_choose) := goodIn_app (goodIn_of _ (by decide +kernel)) ggX11_odds_X11_choose
theorem dX11_odds_0 : decode cX11_odds 0 = .ok (.aload_n 0, 1) := by decide +kernel
theorem dX11_odds_1 : decode cX11_odds 1 = .ok (.iload_n 1, 1) := by decide +kernel
theorem dX11_odds_2 : decode cX11_odds 2 = .ok (.invokevirtual 148, 3) := by decide +kernel
theorem dX11_odds_5 : decode cX11_odds 5 = .ok (.ifCond .ne 11, 3) := by decide +kernel
theorem dX11_odds_8 : decode cX11_odds 8 = .ok (.new 152, 3) := by decide +kernel
theorem dX11_odds_11 : decode cX11_odds 11 = .ok (.dup, 1) := by decide +kernel
theorem dX11_odds_12 : decode cX11_odds 12 = .ok (.invokespecial 154, 3) := by decide +kernel
theorem dX11_odds_15 : decode cX11_odds 15 = .ok (.athrow, 1) := by decide +kernel
theorem dX11_odds_16 : decode cX11_odds 16 = .ok (.iload_n 2, 1) := by decide +kernel
theorem dX11_odds_17 : decode cX11_odds 17 = .ok (.ifCond .lt 17, 3) := by decide +kernel
theorem dX11_odds_20 : decode cX11_odds 20 = .ok (.iload_n 2, 1) := by decide +kernel
theorem dX11_odds_21 : decode cX11_odds 21 = .ok (.iconst 5, 1) := by decide +kernel
theorem dX11_odds_22 : decode cX11_odds 22 = .ok (.if_icmp .gt 12, 3) := by decide +kernel
theorem dX11_odds_25 : decode cX11_odds 25 = .ok (.iload_n 3, 1) := by decide +kernel
theorem dX11_odds_26 : decode cX11_odds 26 = .ok (.ifCond .lt 8, 3) := by decide +kernel
theorem dX11_odds_29 : decode cX11_odds 29 = .ok (.iload_n 3, 1) := by decide +kernel
theorem dX11_odds_30 : decode cX11_odds 30 = .ok (.iconst 5, 1) := by decide +kernel
theorem dX11_odds_31 : decode cX11_odds 31 = .ok (.if_icmp .le 11, 3) := by decide +kernel
theorem dX11_odds_34 : decode cX11_odds 34 = .ok (.new 119, 3) := by decide +kernel
theorem dX11_odds_37 : decode cX11_odds 37 = .ok (.dup, 1) := by decide +kernel
theorem dX11_odds_38 : decode cX11_odds 38 = .ok (.invokespecial 121, 3) := by decide +kernel
theorem dX11_odds_41 : decode cX11_odds 41 = .ok (.athrow, 1) := by decide +kernel
theorem dX11_odds_42 : decode cX11_odds 42 = .ok (.aload_n 0, 1) := by decide +kernel
theorem dX11_odds_43 : decode cX11_odds 43 = .ok (.getfield 20, 3) := by decide +kernel
theorem dX11_odds_46 : decode cX11_odds 46 = .ok (.getfield 168, 3) := by decide +kernel
theorem dX11_odds_49 : decode cX11_odds 49 = .ok (.aload_n 0, 1) := by decide +kernel
theorem dX11_odds_50 : decode cX11_odds 50 = .ok (.getfield 77, 3) := by decide +kernel
theorem dX11_odds_53 : decode cX11_odds 53 = .ok (.invokevirtual 172, 3) := by decide +kernel
theorem dX11_odds_56 : decode cX11_odds 56 = .ok (.aload_n 0, 1) := by decide +kernel
theorem dX11_odds_57 : decode cX11_odds 57 = .ok (.getfield 20, 3) := by decide +kernel
theorem dX11_odds_60 : decode cX11_odds 60 = .ok (.getfield 168, 3) := by decide +kernel
theorem dX11_odds_63 : decode cX11_odds 63 = .ok (.getfield 180, 3) := by decide +kernel
theorem dX11_odds_66 : decode cX11_odds 66 = .ok (.iload_n 1, 1) := by decide +kernel
theorem dX11_odds_67 : decode cX11_odds 67 = .ok (.iaload, 1) := by decide +kernel
theorem dX11_odds_68 : decode cX11_odds 68 = .ok (.i2l, 1) := by decide +kernel
theorem dX11_odds_69 : decode cX11_odds 69 = .ok (.lstore 4, 2) := by decide +kernel
theorem dX11_odds_71 : decode cX11_odds 71 = .ok (.lconst 0, 1) := by decide +kernel
theorem dX11_odds_72 : decode cX11_odds 72 = .ok (.lstore 6, 2) := by decide +kernel
theorem dX11_odds_74 : decode cX11_odds 74 = .ok (.lconst 1, 1) := by decide +kernel
theorem dX11_odds_75 : decode cX11_odds 75 = .ok (.lstore 8, 2) := by decide +kernel
theorem dX11_odds_77 : decode cX11_odds 77 = .ok (.iconst 0, 1) := by decide +kernel
theorem dX11_odds_78 : decode cX11_odds 78 = .ok (.istore 10, 2) := by decide +kernel
theorem dX11_odds_80 : decode cX11_odds 80 = .ok (.iload 10, 2) := by decide +kernel
theorem dX11_odds_82 : decode cX11_odds 82 = .ok (.iload_n 2, 1) := by decide +kernel
theorem dX11_odds_83 : decode cX11_odds 83 = .ok (.if_icmp .ge 17, 3) := by decide +kernel
theorem dX11_odds_86 : decode cX11_odds 86 = .ok (.lload 8, 2) := by decide +kernel
theorem dX11_odds_88 : decode cX11_odds 88 = .ok (.ldc2_w 351, 3) := by decide +kernel
theorem dX11_odds_91 : decode cX11_odds 91 = .ok (.lmul, 1) := by decide +kernel
theorem dX11_odds_92 : decode cX11_odds 92 = .ok (.lstore 8, 2) := by decide +kernel
theorem dX11_odds_94 : decode cX11_odds 94 = .ok (.iinc 10 1, 3) := by decide +kernel
theorem dX11_odds_97 : decode cX11_odds 97 = .ok (.goto (-17), 3) := by decide +kernel
theorem dX11_odds_100 : decode cX11_odds 100 = .ok (.iload_n 3, 1) := by decide +kernel
theorem dX11_odds_101 : decode cX11_odds 101 = .ok (.istore 10, 2) := by decide +kernel
theorem dX11_odds_103 : decode cX11_odds 103 = .ok (.iload 10, 2) := by decide +kernel
theorem dX11_odds_105 : decode cX11_odds 105 = .ok (.iload_n 2, 1) := by decide +kernel
theorem dX11_odds_106 : decode cX11_odds 106 = .ok (.if_icmp .gt 65, 3) := by decide +kernel
theorem dX11_odds_109 : decode cX11_odds 109 = .ok (.lconst 1, 1) := by decide +kernel
theorem dX11_odds_110 : decode cX11_odds 110 = .ok (.lstore 11, 2) := by decide +kernel
theorem dX11_odds_112 : decode cX11_odds 112 = .ok (.iconst 0, 1) := by decide +kernel
theorem dX11_odds_113 : decode cX11_odds 113 = .ok (.istore 13, 2) := by decide +kernel
theorem dX11_odds_115 : decode cX11_odds 115 = .ok (.iload 13, 2) := by decide +kernel
theorem dX11_odds_117 : decode cX11_odds 117 = .ok (.iload_n 2, 1) := by decide +kernel
theorem dX11_odds_118 : decode cX11_odds 118 = .ok (.if_icmp .ge 32, 3) := by decide +kernel
theorem dX11_odds_121 : decode cX11_odds 121 = .ok (.lload 11, 2) := by decide +kernel
theorem dX11_odds_123 : decode cX11_odds 123 = .ok (.iload 13, 2) := by decide +kernel
theorem dX11_odds_125 : decode cX11_odds 125 = .ok (.iload 10, 2) := by decide +kernel
theorem dX11_odds_127 : decode cX11_odds 127 = .ok (.if_icmp .ge 8, 3) := by decide +kernel
theorem dX11_odds_130 : decode cX11_odds 130 = .ok (.lload 4, 2) := by decide +kernel
theorem dX11_odds_132 : decode cX11_odds 132 = .ok (.goto 9, 3) := by decide +kernel
theorem dX11_odds_135 : decode cX11_odds 135 = .ok (.ldc2_w 351, 3) := by decide +kernel
theorem dX11_odds_138 : decode cX11_odds 138 = .ok (.lload 4, 2) := by decide +kernel
theorem dX11_odds_140 : decode cX11_odds 140 = .ok (.lsub, 1) := by decide +kernel
theorem dX11_odds_141 : decode cX11_odds 141 = .ok (.lmul, 1) := by decide +kernel
theorem dX11_odds_142 : decode cX11_odds 142 = .ok (.lstore 11, 2) := by decide +kernel
theorem dX11_odds_144 : decode cX11_odds 144 = .ok (.iinc 13 1, 3) := by decide +kernel
theorem dX11_odds_147 : decode cX11_odds 147 = .ok (.goto (-32), 3) := by decide +kernel
theorem dX11_odds_150 : decode cX11_odds 150 = .ok (.lload 6, 2) := by decide +kernel
theorem dX11_odds_152 : decode cX11_odds 152 = .ok (.lload 11, 2) := by decide +kernel
theorem dX11_odds_154 : decode cX11_odds 154 = .ok (.iload_n 2, 1) := by decide +kernel
theorem dX11_odds_155 : decode cX11_odds 155 = .ok (.iload 10, 2) := by decide +kernel
theorem dX11_odds_157 : decode cX11_odds 157 = .ok (.invokestatic 353, 3) := by decide +kernel
theorem dX11_odds_160 : decode cX11_odds 160 = .ok (.i2l, 1) := by decide +kernel
theorem dX11_odds_161 : decode cX11_odds 161 = .ok (.lmul, 1) := by decide +kernel
theorem dX11_odds_162 : decode cX11_odds 162 = .ok (.ladd, 1) := by decide +kernel
theorem dX11_odds_163 : decode cX11_odds 163 = .ok (.lstore 6, 2) := by decide +kernel
theorem dX11_odds_165 : decode cX11_odds 165 = .ok (.iinc 10 1, 3) := by decide +kernel
theorem dX11_odds_168 : decode cX11_odds 168 = .ok (.goto (-65), 3) := by decide +kernel
theorem dX11_odds_171 : decode cX11_odds 171 = .ok (.lload 6, 2) := by decide +kernel
theorem dX11_odds_173 : decode cX11_odds 173 = .ok (.ldc2_w 356, 3) := by decide +kernel
theorem dX11_odds_176 : decode cX11_odds 176 = .ok (.lmul, 1) := by decide +kernel
theorem dX11_odds_177 : decode cX11_odds 177 = .ok (.lconst 1, 1) := by decide +kernel
theorem dX11_odds_178 : decode cX11_odds 178 = .ok (.lload 8, 2) := by decide +kernel
theorem dX11_odds_180 : decode cX11_odds 180 = .ok (.invokestatic 358, 3) := by decide +kernel
theorem dX11_odds_183 : decode cX11_odds 183 = .ok (.ldiv, 1) := by decide +kernel
theorem dX11_odds_184 : decode cX11_odds 184 = .ok (.l2i, 1) := by decide +kernel
theorem dX11_odds_185 : decode cX11_odds 185 = .ok (.ireturn, 1) := by decide +kernel
theorem dX11_choose_0 : decode cX11_choose 0 = .ok (.iconst 1, 1) := by decide +kernel
theorem dX11_choose_1 : decode cX11_choose 1 = .ok (.istore_n 2, 1) := by decide +kernel
theorem dX11_choose_2 : decode cX11_choose 2 = .ok (.iconst 1, 1) := by decide +kernel
theorem dX11_choose_3 : decode cX11_choose 3 = .ok (.istore_n 3, 1) := by decide +kernel
theorem dX11_choose_4 : decode cX11_choose 4 = .ok (.iload_n 3, 1) := by decide +kernel
theorem dX11_choose_5 : decode cX11_choose 5 = .ok (.iload_n 1, 1) := by decide +kernel
theorem dX11_choose_6 : decode cX11_choose 6 = .ok (.if_icmp .gt 19, 3) := by decide +kernel
theorem dX11_choose_9 : decode cX11_choose 9 = .ok (.iload_n 2, 1) := by decide +kernel
theorem dX11_choose_10 : decode cX11_choose 10 = .ok (.iload_n 0, 1) := by decide +kernel
theorem dX11_choose_11 : decode cX11_choose 11 = .ok (.iload_n 1, 1) := by decide +kernel
theorem dX11_choose_12 : decode cX11_choose 12 = .ok (.isub, 1) := by decide +kernel
theorem dX11_choose_13 : decode cX11_choose 13 = .ok (.iload_n 3, 1) := by decide +kernel
theorem dX11_choose_14 : decode cX11_choose 14 = .ok (.iadd, 1) := by decide +kernel
theorem dX11_choose_15 : decode cX11_choose 15 = .ok (.imul, 1) := by decide +kernel
theorem dX11_choose_16 : decode cX11_choose 16 = .ok (.iload_n 3, 1) := by decide +kernel
theorem dX11_choose_17 : decode cX11_choose 17 = .ok (.idiv, 1) := by decide +kernel
theorem dX11_choose_18 : decode cX11_choose 18 = .ok (.istore_n 2, 1) := by decide +kernel
theorem dX11_choose_19 : decode cX11_choose 19 = .ok (.iinc 3 1, 3) := by decide +kernel
theorem dX11_choose_22 : decode cX11_choose 22 = .ok (.goto (-18), 3) := by decide +kernel
theorem dX11_choose_25 : decode cX11_choose 25 = .ok (.iload_n 2, 1) := by decide +kernel
theorem dX11_choose_26 : decode cX11_choose 26 = .ok (.ireturn, 1) := by decide +kernel
theorem dX11_most_0 : decode cX11_most 0 = .ok (.iload_n 1, 1) := by decide +kernel
theorem dX11_most_1 : decode cX11_most 1 = .ok (.ifCond .lt 8, 3) := by decide +kernel
theorem dX11_most_4 : decode cX11_most 4 = .ok (.iload_n 1, 1) := by decide +kernel
theorem dX11_most_5 : decode cX11_most 5 = .ok (.iconst 2, 1) := by decide +kernel
theorem dX11_most_6 : decode cX11_most 6 = .ok (.if_icmp .le 11, 3) := by decide +kernel
theorem dX11_most_9 : decode cX11_most 9 = .ok (.new 155, 3) := by decide +kernel
theorem dX11_most_12 : decode cX11_most 12 = .ok (.dup, 1) := by decide +kernel
theorem dX11_most_13 : decode cX11_most 13 = .ok (.invokespecial 157, 3) := by decide +kernel
theorem dX11_most_16 : decode cX11_most 16 = .ok (.athrow, 1) := by decide +kernel
theorem dX11_most_17 : decode cX11_most 17 = .ok (.iconst (-1), 1) := by decide +kernel
theorem dX11_most_18 : decode cX11_most 18 = .ok (.istore_n 2, 1) := by decide +kernel
theorem dX11_most_19 : decode cX11_most 19 = .ok (.iconst 0, 1) := by decide +kernel
theorem dX11_most_20 : decode cX11_most 20 = .ok (.istore_n 3, 1) := by decide +kernel
theorem dX11_most_21 : decode cX11_most 21 = .ok (.iconst 0, 1) := by decide +kernel
theorem dX11_most_22 : decode cX11_most 22 = .ok (.istore 4, 2) := by decide +kernel
theorem dX11_most_24 : decode cX11_most 24 = .ok (.iload 4, 2) := by decide +kernel
theorem dX11_most_26 : decode cX11_most 26 = .ok (.aload_n 0, 1) := by decide +kernel
theorem dX11_most_27 : decode cX11_most 27 = .ok (.getfield 77, 3) := by decide +kernel
theorem dX11_most_30 : decode cX11_most 30 = .ok (.getfield 145, 3) := by decide +kernel
theorem dX11_most_33 : decode cX11_most 33 = .ok (.if_icmp .ge 81, 3) := by decide +kernel
theorem dX11_most_36 : decode cX11_most 36 = .ok (.aload_n 0, 1) := by decide +kernel
theorem dX11_most_37 : decode cX11_most 37 = .ok (.getfield 77, 3) := by decide +kernel
theorem dX11_most_40 : decode cX11_most 40 = .ok (.getfield 158, 3) := by decide +kernel
theorem dX11_most_43 : decode cX11_most 43 = .ok (.iload 4, 2) := by decide +kernel
theorem dX11_most_45 : decode cX11_most 45 = .ok (.aaload, 1) := by decide +kernel
theorem dX11_most_46 : decode cX11_most 46 = .ok (.astore 5, 2) := by decide +kernel
theorem dX11_most_48 : decode cX11_most 48 = .ok (.aload 5, 2) := by decide +kernel
theorem dX11_most_50 : decode cX11_most 50 = .ok (.getfield 361, 3) := by decide +kernel
theorem dX11_most_53 : decode cX11_most 53 = .ok (.aload 5, 2) := by decide +kernel
theorem dX11_most_55 : decode cX11_most 55 = .ok (.getfield 364, 3) := by decide +kernel
theorem dX11_most_58 : decode cX11_most 58 = .ok (.iadd, 1) := by decide +kernel
theorem dX11_most_59 : decode cX11_most 59 = .ok (.istore 6, 2) := by decide +kernel
theorem dX11_most_61 : decode cX11_most 61 = .ok (.iload_n 1, 1) := by decide +kernel
theorem dX11_most_62 : decode cX11_most 62 = .ok (.ifCond .ne 8, 3) := by decide +kernel
theorem dX11_most_65 : decode cX11_most 65 = .ok (.iload 6, 2) := by decide +kernel
theorem dX11_most_67 : decode cX11_most 67 = .ok (.goto 22, 3) := by decide +kernel
theorem dX11_most_70 : decode cX11_most 70 = .ok (.iload_n 1, 1) := by decide +kernel
theorem dX11_most_71 : decode cX11_most 71 = .ok (.iconst 1, 1) := by decide +kernel
theorem dX11_most_72 : decode cX11_most 72 = .ok (.if_icmp .ne 9, 3) := by decide +kernel
theorem dX11_most_75 : decode cX11_most 75 = .ok (.iload 6, 2) := by decide +kernel
theorem dX11_most_77 : decode cX11_most 77 = .ok (.ineg, 1) := by decide +kernel
theorem dX11_most_78 : decode cX11_most 78 = .ok (.goto 11, 3) := by decide +kernel
theorem dX11_most_81 : decode cX11_most 81 = .ok (.aload 5, 2) := by decide +kernel
theorem dX11_most_83 : decode cX11_most 83 = .ok (.getfield 253, 3) := by decide +kernel
theorem dX11_most_86 : decode cX11_most 86 = .ok (.invokestatic 289, 3) := by decide +kernel
theorem dX11_most_89 : decode cX11_most 89 = .ok (.istore 7, 2) := by decide +kernel
theorem dX11_most_91 : decode cX11_most 91 = .ok (.iload_n 2, 1) := by decide +kernel
theorem dX11_most_92 : decode cX11_most 92 = .ok (.iconst (-1), 1) := by decide +kernel
theorem dX11_most_93 : decode cX11_most 93 = .ok (.if_icmp .eq 9, 3) := by decide +kernel
theorem dX11_most_96 : decode cX11_most 96 = .ok (.iload 7, 2) := by decide +kernel
theorem dX11_most_98 : decode cX11_most 98 = .ok (.iload_n 3, 1) := by decide +kernel
theorem dX11_most_99 : decode cX11_most 99 = .ok (.if_icmp .le 9, 3) := by decide +kernel
theorem dX11_most_102 : decode cX11_most 102 = .ok (.iload 4, 2) := by decide +kernel
theorem dX11_most_104 : decode cX11_most 104 = .ok (.istore_n 2, 1) := by decide +kernel
theorem dX11_most_105 : decode cX11_most 105 = .ok (.iload 7, 2) := by decide +kernel
theorem dX11_most_107 : decode cX11_most 107 = .ok (.istore_n 3, 1) := by decide +kernel
theorem dX11_most_108 : decode cX11_most 108 = .ok (.iinc 4 1, 3) := by decide +kernel
theorem dX11_most_111 : decode cX11_most 111 = .ok (.goto (-87), 3) := by decide +kernel
theorem dX11_most_114 : decode cX11_most 114 = .ok (.iload_n 2, 1) := by decide +kernel
theorem dX11_most_115 : decode cX11_most 115 = .ok (.ireturn, 1) := by decide +kernel
set_option maxRecDepth 20000 in
theorem ggX11_byState_X7_inState : GoodIn wsX11_byState wsX7_inState := goodIn_r _ [8, 9, 10, 11, 12, 13, 14, 31, 32, 33, 34, 35, 36, 37, 38, 39, 40, 41, 42, 43, 44, 45, 46, 47, 48, 49, 50, 51, 52] (by decide +kernel) (by decide +kernel)
set_option maxRecDepth 20000 in
theorem gX11_byState_X7_inState : GoodIn wsX11_byState (wsV RX11 272 RX7 yX7_inState wsX7_inState) := goodIn_app (goodIn_of _ (by decide +kernel)) ggX11_byState_X7_inState
theorem dX11_byState_0 : decode cX11_byState 0 = .ok (.iload_n 1, 1) := by decide +kernel
theorem dX11_byState_1 : decode cX11_byState 1 = .ok (.ifCond .lt 8, 3) := by decide +kernel
theorem dX11_byState_4 : decode cX11_byState 4 = .ok (.iload_n 1, 1) := by decide +kernel
theorem dX11_byState_5 : decode cX11_byState 5 = .ok (.iconst 3, 1) := by decide +kernel
theorem dX11_byState_6 : decode cX11_byState 6 = .ok (.if_icmp .le 11, 3) := by decide +kernel
theorem dX11_byState_9 : decode cX11_byState 9 = .ok (.new 155, 3) := by decide +kernel
theorem dX11_byState_12 : decode cX11_byState 12 = .ok (.dup, 1) := by decide +kernel
theorem dX11_byState_13 : decode cX11_byState 13 = .ok (.invokespecial 157, 3) := by decide +kernel
theorem dX11_byState_16 : decode cX11_byState 16 = .ok (.athrow, 1) := by decide +kernel
theorem dX11_byState_17 : decode cX11_byState 17 = .ok (.aload_n 0, 1) := by decide +kernel
theorem dX11_byState_18 : decode cX11_byState 18 = .ok (.getfield 77, 3) := by decide +kernel
theorem dX11_byState_21 : decode cX11_byState 21 = .ok (.iload_n 1, 1) := by decide +kernel
theorem dX11_byState_22 : decode cX11_byState 22 = .ok (.invokevirtual 272, 3) := by decide +kernel
theorem dX11_byState_25 : decode cX11_byState 25 = .ok (.ireturn, 1) := by decide +kernel
theorem dX11_twins_0 : decode cX11_twins 0 = .ok (.iconst 0, 1) := by decide +kernel
theorem dX11_twins_1 : decode cX11_twins 1 = .ok (.istore_n 1, 1) := by decide +kernel
theorem dX11_twins_2 : decode cX11_twins 2 = .ok (.iconst 0, 1) := by decide +kernel
theorem dX11_twins_3 : decode cX11_twins 3 = .ok (.istore_n 2, 1) := by decide +kernel
theorem dX11_twins_4 : decode cX11_twins 4 = .ok (.iload_n 2, 1) := by decide +kernel
theorem dX11_twins_5 : decode cX11_twins 5 = .ok (.aload_n 0, 1) := by decide +kernel
theorem dX11_twins_6 : decode cX11_twins 6 = .ok (.getfield 77, 3) := by decide +kernel
theorem dX11_twins_9 : decode cX11_twins 9 = .ok (.getfield 145, 3) := by decide +kernel
theorem dX11_twins_12 : decode cX11_twins 12 = .ok (.if_icmp .ge 104, 3) := by decide +kernel
theorem dX11_twins_15 : decode cX11_twins 15 = .ok (.iload_n 2, 1) := by decide +kernel
theorem dX11_twins_16 : decode cX11_twins 16 = .ok (.iconst 1, 1) := by decide +kernel
theorem dX11_twins_17 : decode cX11_twins 17 = .ok (.iadd, 1) := by decide +kernel
theorem dX11_twins_18 : decode cX11_twins 18 = .ok (.istore_n 3, 1) := by decide +kernel
theorem dX11_twins_19 : decode cX11_twins 19 = .ok (.iload_n 3, 1) := by decide +kernel
theorem dX11_twins_20 : decode cX11_twins 20 = .ok (.aload_n 0, 1) := by decide +kernel
theorem dX11_twins_21 : decode cX11_twins 21 = .ok (.getfield 77, 3) := by decide +kernel
theorem dX11_twins_24 : decode cX11_twins 24 = .ok (.getfield 145, 3) := by decide +kernel
theorem dX11_twins_27 : decode cX11_twins 27 = .ok (.if_icmp .ge 83, 3) := by decide +kernel
theorem dX11_twins_30 : decode cX11_twins 30 = .ok (.aload_n 0, 1) := by decide +kernel
theorem dX11_twins_31 : decode cX11_twins 31 = .ok (.getfield 77, 3) := by decide +kernel
theorem dX11_twins_34 : decode cX11_twins 34 = .ok (.getfield 158, 3) := by decide +kernel
theorem dX11_twins_37 : decode cX11_twins 37 = .ok (.iload_n 2, 1) := by decide +kernel
theorem dX11_twins_38 : decode cX11_twins 38 = .ok (.aaload, 1) := by decide +kernel
theorem dX11_twins_39 : decode cX11_twins 39 = .ok (.getfield 361, 3) := by decide +kernel
theorem dX11_twins_42 : decode cX11_twins 42 = .ok (.aload_n 0, 1) := by decide +kernel
theorem dX11_twins_43 : decode cX11_twins 43 = .ok (.getfield 77, 3) := by decide +kernel
theorem dX11_twins_46 : decode cX11_twins 46 = .ok (.getfield 158, 3) := by decide +kernel
theorem dX11_twins_49 : decode cX11_twins 49 = .ok (.iload_n 3, 1) := by decide +kernel
theorem dX11_twins_50 : decode cX11_twins 50 = .ok (.aaload, 1) := by decide +kernel
theorem dX11_twins_51 : decode cX11_twins 51 = .ok (.getfield 361, 3) := by decide +kernel
theorem dX11_twins_54 : decode cX11_twins 54 = .ok (.if_icmp .ne 34, 3) := by decide +kernel
theorem dX11_twins_57 : decode cX11_twins 57 = .ok (.aload_n 0, 1) := by decide +kernel
theorem dX11_twins_58 : decode cX11_twins 58 = .ok (.getfield 77, 3) := by decide +kernel
theorem dX11_twins_61 : decode cX11_twins 61 = .ok (.getfield 158, 3) := by decide +kernel
theorem dX11_twins_64 : decode cX11_twins 64 = .ok (.iload_n 2, 1) := by decide +kernel
theorem dX11_twins_65 : decode cX11_twins 65 = .ok (.aaload, 1) := by decide +kernel
theorem dX11_twins_66 : decode cX11_twins 66 = .ok (.getfield 196, 3) := by decide +kernel
theorem dX11_twins_69 : decode cX11_twins 69 = .ok (.aload_n 0, 1) := by decide +kernel
theorem dX11_twins_70 : decode cX11_twins 70 = .ok (.getfield 77, 3) := by decide +kernel
theorem dX11_twins_73 : decode cX11_twins 73 = .ok (.getfield 158, 3) := by decide +kernel
theorem dX11_twins_76 : decode cX11_twins 76 = .ok (.iload_n 3, 1) := by decide +kernel
theorem dX11_twins_77 : decode cX11_twins 77 = .ok (.aaload, 1) := by decide +kernel
theorem dX11_twins_78 : decode cX11_twins 78 = .ok (.getfield 196, 3) := by decide +kernel
theorem dX11_twins_81 : decode cX11_twins 81 = .ok (.if_icmp .ne 7, 3) := by decide +kernel
theorem dX11_twins_84 : decode cX11_twins 84 = .ok (.iconst 1, 1) := by decide +kernel
theorem dX11_twins_85 : decode cX11_twins 85 = .ok (.goto 4, 3) := by decide +kernel
theorem dX11_twins_88 : decode cX11_twins 88 = .ok (.iconst 0, 1) := by decide +kernel
theorem dX11_twins_89 : decode cX11_twins 89 = .ok (.istore 4, 2) := by decide +kernel
theorem dX11_twins_91 : decode cX11_twins 91 = .ok (.iload_n 1, 1) := by decide +kernel
theorem dX11_twins_92 : decode cX11_twins 92 = .ok (.iload 4, 2) := by decide +kernel
theorem dX11_twins_94 : decode cX11_twins 94 = .ok (.ifCond .eq 7, 3) := by decide +kernel
theorem dX11_twins_97 : decode cX11_twins 97 = .ok (.iconst 1, 1) := by decide +kernel
theorem dX11_twins_98 : decode cX11_twins 98 = .ok (.goto 4, 3) := by decide +kernel
theorem dX11_twins_101 : decode cX11_twins 101 = .ok (.iconst 0, 1) := by decide +kernel
theorem dX11_twins_102 : decode cX11_twins 102 = .ok (.iadd, 1) := by decide +kernel
theorem dX11_twins_103 : decode cX11_twins 103 = .ok (.istore_n 1, 1) := by decide +kernel
theorem dX11_twins_104 : decode cX11_twins 104 = .ok (.iinc 3 1, 3) := by decide +kernel
theorem dX11_twins_107 : decode cX11_twins 107 = .ok (.goto (-88), 3) := by decide +kernel
theorem dX11_twins_110 : decode cX11_twins 110 = .ok (.iinc 2 1, 3) := by decide +kernel
theorem dX11_twins_113 : decode cX11_twins 113 = .ok (.goto (-109), 3) := by decide +kernel
theorem dX11_twins_116 : decode cX11_twins 116 = .ok (.iload_n 1, 1) := by decide +kernel
theorem dX11_twins_117 : decode cX11_twins 117 = .ok (.ireturn, 1) := by decide +kernel
set_option maxRecDepth 20000 in
theorem ggX11_ahead_X11_isNode : GoodIn wsX11_ahead wsX11_isNode := goodIn_r _ [14, 6, 15, 229, 230, 231, 232, 233, 234, 235, 236, 237, 238, 239, 240, 241, 242, 243, 244, 245, 246, 247, 248, 249, 250, 251, 252, 253, 254, 255] (by decide +kernel) (by decide +kernel)
set_option maxRecDepth 20000 in
theorem gX11_ahead_X11_isNode : GoodIn wsX11_ahead (wsV RX11 148 RX11 yX11_isNode wsX11_isNode) := goodIn_app (goodIn_of _ (by decide +kernel)) ggX11_ahead_X11_isNode
set_option maxRecDepth 20000 in
theorem ggX11_ahead_X11_isAhead : GoodIn wsX11_ahead wsX11_isAhead := goodIn_r _ [18] (by decide +kernel) (by decide +kernel)
set_option maxRecDepth 20000 in
theorem gX11_ahead_X11_isAhead : GoodIn wsX11_ahead (va_wsS RX11 280 yX11_isAhead wsX11_isAhead) := goodIn_app (goodIn_of _ (by decide +kernel)) ggX11_ahead_X11_isAhead
set_option maxRecDepth 20000 in
theorem ggX11_ahead_X7_copyFrom : GoodIn wsX11_ahead wsX7_copyFrom := goodIn_r _ [23, 24, 25, 26, 27, 28, 29, 30, 31, 32, 33, 34, 35, 36, 37, 38, 39, 40, 41, 42, 43, 44, 45, 46, 47, 48, 49, 50, 51, 52, 53, 54, 245, 246, 247, 248, 249, 250, 251, 252, 253, 254, 255, 256, 257, 258, 259, 260, 261, 262, 263, 264, 265, 266] (by decide +kernel) (by decide +kernel)
set_option maxRecDepth 20000 in
theorem gX11_ahead_X7_copyFrom : GoodIn wsX11_ahead (wsV RX11 109 RX7 yX7_copyFrom wsX7_copyFrom) := goodIn_app (goodIn_of _ (by decide +kernel)) ggX11_ahead_X7_copyFrom
set_option maxRecDepth 20000 in
theorem ggX11_ahead_X11_playDraft : GoodIn wsX11_ahead wsX11_playDraft := goodIn_r _ [58, 59, 5, 60, 61, 62, 63, 64, 65, 66, 67, 68, 69, 70, 71, 72, 73, 74, 75, 76, 77, 78, 79, 80, 81, 82, 83, 84, 85, 86, 87, 88, 89, 90, 91, 92, 93, 94, 95, 96, 97, 98, 99, 22, 100, 32, 24, 101, 102, 13, 103, 104, 105, 106, 107, 108, 109, 110, 111, 112, 113, 114, 115, 116, 117, 118, 119, 120, 121, 122, 123, 124, 125, 126, 127, 128, 129, 130, 131, 132, 133, 134, 135, 136, 137, 138, 139, 140, 141, 142, 143, 144, 145, 146, 147, 148, 149, 150, 151, 152, 153, 154, 155, 156, 157, 158, 159, 36, 160, 161, 162, 163, 164, 165, 166, 167, 168, 169, 170, 171, 172, 173, 174, 175, 31, 25, 35, 30, 176, 177, 178, 179, 180, 181, 182, 183, 184, 185, 186, 187, 188, 189, 190, 191, 192, 193, 194, 195, 196, 197, 198, 199, 200, 201, 202, 203, 204, 205, 206, 207, 208, 209, 210, 211, 212, 213, 214, 215, 216, 217, 218, 219, 220, 221, 222, 223, 224, 225, 226, 227, 228, 229, 230, 231, 232, 233, 234, 235, 236, 237, 238, 239, 240, 241, 242, 243, 244, 267, 268, 269, 270, 271, 272, 273, 274, 275, 245, 246, 247, 248, 249, 250, 251, 252, 253, 254, 255, 256, 257, 258, 259, 260, 261, 262, 263, 264, 265, 266, 276, 277, 278, 279, 280, 281] (by decide +kernel) (by decide +kernel)
set_option maxRecDepth 20000 in
theorem gX11_ahead_X11_playDraft : GoodIn wsX11_ahead (wsV RX11 367 RX11 yX11_playDraft wsX11_playDraft) := goodIn_app (goodIn_of _ (by decide +kernel)) ggX11_ahead_X11_playDraft
theorem dX11_ahead_0 : decode cX11_ahead 0 = .ok (.aload_n 0, 1) := by decide +kernel
theorem dX11_ahead_1 : decode cX11_ahead 1 = .ok (.iload_n 1, 1) := by decide +kernel
theorem dX11_ahead_2 : decode cX11_ahead 2 = .ok (.invokevirtual 148, 3) := by decide +kernel
theorem dX11_ahead_5 : decode cX11_ahead 5 = .ok (.ifCond .ne 11, 3) := by decide +kernel
theorem dX11_ahead_8 : decode cX11_ahead 8 = .ok (.new 152, 3) := by decide +kernel
theorem dX11_ahead_11 : decode cX11_ahead 11 = .ok (.dup, 1) := by decide +kernel
theorem dX11_ahead_12 : decode cX11_ahead 12 = .ok (.invokespecial 154, 3) := by decide +kernel
theorem dX11_ahead_15 : decode cX11_ahead 15 = .ok (.athrow, 1) := by decide +kernel
theorem dX11_ahead_16 : decode cX11_ahead 16 = .ok (.iload_n 2, 1) := by decide +kernel
theorem dX11_ahead_17 : decode cX11_ahead 17 = .ok (.invokestatic 280, 3) := by decide +kernel
theorem dX11_ahead_20 : decode cX11_ahead 20 = .ok (.ifCond .ne 11, 3) := by decide +kernel
theorem dX11_ahead_23 : decode cX11_ahead 23 = .ok (.new 119, 3) := by decide +kernel
theorem dX11_ahead_26 : decode cX11_ahead 26 = .ok (.dup, 1) := by decide +kernel
theorem dX11_ahead_27 : decode cX11_ahead 27 = .ok (.invokespecial 121, 3) := by decide +kernel
theorem dX11_ahead_30 : decode cX11_ahead 30 = .ok (.athrow, 1) := by decide +kernel
theorem dX11_ahead_31 : decode cX11_ahead 31 = .ok (.aload_n 0, 1) := by decide +kernel
theorem dX11_ahead_32 : decode cX11_ahead 32 = .ok (.getfield 81, 3) := by decide +kernel
theorem dX11_ahead_35 : decode cX11_ahead 35 = .ok (.aload_n 0, 1) := by decide +kernel
theorem dX11_ahead_36 : decode cX11_ahead 36 = .ok (.getfield 77, 3) := by decide +kernel
theorem dX11_ahead_39 : decode cX11_ahead 39 = .ok (.invokevirtual 109, 3) := by decide +kernel
theorem dX11_ahead_42 : decode cX11_ahead 42 = .ok (.aload_n 0, 1) := by decide +kernel
theorem dX11_ahead_43 : decode cX11_ahead 43 = .ok (.iload_n 2, 1) := by decide +kernel
theorem dX11_ahead_44 : decode cX11_ahead 44 = .ok (.iconst 0, 1) := by decide +kernel
theorem dX11_ahead_45 : decode cX11_ahead 45 = .ok (.invokevirtual 367, 3) := by decide +kernel
theorem dX11_ahead_48 : decode cX11_ahead 48 = .ok (.iload_n 3, 1) := by decide +kernel
theorem dX11_ahead_49 : decode cX11_ahead 49 = .ok (.ifCond .eq 18, 3) := by decide +kernel
theorem dX11_ahead_52 : decode cX11_ahead 52 = .ok (.aload_n 0, 1) := by decide +kernel
theorem dX11_ahead_53 : decode cX11_ahead 53 = .ok (.getfield 81, 3) := by decide +kernel
theorem dX11_ahead_56 : decode cX11_ahead 56 = .ok (.getfield 158, 3) := by decide +kernel
theorem dX11_ahead_59 : decode cX11_ahead 59 = .ok (.iload_n 1, 1) := by decide +kernel
theorem dX11_ahead_60 : decode cX11_ahead 60 = .ok (.aaload, 1) := by decide +kernel
theorem dX11_ahead_61 : decode cX11_ahead 61 = .ok (.getfield 196, 3) := by decide +kernel
theorem dX11_ahead_64 : decode cX11_ahead 64 = .ok (.goto 15, 3) := by decide +kernel
theorem dX11_ahead_67 : decode cX11_ahead 67 = .ok (.aload_n 0, 1) := by decide +kernel
theorem dX11_ahead_68 : decode cX11_ahead 68 = .ok (.getfield 81, 3) := by decide +kernel
theorem dX11_ahead_71 : decode cX11_ahead 71 = .ok (.getfield 158, 3) := by decide +kernel
theorem dX11_ahead_74 : decode cX11_ahead 74 = .ok (.iload_n 1, 1) := by decide +kernel
theorem dX11_ahead_75 : decode cX11_ahead 75 = .ok (.aaload, 1) := by decide +kernel
theorem dX11_ahead_76 : decode cX11_ahead 76 = .ok (.getfield 253, 3) := by decide +kernel
theorem dX11_ahead_79 : decode cX11_ahead 79 = .ok (.ireturn, 1) := by decide +kernel
set_option maxRecDepth 20000 in
theorem ggX11_playDraft_X9_play : GoodIn wsX11_playDraft wsX9_play := goodIn_r _ [7, 8, 9, 10, 11, 12, 13, 14, 15, 16, 17, 18, 19, 20, 21, 22, 23, 24, 25, 26, 27, 28, 29, 30, 31, 32, 33, 34, 35, 36, 37, 38, 39, 40, 41, 42, 43, 44, 45, 46, 47, 48, 49, 50, 51, 52, 53, 54, 55, 56, 57, 58, 59, 60, 61, 62, 63, 64, 65, 66, 67, 68, 69, 70, 71, 72, 73, 74, 75, 76, 77, 78, 79, 80, 81, 82, 83, 84, 85, 86, 87, 88, 89, 90, 91, 92, 93, 94, 95, 6, 96, 97, 98, 99, 100, 101, 102, 103, 104, 105, 106, 107, 108, 109, 110, 111, 112, 113, 114, 115, 116, 117, 118, 119, 120, 121, 122, 123, 124, 125, 126, 127, 128, 129, 130, 131, 132, 133, 134, 135, 136, 137, 138, 139, 140, 141, 142, 143, 144, 145, 146, 147, 148, 149, 150, 151, 152, 153, 154, 155, 156, 157, 158, 159, 160, 161, 162, 163, 164, 165, 166, 167, 168, 169, 170, 171, 172, 173, 174, 175, 176, 177, 178, 179, 180, 197, 198, 199, 200, 201, 202, 203, 204, 205, 206, 207, 208, 209, 210, 211, 212, 213, 214, 215, 216, 217, 218, 219, 220, 221, 222, 223, 224, 225, 226, 227, 228, 229, 230, 231, 232, 233] (by decide +kernel) (by decide +kernel)
set_option maxRecDepth 20000 in
theorem gX11_playDraft_X9_play : GoodIn wsX11_playDraft (wsV RX11 219 RX9 yX9_play wsX9_play) := goodIn_app (goodIn_of _ (by decide +kernel)) ggX11_playDraft_X9_play
theorem dX11_playDraft_0 : decode cX11_playDraft 0 = .ok (.iconst 0, 1) := by decide +kernel
theorem dX11_playDraft_1 : decode cX11_playDraft 1 = .ok (.istore_n 3, 1) := by decide +kernel
theorem dX11_playDraft_2 : decode cX11_playDraft 2 = .ok (.iload_n 3, 1) := by decide +kernel
theorem dX11_playDraft_3 : decode cX11_playDraft 3 = .ok (.iload_n 1, 1) := by decide +kernel
theorem dX11_playDraft_4 : decode cX11_playDraft 4 = .ok (.if_icmp .ge 22, 3) := by decide +kernel
theorem dX11_playDraft_7 : decode cX11_playDraft 7 = .ok (.aload_n 0, 1) := by decide +kernel
theorem dX11_playDraft_8 : decode cX11_playDraft 8 = .ok (.getfield 20, 3) := by decide +kernel
theorem dX11_playDraft_11 : decode cX11_playDraft 11 = .ok (.aload_n 0, 1) := by decide +kernel
theorem dX11_playDraft_12 : decode cX11_playDraft 12 = .ok (.getfield 81, 3) := by decide +kernel
theorem dX11_playDraft_15 : decode cX11_playDraft 15 = .ok (.iload_n 2, 1) := by decide +kernel
theorem dX11_playDraft_16 : decode cX11_playDraft 16 = .ok (.invokevirtual 219, 3) := by decide +kernel
theorem dX11_playDraft_19 : decode cX11_playDraft 19 = .ok (.pop, 1) := by decide +kernel
theorem dX11_playDraft_20 : decode cX11_playDraft 20 = .ok (.iinc 3 1, 3) := by decide +kernel
theorem dX11_playDraft_23 : decode cX11_playDraft 23 = .ok (.goto (-21), 3) := by decide +kernel
theorem dX11_playDraft_26 : decode cX11_playDraft 26 = .ok (.return_, 1) := by decide +kernel
set_option maxRecDepth 20000 in
theorem ggX11_trial_X11_isAhead : GoodIn wsX11_trial wsX11_isAhead := goodIn_r _ [8] (by decide +kernel) (by decide +kernel)
set_option maxRecDepth 20000 in
theorem gX11_trial_X11_isAhead : GoodIn wsX11_trial (va_wsS RX11 280 yX11_isAhead wsX11_isAhead) := goodIn_app (goodIn_of _ (by decide +kernel)) ggX11_trial_X11_isAhead
set_option maxRecDepth 20000 in
theorem ggX11_trial_X7_copyFrom : GoodIn wsX11_trial wsX7_copyFrom := goodIn_r _ [13, 14, 15, 16, 17, 18, 19, 20, 21, 22, 23, 24, 25, 26, 27, 28, 29, 30, 31, 32, 33, 34, 35, 36, 37, 38, 39, 40, 41, 42, 43, 44, 242, 243, 244, 245, 246, 247, 248, 249, 250, 251, 252, 253, 254, 255, 256, 257, 258, 259, 260, 261, 262, 263] (by decide +kernel) (by decide +kernel)
set_option maxRecDepth 20000 in
theorem gX11_trial_X7_copyFrom : GoodIn wsX11_trial (wsV RX11 109 RX7 yX7_copyFrom wsX7_copyFrom) := goodIn_app (goodIn_of _ (by decide +kernel)) ggX11_trial_X7_copyFrom
set_option maxRecDepth 20000 in
theorem ggX11_trial_X11_playDraft : GoodIn wsX11_trial wsX11_playDraft := goodIn_r _ [48, 49, 3, 50, 51, 52, 53, 54, 55, 56, 57, 58, 59, 60, 61, 62, 63, 64, 65, 66, 67, 68, 69, 70, 71, 72, 73, 74, 75, 76, 77, 78, 79, 80, 81, 82, 83, 84, 85, 86, 87, 88, 89, 12, 90, 22, 14, 91, 92, 7, 93, 94, 95, 96, 97, 98, 99, 100, 101, 102, 103, 104, 105, 106, 107, 108, 109, 110, 111, 112, 113, 114, 115, 116, 117, 118, 119, 120, 121, 122, 123, 124, 125, 126, 127, 128, 129, 130, 131, 132, 133, 134, 135, 136, 137, 138, 139, 140, 141, 142, 143, 144, 145, 146, 147, 148, 149, 26, 150, 151, 152, 153, 154, 155, 156, 157, 158, 159, 160, 161, 162, 163, 164, 165, 21, 15, 25, 20, 166, 167, 168, 169, 170, 171, 172, 173, 174, 175, 176, 177, 178, 179, 180, 181, 182, 183, 184, 185, 186, 187, 188, 189, 190, 191, 192, 193, 194, 195, 196, 197, 198, 199, 200, 201, 202, 203, 204, 205, 206, 207, 208, 209, 210, 211, 212, 213, 214, 215, 216, 217, 218, 226, 227, 228, 229, 230, 231, 232, 233, 234, 235, 236, 237, 238, 239, 240, 241, 264, 265, 266, 267, 268, 269, 270, 271, 272, 242, 243, 244, 245, 246, 247, 248, 249, 250, 251, 252, 253, 254, 255, 256, 257, 258, 259, 260, 261, 262, 263, 273, 274, 275, 276, 277, 278] (by decide +kernel) (by decide +kernel)
set_option maxRecDepth 20000 in
theorem gX11_trial_X11_playDraft : GoodIn wsX11_trial (wsV RX11 367 RX11 yX11_playDraft wsX11_playDraft) := goodIn_app (goodIn_of _ (by decide +kernel)) ggX11_trial_X11_playDraft
set_option maxRecDepth 20000 in
theorem ggX11_trial_X7_spreadOfClocks : GoodIn wsX11_trial wsX7_spreadOfClocks := goodIn_r _ [222, 22, 14, 91, 223, 166, 59, 60, 61, 224, 109, 110, 242, 243, 244, 245, 246, 247, 248, 249, 250, 251, 252, 253, 254, 255, 256, 257, 258, 259, 260, 261, 262, 263] (by decide +kernel) (by decide +kernel)
set_option maxRecDepth 20000 in
theorem gX11_trial_X7_spreadOfClocks : GoodIn wsX11_trial (wsV RX11 266 RX7 yX7_spreadOfClocks wsX7_spreadOfClocks) := goodIn_app (goodIn_of _ (by decide +kernel)) ggX11_trial_X7_spreadOfClocks
set_option maxRecDepth 20000 in
theorem ggX11_trial_X7_inState : GoodIn wsX11_trial wsX7_inState := goodIn_r _ [90, 22, 14, 91, 92, 7, 93, 242, 243, 244, 245, 246, 247, 248, 249, 250, 251, 252, 253, 254, 255, 256, 257, 258, 259, 260, 261, 262, 263] (by decide +kernel) (by decide +kernel)
set_option maxRecDepth 20000 in
theorem gX11_trial_X7_inState : GoodIn wsX11_trial (wsV RX11 272 RX7 yX7_inState wsX7_inState) := goodIn_app (goodIn_of _ (by decide +kernel)) ggX11_trial_X7_inState
theorem dX11_trial_0 : decode cX11_trial 0 = .ok (.iload_n 1, 1) := by decide +kernel
theorem dX11_trial_1 : decode cX11_trial 1 = .ok (.invokestatic 280, 3) := by decide +kernel
theorem dX11_trial_4 : decode cX11_trial 4 = .ok (.ifCond .ne 11, 3) := by decide +kernel
theorem dX11_trial_7 : decode cX11_trial 7 = .ok (.new 119, 3) := by decide +kernel
theorem dX11_trial_10 : decode cX11_trial 10 = .ok (.dup, 1) := by decide +kernel
theorem dX11_trial_11 : decode cX11_trial 11 = .ok (.invokespecial 121, 3) := by decide +kernel
theorem dX11_trial_14 : decode cX11_trial 14 = .ok (.athrow, 1) := by decide +kernel
theorem dX11_trial_15 : decode cX11_trial 15 = .ok (.aload_n 0, 1) := by decide +kernel
theorem dX11_trial_16 : decode cX11_trial 16 = .ok (.getfield 81, 3) := by decide +kernel
theorem dX11_trial_19 : decode cX11_trial 19 = .ok (.aload_n 0, 1) := by decide +kernel
theorem dX11_trial_20 : decode cX11_trial 20 = .ok (.getfield 77, 3) := by decide +kernel
theorem dX11_trial_23 : decode cX11_trial 23 = .ok (.invokevirtual 109, 3) := by decide +kernel
theorem dX11_trial_26 : decode cX11_trial 26 = .ok (.aload_n 0, 1) := by decide +kernel
theorem dX11_trial_27 : decode cX11_trial 27 = .ok (.iload_n 1, 1) := by decide +kernel
theorem dX11_trial_28 : decode cX11_trial 28 = .ok (.iconst 1, 1) := by decide +kernel
theorem dX11_trial_29 : decode cX11_trial 29 = .ok (.invokevirtual 367, 3) := by decide +kernel
theorem dX11_trial_32 : decode cX11_trial 32 = .ok (.iload_n 2, 1) := by decide +kernel
theorem dX11_trial_33 : decode cX11_trial 33 = .ok (.ifCond .eq 13, 3) := by decide +kernel
theorem dX11_trial_36 : decode cX11_trial 36 = .ok (.aload_n 0, 1) := by decide +kernel
theorem dX11_trial_37 : decode cX11_trial 37 = .ok (.getfield 81, 3) := by decide +kernel
theorem dX11_trial_40 : decode cX11_trial 40 = .ok (.invokevirtual 266, 3) := by decide +kernel
theorem dX11_trial_43 : decode cX11_trial 43 = .ok (.goto 11, 3) := by decide +kernel
theorem dX11_trial_46 : decode cX11_trial 46 = .ok (.aload_n 0, 1) := by decide +kernel
theorem dX11_trial_47 : decode cX11_trial 47 = .ok (.getfield 81, 3) := by decide +kernel
theorem dX11_trial_50 : decode cX11_trial 50 = .ok (.iconst 2, 1) := by decide +kernel
theorem dX11_trial_51 : decode cX11_trial 51 = .ok (.invokevirtual 272, 3) := by decide +kernel
theorem dX11_trial_54 : decode cX11_trial 54 = .ok (.ireturn, 1) := by decide +kernel
set_option maxRecDepth 20000 in
theorem ggX11_span_X11_isAhead : GoodIn wsX11_span wsX11_isAhead := goodIn_r _ [16] (by decide +kernel) (by decide +kernel)
set_option maxRecDepth 20000 in
theorem gX11_span_X11_isAhead : GoodIn wsX11_span (va_wsS RX11 280 yX11_isAhead wsX11_isAhead) := goodIn_app (goodIn_of _ (by decide +kernel)) ggX11_span_X11_isAhead
set_option maxRecDepth 20000 in
theorem ggX11_span_X7_copyFrom : GoodIn wsX11_span wsX7_copyFrom := goodIn_r _ [21, 22, 23, 24, 25, 26, 27, 28, 29, 30, 31, 32, 33, 34, 35, 36, 37, 38, 39, 40, 41, 42, 43, 44, 45, 46, 47, 48, 49, 50, 51, 52, 238, 239, 240, 241, 242, 243, 244, 245, 246, 247, 248, 249, 250, 251, 252, 253, 254, 255, 256, 257, 258, 259] (by decide +kernel) (by decide +kernel)
set_option maxRecDepth 20000 in
theorem gX11_span_X7_copyFrom : GoodIn wsX11_span (wsV RX11 109 RX7 yX7_copyFrom wsX7_copyFrom) := goodIn_app (goodIn_of _ (by decide +kernel)) ggX11_span_X7_copyFrom
set_option maxRecDepth 20000 in
theorem ggX11_span_X11_playDraft : GoodIn wsX11_span wsX11_playDraft := goodIn_r _ [56, 57, 3, 58, 59, 60, 61, 62, 63, 64, 65, 66, 11, 8, 12, 67, 68, 69, 70, 71, 72, 73, 74, 75, 76, 77, 78, 79, 80, 81, 82, 83, 84, 85, 86, 87, 88, 89, 90, 91, 92, 93, 94, 20, 95, 30, 22, 96, 97, 15, 98, 99, 100, 101, 102, 103, 104, 105, 106, 107, 108, 109, 110, 111, 112, 113, 7, 9, 114, 115, 116, 117, 118, 119, 120, 121, 122, 123, 124, 125, 126, 127, 128, 129, 130, 131, 132, 133, 134, 135, 136, 137, 138, 139, 140, 141, 142, 143, 144, 145, 146, 147, 148, 149, 150, 151, 152, 34, 153, 154, 155, 156, 157, 158, 159, 160, 161, 162, 163, 164, 165, 166, 167, 168, 29, 23, 33, 28, 169, 170, 171, 172, 173, 174, 175, 176, 177, 178, 179, 180, 10, 6, 181, 182, 183, 184, 185, 186, 187, 188, 189, 190, 191, 192, 193, 194, 195, 196, 197, 198, 199, 200, 201, 202, 203, 204, 205, 206, 207, 208, 209, 210, 211, 212, 213, 214, 215, 216, 217, 218, 219, 222, 223, 224, 225, 226, 227, 228, 229, 230, 231, 232, 233, 234, 235, 236, 237, 260, 261, 262, 263, 264, 265, 266, 267, 268, 238, 239, 240, 241, 242, 243, 244, 245, 246, 247, 248, 249, 250, 251, 252, 253, 254, 255, 256, 257, 258, 259, 269, 270, 271, 272, 273, 274] (by decide +kernel) (by decide +kernel)
set_option maxRecDepth 20000 in
theorem gX11_span_X11_playDraft : GoodIn wsX11_span (wsV RX11 367 RX11 yX11_playDraft wsX11_playDraft) := goodIn_app (goodIn_of _ (by decide +kernel)) ggX11_span_X11_playDraft
set_option maxRecDepth 20000 in
theorem ggX11_span_X7_inState : GoodIn wsX11_span wsX7_inState := goodIn_r _ [95, 30, 22, 96, 97, 15, 98, 238, 239, 240, 241, 242, 243, 244, 245, 246, 247, 248, 249, 250, 251, 252, 253, 254, 255, 256, 257, 258, 259] (by decide +kernel) (by decide +kernel)
set_option maxRecDepth 20000 in
theorem gX11_span_X7_inState : GoodIn wsX11_span (wsV RX11 272 RX7 yX7_inState wsX7_inState) := goodIn_app (goodIn_of _ (by decide +kernel)) ggX11_span_X7_inState
set_option maxRecDepth 20000 in
theorem ggX11_span_J6_bitCount_0f7a4 : GoodIn wsX11_span wsJ6_bitCount_0f7a4 := goodIn_r _ [132, 133, 134, 135] (by decide +kernel) (by decide +kernel)
set_option maxRecDepth 20000 in
theorem gX11_span_J6_bitCount_0f7a4 : GoodIn wsX11_span (va_wsS RX11 275 yJ6_bitCount_0f7a4 wsJ6_bitCount_0f7a4) := goodIn_app (goodIn_of _ (by decide +kernel)) ggX11_span_J6_bitCount_0f7a4
theorem dX11_span_0 : decode cX11_span 0 = .ok (.iload_n 1, 1) := by decide +kernel
theorem dX11_span_1 : decode cX11_span 1 = .ok (.invokestatic 280, 3) := by decide +kernel
theorem dX11_span_4 : decode cX11_span 4 = .ok (.ifCond .ne 11, 3) := by decide +kernel
theorem dX11_span_7 : decode cX11_span 7 = .ok (.new 119, 3) := by decide +kernel
theorem dX11_span_10 : decode cX11_span 10 = .ok (.dup, 1) := by decide +kernel
theorem dX11_span_11 : decode cX11_span 11 = .ok (.invokespecial 121, 3) := by decide +kernel
theorem dX11_span_14 : decode cX11_span 14 = .ok (.athrow, 1) := by decide +kernel
theorem dX11_span_15 : decode cX11_span 15 = .ok (.iload_n 2, 1) := by decide +kernel
theorem dX11_span_16 : decode cX11_span 16 = .ok (.ifCond .eq 7, 3) := by decide +kernel
theorem dX11_span_19 : decode cX11_span 19 = .ok (.iconst 0, 1) := by decide +kernel
theorem dX11_span_20 : decode cX11_span 20 = .ok (.goto 5, 3) := by decide +kernel
theorem dX11_span_23 : decode cX11_span 23 = .ok (.bipush 8, 2) := by decide +kernel
theorem dX11_span_25 : decode cX11_span 25 = .ok (.istore_n 3, 1) := by decide +kernel
theorem dX11_span_26 : decode cX11_span 26 = .ok (.iconst 1, 1) := by decide +kernel
theorem dX11_span_27 : decode cX11_span 27 = .ok (.istore 4, 2) := by decide +kernel
theorem dX11_span_29 : decode cX11_span 29 = .ok (.iload 4, 2) := by decide +kernel
theorem dX11_span_31 : decode cX11_span 31 = .ok (.bipush 6, 2) := by decide +kernel
theorem dX11_span_33 : decode cX11_span 33 = .ok (.if_icmp .gt 68, 3) := by decide +kernel
theorem dX11_span_36 : decode cX11_span 36 = .ok (.aload_n 0, 1) := by decide +kernel
theorem dX11_span_37 : decode cX11_span 37 = .ok (.getfield 81, 3) := by decide +kernel
theorem dX11_span_40 : decode cX11_span 40 = .ok (.aload_n 0, 1) := by decide +kernel
theorem dX11_span_41 : decode cX11_span 41 = .ok (.getfield 77, 3) := by decide +kernel
theorem dX11_span_44 : decode cX11_span 44 = .ok (.invokevirtual 109, 3) := by decide +kernel
theorem dX11_span_47 : decode cX11_span 47 = .ok (.aload_n 0, 1) := by decide +kernel
theorem dX11_span_48 : decode cX11_span 48 = .ok (.getfield 81, 3) := by decide +kernel
theorem dX11_span_51 : decode cX11_span 51 = .ok (.iload 4, 2) := by decide +kernel
theorem dX11_span_53 : decode cX11_span 53 = .ok (.putfield 371, 3) := by decide +kernel
theorem dX11_span_56 : decode cX11_span 56 = .ok (.aload_n 0, 1) := by decide +kernel
theorem dX11_span_57 : decode cX11_span 57 = .ok (.iload_n 1, 1) := by decide +kernel
theorem dX11_span_58 : decode cX11_span 58 = .ok (.iconst 1, 1) := by decide +kernel
theorem dX11_span_59 : decode cX11_span 59 = .ok (.invokevirtual 367, 3) := by decide +kernel
theorem dX11_span_62 : decode cX11_span 62 = .ok (.aload_n 0, 1) := by decide +kernel
theorem dX11_span_63 : decode cX11_span 63 = .ok (.getfield 81, 3) := by decide +kernel
theorem dX11_span_66 : decode cX11_span 66 = .ok (.iconst 2, 1) := by decide +kernel
theorem dX11_span_67 : decode cX11_span 67 = .ok (.invokevirtual 272, 3) := by decide +kernel
theorem dX11_span_70 : decode cX11_span 70 = .ok (.invokestatic 275, 3) := by decide +kernel
theorem dX11_span_73 : decode cX11_span 73 = .ok (.istore 5, 2) := by decide +kernel
theorem dX11_span_75 : decode cX11_span 75 = .ok (.iload_n 2, 1) := by decide +kernel
theorem dX11_span_76 : decode cX11_span 76 = .ok (.ifCond .eq 12, 3) := by decide +kernel
theorem dX11_span_79 : decode cX11_span 79 = .ok (.iload_n 3, 1) := by decide +kernel
theorem dX11_span_80 : decode cX11_span 80 = .ok (.iload 5, 2) := by decide +kernel
theorem dX11_span_82 : decode cX11_span 82 = .ok (.invokestatic 283, 3) := by decide +kernel
theorem dX11_span_85 : decode cX11_span 85 = .ok (.goto 9, 3) := by decide +kernel
theorem dX11_span_88 : decode cX11_span 88 = .ok (.iload_n 3, 1) := by decide +kernel
theorem dX11_span_89 : decode cX11_span 89 = .ok (.iload 5, 2) := by decide +kernel
theorem dX11_span_91 : decode cX11_span 91 = .ok (.invokestatic 229, 3) := by decide +kernel
theorem dX11_span_94 : decode cX11_span 94 = .ok (.istore_n 3, 1) := by decide +kernel
theorem dX11_span_95 : decode cX11_span 95 = .ok (.iinc 4 1, 3) := by decide +kernel
theorem dX11_span_98 : decode cX11_span 98 = .ok (.goto (-69), 3) := by decide +kernel
theorem dX11_span_101 : decode cX11_span 101 = .ok (.iload_n 3, 1) := by decide +kernel
theorem dX11_span_102 : decode cX11_span 102 = .ok (.ireturn, 1) := by decide +kernel
set_option maxRecDepth 20000 in
theorem ggX11_led_X11_isNode : GoodIn wsX11_led wsX11_isNode := goodIn_r _ [9, 3, 10, 19, 20, 21, 22, 23, 24, 25, 26, 27, 28, 29, 30, 31, 32, 33, 34, 35, 36, 37, 38, 39, 40, 41, 42, 43, 44, 45] (by decide +kernel) (by decide +kernel)
set_option maxRecDepth 20000 in
theorem gX11_led_X11_isNode : GoodIn wsX11_led (wsV RX11 148 RX11 yX11_isNode wsX11_isNode) := goodIn_app (goodIn_of _ (by decide +kernel)) ggX11_led_X11_isNode
set_option maxRecDepth 20000 in
theorem ggX11_led_X7_rowOf : GoodIn wsX11_led wsX7_rowOf := goodIn_r _ [15, 16, 17, 18, 35, 36, 37, 38, 39, 40, 41, 42, 43, 44, 45] (by decide +kernel) (by decide +kernel)
set_option maxRecDepth 20000 in
theorem gX11_led_X7_rowOf : GoodIn wsX11_led (wsV RX11 377 RX7 yX7_rowOf wsX7_rowOf) := goodIn_app (goodIn_of _ (by decide +kernel)) ggX11_led_X7_rowOf
theorem dX11_led_0 : decode cX11_led 0 = .ok (.aload_n 0, 1) := by decide +kernel
theorem dX11_led_1 : decode cX11_led 1 = .ok (.iload_n 1, 1) := by decide +kernel
theorem dX11_led_2 : decode cX11_led 2 = .ok (.invokevirtual 148, 3) := by decide +kernel
theorem dX11_led_5 : decode cX11_led 5 = .ok (.ifCond .ne 11, 3) := by decide +kernel
theorem dX11_led_8 : decode cX11_led 8 = .ok (.new 152, 3) := by decide +kernel
theorem dX11_led_11 : decode cX11_led 11 = .ok (.dup, 1) := by decide +kernel
theorem dX11_led_12 : decode cX11_led 12 = .ok (.invokespecial 154, 3) := by decide +kernel
theorem dX11_led_15 : decode cX11_led 15 = .ok (.athrow, 1) := by decide +kernel
theorem dX11_led_16 : decode cX11_led 16 = .ok (.iconst 0, 1) := by decide +kernel
theorem dX11_led_17 : decode cX11_led 17 = .ok (.istore_n 3, 1) := by decide +kernel
theorem dX11_led_18 : decode cX11_led 18 = .ok (.iconst (-1), 1) := by decide +kernel
theorem dX11_led_19 : decode cX11_led 19 = .ok (.istore 4, 2) := by decide +kernel
theorem dX11_led_21 : decode cX11_led 21 = .ok (.aload_n 0, 1) := by decide +kernel
