theorem dX11_worst_0 : decode cX11_worst 0 = .ok (.iload_n 1, 1) := by decide +kernel
theorem dX11_worst_1 : decode cX11_worst 1 = .ok (.iconst 0, 1) := by decide +kernel
theorem dX11_worst_2 : decode cX11_worst 2 = .ok (.iconst 2, 1) := by decide +kernel
theorem dX11_worst_3 : decode cX11_worst 3 = .ok (.invokestatic 70, 3) := by decide +kernel
theorem dX11_worst_6 : decode cX11_worst 6 = .ok (.ifCond .ne 5, 3) := by decide +kernel
theorem dX11_worst_9 : decode cX11_worst 9 = .ok (.iconst (-1), 1) := by decide +kernel
theorem dX11_worst_10 : decode cX11_worst 10 = .ok (.ireturn, 1) := by decide +kernel
theorem dX11_worst_11 : decode cX11_worst 11 = .ok (.aload_n 0, 1) := by decide +kernel
theorem dX11_worst_12 : decode cX11_worst 12 = .ok (.invokevirtual 181, 3) := by decide +kernel
theorem dX11_worst_15 : decode cX11_worst 15 = .ok (.aload_n 0, 1) := by decide +kernel
theorem dX11_worst_16 : decode cX11_worst 16 = .ok (.getfield 42, 3) := by decide +kernel
theorem dX11_worst_19 : decode cX11_worst 19 = .ok (.iload_n 1, 1) := by decide +kernel
theorem dX11_worst_20 : decode cX11_worst 20 = .ok (.iaload, 1) := by decide +kernel
theorem dX11_worst_21 : decode cX11_worst 21 = .ok (.ireturn, 1) := by decide +kernel
set_option maxRecDepth 20000 in
theorem ggX11_isShorter_X11_farOf : GoodIn wsX11_isShorter wsX11_farOf := goodIn_r _ [8, 9, 10, 11, 7, 12, 13, 14, 15, 16, 17, 18, 19, 20, 21, 22, 23, 24, 25, 26, 27, 28, 29, 30, 31, 32, 33, 34, 35, 36, 37, 38, 39, 40, 41, 42, 43, 44, 45, 46] (by decide +kernel) (by decide +kernel)
set_option maxRecDepth 20000 in
theorem gX11_isShorter_X11_farOf : GoodIn wsX11_isShorter (wsV RX11 172 RX11 yX11_farOf wsX11_farOf) := goodIn_app (goodIn_of _ (by decide +kernel)) ggX11_isShorter_X11_farOf
theorem dX11_isShorter_0 : decode cX11_isShorter 0 = .ok (.aload_n 0, 1) := by decide +kernel
theorem dX11_isShorter_1 : decode cX11_isShorter 1 = .ok (.getfield 45, 3) := by decide +kernel
theorem dX11_isShorter_4 : decode cX11_isShorter 4 = .ok (.iload_n 2, 1) := by decide +kernel
theorem dX11_isShorter_5 : decode cX11_isShorter 5 = .ok (.iaload, 1) := by decide +kernel
theorem dX11_isShorter_6 : decode cX11_isShorter 6 = .ok (.aload_n 0, 1) := by decide +kernel
theorem dX11_isShorter_7 : decode cX11_isShorter 7 = .ok (.iload_n 1, 1) := by decide +kernel
theorem dX11_isShorter_8 : decode cX11_isShorter 8 = .ok (.iload_n 2, 1) := by decide +kernel
theorem dX11_isShorter_9 : decode cX11_isShorter 9 = .ok (.invokevirtual 172, 3) := by decide +kernel
theorem dX11_isShorter_12 : decode cX11_isShorter 12 = .ok (.iadd, 1) := by decide +kernel
theorem dX11_isShorter_13 : decode cX11_isShorter 13 = .ok (.istore_n 3, 1) := by decide +kernel
theorem dX11_isShorter_14 : decode cX11_isShorter 14 = .ok (.aload_n 0, 1) := by decide +kernel
theorem dX11_isShorter_15 : decode cX11_isShorter 15 = .ok (.getfield 48, 3) := by decide +kernel
theorem dX11_isShorter_18 : decode cX11_isShorter 18 = .ok (.iload_n 2, 1) := by decide +kernel
theorem dX11_isShorter_19 : decode cX11_isShorter 19 = .ok (.iaload, 1) := by decide +kernel
theorem dX11_isShorter_20 : decode cX11_isShorter 20 = .ok (.iconst 1, 1) := by decide +kernel
theorem dX11_isShorter_21 : decode cX11_isShorter 21 = .ok (.iadd, 1) := by decide +kernel
theorem dX11_isShorter_22 : decode cX11_isShorter 22 = .ok (.istore 4, 2) := by decide +kernel
theorem dX11_isShorter_24 : decode cX11_isShorter 24 = .ok (.aload_n 0, 1) := by decide +kernel
theorem dX11_isShorter_25 : decode cX11_isShorter 25 = .ok (.getfield 45, 3) := by decide +kernel
theorem dX11_isShorter_28 : decode cX11_isShorter 28 = .ok (.iload_n 2, 1) := by decide +kernel
theorem dX11_isShorter_29 : decode cX11_isShorter 29 = .ok (.iaload, 1) := by decide +kernel
theorem dX11_isShorter_30 : decode cX11_isShorter 30 = .ok (.ldc 155, 2) := by decide +kernel
theorem dX11_isShorter_32 : decode cX11_isShorter 32 = .ok (.if_icmp .ge 38, 3) := by decide +kernel
theorem dX11_isShorter_35 : decode cX11_isShorter 35 = .ok (.iload_n 3, 1) := by decide +kernel
theorem dX11_isShorter_36 : decode cX11_isShorter 36 = .ok (.aload_n 0, 1) := by decide +kernel
theorem dX11_isShorter_37 : decode cX11_isShorter 37 = .ok (.getfield 45, 3) := by decide +kernel
theorem dX11_isShorter_40 : decode cX11_isShorter 40 = .ok (.iload_n 1, 1) := by decide +kernel
theorem dX11_isShorter_41 : decode cX11_isShorter 41 = .ok (.iaload, 1) := by decide +kernel
theorem dX11_isShorter_42 : decode cX11_isShorter 42 = .ok (.if_icmp .lt 24, 3) := by decide +kernel
theorem dX11_isShorter_45 : decode cX11_isShorter 45 = .ok (.iload_n 3, 1) := by decide +kernel
theorem dX11_isShorter_46 : decode cX11_isShorter 46 = .ok (.aload_n 0, 1) := by decide +kernel
theorem dX11_isShorter_47 : decode cX11_isShorter 47 = .ok (.getfield 45, 3) := by decide +kernel
theorem dX11_isShorter_50 : decode cX11_isShorter 50 = .ok (.iload_n 1, 1) := by decide +kernel
theorem dX11_isShorter_51 : decode cX11_isShorter 51 = .ok (.iaload, 1) := by decide +kernel
theorem dX11_isShorter_52 : decode cX11_isShorter 52 = .ok (.if_icmp .ne 18, 3) := by decide +kernel
theorem dX11_isShorter_55 : decode cX11_isShorter 55 = .ok (.iload 4, 2) := by decide +kernel
theorem dX11_isShorter_57 : decode cX11_isShorter 57 = .ok (.aload_n 0, 1) := by decide +kernel
theorem dX11_isShorter_58 : decode cX11_isShorter 58 = .ok (.getfield 48, 3) := by decide +kernel
theorem dX11_isShorter_61 : decode cX11_isShorter 61 = .ok (.iload_n 1, 1) := by decide +kernel
theorem dX11_isShorter_62 : decode cX11_isShorter 62 = .ok (.iaload, 1) := by decide +kernel
theorem dX11_isShorter_63 : decode cX11_isShorter 63 = .ok (.if_icmp .ge 7, 3) := by decide +kernel
theorem dX11_isShorter_66 : decode cX11_isShorter 66 = .ok (.iconst 1, 1) := by decide +kernel
theorem dX11_isShorter_67 : decode cX11_isShorter 67 = .ok (.goto 4, 3) := by decide +kernel
theorem dX11_isShorter_70 : decode cX11_isShorter 70 = .ok (.iconst 0, 1) := by decide +kernel
theorem dX11_isShorter_71 : decode cX11_isShorter 71 = .ok (.ireturn, 1) := by decide +kernel
set_option maxRecDepth 20000 in
theorem ggX11_laysWays_X11_isLand : GoodIn wsX11_laysWays wsX11_isLand := goodIn_r _ [8, 9, 51, 52, 53, 54, 55, 56, 57, 58, 59, 60, 61, 62, 63, 64, 65, 66, 67, 68, 69] (by decide +kernel) (by decide +kernel)
set_option maxRecDepth 20000 in
theorem gX11_laysWays_X11_isLand : GoodIn wsX11_laysWays (wsV RX11 112 RX11 yX11_isLand wsX11_isLand) := goodIn_app (goodIn_of _ (by decide +kernel)) ggX11_laysWays_X11_isLand
set_option maxRecDepth 20000 in
theorem ggX11_laysWays_X11_neighbours : GoodIn wsX11_laysWays wsX11_neighbours := goodIn_r _ [12, 13, 14, 7, 15] (by decide +kernel) (by decide +kernel)
set_option maxRecDepth 20000 in
theorem gX11_laysWays_X11_neighbours : GoodIn wsX11_laysWays (va_wsS RX11 106 yX11_neighbours wsX11_neighbours) := goodIn_app (goodIn_of _ (by decide +kernel)) ggX11_laysWays_X11_neighbours
set_option maxRecDepth 20000 in
theorem ggX11_laysWays_X11_neighbour : GoodIn wsX11_laysWays wsX11_neighbour := goodIn_r _ [18, 13, 14, 7, 15, 19, 20, 21, 22, 23, 24, 25, 26, 27] (by decide +kernel) (by decide +kernel)
set_option maxRecDepth 20000 in
theorem gX11_laysWays_X11_neighbour : GoodIn wsX11_laysWays (va_wsS RX11 109 yX11_neighbour wsX11_neighbour) := goodIn_app (goodIn_of _ (by decide +kernel)) ggX11_laysWays_X11_neighbour
set_option maxRecDepth 20000 in
theorem ggX11_laysWays_X11_isShorter : GoodIn wsX11_laysWays wsX11_isShorter := goodIn_r _ [31, 1, 3, 2, 32, 33, 34, 7, 35, 9, 19, 20, 21, 36, 37, 38, 39, 40, 41, 42, 43, 44, 45, 46, 47, 48, 49, 50, 51, 52, 53, 54, 55, 56, 57, 58, 59, 60, 61, 62, 63, 64, 65, 66, 67, 68, 69] (by decide +kernel) (by decide +kernel)
set_option maxRecDepth 20000 in
theorem gX11_laysWays_X11_isShorter : GoodIn wsX11_laysWays (wsV RX11 184 RX11 yX11_isShorter wsX11_isShorter) := goodIn_app (goodIn_of _ (by decide +kernel)) ggX11_laysWays_X11_isShorter
set_option maxRecDepth 20000 in
theorem ggX11_laysWays_X11_farOf : GoodIn wsX11_laysWays wsX11_farOf := goodIn_r _ [35, 9, 19, 20, 7, 21, 36, 37, 38, 39, 40, 41, 42, 43, 44, 45, 46, 47, 48, 49, 50, 51, 52, 53, 54, 55, 56, 57, 58, 59, 60, 61, 62, 63, 64, 65, 66, 67, 68, 69] (by decide +kernel) (by decide +kernel)
set_option maxRecDepth 20000 in
theorem gX11_laysWays_X11_farOf : GoodIn wsX11_laysWays (wsV RX11 172 RX11 yX11_farOf wsX11_farOf) := goodIn_app (goodIn_of _ (by decide +kernel)) ggX11_laysWays_X11_farOf
theorem dX11_laysWays_0 : decode cX11_laysWays 0 = .ok (.aload_n 0, 1) := by decide +kernel
theorem dX11_laysWays_1 : decode cX11_laysWays 1 = .ok (.iload_n 1, 1) := by decide +kernel
theorem dX11_laysWays_2 : decode cX11_laysWays 2 = .ok (.invokevirtual 112, 3) := by decide +kernel
theorem dX11_laysWays_5 : decode cX11_laysWays 5 = .ok (.istore_n 2, 1) := by decide +kernel
theorem dX11_laysWays_6 : decode cX11_laysWays 6 = .ok (.iconst 0, 1) := by decide +kernel
theorem dX11_laysWays_7 : decode cX11_laysWays 7 = .ok (.istore_n 3, 1) := by decide +kernel
theorem dX11_laysWays_8 : decode cX11_laysWays 8 = .ok (.iload_n 3, 1) := by decide +kernel
theorem dX11_laysWays_9 : decode cX11_laysWays 9 = .ok (.sipush 266, 3) := by decide +kernel
theorem dX11_laysWays_12 : decode cX11_laysWays 12 = .ok (.if_icmp .ge 51, 3) := by decide +kernel
theorem dX11_laysWays_15 : decode cX11_laysWays 15 = .ok (.aload_n 0, 1) := by decide +kernel
theorem dX11_laysWays_16 : decode cX11_laysWays 16 = .ok (.getfield 45, 3) := by decide +kernel
theorem dX11_laysWays_19 : decode cX11_laysWays 19 = .ok (.iload_n 3, 1) := by decide +kernel
theorem dX11_laysWays_20 : decode cX11_laysWays 20 = .ok (.iload_n 3, 1) := by decide +kernel
theorem dX11_laysWays_21 : decode cX11_laysWays 21 = .ok (.iload_n 1, 1) := by decide +kernel
theorem dX11_laysWays_22 : decode cX11_laysWays 22 = .ok (.if_icmp .ne 15, 3) := by decide +kernel
theorem dX11_laysWays_25 : decode cX11_laysWays 25 = .ok (.aload_n 0, 1) := by decide +kernel
theorem dX11_laysWays_26 : decode cX11_laysWays 26 = .ok (.iload_n 1, 1) := by decide +kernel
theorem dX11_laysWays_27 : decode cX11_laysWays 27 = .ok (.invokevirtual 112, 3) := by decide +kernel
theorem dX11_laysWays_30 : decode cX11_laysWays 30 = .ok (.ifCond .ne 7, 3) := by decide +kernel
theorem dX11_laysWays_33 : decode cX11_laysWays 33 = .ok (.iconst 0, 1) := by decide +kernel
theorem dX11_laysWays_34 : decode cX11_laysWays 34 = .ok (.goto 5, 3) := by decide +kernel
theorem dX11_laysWays_37 : decode cX11_laysWays 37 = .ok (.ldc 155, 2) := by decide +kernel
theorem dX11_laysWays_39 : decode cX11_laysWays 39 = .ok (.iastore, 1) := by decide +kernel
theorem dX11_laysWays_40 : decode cX11_laysWays 40 = .ok (.aload_n 0, 1) := by decide +kernel
theorem dX11_laysWays_41 : decode cX11_laysWays 41 = .ok (.getfield 48, 3) := by decide +kernel
theorem dX11_laysWays_44 : decode cX11_laysWays 44 = .ok (.iload_n 3, 1) := by decide +kernel
theorem dX11_laysWays_45 : decode cX11_laysWays 45 = .ok (.iload_n 3, 1) := by decide +kernel
theorem dX11_laysWays_46 : decode cX11_laysWays 46 = .ok (.iload_n 1, 1) := by decide +kernel
theorem dX11_laysWays_47 : decode cX11_laysWays 47 = .ok (.if_icmp .ne 7, 3) := by decide +kernel
theorem dX11_laysWays_50 : decode cX11_laysWays 50 = .ok (.iconst 0, 1) := by decide +kernel
theorem dX11_laysWays_51 : decode cX11_laysWays 51 = .ok (.goto 5, 3) := by decide +kernel
theorem dX11_laysWays_54 : decode cX11_laysWays 54 = .ok (.ldc 155, 2) := by decide +kernel
theorem dX11_laysWays_56 : decode cX11_laysWays 56 = .ok (.iastore, 1) := by decide +kernel
theorem dX11_laysWays_57 : decode cX11_laysWays 57 = .ok (.iinc 3 1, 3) := by decide +kernel
theorem dX11_laysWays_60 : decode cX11_laysWays 60 = .ok (.goto (-52), 3) := by decide +kernel
theorem dX11_laysWays_63 : decode cX11_laysWays 63 = .ok (.iload_n 2, 1) := by decide +kernel
theorem dX11_laysWays_64 : decode cX11_laysWays 64 = .ok (.ifCond .ne 114, 3) := by decide +kernel
theorem dX11_laysWays_67 : decode cX11_laysWays 67 = .ok (.iconst 1, 1) := by decide +kernel
theorem dX11_laysWays_68 : decode cX11_laysWays 68 = .ok (.istore_n 2, 1) := by decide +kernel
theorem dX11_laysWays_69 : decode cX11_laysWays 69 = .ok (.iconst 0, 1) := by decide +kernel
theorem dX11_laysWays_70 : decode cX11_laysWays 70 = .ok (.istore_n 3, 1) := by decide +kernel
theorem dX11_laysWays_71 : decode cX11_laysWays 71 = .ok (.iload_n 3, 1) := by decide +kernel
theorem dX11_laysWays_72 : decode cX11_laysWays 72 = .ok (.sipush 266, 3) := by decide +kernel
theorem dX11_laysWays_75 : decode cX11_laysWays 75 = .ok (.if_icmp .ge 100, 3) := by decide +kernel
theorem dX11_laysWays_78 : decode cX11_laysWays 78 = .ok (.iconst 0, 1) := by decide +kernel
theorem dX11_laysWays_79 : decode cX11_laysWays 79 = .ok (.istore 4, 2) := by decide +kernel
theorem dX11_laysWays_81 : decode cX11_laysWays 81 = .ok (.iload 4, 2) := by decide +kernel
theorem dX11_laysWays_83 : decode cX11_laysWays 83 = .ok (.iload_n 3, 1) := by decide +kernel
theorem dX11_laysWays_84 : decode cX11_laysWays 84 = .ok (.invokestatic 106, 3) := by decide +kernel
theorem dX11_laysWays_87 : decode cX11_laysWays 87 = .ok (.if_icmp .ge 82, 3) := by decide +kernel
theorem dX11_laysWays_90 : decode cX11_laysWays 90 = .ok (.iload_n 3, 1) := by decide +kernel
theorem dX11_laysWays_91 : decode cX11_laysWays 91 = .ok (.iload 4, 2) := by decide +kernel
theorem dX11_laysWays_93 : decode cX11_laysWays 93 = .ok (.invokestatic 109, 3) := by decide +kernel
theorem dX11_laysWays_96 : decode cX11_laysWays 96 = .ok (.istore 5, 2) := by decide +kernel
theorem dX11_laysWays_98 : decode cX11_laysWays 98 = .ok (.aload_n 0, 1) := by decide +kernel
theorem dX11_laysWays_99 : decode cX11_laysWays 99 = .ok (.iload_n 3, 1) := by decide +kernel
theorem dX11_laysWays_100 : decode cX11_laysWays 100 = .ok (.invokevirtual 112, 3) := by decide +kernel
theorem dX11_laysWays_103 : decode cX11_laysWays 103 = .ok (.ifCond .ne 60, 3) := by decide +kernel
theorem dX11_laysWays_106 : decode cX11_laysWays 106 = .ok (.aload_n 0, 1) := by decide +kernel
theorem dX11_laysWays_107 : decode cX11_laysWays 107 = .ok (.iload 5, 2) := by decide +kernel
theorem dX11_laysWays_109 : decode cX11_laysWays 109 = .ok (.invokevirtual 112, 3) := by decide +kernel
theorem dX11_laysWays_112 : decode cX11_laysWays 112 = .ok (.ifCond .ne 51, 3) := by decide +kernel
theorem dX11_laysWays_115 : decode cX11_laysWays 115 = .ok (.aload_n 0, 1) := by decide +kernel
theorem dX11_laysWays_116 : decode cX11_laysWays 116 = .ok (.iload_n 3, 1) := by decide +kernel
theorem dX11_laysWays_117 : decode cX11_laysWays 117 = .ok (.iload 5, 2) := by decide +kernel
theorem dX11_laysWays_119 : decode cX11_laysWays 119 = .ok (.invokevirtual 184, 3) := by decide +kernel
theorem dX11_laysWays_122 : decode cX11_laysWays 122 = .ok (.ifCond .eq 41, 3) := by decide +kernel
theorem dX11_laysWays_125 : decode cX11_laysWays 125 = .ok (.aload_n 0, 1) := by decide +kernel
theorem dX11_laysWays_126 : decode cX11_laysWays 126 = .ok (.getfield 45, 3) := by decide +kernel
theorem dX11_laysWays_129 : decode cX11_laysWays 129 = .ok (.iload_n 3, 1) := by decide +kernel
theorem dX11_laysWays_130 : decode cX11_laysWays 130 = .ok (.aload_n 0, 1) := by decide +kernel
theorem dX11_laysWays_131 : decode cX11_laysWays 131 = .ok (.getfield 45, 3) := by decide +kernel
theorem dX11_laysWays_134 : decode cX11_laysWays 134 = .ok (.iload 5, 2) := by decide +kernel
theorem dX11_laysWays_136 : decode cX11_laysWays 136 = .ok (.iaload, 1) := by decide +kernel
theorem dX11_laysWays_137 : decode cX11_laysWays 137 = .ok (.aload_n 0, 1) := by decide +kernel
theorem dX11_laysWays_138 : decode cX11_laysWays 138 = .ok (.iload_n 3, 1) := by decide +kernel
theorem dX11_laysWays_139 : decode cX11_laysWays 139 = .ok (.iload 5, 2) := by decide +kernel
theorem dX11_laysWays_141 : decode cX11_laysWays 141 = .ok (.invokevirtual 172, 3) := by decide +kernel
theorem dX11_laysWays_144 : decode cX11_laysWays 144 = .ok (.iadd, 1) := by decide +kernel
theorem dX11_laysWays_145 : decode cX11_laysWays 145 = .ok (.iastore, 1) := by decide +kernel
theorem dX11_laysWays_146 : decode cX11_laysWays 146 = .ok (.aload_n 0, 1) := by decide +kernel
theorem dX11_laysWays_147 : decode cX11_laysWays 147 = .ok (.getfield 48, 3) := by decide +kernel
theorem dX11_laysWays_150 : decode cX11_laysWays 150 = .ok (.iload_n 3, 1) := by decide +kernel
theorem dX11_laysWays_151 : decode cX11_laysWays 151 = .ok (.aload_n 0, 1) := by decide +kernel
theorem dX11_laysWays_152 : decode cX11_laysWays 152 = .ok (.getfield 48, 3) := by decide +kernel
theorem dX11_laysWays_155 : decode cX11_laysWays 155 = .ok (.iload 5, 2) := by decide +kernel
theorem dX11_laysWays_157 : decode cX11_laysWays 157 = .ok (.iaload, 1) := by decide +kernel
theorem dX11_laysWays_158 : decode cX11_laysWays 158 = .ok (.iconst 1, 1) := by decide +kernel
theorem dX11_laysWays_159 : decode cX11_laysWays 159 = .ok (.iadd, 1) := by decide +kernel
theorem dX11_laysWays_160 : decode cX11_laysWays 160 = .ok (.iastore, 1) := by decide +kernel
theorem dX11_laysWays_161 : decode cX11_laysWays 161 = .ok (.iconst 0, 1) := by decide +kernel
theorem dX11_laysWays_162 : decode cX11_laysWays 162 = .ok (.istore_n 2, 1) := by decide +kernel
theorem dX11_laysWays_163 : decode cX11_laysWays 163 = .ok (.iinc 4 1, 3) := by decide +kernel
theorem dX11_laysWays_166 : decode cX11_laysWays 166 = .ok (.goto (-85), 3) := by decide +kernel
theorem dX11_laysWays_169 : decode cX11_laysWays 169 = .ok (.iinc 3 1, 3) := by decide +kernel
theorem dX11_laysWays_172 : decode cX11_laysWays 172 = .ok (.goto (-101), 3) := by decide +kernel
theorem dX11_laysWays_175 : decode cX11_laysWays 175 = .ok (.goto (-112), 3) := by decide +kernel
theorem dX11_laysWays_178 : decode cX11_laysWays 178 = .ok (.return_, 1) := by decide +kernel
set_option maxRecDepth 20000 in
theorem ggX11_firstOf_X11_neighbours : GoodIn wsX11_firstOf wsX11_neighbours := goodIn_r _ [6, 7, 8, 5, 9] (by decide +kernel) (by decide +kernel)
set_option maxRecDepth 20000 in
theorem gX11_firstOf_X11_neighbours : GoodIn wsX11_firstOf (va_wsS RX11 106 yX11_neighbours wsX11_neighbours) := goodIn_app (goodIn_of _ (by decide +kernel)) ggX11_firstOf_X11_neighbours
set_option maxRecDepth 20000 in
theorem ggX11_firstOf_X11_neighbour : GoodIn wsX11_firstOf wsX11_neighbour := goodIn_r _ [12, 7, 8, 5, 9, 13, 14, 15, 16, 17, 18, 19, 20, 21] (by decide +kernel) (by decide +kernel)
set_option maxRecDepth 20000 in
theorem gX11_firstOf_X11_neighbour : GoodIn wsX11_firstOf (va_wsS RX11 109 yX11_neighbour wsX11_neighbour) := goodIn_app (goodIn_of _ (by decide +kernel)) ggX11_firstOf_X11_neighbour
set_option maxRecDepth 20000 in
theorem ggX11_firstOf_X11_farOf : GoodIn wsX11_firstOf wsX11_farOf := goodIn_r _ [25, 26, 13, 14, 5, 15, 27, 28, 29, 30, 31, 32, 33, 34, 35, 36, 37, 38, 39, 40, 41, 42, 43, 44, 45, 46, 47, 48, 49, 50, 51, 52, 53, 54, 55, 56, 57, 58, 59, 60] (by decide +kernel) (by decide +kernel)
set_option maxRecDepth 20000 in
theorem gX11_firstOf_X11_farOf : GoodIn wsX11_firstOf (wsV RX11 172 RX11 yX11_farOf wsX11_farOf) := goodIn_app (goodIn_of _ (by decide +kernel)) ggX11_firstOf_X11_farOf
theorem dX11_firstOf_0 : decode cX11_firstOf 0 = .ok (.bipush (-4), 2) := by decide +kernel
theorem dX11_firstOf_2 : decode cX11_firstOf 2 = .ok (.istore_n 2, 1) := by decide +kernel
theorem dX11_firstOf_3 : decode cX11_firstOf 3 = .ok (.iconst 0, 1) := by decide +kernel
theorem dX11_firstOf_4 : decode cX11_firstOf 4 = .ok (.istore_n 3, 1) := by decide +kernel
theorem dX11_firstOf_5 : decode cX11_firstOf 5 = .ok (.iload_n 3, 1) := by decide +kernel
theorem dX11_firstOf_6 : decode cX11_firstOf 6 = .ok (.iload_n 1, 1) := by decide +kernel
theorem dX11_firstOf_7 : decode cX11_firstOf 7 = .ok (.invokestatic 106, 3) := by decide +kernel
theorem dX11_firstOf_10 : decode cX11_firstOf 10 = .ok (.if_icmp .ge 89, 3) := by decide +kernel
theorem dX11_firstOf_13 : decode cX11_firstOf 13 = .ok (.iload_n 1, 1) := by decide +kernel
theorem dX11_firstOf_14 : decode cX11_firstOf 14 = .ok (.iload_n 3, 1) := by decide +kernel
theorem dX11_firstOf_15 : decode cX11_firstOf 15 = .ok (.invokestatic 109, 3) := by decide +kernel
theorem dX11_firstOf_18 : decode cX11_firstOf 18 = .ok (.istore 4, 2) := by decide +kernel
theorem dX11_firstOf_20 : decode cX11_firstOf 20 = .ok (.aload_n 0, 1) := by decide +kernel
theorem dX11_firstOf_21 : decode cX11_firstOf 21 = .ok (.getfield 45, 3) := by decide +kernel
theorem dX11_firstOf_24 : decode cX11_firstOf 24 = .ok (.iload 4, 2) := by decide +kernel
theorem dX11_firstOf_26 : decode cX11_firstOf 26 = .ok (.iaload, 1) := by decide +kernel
theorem dX11_firstOf_27 : decode cX11_firstOf 27 = .ok (.aload_n 0, 1) := by decide +kernel
theorem dX11_firstOf_28 : decode cX11_firstOf 28 = .ok (.iload_n 1, 1) := by decide +kernel
theorem dX11_firstOf_29 : decode cX11_firstOf 29 = .ok (.iload 4, 2) := by decide +kernel
theorem dX11_firstOf_31 : decode cX11_firstOf 31 = .ok (.invokevirtual 172, 3) := by decide +kernel
theorem dX11_firstOf_34 : decode cX11_firstOf 34 = .ok (.iadd, 1) := by decide +kernel
theorem dX11_firstOf_35 : decode cX11_firstOf 35 = .ok (.aload_n 0, 1) := by decide +kernel
theorem dX11_firstOf_36 : decode cX11_firstOf 36 = .ok (.getfield 45, 3) := by decide +kernel
theorem dX11_firstOf_39 : decode cX11_firstOf 39 = .ok (.iload_n 1, 1) := by decide +kernel
theorem dX11_firstOf_40 : decode cX11_firstOf 40 = .ok (.iaload, 1) := by decide +kernel
theorem dX11_firstOf_41 : decode cX11_firstOf 41 = .ok (.if_icmp .ne 25, 3) := by decide +kernel
theorem dX11_firstOf_44 : decode cX11_firstOf 44 = .ok (.aload_n 0, 1) := by decide +kernel
theorem dX11_firstOf_45 : decode cX11_firstOf 45 = .ok (.getfield 48, 3) := by decide +kernel
theorem dX11_firstOf_48 : decode cX11_firstOf 48 = .ok (.iload 4, 2) := by decide +kernel
theorem dX11_firstOf_50 : decode cX11_firstOf 50 = .ok (.iaload, 1) := by decide +kernel
theorem dX11_firstOf_51 : decode cX11_firstOf 51 = .ok (.iconst 1, 1) := by decide +kernel
theorem dX11_firstOf_52 : decode cX11_firstOf 52 = .ok (.iadd, 1) := by decide +kernel
theorem dX11_firstOf_53 : decode cX11_firstOf 53 = .ok (.aload_n 0, 1) := by decide +kernel
theorem dX11_firstOf_54 : decode cX11_firstOf 54 = .ok (.getfield 48, 3) := by decide +kernel
theorem dX11_firstOf_57 : decode cX11_firstOf 57 = .ok (.iload_n 1, 1) := by decide +kernel
theorem dX11_firstOf_58 : decode cX11_firstOf 58 = .ok (.iaload, 1) := by decide +kernel
theorem dX11_firstOf_59 : decode cX11_firstOf 59 = .ok (.if_icmp .ne 7, 3) := by decide +kernel
theorem dX11_firstOf_62 : decode cX11_firstOf 62 = .ok (.iconst 1, 1) := by decide +kernel
theorem dX11_firstOf_63 : decode cX11_firstOf 63 = .ok (.goto 4, 3) := by decide +kernel
theorem dX11_firstOf_66 : decode cX11_firstOf 66 = .ok (.iconst 0, 1) := by decide +kernel
theorem dX11_firstOf_67 : decode cX11_firstOf 67 = .ok (.istore 5, 2) := by decide +kernel
theorem dX11_firstOf_69 : decode cX11_firstOf 69 = .ok (.iload 5, 2) := by decide +kernel
theorem dX11_firstOf_71 : decode cX11_firstOf 71 = .ok (.ifCond .eq 20, 3) := by decide +kernel
theorem dX11_firstOf_74 : decode cX11_firstOf 74 = .ok (.iload_n 2, 1) := by decide +kernel
theorem dX11_firstOf_75 : decode cX11_firstOf 75 = .ok (.bipush (-4), 2) := by decide +kernel
theorem dX11_firstOf_77 : decode cX11_firstOf 77 = .ok (.if_icmp .eq 9, 3) := by decide +kernel
theorem dX11_firstOf_80 : decode cX11_firstOf 80 = .ok (.iload 4, 2) := by decide +kernel
theorem dX11_firstOf_82 : decode cX11_firstOf 82 = .ok (.iload_n 2, 1) := by decide +kernel
theorem dX11_firstOf_83 : decode cX11_firstOf 83 = .ok (.if_icmp .ge 8, 3) := by decide +kernel
theorem dX11_firstOf_86 : decode cX11_firstOf 86 = .ok (.iload 4, 2) := by decide +kernel
theorem dX11_firstOf_88 : decode cX11_firstOf 88 = .ok (.goto 4, 3) := by decide +kernel
theorem dX11_firstOf_91 : decode cX11_firstOf 91 = .ok (.iload_n 2, 1) := by decide +kernel
theorem dX11_firstOf_92 : decode cX11_firstOf 92 = .ok (.istore_n 2, 1) := by decide +kernel
theorem dX11_firstOf_93 : decode cX11_firstOf 93 = .ok (.iinc 3 1, 3) := by decide +kernel
theorem dX11_firstOf_96 : decode cX11_firstOf 96 = .ok (.goto (-91), 3) := by decide +kernel
theorem dX11_firstOf_99 : decode cX11_firstOf 99 = .ok (.iload_n 2, 1) := by decide +kernel
theorem dX11_firstOf_100 : decode cX11_firstOf 100 = .ok (.ireturn, 1) := by decide +kernel
set_option maxRecDepth 20000 in
theorem ggX11_way_X11_isNumber : GoodIn wsX11_way wsX11_isNumber := goodIn_r _ [7, 8, 9, 6, 10] (by decide +kernel) (by decide +kernel)
set_option maxRecDepth 20000 in
theorem gX11_way_X11_isNumber : GoodIn wsX11_way (va_wsS RX11 166 yX11_isNumber wsX11_isNumber) := goodIn_app (goodIn_of _ (by decide +kernel)) ggX11_way_X11_isNumber
set_option maxRecDepth 20000 in
theorem ggX11_way_X11_in : GoodIn wsX11_way wsX11_in := goodIn_r _ [10] (by decide +kernel) (by decide +kernel)
set_option maxRecDepth 20000 in
theorem gX11_way_X11_in : GoodIn wsX11_way (va_wsS RX11 70 yX11_in wsX11_in) := goodIn_app (goodIn_of _ (by decide +kernel)) ggX11_way_X11_in
set_option maxRecDepth 20000 in
theorem ggX11_way_X11_laysWays : GoodIn wsX11_way wsX11_laysWays := goodIn_r _ [14, 1, 2, 3, 15, 16, 17, 6, 18, 19, 20, 21, 22, 23, 24, 25, 26, 27, 28, 29, 30, 31, 32, 33, 34, 35, 36, 37, 38, 39, 40, 41, 42, 43, 44, 45, 46, 47, 48, 49, 50, 51, 52, 53, 54, 55, 56, 57, 58, 59, 60, 65, 66, 67, 68, 69, 70, 71, 72, 73, 74, 75, 76, 77, 78, 79, 80, 81, 82, 83] (by decide +kernel) (by decide +kernel)
set_option maxRecDepth 20000 in
theorem gX11_way_X11_laysWays : GoodIn wsX11_way (wsV RX11 187 RX11 yX11_laysWays wsX11_laysWays) := goodIn_app (goodIn_of _ (by decide +kernel)) ggX11_way_X11_laysWays
set_option maxRecDepth 20000 in
theorem ggX11_way_X11_firstOf : GoodIn wsX11_way wsX11_firstOf := goodIn_r _ [64, 1, 3, 20, 21, 6, 22, 23, 24, 25, 26, 27, 28, 29, 30, 31, 32, 33, 34, 35, 36, 37, 42, 43, 44, 45, 19, 46, 47, 48, 49, 50, 51, 52, 53, 54, 55, 56, 57, 58, 59, 60, 65, 66, 67, 68, 69, 70, 71, 72, 73, 74, 75, 76, 77, 78, 79, 80, 81, 82, 83] (by decide +kernel) (by decide +kernel)
set_option maxRecDepth 20000 in
theorem gX11_way_X11_firstOf : GoodIn wsX11_way (wsV RX11 191 RX11 yX11_firstOf wsX11_firstOf) := goodIn_app (goodIn_of _ (by decide +kernel)) ggX11_way_X11_firstOf
theorem dX11_way_0 : decode cX11_way 0 = .ok (.iload_n 1, 1) := by decide +kernel
theorem dX11_way_1 : decode cX11_way 1 = .ok (.invokestatic 166, 3) := by decide +kernel
theorem dX11_way_4 : decode cX11_way 4 = .ok (.ifCond .eq 19, 3) := by decide +kernel
theorem dX11_way_7 : decode cX11_way 7 = .ok (.iload_n 2, 1) := by decide +kernel
theorem dX11_way_8 : decode cX11_way 8 = .ok (.invokestatic 166, 3) := by decide +kernel
theorem dX11_way_11 : decode cX11_way 11 = .ok (.ifCond .eq 12, 3) := by decide +kernel
theorem dX11_way_14 : decode cX11_way 14 = .ok (.iload_n 3, 1) := by decide +kernel
theorem dX11_way_15 : decode cX11_way 15 = .ok (.iconst 0, 1) := by decide +kernel
theorem dX11_way_16 : decode cX11_way 16 = .ok (.iconst 2, 1) := by decide +kernel
theorem dX11_way_17 : decode cX11_way 17 = .ok (.invokestatic 70, 3) := by decide +kernel
theorem dX11_way_20 : decode cX11_way 20 = .ok (.ifCond .ne 5, 3) := by decide +kernel
theorem dX11_way_23 : decode cX11_way 23 = .ok (.iconst (-1), 1) := by decide +kernel
theorem dX11_way_24 : decode cX11_way 24 = .ok (.ireturn, 1) := by decide +kernel
theorem dX11_way_25 : decode cX11_way 25 = .ok (.aload_n 0, 1) := by decide +kernel
theorem dX11_way_26 : decode cX11_way 26 = .ok (.iload_n 2, 1) := by decide +kernel
theorem dX11_way_27 : decode cX11_way 27 = .ok (.invokevirtual 187, 3) := by decide +kernel
theorem dX11_way_30 : decode cX11_way 30 = .ok (.aload_n 0, 1) := by decide +kernel
theorem dX11_way_31 : decode cX11_way 31 = .ok (.getfield 45, 3) := by decide +kernel
theorem dX11_way_34 : decode cX11_way 34 = .ok (.iload_n 1, 1) := by decide +kernel
theorem dX11_way_35 : decode cX11_way 35 = .ok (.iaload, 1) := by decide +kernel
theorem dX11_way_36 : decode cX11_way 36 = .ok (.ldc 155, 2) := by decide +kernel
theorem dX11_way_38 : decode cX11_way 38 = .ok (.if_icmp .ne 6, 3) := by decide +kernel
theorem dX11_way_41 : decode cX11_way 41 = .ok (.bipush (-4), 2) := by decide +kernel
theorem dX11_way_43 : decode cX11_way 43 = .ok (.ireturn, 1) := by decide +kernel
theorem dX11_way_44 : decode cX11_way 44 = .ok (.iload_n 3, 1) := by decide +kernel
theorem dX11_way_45 : decode cX11_way 45 = .ok (.ifCond .ne 12, 3) := by decide +kernel
theorem dX11_way_48 : decode cX11_way 48 = .ok (.aload_n 0, 1) := by decide +kernel
theorem dX11_way_49 : decode cX11_way 49 = .ok (.getfield 45, 3) := by decide +kernel
theorem dX11_way_52 : decode cX11_way 52 = .ok (.iload_n 1, 1) := by decide +kernel
theorem dX11_way_53 : decode cX11_way 53 = .ok (.iaload, 1) := by decide +kernel
theorem dX11_way_54 : decode cX11_way 54 = .ok (.goto 22, 3) := by decide +kernel
theorem dX11_way_57 : decode cX11_way 57 = .ok (.iload_n 3, 1) := by decide +kernel
theorem dX11_way_58 : decode cX11_way 58 = .ok (.iconst 1, 1) := by decide +kernel
theorem dX11_way_59 : decode cX11_way 59 = .ok (.if_icmp .ne 12, 3) := by decide +kernel
theorem dX11_way_62 : decode cX11_way 62 = .ok (.aload_n 0, 1) := by decide +kernel
theorem dX11_way_63 : decode cX11_way 63 = .ok (.getfield 48, 3) := by decide +kernel
theorem dX11_way_66 : decode cX11_way 66 = .ok (.iload_n 1, 1) := by decide +kernel
theorem dX11_way_67 : decode cX11_way 67 = .ok (.iaload, 1) := by decide +kernel
theorem dX11_way_68 : decode cX11_way 68 = .ok (.goto 8, 3) := by decide +kernel
theorem dX11_way_71 : decode cX11_way 71 = .ok (.aload_n 0, 1) := by decide +kernel
theorem dX11_way_72 : decode cX11_way 72 = .ok (.iload_n 1, 1) := by decide +kernel
theorem dX11_way_73 : decode cX11_way 73 = .ok (.invokevirtual 191, 3) := by decide +kernel
theorem dX11_way_76 : decode cX11_way 76 = .ok (.ireturn, 1) := by decide +kernel
set_option maxRecDepth 20000 in
theorem ggX11_seas_X11_laysSeas : GoodIn wsX11_seas wsX11_laysSeas := goodIn_r _ [5, 6, 7, 8, 9, 4, 10, 11, 12, 13, 14, 15, 16, 17, 18, 19, 20, 21, 22, 23, 24, 25, 26, 27, 28, 29, 34, 35, 36, 37, 38, 39, 40, 41, 42, 43, 44, 45, 46, 47, 48, 49, 50, 51, 52] (by decide +kernel) (by decide +kernel)
set_option maxRecDepth 20000 in
theorem gX11_seas_X11_laysSeas : GoodIn wsX11_seas (wsV RX11 115 RX11 yX11_laysSeas wsX11_laysSeas) := goodIn_app (goodIn_of _ (by decide +kernel)) ggX11_seas_X11_laysSeas
set_option maxRecDepth 20000 in
theorem ggX11_seas_X11_seasAhead : GoodIn wsX11_seas wsX11_seasAhead := goodIn_r _ [33, 6, 34, 35, 36, 37, 38, 39, 40, 41, 42, 43, 44, 45, 46, 47, 48, 49, 50, 51, 52] (by decide +kernel) (by decide +kernel)
set_option maxRecDepth 20000 in
theorem gX11_seas_X11_seasAhead : GoodIn wsX11_seas (wsV RX11 118 RX11 yX11_seasAhead wsX11_seasAhead) := goodIn_app (goodIn_of _ (by decide +kernel)) ggX11_seas_X11_seasAhead
theorem dX11_seas_0 : decode cX11_seas 0 = .ok (.aload_n 0, 1) := by decide +kernel
theorem dX11_seas_1 : decode cX11_seas 1 = .ok (.invokevirtual 115, 3) := by decide +kernel
theorem dX11_seas_4 : decode cX11_seas 4 = .ok (.aload_n 0, 1) := by decide +kernel
theorem dX11_seas_5 : decode cX11_seas 5 = .ok (.sipush 266, 3) := by decide +kernel
theorem dX11_seas_8 : decode cX11_seas 8 = .ok (.invokevirtual 118, 3) := by decide +kernel
theorem dX11_seas_11 : decode cX11_seas 11 = .ok (.ireturn, 1) := by decide +kernel
set_option maxRecDepth 20000 in
theorem ggX11_sea_X11_seas : GoodIn wsX11_sea wsX11_seas := goodIn_r _ [6, 7, 8, 9, 5, 10, 1, 11, 12, 13, 14, 15, 16, 17, 18, 19, 20, 21, 22, 23, 24, 25, 26, 27, 28, 29, 30, 31, 32, 33, 34, 35, 36, 37, 41, 42, 43, 44, 45, 46, 47, 48, 49, 50, 51, 52, 53, 54, 55, 56, 57, 58, 59] (by decide +kernel) (by decide +kernel)
set_option maxRecDepth 20000 in
theorem gX11_sea_X11_seas : GoodIn wsX11_sea (wsV RX11 194 RX11 yX11_seas wsX11_seas) := goodIn_app (goodIn_of _ (by decide +kernel)) ggX11_sea_X11_seas
set_option maxRecDepth 20000 in
theorem ggX11_sea_X11_in : GoodIn wsX11_sea wsX11_in := goodIn_r _ [40] (by decide +kernel) (by decide +kernel)
set_option maxRecDepth 20000 in
theorem gX11_sea_X11_in : GoodIn wsX11_sea (va_wsS RX11 70 yX11_in wsX11_in) := goodIn_app (goodIn_of _ (by decide +kernel)) ggX11_sea_X11_in
set_option maxRecDepth 20000 in
theorem ggX11_sea_X11_isLand : GoodIn wsX11_sea wsX11_isLand := goodIn_r _ [14, 15, 41, 42, 43, 44, 45, 46, 47, 48, 49, 50, 51, 52, 53, 54, 55, 56, 57, 58, 59] (by decide +kernel) (by decide +kernel)
set_option maxRecDepth 20000 in
theorem gX11_sea_X11_isLand : GoodIn wsX11_sea (wsV RX11 112 RX11 yX11_isLand wsX11_isLand) := goodIn_app (goodIn_of _ (by decide +kernel)) ggX11_sea_X11_isLand
set_option maxRecDepth 20000 in
theorem ggX11_sea_X11_seasAhead : GoodIn wsX11_sea wsX11_seasAhead := goodIn_r _ [37, 1, 41, 42, 43, 44, 45, 46, 47, 48, 49, 50, 51, 52, 53, 54, 55, 56, 57, 58, 59] (by decide +kernel) (by decide +kernel)
set_option maxRecDepth 20000 in
theorem gX11_sea_X11_seasAhead : GoodIn wsX11_sea (wsV RX11 118 RX11 yX11_seasAhead wsX11_seasAhead) := goodIn_app (goodIn_of _ (by decide +kernel)) ggX11_sea_X11_seasAhead
theorem dX11_sea_0 : decode cX11_sea 0 = .ok (.iload_n 1, 1) := by decide +kernel
theorem dX11_sea_1 : decode cX11_sea 1 = .ok (.iconst 0, 1) := by decide +kernel
theorem dX11_sea_2 : decode cX11_sea 2 = .ok (.aload_n 0, 1) := by decide +kernel
theorem dX11_sea_3 : decode cX11_sea 3 = .ok (.invokevirtual 194, 3) := by decide +kernel
theorem dX11_sea_6 : decode cX11_sea 6 = .ok (.iconst 1, 1) := by decide +kernel
theorem dX11_sea_7 : decode cX11_sea 7 = .ok (.isub, 1) := by decide +kernel
theorem dX11_sea_8 : decode cX11_sea 8 = .ok (.invokestatic 70, 3) := by decide +kernel
theorem dX11_sea_11 : decode cX11_sea 11 = .ok (.ifCond .eq 12, 3) := by decide +kernel
theorem dX11_sea_14 : decode cX11_sea 14 = .ok (.iload_n 2, 1) := by decide +kernel
theorem dX11_sea_15 : decode cX11_sea 15 = .ok (.iconst 0, 1) := by decide +kernel
theorem dX11_sea_16 : decode cX11_sea 16 = .ok (.iconst 2, 1) := by decide +kernel
theorem dX11_sea_17 : decode cX11_sea 17 = .ok (.invokestatic 70, 3) := by decide +kernel
theorem dX11_sea_20 : decode cX11_sea 20 = .ok (.ifCond .ne 5, 3) := by decide +kernel
theorem dX11_sea_23 : decode cX11_sea 23 = .ok (.iconst (-1), 1) := by decide +kernel
theorem dX11_sea_24 : decode cX11_sea 24 = .ok (.ireturn, 1) := by decide +kernel
theorem dX11_sea_25 : decode cX11_sea 25 = .ok (.bipush (-4), 2) := by decide +kernel
theorem dX11_sea_27 : decode cX11_sea 27 = .ok (.istore_n 3, 1) := by decide +kernel
theorem dX11_sea_28 : decode cX11_sea 28 = .ok (.bipush (-4), 2) := by decide +kernel
theorem dX11_sea_30 : decode cX11_sea 30 = .ok (.istore 4, 2) := by decide +kernel
theorem dX11_sea_32 : decode cX11_sea 32 = .ok (.iconst 0, 1) := by decide +kernel
theorem dX11_sea_33 : decode cX11_sea 33 = .ok (.istore 5, 2) := by decide +kernel
theorem dX11_sea_35 : decode cX11_sea 35 = .ok (.iconst 0, 1) := by decide +kernel
theorem dX11_sea_36 : decode cX11_sea 36 = .ok (.istore 6, 2) := by decide +kernel
theorem dX11_sea_38 : decode cX11_sea 38 = .ok (.iload 6, 2) := by decide +kernel
theorem dX11_sea_40 : decode cX11_sea 40 = .ok (.sipush 266, 3) := by decide +kernel
theorem dX11_sea_43 : decode cX11_sea 43 = .ok (.if_icmp .ge 53, 3) := by decide +kernel
theorem dX11_sea_46 : decode cX11_sea 46 = .ok (.aload_n 0, 1) := by decide +kernel
theorem dX11_sea_47 : decode cX11_sea 47 = .ok (.iload 6, 2) := by decide +kernel
theorem dX11_sea_49 : decode cX11_sea 49 = .ok (.invokevirtual 112, 3) := by decide +kernel
theorem dX11_sea_52 : decode cX11_sea 52 = .ok (.ifCond .ne 38, 3) := by decide +kernel
theorem dX11_sea_55 : decode cX11_sea 55 = .ok (.aload_n 0, 1) := by decide +kernel
theorem dX11_sea_56 : decode cX11_sea 56 = .ok (.aload_n 0, 1) := by decide +kernel
theorem dX11_sea_57 : decode cX11_sea 57 = .ok (.getfield 39, 3) := by decide +kernel
theorem dX11_sea_60 : decode cX11_sea 60 = .ok (.iload 6, 2) := by decide +kernel
theorem dX11_sea_62 : decode cX11_sea 62 = .ok (.iaload, 1) := by decide +kernel
theorem dX11_sea_63 : decode cX11_sea 63 = .ok (.invokevirtual 118, 3) := by decide +kernel
theorem dX11_sea_66 : decode cX11_sea 66 = .ok (.iload_n 1, 1) := by decide +kernel
theorem dX11_sea_67 : decode cX11_sea 67 = .ok (.if_icmp .ne 23, 3) := by decide +kernel
theorem dX11_sea_70 : decode cX11_sea 70 = .ok (.iload_n 3, 1) := by decide +kernel
theorem dX11_sea_71 : decode cX11_sea 71 = .ok (.bipush (-4), 2) := by decide +kernel
theorem dX11_sea_73 : decode cX11_sea 73 = .ok (.if_icmp .ne 8, 3) := by decide +kernel
theorem dX11_sea_76 : decode cX11_sea 76 = .ok (.iload 6, 2) := by decide +kernel
theorem dX11_sea_78 : decode cX11_sea 78 = .ok (.goto 4, 3) := by decide +kernel
theorem dX11_sea_81 : decode cX11_sea 81 = .ok (.iload_n 3, 1) := by decide +kernel
theorem dX11_sea_82 : decode cX11_sea 82 = .ok (.istore_n 3, 1) := by decide +kernel
theorem dX11_sea_83 : decode cX11_sea 83 = .ok (.iload 6, 2) := by decide +kernel
theorem dX11_sea_85 : decode cX11_sea 85 = .ok (.istore 4, 2) := by decide +kernel
theorem dX11_sea_87 : decode cX11_sea 87 = .ok (.iinc 5 1, 3) := by decide +kernel
theorem dX11_sea_90 : decode cX11_sea 90 = .ok (.iinc 6 1, 3) := by decide +kernel
theorem dX11_sea_93 : decode cX11_sea 93 = .ok (.goto (-55), 3) := by decide +kernel
theorem dX11_sea_96 : decode cX11_sea 96 = .ok (.iload_n 2, 1) := by decide +kernel
theorem dX11_sea_97 : decode cX11_sea 97 = .ok (.ifCond .ne 8, 3) := by decide +kernel
theorem dX11_sea_100 : decode cX11_sea 100 = .ok (.iload 5, 2) := by decide +kernel
theorem dX11_sea_102 : decode cX11_sea 102 = .ok (.goto 14, 3) := by decide +kernel
theorem dX11_sea_105 : decode cX11_sea 105 = .ok (.iload_n 2, 1) := by decide +kernel
theorem dX11_sea_106 : decode cX11_sea 106 = .ok (.iconst 1, 1) := by decide +kernel
theorem dX11_sea_107 : decode cX11_sea 107 = .ok (.if_icmp .ne 7, 3) := by decide +kernel
theorem dX11_sea_110 : decode cX11_sea 110 = .ok (.iload_n 3, 1) := by decide +kernel
theorem dX11_sea_111 : decode cX11_sea 111 = .ok (.goto 5, 3) := by decide +kernel
theorem dX11_sea_114 : decode cX11_sea 114 = .ok (.iload 4, 2) := by decide +kernel
theorem dX11_sea_116 : decode cX11_sea 116 = .ok (.ireturn, 1) := by decide +kernel
theorem dX11_stop_0 : decode cX11_stop 0 = .ok (.iload_n 1, 1) := by decide +kernel
theorem dX11_stop_1 : decode cX11_stop 1 = .ok (.ifCond .ge 7, 3) := by decide +kernel
theorem dX11_stop_4 : decode cX11_stop 4 = .ok (.iconst (-1), 1) := by decide +kernel
theorem dX11_stop_5 : decode cX11_stop 5 = .ok (.goto 30, 3) := by decide +kernel
theorem dX11_stop_8 : decode cX11_stop 8 = .ok (.iload_n 1, 1) := by decide +kernel
theorem dX11_stop_9 : decode cX11_stop 9 = .ok (.aload_n 0, 1) := by decide +kernel
theorem dX11_stop_10 : decode cX11_stop 10 = .ok (.getfield 7, 3) := by decide +kernel
theorem dX11_stop_13 : decode cX11_stop 13 = .ok (.sipush 269, 3) := by decide +kernel
theorem dX11_stop_16 : decode cX11_stop 16 = .ok (.iaload, 1) := by decide +kernel
theorem dX11_stop_17 : decode cX11_stop 17 = .ok (.if_icmp .ge 16, 3) := by decide +kernel
theorem dX11_stop_20 : decode cX11_stop 20 = .ok (.aload_n 0, 1) := by decide +kernel
theorem dX11_stop_21 : decode cX11_stop 21 = .ok (.getfield 7, 3) := by decide +kernel
theorem dX11_stop_24 : decode cX11_stop 24 = .ok (.sipush 270, 3) := by decide +kernel
theorem dX11_stop_27 : decode cX11_stop 27 = .ok (.iload_n 1, 1) := by decide +kernel
theorem dX11_stop_28 : decode cX11_stop 28 = .ok (.iadd, 1) := by decide +kernel
theorem dX11_stop_29 : decode cX11_stop 29 = .ok (.iaload, 1) := by decide +kernel
theorem dX11_stop_30 : decode cX11_stop 30 = .ok (.goto 5, 3) := by decide +kernel
theorem dX11_stop_33 : decode cX11_stop 33 = .ok (.bipush (-4), 2) := by decide +kernel
theorem dX11_stop_35 : decode cX11_stop 35 = .ok (.ireturn, 1) := by decide +kernel
set_option maxRecDepth 20000 in
theorem ggX11_lengthOf_X11_laysWays : GoodIn wsX11_lengthOf wsX11_laysWays := goodIn_r _ [8, 2, 3, 9, 10, 11, 12, 7, 13, 1, 14, 15, 16, 17, 18, 19, 20, 21, 22, 23, 24, 25, 26, 27, 28, 29, 30, 31, 32, 33, 34, 35, 36, 37, 38, 39, 40, 41, 42, 43, 44, 45, 46, 47, 48, 49, 50, 51, 52, 53, 54, 55, 56, 57, 58, 59, 60, 61, 62, 63, 64, 65, 66, 67, 68, 69, 70, 71, 72, 73] (by decide +kernel) (by decide +kernel)
set_option maxRecDepth 20000 in
theorem gX11_lengthOf_X11_laysWays : GoodIn wsX11_lengthOf (wsV RX11 187 RX11 yX11_laysWays wsX11_laysWays) := goodIn_app (goodIn_of _ (by decide +kernel)) ggX11_lengthOf_X11_laysWays
theorem dX11_lengthOf_0 : decode cX11_lengthOf 0 = .ok (.iconst 0, 1) := by decide +kernel
theorem dX11_lengthOf_1 : decode cX11_lengthOf 1 = .ok (.istore_n 1, 1) := by decide +kernel
theorem dX11_lengthOf_2 : decode cX11_lengthOf 2 = .ok (.iconst 0, 1) := by decide +kernel
theorem dX11_lengthOf_3 : decode cX11_lengthOf 3 = .ok (.istore_n 2, 1) := by decide +kernel
theorem dX11_lengthOf_4 : decode cX11_lengthOf 4 = .ok (.iload_n 2, 1) := by decide +kernel
theorem dX11_lengthOf_5 : decode cX11_lengthOf 5 = .ok (.iconst 1, 1) := by decide +kernel
theorem dX11_lengthOf_6 : decode cX11_lengthOf 6 = .ok (.iadd, 1) := by decide +kernel
theorem dX11_lengthOf_7 : decode cX11_lengthOf 7 = .ok (.aload_n 0, 1) := by decide +kernel
theorem dX11_lengthOf_8 : decode cX11_lengthOf 8 = .ok (.getfield 7, 3) := by decide +kernel
theorem dX11_lengthOf_11 : decode cX11_lengthOf 11 = .ok (.sipush 269, 3) := by decide +kernel
theorem dX11_lengthOf_14 : decode cX11_lengthOf 14 = .ok (.iaload, 1) := by decide +kernel
theorem dX11_lengthOf_15 : decode cX11_lengthOf 15 = .ok (.if_icmp .ge 54, 3) := by decide +kernel
theorem dX11_lengthOf_18 : decode cX11_lengthOf 18 = .ok (.aload_n 0, 1) := by decide +kernel
theorem dX11_lengthOf_19 : decode cX11_lengthOf 19 = .ok (.aload_n 0, 1) := by decide +kernel
theorem dX11_lengthOf_20 : decode cX11_lengthOf 20 = .ok (.getfield 7, 3) := by decide +kernel
theorem dX11_lengthOf_23 : decode cX11_lengthOf 23 = .ok (.sipush 270, 3) := by decide +kernel
theorem dX11_lengthOf_26 : decode cX11_lengthOf 26 = .ok (.iload_n 2, 1) := by decide +kernel
theorem dX11_lengthOf_27 : decode cX11_lengthOf 27 = .ok (.iadd, 1) := by decide +kernel
theorem dX11_lengthOf_28 : decode cX11_lengthOf 28 = .ok (.iconst 1, 1) := by decide +kernel
theorem dX11_lengthOf_29 : decode cX11_lengthOf 29 = .ok (.iadd, 1) := by decide +kernel
theorem dX11_lengthOf_30 : decode cX11_lengthOf 30 = .ok (.iaload, 1) := by decide +kernel
theorem dX11_lengthOf_31 : decode cX11_lengthOf 31 = .ok (.invokevirtual 187, 3) := by decide +kernel
theorem dX11_lengthOf_34 : decode cX11_lengthOf 34 = .ok (.aload_n 0, 1) := by decide +kernel
theorem dX11_lengthOf_35 : decode cX11_lengthOf 35 = .ok (.getfield 45, 3) := by decide +kernel
theorem dX11_lengthOf_38 : decode cX11_lengthOf 38 = .ok (.aload_n 0, 1) := by decide +kernel
theorem dX11_lengthOf_39 : decode cX11_lengthOf 39 = .ok (.getfield 7, 3) := by decide +kernel
theorem dX11_lengthOf_42 : decode cX11_lengthOf 42 = .ok (.sipush 270, 3) := by decide +kernel
theorem dX11_lengthOf_45 : decode cX11_lengthOf 45 = .ok (.iload_n 2, 1) := by decide +kernel
theorem dX11_lengthOf_46 : decode cX11_lengthOf 46 = .ok (.iadd, 1) := by decide +kernel
theorem dX11_lengthOf_47 : decode cX11_lengthOf 47 = .ok (.iaload, 1) := by decide +kernel
theorem dX11_lengthOf_48 : decode cX11_lengthOf 48 = .ok (.iaload, 1) := by decide +kernel
theorem dX11_lengthOf_49 : decode cX11_lengthOf 49 = .ok (.istore_n 3, 1) := by decide +kernel
theorem dX11_lengthOf_50 : decode cX11_lengthOf 50 = .ok (.iload_n 3, 1) := by decide +kernel
theorem dX11_lengthOf_51 : decode cX11_lengthOf 51 = .ok (.ldc 155, 2) := by decide +kernel
theorem dX11_lengthOf_53 : decode cX11_lengthOf 53 = .ok (.if_icmp .ne 6, 3) := by decide +kernel
theorem dX11_lengthOf_56 : decode cX11_lengthOf 56 = .ok (.bipush (-4), 2) := by decide +kernel
theorem dX11_lengthOf_58 : decode cX11_lengthOf 58 = .ok (.ireturn, 1) := by decide +kernel
theorem dX11_lengthOf_59 : decode cX11_lengthOf 59 = .ok (.iload_n 1, 1) := by decide +kernel
theorem dX11_lengthOf_60 : decode cX11_lengthOf 60 = .ok (.iload_n 3, 1) := by decide +kernel
theorem dX11_lengthOf_61 : decode cX11_lengthOf 61 = .ok (.iadd, 1) := by decide +kernel
theorem dX11_lengthOf_62 : decode cX11_lengthOf 62 = .ok (.istore_n 1, 1) := by decide +kernel
theorem dX11_lengthOf_63 : decode cX11_lengthOf 63 = .ok (.iinc 2 1, 3) := by decide +kernel
theorem dX11_lengthOf_66 : decode cX11_lengthOf 66 = .ok (.goto (-62), 3) := by decide +kernel
theorem dX11_lengthOf_69 : decode cX11_lengthOf 69 = .ok (.iload_n 1, 1) := by decide +kernel
theorem dX11_lengthOf_70 : decode cX11_lengthOf 70 = .ok (.ireturn, 1) := by decide +kernel
set_option maxRecDepth 20000 in
theorem ggX11_route_X11_lengthOf : GoodIn wsX11_route wsX11_lengthOf := goodIn_r _ [6, 1, 7, 8, 9, 10, 11, 5, 12, 13, 14, 15, 16, 17, 18, 19, 20, 21, 22, 23, 24, 25, 26, 27, 28, 29, 30, 31, 32, 33, 34, 35, 36, 37, 38, 39, 40, 41, 42, 43, 44, 45, 46, 47, 48, 49, 50, 51, 52, 53, 54, 55, 56, 57, 58, 59, 60, 61, 62, 63, 64, 65, 66, 67, 68, 69, 70, 71, 72, 73, 74, 75, 76, 77] (by decide +kernel) (by decide +kernel)
set_option maxRecDepth 20000 in
theorem gX11_route_X11_lengthOf : GoodIn wsX11_route (wsV RX11 197 RX11 yX11_lengthOf wsX11_lengthOf) := goodIn_app (goodIn_of _ (by decide +kernel)) ggX11_route_X11_lengthOf
theorem dX11_route_0 : decode cX11_route 0 = .ok (.iload_n 1, 1) := by decide +kernel
theorem dX11_route_1 : decode cX11_route 1 = .ok (.ifCond .ne 14, 3) := by decide +kernel
theorem dX11_route_4 : decode cX11_route 4 = .ok (.aload_n 0, 1) := by decide +kernel
theorem dX11_route_5 : decode cX11_route 5 = .ok (.getfield 7, 3) := by decide +kernel
theorem dX11_route_8 : decode cX11_route 8 = .ok (.sipush 269, 3) := by decide +kernel
theorem dX11_route_11 : decode cX11_route 11 = .ok (.iaload, 1) := by decide +kernel
theorem dX11_route_12 : decode cX11_route 12 = .ok (.goto 16, 3) := by decide +kernel
theorem dX11_route_15 : decode cX11_route 15 = .ok (.iload_n 1, 1) := by decide +kernel
theorem dX11_route_16 : decode cX11_route 16 = .ok (.iconst 1, 1) := by decide +kernel
theorem dX11_route_17 : decode cX11_route 17 = .ok (.if_icmp .ne 10, 3) := by decide +kernel
theorem dX11_route_20 : decode cX11_route 20 = .ok (.aload_n 0, 1) := by decide +kernel
theorem dX11_route_21 : decode cX11_route 21 = .ok (.invokevirtual 197, 3) := by decide +kernel
theorem dX11_route_24 : decode cX11_route 24 = .ok (.goto 4, 3) := by decide +kernel
theorem dX11_route_27 : decode cX11_route 27 = .ok (.iconst (-1), 1) := by decide +kernel
theorem dX11_route_28 : decode cX11_route 28 = .ok (.ireturn, 1) := by decide +kernel
set_option maxRecDepth 20000 in
theorem ggX11_rolled_X11_in : GoodIn wsX11_rolled wsX11_in := goodIn_r _ [4] (by decide +kernel) (by decide +kernel)
set_option maxRecDepth 20000 in
theorem gX11_rolled_X11_in : GoodIn wsX11_rolled (va_wsS RX11 70 yX11_in wsX11_in) := goodIn_app (goodIn_of _ (by decide +kernel)) ggX11_rolled_X11_in
set_option maxRecDepth 20000 in
theorem ggX11_rolled_X11_lengthOf : GoodIn wsX11_rolled wsX11_lengthOf := goodIn_r _ [8, 9, 10, 11, 12, 13, 14, 3, 15, 16, 17, 18, 19, 20, 21, 22, 23, 24, 25, 26, 27, 28, 29, 30, 31, 32, 33, 34, 35, 36, 37, 38, 39, 40, 41, 42, 43, 44, 45, 46, 47, 48, 49, 50, 51, 52, 53, 54, 55, 56, 57, 58, 59, 60, 61, 62, 63, 64, 65, 66, 67, 68, 69, 70, 71, 72, 73, 74, 75, 76, 77, 78, 79, 80] (by decide +kernel) (by decide +kernel)
set_option maxRecDepth 20000 in
theorem gX11_rolled_X11_lengthOf : GoodIn wsX11_rolled (wsV RX11 197 RX11 yX11_lengthOf wsX11_lengthOf) := goodIn_app (goodIn_of _ (by decide +kernel)) ggX11_rolled_X11_lengthOf
theorem dX11_rolled_0 : decode cX11_rolled 0 = .ok (.iload_n 1, 1) := by decide +kernel
theorem dX11_rolled_1 : decode cX11_rolled 1 = .ok (.iconst 1, 1) := by decide +kernel
theorem dX11_rolled_2 : decode cX11_rolled 2 = .ok (.sipush 10000, 3) := by decide +kernel
theorem dX11_rolled_5 : decode cX11_rolled 5 = .ok (.invokestatic 70, 3) := by decide +kernel
theorem dX11_rolled_8 : decode cX11_rolled 8 = .ok (.ifCond .eq 12, 3) := by decide +kernel
theorem dX11_rolled_11 : decode cX11_rolled 11 = .ok (.iload_n 2, 1) := by decide +kernel
theorem dX11_rolled_12 : decode cX11_rolled 12 = .ok (.iconst 0, 1) := by decide +kernel
theorem dX11_rolled_13 : decode cX11_rolled 13 = .ok (.iconst 1, 1) := by decide +kernel
theorem dX11_rolled_14 : decode cX11_rolled 14 = .ok (.invokestatic 70, 3) := by decide +kernel
theorem dX11_rolled_17 : decode cX11_rolled 17 = .ok (.ifCond .ne 5, 3) := by decide +kernel
theorem dX11_rolled_20 : decode cX11_rolled 20 = .ok (.iconst (-1), 1) := by decide +kernel
theorem dX11_rolled_21 : decode cX11_rolled 21 = .ok (.ireturn, 1) := by decide +kernel
theorem dX11_rolled_22 : decode cX11_rolled 22 = .ok (.aload_n 0, 1) := by decide +kernel
theorem dX11_rolled_23 : decode cX11_rolled 23 = .ok (.invokevirtual 197, 3) := by decide +kernel
theorem dX11_rolled_26 : decode cX11_rolled 26 = .ok (.istore_n 3, 1) := by decide +kernel
theorem dX11_rolled_27 : decode cX11_rolled 27 = .ok (.iload_n 3, 1) := by decide +kernel
theorem dX11_rolled_28 : decode cX11_rolled 28 = .ok (.bipush (-4), 2) := by decide +kernel
theorem dX11_rolled_30 : decode cX11_rolled 30 = .ok (.if_icmp .ne 8, 3) := by decide +kernel
theorem dX11_rolled_33 : decode cX11_rolled 33 = .ok (.bipush (-4), 2) := by decide +kernel
theorem dX11_rolled_35 : decode cX11_rolled 35 = .ok (.goto 16, 3) := by decide +kernel
theorem dX11_rolled_38 : decode cX11_rolled 38 = .ok (.iload_n 2, 1) := by decide +kernel
theorem dX11_rolled_39 : decode cX11_rolled 39 = .ok (.ifCond .ne 9, 3) := by decide +kernel
theorem dX11_rolled_42 : decode cX11_rolled 42 = .ok (.iload_n 3, 1) := by decide +kernel
theorem dX11_rolled_43 : decode cX11_rolled 43 = .ok (.iload_n 1, 1) := by decide +kernel
theorem dX11_rolled_44 : decode cX11_rolled 44 = .ok (.idiv, 1) := by decide +kernel
theorem dX11_rolled_45 : decode cX11_rolled 45 = .ok (.goto 6, 3) := by decide +kernel
theorem dX11_rolled_48 : decode cX11_rolled 48 = .ok (.iload_n 3, 1) := by decide +kernel
theorem dX11_rolled_49 : decode cX11_rolled 49 = .ok (.iload_n 1, 1) := by decide +kernel
theorem dX11_rolled_50 : decode cX11_rolled 50 = .ok (.irem, 1) := by decide +kernel
theorem dX11_rolled_51 : decode cX11_rolled 51 = .ok (.ireturn, 1) := by decide +kernel
theorem dX11_needsOne_0 : decode cX11_needsOne 0 = .ok (.iconst 0, 1) := by decide +kernel
theorem dX11_needsOne_1 : decode cX11_needsOne 1 = .ok (.istore_n 2, 1) := by decide +kernel
theorem dX11_needsOne_2 : decode cX11_needsOne 2 = .ok (.iconst 0, 1) := by decide +kernel
theorem dX11_needsOne_3 : decode cX11_needsOne 3 = .ok (.istore_n 3, 1) := by decide +kernel
theorem dX11_needsOne_4 : decode cX11_needsOne 4 = .ok (.iload_n 3, 1) := by decide +kernel
theorem dX11_needsOne_5 : decode cX11_needsOne 5 = .ok (.aload_n 0, 1) := by decide +kernel
theorem dX11_needsOne_6 : decode cX11_needsOne 6 = .ok (.getfield 200, 3) := by decide +kernel
theorem dX11_needsOne_9 : decode cX11_needsOne 9 = .ok (.if_icmp .ge 29, 3) := by decide +kernel
theorem dX11_needsOne_12 : decode cX11_needsOne 12 = .ok (.iload_n 2, 1) := by decide +kernel
theorem dX11_needsOne_13 : decode cX11_needsOne 13 = .ok (.ifCond .ne 13, 3) := by decide +kernel
theorem dX11_needsOne_16 : decode cX11_needsOne 16 = .ok (.aload_n 0, 1) := by decide +kernel
theorem dX11_needsOne_17 : decode cX11_needsOne 17 = .ok (.getfield 51, 3) := by decide +kernel
theorem dX11_needsOne_20 : decode cX11_needsOne 20 = .ok (.iload_n 3, 1) := by decide +kernel
theorem dX11_needsOne_21 : decode cX11_needsOne 21 = .ok (.iaload, 1) := by decide +kernel
theorem dX11_needsOne_22 : decode cX11_needsOne 22 = .ok (.iload_n 1, 1) := by decide +kernel
theorem dX11_needsOne_23 : decode cX11_needsOne 23 = .ok (.if_icmp .ne 7, 3) := by decide +kernel
theorem dX11_needsOne_26 : decode cX11_needsOne 26 = .ok (.iconst 1, 1) := by decide +kernel
theorem dX11_needsOne_27 : decode cX11_needsOne 27 = .ok (.goto 4, 3) := by decide +kernel
theorem dX11_needsOne_30 : decode cX11_needsOne 30 = .ok (.iconst 0, 1) := by decide +kernel
theorem dX11_needsOne_31 : decode cX11_needsOne 31 = .ok (.istore_n 2, 1) := by decide +kernel
theorem dX11_needsOne_32 : decode cX11_needsOne 32 = .ok (.iinc 3 1, 3) := by decide +kernel
theorem dX11_needsOne_35 : decode cX11_needsOne 35 = .ok (.goto (-31), 3) := by decide +kernel
theorem dX11_needsOne_38 : decode cX11_needsOne 38 = .ok (.iload_n 2, 1) := by decide +kernel
theorem dX11_needsOne_39 : decode cX11_needsOne 39 = .ok (.ifCond .ne 23, 3) := by decide +kernel
theorem dX11_needsOne_42 : decode cX11_needsOne 42 = .ok (.aload_n 0, 1) := by decide +kernel
theorem dX11_needsOne_43 : decode cX11_needsOne 43 = .ok (.getfield 51, 3) := by decide +kernel
theorem dX11_needsOne_46 : decode cX11_needsOne 46 = .ok (.aload_n 0, 1) := by decide +kernel
theorem dX11_needsOne_47 : decode cX11_needsOne 47 = .ok (.getfield 200, 3) := by decide +kernel
theorem dX11_needsOne_50 : decode cX11_needsOne 50 = .ok (.iload_n 1, 1) := by decide +kernel
theorem dX11_needsOne_51 : decode cX11_needsOne 51 = .ok (.iastore, 1) := by decide +kernel
theorem dX11_needsOne_52 : decode cX11_needsOne 52 = .ok (.aload_n 0, 1) := by decide +kernel
theorem dX11_needsOne_53 : decode cX11_needsOne 53 = .ok (.dup, 1) := by decide +kernel
theorem dX11_needsOne_54 : decode cX11_needsOne 54 = .ok (.getfield 200, 3) := by decide +kernel
theorem dX11_needsOne_57 : decode cX11_needsOne 57 = .ok (.iconst 1, 1) := by decide +kernel
theorem dX11_needsOne_58 : decode cX11_needsOne 58 = .ok (.iadd, 1) := by decide +kernel
theorem dX11_needsOne_59 : decode cX11_needsOne 59 = .ok (.putfield 200, 3) := by decide +kernel
theorem dX11_needsOne_62 : decode cX11_needsOne 62 = .ok (.return_, 1) := by decide +kernel
set_option maxRecDepth 20000 in
theorem ggX11_laysNeeds_X11_isLand : GoodIn wsX11_laysNeeds wsX11_isLand := goodIn_r _ [7, 2, 41, 42, 43, 44, 45, 46, 47, 48, 49, 50, 51, 52, 53, 54, 55, 56, 57, 58, 59] (by decide +kernel) (by decide +kernel)
set_option maxRecDepth 20000 in
theorem gX11_laysNeeds_X11_isLand : GoodIn wsX11_laysNeeds (wsV RX11 112 RX11 yX11_isLand wsX11_isLand) := goodIn_app (goodIn_of _ (by decide +kernel)) ggX11_laysNeeds_X11_isLand
set_option maxRecDepth 20000 in
theorem ggX11_laysNeeds_X11_rowOf : GoodIn wsX11_laysNeeds wsX11_rowOf := goodIn_r _ [10] (by decide +kernel) (by decide +kernel)
set_option maxRecDepth 20000 in
theorem gX11_laysNeeds_X11_rowOf : GoodIn wsX11_laysNeeds (va_wsS RX11 92 yX11_rowOf wsX11_rowOf) := goodIn_app (goodIn_of _ (by decide +kernel)) ggX11_laysNeeds_X11_rowOf
set_option maxRecDepth 20000 in
theorem ggX11_laysNeeds_X11_isOnStrips : GoodIn wsX11_laysNeeds wsX11_isOnStrips := goodIn_r _ [14, 2, 15, 16, 6, 17, 41, 42, 43, 44, 45, 46, 47, 48, 49, 50, 51, 52, 53, 54, 55, 56, 57, 58, 59] (by decide +kernel) (by decide +kernel)
set_option maxRecDepth 20000 in
theorem gX11_laysNeeds_X11_isOnStrips : GoodIn wsX11_laysNeeds (wsV RX11 128 RX11 yX11_isOnStrips wsX11_isOnStrips) := goodIn_app (goodIn_of _ (by decide +kernel)) ggX11_laysNeeds_X11_isOnStrips
set_option maxRecDepth 20000 in
theorem ggX11_laysNeeds_X11_stepOf : GoodIn wsX11_laysNeeds wsX11_stepOf := goodIn_r _ [20, 21, 22, 6, 23] (by decide +kernel) (by decide +kernel)
set_option maxRecDepth 20000 in
theorem gX11_laysNeeds_X11_stepOf : GoodIn wsX11_laysNeeds (va_wsS RX11 89 yX11_stepOf wsX11_stepOf) := goodIn_app (goodIn_of _ (by decide +kernel)) ggX11_laysNeeds_X11_stepOf
set_option maxRecDepth 20000 in
theorem ggX11_laysNeeds_X11_wide : GoodIn wsX11_laysNeeds wsX11_wide := goodIn_r _ [27, 2, 41, 42, 43, 44, 45, 46, 47, 48, 49, 50, 51, 52, 53, 54, 55, 56, 57, 58, 59] (by decide +kernel) (by decide +kernel)
set_option maxRecDepth 20000 in
theorem gX11_laysNeeds_X11_wide : GoodIn wsX11_laysNeeds (wsV RX11 81 RX11 yX11_wide wsX11_wide) := goodIn_app (goodIn_of _ (by decide +kernel)) ggX11_laysNeeds_X11_wide
set_option maxRecDepth 20000 in
theorem ggX11_laysNeeds_X11_isCut : GoodIn wsX11_laysNeeds wsX11_isCut := goodIn_r _ [31, 18, 19, 6, 20, 21, 22, 23, 24, 25, 26, 27, 2, 41, 42, 43, 44, 45, 46, 47, 48, 49, 50, 51, 52, 53, 54, 55, 56, 57, 58, 59] (by decide +kernel) (by decide +kernel)
set_option maxRecDepth 20000 in
theorem gX11_laysNeeds_X11_isCut : GoodIn wsX11_laysNeeds (wsV RX11 140 RX11 yX11_isCut wsX11_isCut) := goodIn_app (goodIn_of _ (by decide +kernel)) ggX11_laysNeeds_X11_isCut
set_option maxRecDepth 20000 in
theorem ggX11_laysNeeds_X11_stripAhead : GoodIn wsX11_laysNeeds wsX11_stripAhead := goodIn_r _ [35, 2, 41, 42, 43, 44, 45, 46, 47, 48, 49, 50, 51, 52, 53, 54, 55, 56, 57, 58, 59] (by decide +kernel) (by decide +kernel)
set_option maxRecDepth 20000 in
theorem gX11_laysNeeds_X11_stripAhead : GoodIn wsX11_laysNeeds (wsV RX11 99 RX11 yX11_stripAhead wsX11_stripAhead) := goodIn_app (goodIn_of _ (by decide +kernel)) ggX11_laysNeeds_X11_stripAhead
set_option maxRecDepth 20000 in
theorem ggX11_laysNeeds_X11_isPole : GoodIn wsX11_laysNeeds wsX11_isPole := goodIn_r _ [23] (by decide +kernel) (by decide +kernel)
set_option maxRecDepth 20000 in
theorem gX11_laysNeeds_X11_isPole : GoodIn wsX11_laysNeeds (va_wsS RX11 74 yX11_isPole wsX11_isPole) := goodIn_app (goodIn_of _ (by decide +kernel)) ggX11_laysNeeds_X11_isPole
set_option maxRecDepth 20000 in
theorem ggX11_laysNeeds_X11_needsOne : GoodIn wsX11_laysNeeds wsX11_needsOne := goodIn_r _ [39, 1, 40, 41, 42, 43, 44, 45, 46, 47, 48, 49, 50, 51, 52, 53, 54, 55, 56, 57, 58, 59] (by decide +kernel) (by decide +kernel)
set_option maxRecDepth 20000 in
theorem gX11_laysNeeds_X11_needsOne : GoodIn wsX11_laysNeeds (wsV RX11 203 RX11 yX11_needsOne wsX11_needsOne) := goodIn_app (goodIn_of _ (by decide +kernel)) ggX11_laysNeeds_X11_needsOne
theorem dX11_laysNeeds_0 : decode cX11_laysNeeds 0 = .ok (.aload_n 0, 1) := by decide +kernel
theorem dX11_laysNeeds_1 : decode cX11_laysNeeds 1 = .ok (.iconst 0, 1) := by decide +kernel
theorem dX11_laysNeeds_2 : decode cX11_laysNeeds 2 = .ok (.putfield 200, 3) := by decide +kernel
theorem dX11_laysNeeds_5 : decode cX11_laysNeeds 5 = .ok (.iconst 0, 1) := by decide +kernel
theorem dX11_laysNeeds_6 : decode cX11_laysNeeds 6 = .ok (.istore_n 1, 1) := by decide +kernel
theorem dX11_laysNeeds_7 : decode cX11_laysNeeds 7 = .ok (.iload_n 1, 1) := by decide +kernel
theorem dX11_laysNeeds_8 : decode cX11_laysNeeds 8 = .ok (.sipush 266, 3) := by decide +kernel
theorem dX11_laysNeeds_11 : decode cX11_laysNeeds 11 = .ok (.if_icmp .ge 91, 3) := by decide +kernel
theorem dX11_laysNeeds_14 : decode cX11_laysNeeds 14 = .ok (.aload_n 0, 1) := by decide +kernel
theorem dX11_laysNeeds_15 : decode cX11_laysNeeds 15 = .ok (.iload_n 1, 1) := by decide +kernel
theorem dX11_laysNeeds_16 : decode cX11_laysNeeds 16 = .ok (.invokevirtual 112, 3) := by decide +kernel
theorem dX11_laysNeeds_19 : decode cX11_laysNeeds 19 = .ok (.ifCond .eq 77, 3) := by decide +kernel
theorem dX11_laysNeeds_22 : decode cX11_laysNeeds 22 = .ok (.aload_n 0, 1) := by decide +kernel
theorem dX11_laysNeeds_23 : decode cX11_laysNeeds 23 = .ok (.iload_n 1, 1) := by decide +kernel
theorem dX11_laysNeeds_24 : decode cX11_laysNeeds 24 = .ok (.invokestatic 92, 3) := by decide +kernel
theorem dX11_laysNeeds_27 : decode cX11_laysNeeds 27 = .ok (.invokevirtual 128, 3) := by decide +kernel
theorem dX11_laysNeeds_30 : decode cX11_laysNeeds 30 = .ok (.ifCond .eq 66, 3) := by decide +kernel
theorem dX11_laysNeeds_33 : decode cX11_laysNeeds 33 = .ok (.iload_n 1, 1) := by decide +kernel
theorem dX11_laysNeeds_34 : decode cX11_laysNeeds 34 = .ok (.invokestatic 89, 3) := by decide +kernel
theorem dX11_laysNeeds_37 : decode cX11_laysNeeds 37 = .ok (.aload_n 0, 1) := by decide +kernel
theorem dX11_laysNeeds_38 : decode cX11_laysNeeds 38 = .ok (.invokevirtual 81, 3) := by decide +kernel
theorem dX11_laysNeeds_41 : decode cX11_laysNeeds 41 = .ok (.idiv, 1) := by decide +kernel
theorem dX11_laysNeeds_42 : decode cX11_laysNeeds 42 = .ok (.istore_n 2, 1) := by decide +kernel
theorem dX11_laysNeeds_43 : decode cX11_laysNeeds 43 = .ok (.aload_n 0, 1) := by decide +kernel
theorem dX11_laysNeeds_44 : decode cX11_laysNeeds 44 = .ok (.iload_n 1, 1) := by decide +kernel
theorem dX11_laysNeeds_45 : decode cX11_laysNeeds 45 = .ok (.invokevirtual 140, 3) := by decide +kernel
theorem dX11_laysNeeds_48 : decode cX11_laysNeeds 48 = .ok (.ifCond .eq 17, 3) := by decide +kernel
theorem dX11_laysNeeds_51 : decode cX11_laysNeeds 51 = .ok (.iconst 1, 1) := by decide +kernel
theorem dX11_laysNeeds_52 : decode cX11_laysNeeds 52 = .ok (.iload_n 2, 1) := by decide +kernel
theorem dX11_laysNeeds_53 : decode cX11_laysNeeds 53 = .ok (.ishl, 1) := by decide +kernel
theorem dX11_laysNeeds_54 : decode cX11_laysNeeds 54 = .ok (.iconst 1, 1) := by decide +kernel
theorem dX11_laysNeeds_55 : decode cX11_laysNeeds 55 = .ok (.aload_n 0, 1) := by decide +kernel
theorem dX11_laysNeeds_56 : decode cX11_laysNeeds 56 = .ok (.iload_n 2, 1) := by decide +kernel
theorem dX11_laysNeeds_57 : decode cX11_laysNeeds 57 = .ok (.invokevirtual 99, 3) := by decide +kernel
theorem dX11_laysNeeds_60 : decode cX11_laysNeeds 60 = .ok (.ishl, 1) := by decide +kernel
theorem dX11_laysNeeds_61 : decode cX11_laysNeeds 61 = .ok (.ior, 1) := by decide +kernel
theorem dX11_laysNeeds_62 : decode cX11_laysNeeds 62 = .ok (.goto 6, 3) := by decide +kernel
theorem dX11_laysNeeds_65 : decode cX11_laysNeeds 65 = .ok (.iconst 1, 1) := by decide +kernel
theorem dX11_laysNeeds_66 : decode cX11_laysNeeds 66 = .ok (.iload_n 2, 1) := by decide +kernel
theorem dX11_laysNeeds_67 : decode cX11_laysNeeds 67 = .ok (.ishl, 1) := by decide +kernel
theorem dX11_laysNeeds_68 : decode cX11_laysNeeds 68 = .ok (.istore_n 3, 1) := by decide +kernel
theorem dX11_laysNeeds_69 : decode cX11_laysNeeds 69 = .ok (.aload_n 0, 1) := by decide +kernel
theorem dX11_laysNeeds_70 : decode cX11_laysNeeds 70 = .ok (.iload_n 1, 1) := by decide +kernel
theorem dX11_laysNeeds_71 : decode cX11_laysNeeds 71 = .ok (.invokestatic 74, 3) := by decide +kernel
theorem dX11_laysNeeds_74 : decode cX11_laysNeeds 74 = .ok (.ifCond .eq 18, 3) := by decide +kernel
theorem dX11_laysNeeds_77 : decode cX11_laysNeeds 77 = .ok (.iconst 1, 1) := by decide +kernel
theorem dX11_laysNeeds_78 : decode cX11_laysNeeds 78 = .ok (.aload_n 0, 1) := by decide +kernel
theorem dX11_laysNeeds_79 : decode cX11_laysNeeds 79 = .ok (.getfield 7, 3) := by decide +kernel
theorem dX11_laysNeeds_82 : decode cX11_laysNeeds 82 = .ok (.sipush 267, 3) := by decide +kernel
theorem dX11_laysNeeds_85 : decode cX11_laysNeeds 85 = .ok (.iaload, 1) := by decide +kernel
theorem dX11_laysNeeds_86 : decode cX11_laysNeeds 86 = .ok (.ishl, 1) := by decide +kernel
theorem dX11_laysNeeds_87 : decode cX11_laysNeeds 87 = .ok (.iconst 1, 1) := by decide +kernel
theorem dX11_laysNeeds_88 : decode cX11_laysNeeds 88 = .ok (.isub, 1) := by decide +kernel
theorem dX11_laysNeeds_89 : decode cX11_laysNeeds 89 = .ok (.goto 4, 3) := by decide +kernel
theorem dX11_laysNeeds_92 : decode cX11_laysNeeds 92 = .ok (.iload_n 3, 1) := by decide +kernel
theorem dX11_laysNeeds_93 : decode cX11_laysNeeds 93 = .ok (.invokevirtual 203, 3) := by decide +kernel
theorem dX11_laysNeeds_96 : decode cX11_laysNeeds 96 = .ok (.iinc 1 1, 3) := by decide +kernel
theorem dX11_laysNeeds_99 : decode cX11_laysNeeds 99 = .ok (.goto (-92), 3) := by decide +kernel
theorem dX11_laysNeeds_102 : decode cX11_laysNeeds 102 = .ok (.return_, 1) := by decide +kernel
theorem dX11_areLeft_0 : decode cX11_areLeft 0 = .ok (.iconst 1, 1) := by decide +kernel
theorem dX11_areLeft_1 : decode cX11_areLeft 1 = .ok (.istore_n 2, 1) := by decide +kernel
theorem dX11_areLeft_2 : decode cX11_areLeft 2 = .ok (.iconst 0, 1) := by decide +kernel
theorem dX11_areLeft_3 : decode cX11_areLeft 3 = .ok (.istore_n 3, 1) := by decide +kernel
theorem dX11_areLeft_4 : decode cX11_areLeft 4 = .ok (.iload_n 3, 1) := by decide +kernel
theorem dX11_areLeft_5 : decode cX11_areLeft 5 = .ok (.aload_n 0, 1) := by decide +kernel
theorem dX11_areLeft_6 : decode cX11_areLeft 6 = .ok (.getfield 200, 3) := by decide +kernel
theorem dX11_areLeft_9 : decode cX11_areLeft 9 = .ok (.if_icmp .ge 30, 3) := by decide +kernel
theorem dX11_areLeft_12 : decode cX11_areLeft 12 = .ok (.iload_n 2, 1) := by decide +kernel
theorem dX11_areLeft_13 : decode cX11_areLeft 13 = .ok (.ifCond .eq 18, 3) := by decide +kernel
theorem dX11_areLeft_16 : decode cX11_areLeft 16 = .ok (.aload_n 0, 1) := by decide +kernel
theorem dX11_areLeft_17 : decode cX11_areLeft 17 = .ok (.getfield 51, 3) := by decide +kernel
theorem dX11_areLeft_20 : decode cX11_areLeft 20 = .ok (.iload_n 3, 1) := by decide +kernel
theorem dX11_areLeft_21 : decode cX11_areLeft 21 = .ok (.iaload, 1) := by decide +kernel
theorem dX11_areLeft_22 : decode cX11_areLeft 22 = .ok (.iload_n 1, 1) := by decide +kernel
theorem dX11_areLeft_23 : decode cX11_areLeft 23 = .ok (.iand, 1) := by decide +kernel
theorem dX11_areLeft_24 : decode cX11_areLeft 24 = .ok (.ifCond .eq 7, 3) := by decide +kernel
theorem dX11_areLeft_27 : decode cX11_areLeft 27 = .ok (.iconst 1, 1) := by decide +kernel
theorem dX11_areLeft_28 : decode cX11_areLeft 28 = .ok (.goto 4, 3) := by decide +kernel
theorem dX11_areLeft_31 : decode cX11_areLeft 31 = .ok (.iconst 0, 1) := by decide +kernel
theorem dX11_areLeft_32 : decode cX11_areLeft 32 = .ok (.istore_n 2, 1) := by decide +kernel
theorem dX11_areLeft_33 : decode cX11_areLeft 33 = .ok (.iinc 3 1, 3) := by decide +kernel
theorem dX11_areLeft_36 : decode cX11_areLeft 36 = .ok (.goto (-32), 3) := by decide +kernel
theorem dX11_areLeft_39 : decode cX11_areLeft 39 = .ok (.iload_n 2, 1) := by decide +kernel
theorem dX11_areLeft_40 : decode cX11_areLeft 40 = .ok (.ireturn, 1) := by decide +kernel
set_option maxRecDepth 20000 in
theorem ggX11_chances_X11_areLeft : GoodIn wsX11_chances wsX11_areLeft := goodIn_r _ [6, 7, 8, 9, 10, 11, 12, 13, 14, 15, 16, 17, 18, 19, 20, 21, 22, 23, 24, 25, 26, 27] (by decide +kernel) (by decide +kernel)
set_option maxRecDepth 20000 in
theorem gX11_chances_X11_areLeft : GoodIn wsX11_chances (wsV RX11 206 RX11 yX11_areLeft wsX11_areLeft) := goodIn_app (goodIn_of _ (by decide +kernel)) ggX11_chances_X11_areLeft
theorem dX11_chances_0 : decode cX11_chances 0 = .ok (.lconst 0, 1) := by decide +kernel
theorem dX11_chances_1 : decode cX11_chances 1 = .ok (.lstore_n 2, 1) := by decide +kernel
theorem dX11_chances_2 : decode cX11_chances 2 = .ok (.iconst 0, 1) := by decide +kernel
theorem dX11_chances_3 : decode cX11_chances 3 = .ok (.istore 4, 2) := by decide +kernel
theorem dX11_chances_5 : decode cX11_chances 5 = .ok (.iload 4, 2) := by decide +kernel
theorem dX11_chances_7 : decode cX11_chances 7 = .ok (.iconst 1, 1) := by decide +kernel
theorem dX11_chances_8 : decode cX11_chances 8 = .ok (.aload_n 0, 1) := by decide +kernel
theorem dX11_chances_9 : decode cX11_chances 9 = .ok (.getfield 7, 3) := by decide +kernel
theorem dX11_chances_12 : decode cX11_chances 12 = .ok (.sipush 267, 3) := by decide +kernel
theorem dX11_chances_15 : decode cX11_chances 15 = .ok (.iaload, 1) := by decide +kernel
theorem dX11_chances_16 : decode cX11_chances 16 = .ok (.ishl, 1) := by decide +kernel
theorem dX11_chances_17 : decode cX11_chances 17 = .ok (.if_icmp .ge 78, 3) := by decide +kernel
theorem dX11_chances_20 : decode cX11_chances 20 = .ok (.lconst 1, 1) := by decide +kernel
theorem dX11_chances_21 : decode cX11_chances 21 = .ok (.lstore 5, 2) := by decide +kernel
theorem dX11_chances_23 : decode cX11_chances 23 = .ok (.iconst 0, 1) := by decide +kernel
theorem dX11_chances_24 : decode cX11_chances 24 = .ok (.istore 7, 2) := by decide +kernel
theorem dX11_chances_26 : decode cX11_chances 26 = .ok (.iload 7, 2) := by decide +kernel
theorem dX11_chances_28 : decode cX11_chances 28 = .ok (.aload_n 0, 1) := by decide +kernel
theorem dX11_chances_29 : decode cX11_chances 29 = .ok (.getfield 7, 3) := by decide +kernel
theorem dX11_chances_32 : decode cX11_chances 32 = .ok (.sipush 267, 3) := by decide +kernel
theorem dX11_chances_35 : decode cX11_chances 35 = .ok (.iaload, 1) := by decide +kernel
theorem dX11_chances_36 : decode cX11_chances 36 = .ok (.if_icmp .ge 35, 3) := by decide +kernel
theorem dX11_chances_39 : decode cX11_chances 39 = .ok (.lload 5, 2) := by decide +kernel
theorem dX11_chances_41 : decode cX11_chances 41 = .ok (.iload 4, 2) := by decide +kernel
theorem dX11_chances_43 : decode cX11_chances 43 = .ok (.iload 7, 2) := by decide +kernel
theorem dX11_chances_45 : decode cX11_chances 45 = .ok (.ishr, 1) := by decide +kernel
theorem dX11_chances_46 : decode cX11_chances 46 = .ok (.iconst 1, 1) := by decide +kernel
theorem dX11_chances_47 : decode cX11_chances 47 = .ok (.iand, 1) := by decide +kernel
theorem dX11_chances_48 : decode cX11_chances 48 = .ok (.iconst 1, 1) := by decide +kernel
theorem dX11_chances_49 : decode cX11_chances 49 = .ok (.if_icmp .ne 11, 3) := by decide +kernel
theorem dX11_chances_52 : decode cX11_chances 52 = .ok (.bipush 10, 2) := by decide +kernel
theorem dX11_chances_54 : decode cX11_chances 54 = .ok (.iload_n 1, 1) := by decide +kernel
theorem dX11_chances_55 : decode cX11_chances 55 = .ok (.isub, 1) := by decide +kernel
theorem dX11_chances_56 : decode cX11_chances 56 = .ok (.i2l, 1) := by decide +kernel
theorem dX11_chances_57 : decode cX11_chances 57 = .ok (.goto 5, 3) := by decide +kernel
theorem dX11_chances_60 : decode cX11_chances 60 = .ok (.iload_n 1, 1) := by decide +kernel
theorem dX11_chances_61 : decode cX11_chances 61 = .ok (.i2l, 1) := by decide +kernel
theorem dX11_chances_62 : decode cX11_chances 62 = .ok (.lmul, 1) := by decide +kernel
theorem dX11_chances_63 : decode cX11_chances 63 = .ok (.lstore 5, 2) := by decide +kernel
theorem dX11_chances_65 : decode cX11_chances 65 = .ok (.iinc 7 1, 3) := by decide +kernel
theorem dX11_chances_68 : decode cX11_chances 68 = .ok (.goto (-42), 3) := by decide +kernel
theorem dX11_chances_71 : decode cX11_chances 71 = .ok (.lload_n 2, 1) := by decide +kernel
theorem dX11_chances_72 : decode cX11_chances 72 = .ok (.aload_n 0, 1) := by decide +kernel
theorem dX11_chances_73 : decode cX11_chances 73 = .ok (.iload 4, 2) := by decide +kernel
theorem dX11_chances_75 : decode cX11_chances 75 = .ok (.invokevirtual 206, 3) := by decide +kernel
theorem dX11_chances_78 : decode cX11_chances 78 = .ok (.ifCond .eq 8, 3) := by decide +kernel
theorem dX11_chances_81 : decode cX11_chances 81 = .ok (.lload 5, 2) := by decide +kernel
theorem dX11_chances_83 : decode cX11_chances 83 = .ok (.goto 4, 3) := by decide +kernel
theorem dX11_chances_86 : decode cX11_chances 86 = .ok (.lconst 0, 1) := by decide +kernel
theorem dX11_chances_87 : decode cX11_chances 87 = .ok (.ladd, 1) := by decide +kernel
theorem dX11_chances_88 : decode cX11_chances 88 = .ok (.lstore_n 2, 1) := by decide +kernel
theorem dX11_chances_89 : decode cX11_chances 89 = .ok (.iinc 4 1, 3) := by decide +kernel
theorem dX11_chances_92 : decode cX11_chances 92 = .ok (.goto (-87), 3) := by decide +kernel
theorem dX11_chances_95 : decode cX11_chances 95 = .ok (.lload_n 2, 1) := by decide +kernel
theorem dX11_chances_96 : decode cX11_chances 96 = .ok (.lreturn, 1) := by decide +kernel
theorem dX11_common_0 : decode cX11_common 0 = .ok (.lload_n 0, 1) := by decide +kernel
theorem dX11_common_1 : decode cX11_common 1 = .ok (.lstore 4, 2) := by decide +kernel
theorem dX11_common_3 : decode cX11_common 3 = .ok (.lload_n 2, 1) := by decide +kernel
theorem dX11_common_4 : decode cX11_common 4 = .ok (.lstore 6, 2) := by decide +kernel
theorem dX11_common_6 : decode cX11_common 6 = .ok (.iconst 0, 1) := by decide +kernel
theorem dX11_common_7 : decode cX11_common 7 = .ok (.istore 8, 2) := by decide +kernel
theorem dX11_common_9 : decode cX11_common 9 = .ok (.iload 8, 2) := by decide +kernel
theorem dX11_common_11 : decode cX11_common 11 = .ok (.sipush 200, 3) := by decide +kernel
theorem dX11_common_14 : decode cX11_common 14 = .ok (.if_icmp .ge 31, 3) := by decide +kernel
theorem dX11_common_17 : decode cX11_common 17 = .ok (.lload 6, 2) := by decide +kernel
theorem dX11_common_19 : decode cX11_common 19 = .ok (.lconst 0, 1) := by decide +kernel
theorem dX11_common_20 : decode cX11_common 20 = .ok (.lcmp, 1) := by decide +kernel
theorem dX11_common_21 : decode cX11_common 21 = .ok (.ifCond .eq 24, 3) := by decide +kernel
theorem dX11_common_24 : decode cX11_common 24 = .ok (.lload 4, 2) := by decide +kernel
theorem dX11_common_26 : decode cX11_common 26 = .ok (.lload 6, 2) := by decide +kernel
theorem dX11_common_28 : decode cX11_common 28 = .ok (.lrem, 1) := by decide +kernel
theorem dX11_common_29 : decode cX11_common 29 = .ok (.lstore 9, 2) := by decide +kernel
theorem dX11_common_31 : decode cX11_common 31 = .ok (.lload 6, 2) := by decide +kernel
theorem dX11_common_33 : decode cX11_common 33 = .ok (.lstore 4, 2) := by decide +kernel
theorem dX11_common_35 : decode cX11_common 35 = .ok (.lload 9, 2) := by decide +kernel
theorem dX11_common_37 : decode cX11_common 37 = .ok (.lstore 6, 2) := by decide +kernel
theorem dX11_common_39 : decode cX11_common 39 = .ok (.iinc 8 1, 3) := by decide +kernel
theorem dX11_common_42 : decode cX11_common 42 = .ok (.goto (-33), 3) := by decide +kernel
theorem dX11_common_45 : decode cX11_common 45 = .ok (.lload 4, 2) := by decide +kernel
theorem dX11_common_47 : decode cX11_common 47 = .ok (.lreturn, 1) := by decide +kernel
set_option maxRecDepth 20000 in
theorem ggX11_lost_X11_in : GoodIn wsX11_lost wsX11_in := goodIn_r _ [7] (by decide +kernel) (by decide +kernel)
set_option maxRecDepth 20000 in
theorem gX11_lost_X11_in : GoodIn wsX11_lost (va_wsS RX11 70 yX11_in wsX11_in) := goodIn_app (goodIn_of _ (by decide +kernel)) ggX11_lost_X11_in
set_option maxRecDepth 20000 in
theorem ggX11_lost_X11_laysNeeds : GoodIn wsX11_lost wsX11_laysNeeds := goodIn_r _ [11, 12, 2, 13, 14, 15, 6, 16, 17, 18, 19, 20, 21, 22, 23, 24, 25, 26, 27, 28, 29, 30, 31, 32, 33, 34, 35, 36, 37, 38, 39, 40, 41, 42, 43, 44, 45, 46, 47, 48, 49, 61, 62, 63, 64, 65, 66, 67, 68, 69, 70, 71, 72, 73, 74, 75, 76, 77, 78, 79] (by decide +kernel) (by decide +kernel)
set_option maxRecDepth 20000 in
theorem gX11_lost_X11_laysNeeds : GoodIn wsX11_lost (wsV RX11 211 RX11 yX11_laysNeeds wsX11_laysNeeds) := goodIn_app (goodIn_of _ (by decide +kernel)) ggX11_lost_X11_laysNeeds
set_option maxRecDepth 20000 in
theorem ggX11_lost_X11_chances : GoodIn wsX11_lost wsX11_chances := goodIn_r _ [53, 2, 54, 55, 56, 6, 57, 12, 49, 61, 62, 63, 64, 65, 66, 67, 68, 69, 70, 71, 72, 73, 74, 75, 76, 77, 78, 79] (by decide +kernel) (by decide +kernel)
set_option maxRecDepth 20000 in
theorem gX11_lost_X11_chances : GoodIn wsX11_lost (wsV RX11 214 RX11 yX11_chances wsX11_chances) := goodIn_app (goodIn_of _ (by decide +kernel)) ggX11_lost_X11_chances
set_option maxRecDepth 20000 in
theorem ggX11_lost_X11_common : GoodIn wsX11_lost wsX11_common := goodIn_r _ [60] (by decide +kernel) (by decide +kernel)
set_option maxRecDepth 20000 in
theorem gX11_lost_X11_common : GoodIn wsX11_lost (va_wsS RX11 220 yX11_common wsX11_common) := goodIn_app (goodIn_of _ (by decide +kernel)) ggX11_lost_X11_common
theorem dX11_lost_0 : decode cX11_lost 0 = .ok (.iload_n 1, 1) := by decide +kernel
theorem dX11_lost_1 : decode cX11_lost 1 = .ok (.iconst 0, 1) := by decide +kernel
theorem dX11_lost_2 : decode cX11_lost 2 = .ok (.bipush 10, 2) := by decide +kernel
theorem dX11_lost_4 : decode cX11_lost 4 = .ok (.invokestatic 70, 3) := by decide +kernel
theorem dX11_lost_7 : decode cX11_lost 7 = .ok (.ifCond .eq 12, 3) := by decide +kernel
theorem dX11_lost_10 : decode cX11_lost 10 = .ok (.iload_n 2, 1) := by decide +kernel
theorem dX11_lost_11 : decode cX11_lost 11 = .ok (.iconst 0, 1) := by decide +kernel
theorem dX11_lost_12 : decode cX11_lost 12 = .ok (.iconst 1, 1) := by decide +kernel
theorem dX11_lost_13 : decode cX11_lost 13 = .ok (.invokestatic 70, 3) := by decide +kernel
theorem dX11_lost_16 : decode cX11_lost 16 = .ok (.ifCond .ne 7, 3) := by decide +kernel
theorem dX11_lost_19 : decode cX11_lost 19 = .ok (.ldc2_w 209, 3) := by decide +kernel
theorem dX11_lost_22 : decode cX11_lost 22 = .ok (.lreturn, 1) := by decide +kernel
theorem dX11_lost_23 : decode cX11_lost 23 = .ok (.aload_n 0, 1) := by decide +kernel
theorem dX11_lost_24 : decode cX11_lost 24 = .ok (.invokevirtual 211, 3) := by decide +kernel
theorem dX11_lost_27 : decode cX11_lost 27 = .ok (.aload_n 0, 1) := by decide +kernel
theorem dX11_lost_28 : decode cX11_lost 28 = .ok (.iload_n 1, 1) := by decide +kernel
theorem dX11_lost_29 : decode cX11_lost 29 = .ok (.invokevirtual 214, 3) := by decide +kernel
theorem dX11_lost_32 : decode cX11_lost 32 = .ok (.lstore_n 3, 1) := by decide +kernel
theorem dX11_lost_33 : decode cX11_lost 33 = .ok (.lconst 1, 1) := by decide +kernel
theorem dX11_lost_34 : decode cX11_lost 34 = .ok (.lstore 5, 2) := by decide +kernel
theorem dX11_lost_36 : decode cX11_lost 36 = .ok (.iconst 0, 1) := by decide +kernel
theorem dX11_lost_37 : decode cX11_lost 37 = .ok (.istore 7, 2) := by decide +kernel
theorem dX11_lost_39 : decode cX11_lost 39 = .ok (.iload 7, 2) := by decide +kernel
theorem dX11_lost_41 : decode cX11_lost 41 = .ok (.aload_n 0, 1) := by decide +kernel
theorem dX11_lost_42 : decode cX11_lost 42 = .ok (.getfield 7, 3) := by decide +kernel
theorem dX11_lost_45 : decode cX11_lost 45 = .ok (.sipush 267, 3) := by decide +kernel
theorem dX11_lost_48 : decode cX11_lost 48 = .ok (.iaload, 1) := by decide +kernel
theorem dX11_lost_49 : decode cX11_lost 49 = .ok (.if_icmp .ge 17, 3) := by decide +kernel
theorem dX11_lost_52 : decode cX11_lost 52 = .ok (.lload 5, 2) := by decide +kernel
theorem dX11_lost_54 : decode cX11_lost 54 = .ok (.ldc2_w 218, 3) := by decide +kernel
theorem dX11_lost_57 : decode cX11_lost 57 = .ok (.lmul, 1) := by decide +kernel
theorem dX11_lost_58 : decode cX11_lost 58 = .ok (.lstore 5, 2) := by decide +kernel
theorem dX11_lost_60 : decode cX11_lost 60 = .ok (.iinc 7 1, 3) := by decide +kernel
theorem dX11_lost_63 : decode cX11_lost 63 = .ok (.goto (-24), 3) := by decide +kernel
theorem dX11_lost_66 : decode cX11_lost 66 = .ok (.lload_n 3, 1) := by decide +kernel
theorem dX11_lost_67 : decode cX11_lost 67 = .ok (.lload 5, 2) := by decide +kernel
theorem dX11_lost_69 : decode cX11_lost 69 = .ok (.invokestatic 220, 3) := by decide +kernel
theorem dX11_lost_72 : decode cX11_lost 72 = .ok (.lstore 7, 2) := by decide +kernel
theorem dX11_lost_74 : decode cX11_lost 74 = .ok (.iload_n 2, 1) := by decide +kernel
theorem dX11_lost_75 : decode cX11_lost 75 = .ok (.ifCond .ne 10, 3) := by decide +kernel
theorem dX11_lost_78 : decode cX11_lost 78 = .ok (.lload_n 3, 1) := by decide +kernel
theorem dX11_lost_79 : decode cX11_lost 79 = .ok (.lload 7, 2) := by decide +kernel
theorem dX11_lost_81 : decode cX11_lost 81 = .ok (.ldiv, 1) := by decide +kernel
theorem dX11_lost_82 : decode cX11_lost 82 = .ok (.goto 8, 3) := by decide +kernel
theorem dX11_lost_85 : decode cX11_lost 85 = .ok (.lload 5, 2) := by decide +kernel
theorem dX11_lost_87 : decode cX11_lost 87 = .ok (.lload 7, 2) := by decide +kernel
theorem dX11_lost_89 : decode cX11_lost 89 = .ok (.ldiv, 1) := by decide +kernel
theorem dX11_lost_90 : decode cX11_lost 90 = .ok (.lreturn, 1) := by decide +kernel
set_option maxRecDepth 20000 in
theorem ggX11_landOnStrips_X11_isLand : GoodIn wsX11_landOnStrips wsX11_isLand := goodIn_r _ [5, 6, 17, 18, 19, 20, 21, 22, 23, 24, 25, 26, 27, 28, 29, 30, 31, 32, 33, 34, 35] (by decide +kernel) (by decide +kernel)
set_option maxRecDepth 20000 in
theorem gX11_landOnStrips_X11_isLand : GoodIn wsX11_landOnStrips (wsV RX11 112 RX11 yX11_isLand wsX11_isLand) := goodIn_app (goodIn_of _ (by decide +kernel)) ggX11_landOnStrips_X11_isLand
set_option maxRecDepth 20000 in
theorem ggX11_landOnStrips_X11_rowOf : GoodIn wsX11_landOnStrips wsX11_rowOf := goodIn_r _ [9] (by decide +kernel) (by decide +kernel)
set_option maxRecDepth 20000 in
theorem gX11_landOnStrips_X11_rowOf : GoodIn wsX11_landOnStrips (va_wsS RX11 92 yX11_rowOf wsX11_rowOf) := goodIn_app (goodIn_of _ (by decide +kernel)) ggX11_landOnStrips_X11_rowOf
set_option maxRecDepth 20000 in
theorem ggX11_landOnStrips_X11_isOnStrips : GoodIn wsX11_landOnStrips wsX11_isOnStrips := goodIn_r _ [13, 6, 14, 15, 4, 16, 17, 18, 19, 20, 21, 22, 23, 24, 25, 26, 27, 28, 29, 30, 31, 32, 33, 34, 35] (by decide +kernel) (by decide +kernel)
set_option maxRecDepth 20000 in
theorem gX11_landOnStrips_X11_isOnStrips : GoodIn wsX11_landOnStrips (wsV RX11 128 RX11 yX11_isOnStrips wsX11_isOnStrips) := goodIn_app (goodIn_of _ (by decide +kernel)) ggX11_landOnStrips_X11_isOnStrips
theorem dX11_landOnStrips_0 : decode cX11_landOnStrips 0 = .ok (.iconst 0, 1) := by decide +kernel
theorem dX11_landOnStrips_1 : decode cX11_landOnStrips 1 = .ok (.istore_n 1, 1) := by decide +kernel
theorem dX11_landOnStrips_2 : decode cX11_landOnStrips 2 = .ok (.iconst 0, 1) := by decide +kernel
theorem dX11_landOnStrips_3 : decode cX11_landOnStrips 3 = .ok (.istore_n 2, 1) := by decide +kernel
theorem dX11_landOnStrips_4 : decode cX11_landOnStrips 4 = .ok (.iload_n 2, 1) := by decide +kernel
theorem dX11_landOnStrips_5 : decode cX11_landOnStrips 5 = .ok (.sipush 266, 3) := by decide +kernel
theorem dX11_landOnStrips_8 : decode cX11_landOnStrips 8 = .ok (.if_icmp .ge 36, 3) := by decide +kernel
theorem dX11_landOnStrips_11 : decode cX11_landOnStrips 11 = .ok (.iload_n 1, 1) := by decide +kernel
theorem dX11_landOnStrips_12 : decode cX11_landOnStrips 12 = .ok (.aload_n 0, 1) := by decide +kernel
theorem dX11_landOnStrips_13 : decode cX11_landOnStrips 13 = .ok (.iload_n 2, 1) := by decide +kernel
theorem dX11_landOnStrips_14 : decode cX11_landOnStrips 14 = .ok (.invokevirtual 112, 3) := by decide +kernel
theorem dX11_landOnStrips_17 : decode cX11_landOnStrips 17 = .ok (.ifCond .eq 18, 3) := by decide +kernel
theorem dX11_landOnStrips_20 : decode cX11_landOnStrips 20 = .ok (.aload_n 0, 1) := by decide +kernel
theorem dX11_landOnStrips_21 : decode cX11_landOnStrips 21 = .ok (.iload_n 2, 1) := by decide +kernel
theorem dX11_landOnStrips_22 : decode cX11_landOnStrips 22 = .ok (.invokestatic 92, 3) := by decide +kernel
theorem dX11_landOnStrips_25 : decode cX11_landOnStrips 25 = .ok (.invokevirtual 128, 3) := by decide +kernel
theorem dX11_landOnStrips_28 : decode cX11_landOnStrips 28 = .ok (.ifCond .eq 7, 3) := by decide +kernel
theorem dX11_landOnStrips_31 : decode cX11_landOnStrips 31 = .ok (.iconst 1, 1) := by decide +kernel
theorem dX11_landOnStrips_32 : decode cX11_landOnStrips 32 = .ok (.goto 4, 3) := by decide +kernel
theorem dX11_landOnStrips_35 : decode cX11_landOnStrips 35 = .ok (.iconst 0, 1) := by decide +kernel
theorem dX11_landOnStrips_36 : decode cX11_landOnStrips 36 = .ok (.iadd, 1) := by decide +kernel
theorem dX11_landOnStrips_37 : decode cX11_landOnStrips 37 = .ok (.istore_n 1, 1) := by decide +kernel
theorem dX11_landOnStrips_38 : decode cX11_landOnStrips 38 = .ok (.iinc 2 1, 3) := by decide +kernel
theorem dX11_landOnStrips_41 : decode cX11_landOnStrips 41 = .ok (.goto (-37), 3) := by decide +kernel
theorem dX11_landOnStrips_44 : decode cX11_landOnStrips 44 = .ok (.iload_n 1, 1) := by decide +kernel
theorem dX11_landOnStrips_45 : decode cX11_landOnStrips 45 = .ok (.ireturn, 1) := by decide +kernel
set_option maxRecDepth 20000 in
theorem ggX11_count_X11_landMany : GoodIn wsX11_count wsX11_landMany := goodIn_r _ [7, 1, 54, 55, 56, 57, 58, 59, 60, 61, 62, 63, 64, 65, 66, 67, 68, 69, 70, 71, 72] (by decide +kernel) (by decide +kernel)
set_option maxRecDepth 20000 in
theorem gX11_count_X11_landMany : GoodIn wsX11_count (wsV RX11 224 RX11 yX11_landMany wsX11_landMany) := goodIn_app (goodIn_of _ (by decide +kernel)) ggX11_count_X11_landMany
set_option maxRecDepth 20000 in
theorem ggX11_count_X11_seas : GoodIn wsX11_count wsX11_seas := goodIn_r _ [11, 12, 13, 14, 6, 15, 16, 17, 18, 19, 20, 1, 21, 22, 23, 24, 25, 26, 27, 28, 29, 30, 31, 32, 33, 34, 35, 36, 37, 38, 39, 40, 41, 42, 54, 55, 56, 57, 58, 59, 60, 61, 62, 63, 64, 65, 66, 67, 68, 69, 70, 71, 72] (by decide +kernel) (by decide +kernel)
set_option maxRecDepth 20000 in
theorem gX11_count_X11_seas : GoodIn wsX11_count (wsV RX11 194 RX11 yX11_seas wsX11_seas) := goodIn_app (goodIn_of _ (by decide +kernel)) ggX11_count_X11_seas
set_option maxRecDepth 20000 in
theorem ggX11_count_X11_landOnStrips : GoodIn wsX11_count wsX11_landOnStrips := goodIn_r _ [46, 17, 18, 19, 6, 20, 1, 30, 31, 32, 47, 48, 49, 50, 51, 52, 53, 54, 55, 56, 57, 58, 59, 60, 61, 62, 63, 64, 65, 66, 67, 68, 69, 70, 71, 72] (by decide +kernel) (by decide +kernel)
set_option maxRecDepth 20000 in
theorem gX11_count_X11_landOnStrips : GoodIn wsX11_count (wsV RX11 227 RX11 yX11_landOnStrips wsX11_landOnStrips) := goodIn_app (goodIn_of _ (by decide +kernel)) ggX11_count_X11_landOnStrips
theorem dX11_count_0 : decode cX11_count 0 = .ok (.iload_n 1, 1) := by decide +kernel
theorem dX11_count_1 : decode cX11_count 1 = .ok (.tableswitch 90 0 6 #[43, 52, 61, 70, 75, 80, 85], 43) := by decide +kernel
theorem dX11_count_44 : decode cX11_count 44 = .ok (.aload_n 0, 1) := by decide +kernel
theorem dX11_count_45 : decode cX11_count 45 = .ok (.getfield 7, 3) := by decide +kernel
theorem dX11_count_48 : decode cX11_count 48 = .ok (.sipush 266, 3) := by decide +kernel
theorem dX11_count_51 : decode cX11_count 51 = .ok (.iaload, 1) := by decide +kernel
theorem dX11_count_52 : decode cX11_count 52 = .ok (.ireturn, 1) := by decide +kernel
theorem dX11_count_53 : decode cX11_count 53 = .ok (.aload_n 0, 1) := by decide +kernel
theorem dX11_count_54 : decode cX11_count 54 = .ok (.getfield 7, 3) := by decide +kernel
theorem dX11_count_57 : decode cX11_count 57 = .ok (.sipush 267, 3) := by decide +kernel
theorem dX11_count_60 : decode cX11_count 60 = .ok (.iaload, 1) := by decide +kernel
theorem dX11_count_61 : decode cX11_count 61 = .ok (.ireturn, 1) := by decide +kernel
theorem dX11_count_62 : decode cX11_count 62 = .ok (.aload_n 0, 1) := by decide +kernel
theorem dX11_count_63 : decode cX11_count 63 = .ok (.getfield 7, 3) := by decide +kernel
theorem dX11_count_66 : decode cX11_count 66 = .ok (.sipush 268, 3) := by decide +kernel
theorem dX11_count_69 : decode cX11_count 69 = .ok (.iaload, 1) := by decide +kernel
theorem dX11_count_70 : decode cX11_count 70 = .ok (.ireturn, 1) := by decide +kernel
theorem dX11_count_71 : decode cX11_count 71 = .ok (.aload_n 0, 1) := by decide +kernel
theorem dX11_count_72 : decode cX11_count 72 = .ok (.invokevirtual 224, 3) := by decide +kernel
theorem dX11_count_75 : decode cX11_count 75 = .ok (.ireturn, 1) := by decide +kernel
theorem dX11_count_76 : decode cX11_count 76 = .ok (.aload_n 0, 1) := by decide +kernel
theorem dX11_count_77 : decode cX11_count 77 = .ok (.invokevirtual 194, 3) := by decide +kernel
theorem dX11_count_80 : decode cX11_count 80 = .ok (.ireturn, 1) := by decide +kernel
theorem dX11_count_81 : decode cX11_count 81 = .ok (.aload_n 0, 1) := by decide +kernel
theorem dX11_count_82 : decode cX11_count 82 = .ok (.invokevirtual 227, 3) := by decide +kernel
theorem dX11_count_85 : decode cX11_count 85 = .ok (.ireturn, 1) := by decide +kernel
theorem dX11_count_86 : decode cX11_count 86 = .ok (.aload_n 0, 1) := by decide +kernel
theorem dX11_count_87 : decode cX11_count 87 = .ok (.getfield 230, 3) := by decide +kernel
theorem dX11_count_90 : decode cX11_count 90 = .ok (.ireturn, 1) := by decide +kernel
theorem dX11_count_91 : decode cX11_count 91 = .ok (.iconst (-1), 1) := by decide +kernel
theorem dX11_count_92 : decode cX11_count 92 = .ok (.ireturn, 1) := by decide +kernel
set_option maxRecDepth 20000 in
theorem ggX11_notes_X11_bring : GoodIn wsX11_notes wsX11_bring := goodIn_r _ [7] (by decide +kernel) (by decide +kernel)
set_option maxRecDepth 20000 in
theorem gX11_notes_X11_bring : GoodIn wsX11_notes (va_wsS RX11 233 yX11_bring wsX11_bring) := goodIn_app (goodIn_of _ (by decide +kernel)) ggX11_notes_X11_bring
theorem dX11_notes_0 : decode cX11_notes 0 = .ok (.aload_n 0, 1) := by decide +kernel
theorem dX11_notes_1 : decode cX11_notes 1 = .ok (.getfield 230, 3) := by decide +kernel
theorem dX11_notes_4 : decode cX11_notes 4 = .ok (.bipush 6, 2) := by decide +kernel
theorem dX11_notes_6 : decode cX11_notes 6 = .ok (.if_icmp .ne 31, 3) := by decide +kernel
theorem dX11_notes_9 : decode cX11_notes 9 = .ok (.aload_n 0, 1) := by decide +kernel
theorem dX11_notes_10 : decode cX11_notes 10 = .ok (.getfield 13, 3) := by decide +kernel
theorem dX11_notes_13 : decode cX11_notes 13 = .ok (.sipush 279, 3) := by decide +kernel
theorem dX11_notes_16 : decode cX11_notes 16 = .ok (.aload_n 0, 1) := by decide +kernel
theorem dX11_notes_17 : decode cX11_notes 17 = .ok (.getfield 13, 3) := by decide +kernel
theorem dX11_notes_20 : decode cX11_notes 20 = .ok (.iconst 0, 1) := by decide +kernel
theorem dX11_notes_21 : decode cX11_notes 21 = .ok (.sipush 1395, 3) := by decide +kernel
theorem dX11_notes_24 : decode cX11_notes 24 = .ok (.invokestatic 233, 3) := by decide +kernel
theorem dX11_notes_27 : decode cX11_notes 27 = .ok (.aload_n 0, 1) := by decide +kernel
theorem dX11_notes_28 : decode cX11_notes 28 = .ok (.dup, 1) := by decide +kernel
theorem dX11_notes_29 : decode cX11_notes 29 = .ok (.getfield 230, 3) := by decide +kernel
theorem dX11_notes_32 : decode cX11_notes 32 = .ok (.iconst 1, 1) := by decide +kernel
theorem dX11_notes_33 : decode cX11_notes 33 = .ok (.isub, 1) := by decide +kernel
theorem dX11_notes_34 : decode cX11_notes 34 = .ok (.putfield 230, 3) := by decide +kernel
theorem dX11_notes_37 : decode cX11_notes 37 = .ok (.aload_n 0, 1) := by decide +kernel
theorem dX11_notes_38 : decode cX11_notes 38 = .ok (.getfield 7, 3) := by decide +kernel
theorem dX11_notes_41 : decode cX11_notes 41 = .ok (.iconst 0, 1) := by decide +kernel
theorem dX11_notes_42 : decode cX11_notes 42 = .ok (.aload_n 0, 1) := by decide +kernel
theorem dX11_notes_43 : decode cX11_notes 43 = .ok (.getfield 13, 3) := by decide +kernel
theorem dX11_notes_46 : decode cX11_notes 46 = .ok (.sipush 279, 3) := by decide +kernel
theorem dX11_notes_49 : decode cX11_notes 49 = .ok (.aload_n 0, 1) := by decide +kernel
theorem dX11_notes_50 : decode cX11_notes 50 = .ok (.getfield 230, 3) := by decide +kernel
theorem dX11_notes_53 : decode cX11_notes 53 = .ok (.imul, 1) := by decide +kernel
theorem dX11_notes_54 : decode cX11_notes 54 = .ok (.sipush 279, 3) := by decide +kernel
theorem dX11_notes_57 : decode cX11_notes 57 = .ok (.invokestatic 233, 3) := by decide +kernel
theorem dX11_notes_60 : decode cX11_notes 60 = .ok (.aload_n 0, 1) := by decide +kernel
theorem dX11_notes_61 : decode cX11_notes 61 = .ok (.dup, 1) := by decide +kernel
theorem dX11_notes_62 : decode cX11_notes 62 = .ok (.getfield 230, 3) := by decide +kernel
theorem dX11_notes_65 : decode cX11_notes 65 = .ok (.iconst 1, 1) := by decide +kernel
theorem dX11_notes_66 : decode cX11_notes 66 = .ok (.iadd, 1) := by decide +kernel
theorem dX11_notes_67 : decode cX11_notes 67 = .ok (.putfield 230, 3) := by decide +kernel
theorem dX11_notes_70 : decode cX11_notes 70 = .ok (.return_, 1) := by decide +kernel
set_option maxRecDepth 20000 in
theorem ggX11_land_X11_isNumber : GoodIn wsX11_land wsX11_isNumber := goodIn_r _ [5, 6, 7, 4, 8] (by decide +kernel) (by decide +kernel)
set_option maxRecDepth 20000 in
theorem gX11_land_X11_isNumber : GoodIn wsX11_land (va_wsS RX11 166 yX11_isNumber wsX11_isNumber) := goodIn_app (goodIn_of _ (by decide +kernel)) ggX11_land_X11_isNumber
set_option maxRecDepth 20000 in
theorem ggX11_land_X11_in : GoodIn wsX11_land wsX11_in := goodIn_r _ [8] (by decide +kernel) (by decide +kernel)
set_option maxRecDepth 20000 in
theorem gX11_land_X11_in : GoodIn wsX11_land (va_wsS RX11 70 yX11_in wsX11_in) := goodIn_app (goodIn_of _ (by decide +kernel)) ggX11_land_X11_in
set_option maxRecDepth 20000 in
theorem ggX11_land_X11_notes : GoodIn wsX11_land wsX11_notes := goodIn_r _ [12, 13, 14, 1, 15, 16, 4, 17, 22, 23, 24, 25, 26, 27, 28, 29, 30, 31, 32, 33, 34, 35, 36, 37, 38, 39, 40] (by decide +kernel) (by decide +kernel)
set_option maxRecDepth 20000 in
theorem gX11_land_X11_notes : GoodIn wsX11_land (wsV RX11 237 RX11 yX11_notes wsX11_notes) := goodIn_app (goodIn_of _ (by decide +kernel)) ggX11_land_X11_notes
set_option maxRecDepth 20000 in
theorem ggX11_land_X11_landMany : GoodIn wsX11_land wsX11_landMany := goodIn_r _ [21, 1, 22, 23, 24, 25, 26, 27, 28, 29, 30, 31, 32, 33, 34, 35, 36, 37, 38, 39, 40] (by decide +kernel) (by decide +kernel)
set_option maxRecDepth 20000 in
theorem gX11_land_X11_landMany : GoodIn wsX11_land (wsV RX11 224 RX11 yX11_landMany wsX11_landMany) := goodIn_app (goodIn_of _ (by decide +kernel)) ggX11_land_X11_landMany
theorem dX11_land_0 : decode cX11_land 0 = .ok (.iload_n 1, 1) := by decide +kernel
theorem dX11_land_1 : decode cX11_land 1 = .ok (.invokestatic 166, 3) := by decide +kernel
theorem dX11_land_4 : decode cX11_land 4 = .ok (.ifCond .eq 12, 3) := by decide +kernel
theorem dX11_land_7 : decode cX11_land 7 = .ok (.iload_n 2, 1) := by decide +kernel
theorem dX11_land_8 : decode cX11_land 8 = .ok (.iconst 0, 1) := by decide +kernel
theorem dX11_land_9 : decode cX11_land 9 = .ok (.iconst 1, 1) := by decide +kernel
theorem dX11_land_10 : decode cX11_land 10 = .ok (.invokestatic 70, 3) := by decide +kernel
theorem dX11_land_13 : decode cX11_land 13 = .ok (.ifCond .ne 5, 3) := by decide +kernel
theorem dX11_land_16 : decode cX11_land 16 = .ok (.iconst (-1), 1) := by decide +kernel
theorem dX11_land_17 : decode cX11_land 17 = .ok (.ireturn, 1) := by decide +kernel
theorem dX11_land_18 : decode cX11_land 18 = .ok (.aload_n 0, 1) := by decide +kernel
theorem dX11_land_19 : decode cX11_land 19 = .ok (.getfield 7, 3) := by decide +kernel
theorem dX11_land_22 : decode cX11_land 22 = .ok (.iload_n 1, 1) := by decide +kernel
theorem dX11_land_23 : decode cX11_land 23 = .ok (.iaload, 1) := by decide +kernel
theorem dX11_land_24 : decode cX11_land 24 = .ok (.iload_n 2, 1) := by decide +kernel
theorem dX11_land_25 : decode cX11_land 25 = .ok (.if_icmp .ne 6, 3) := by decide +kernel
theorem dX11_land_28 : decode cX11_land 28 = .ok (.bipush (-2), 2) := by decide +kernel
theorem dX11_land_30 : decode cX11_land 30 = .ok (.ireturn, 1) := by decide +kernel
theorem dX11_land_31 : decode cX11_land 31 = .ok (.aload_n 0, 1) := by decide +kernel
theorem dX11_land_32 : decode cX11_land 32 = .ok (.invokevirtual 237, 3) := by decide +kernel
theorem dX11_land_35 : decode cX11_land 35 = .ok (.aload_n 0, 1) := by decide +kernel
theorem dX11_land_36 : decode cX11_land 36 = .ok (.getfield 7, 3) := by decide +kernel
theorem dX11_land_39 : decode cX11_land 39 = .ok (.iload_n 1, 1) := by decide +kernel
theorem dX11_land_40 : decode cX11_land 40 = .ok (.iload_n 2, 1) := by decide +kernel
theorem dX11_land_41 : decode cX11_land 41 = .ok (.iastore, 1) := by decide +kernel
theorem dX11_land_42 : decode cX11_land 42 = .ok (.aload_n 0, 1) := by decide +kernel
theorem dX11_land_43 : decode cX11_land 43 = .ok (.invokevirtual 224, 3) := by decide +kernel
theorem dX11_land_46 : decode cX11_land 46 = .ok (.ireturn, 1) := by decide +kernel
theorem dX11_cutsOf_0 : decode cX11_cutsOf 0 = .ok (.iload_n 0, 1) := by decide +kernel
theorem dX11_cutsOf_1 : decode cX11_cutsOf 1 = .ok (.iconst 3, 1) := by decide +kernel
theorem dX11_cutsOf_2 : decode cX11_cutsOf 2 = .ok (.if_icmp .ge 9, 3) := by decide +kernel
theorem dX11_cutsOf_5 : decode cX11_cutsOf 5 = .ok (.iload_n 0, 1) := by decide +kernel
theorem dX11_cutsOf_6 : decode cX11_cutsOf 6 = .ok (.iconst 2, 1) := by decide +kernel
theorem dX11_cutsOf_7 : decode cX11_cutsOf 7 = .ok (.iadd, 1) := by decide +kernel
theorem dX11_cutsOf_8 : decode cX11_cutsOf 8 = .ok (.goto 25, 3) := by decide +kernel
theorem dX11_cutsOf_11 : decode cX11_cutsOf 11 = .ok (.iload_n 0, 1) := by decide +kernel
theorem dX11_cutsOf_12 : decode cX11_cutsOf 12 = .ok (.iconst 3, 1) := by decide +kernel
theorem dX11_cutsOf_13 : decode cX11_cutsOf 13 = .ok (.if_icmp .ne 8, 3) := by decide +kernel
theorem dX11_cutsOf_16 : decode cX11_cutsOf 16 = .ok (.bipush 6, 2) := by decide +kernel
theorem dX11_cutsOf_18 : decode cX11_cutsOf 18 = .ok (.goto 15, 3) := by decide +kernel
theorem dX11_cutsOf_21 : decode cX11_cutsOf 21 = .ok (.iload_n 0, 1) := by decide +kernel
theorem dX11_cutsOf_22 : decode cX11_cutsOf 22 = .ok (.iconst 4, 1) := by decide +kernel
theorem dX11_cutsOf_23 : decode cX11_cutsOf 23 = .ok (.if_icmp .ne 8, 3) := by decide +kernel
theorem dX11_cutsOf_26 : decode cX11_cutsOf 26 = .ok (.bipush 8, 2) := by decide +kernel
theorem dX11_cutsOf_28 : decode cX11_cutsOf 28 = .ok (.goto 5, 3) := by decide +kernel
theorem dX11_cutsOf_31 : decode cX11_cutsOf 31 = .ok (.bipush 12, 2) := by decide +kernel
theorem dX11_cutsOf_33 : decode cX11_cutsOf 33 = .ok (.ireturn, 1) := by decide +kernel
set_option maxRecDepth 20000 in
theorem ggX11_isCutNumber_X11_cutsOf : GoodIn wsX11_isCutNumber wsX11_cutsOf := goodIn_r _ [4] (by decide +kernel) (by decide +kernel)
set_option maxRecDepth 20000 in
theorem gX11_isCutNumber_X11_cutsOf : GoodIn wsX11_isCutNumber (va_wsS RX11 240 yX11_cutsOf wsX11_cutsOf) := goodIn_app (goodIn_of _ (by decide +kernel)) ggX11_isCutNumber_X11_cutsOf
theorem dX11_isCutNumber_0 : decode cX11_isCutNumber 0 = .ok (.iconst 0, 1) := by decide +kernel
theorem dX11_isCutNumber_1 : decode cX11_isCutNumber 1 = .ok (.istore_n 1, 1) := by decide +kernel
theorem dX11_isCutNumber_2 : decode cX11_isCutNumber 2 = .ok (.iconst 0, 1) := by decide +kernel
theorem dX11_isCutNumber_3 : decode cX11_isCutNumber 3 = .ok (.istore_n 2, 1) := by decide +kernel
theorem dX11_isCutNumber_4 : decode cX11_isCutNumber 4 = .ok (.iload_n 2, 1) := by decide +kernel
theorem dX11_isCutNumber_5 : decode cX11_isCutNumber 5 = .ok (.bipush 6, 2) := by decide +kernel
theorem dX11_isCutNumber_7 : decode cX11_isCutNumber 7 = .ok (.if_icmp .ge 27, 3) := by decide +kernel
theorem dX11_isCutNumber_10 : decode cX11_isCutNumber 10 = .ok (.iload_n 1, 1) := by decide +kernel
theorem dX11_isCutNumber_11 : decode cX11_isCutNumber 11 = .ok (.ifCond .ne 11, 3) := by decide +kernel
theorem dX11_isCutNumber_14 : decode cX11_isCutNumber 14 = .ok (.iload_n 2, 1) := by decide +kernel
theorem dX11_isCutNumber_15 : decode cX11_isCutNumber 15 = .ok (.invokestatic 240, 3) := by decide +kernel
theorem dX11_isCutNumber_18 : decode cX11_isCutNumber 18 = .ok (.iload_n 0, 1) := by decide +kernel
theorem dX11_isCutNumber_19 : decode cX11_isCutNumber 19 = .ok (.if_icmp .ne 7, 3) := by decide +kernel
theorem dX11_isCutNumber_22 : decode cX11_isCutNumber 22 = .ok (.iconst 1, 1) := by decide +kernel
theorem dX11_isCutNumber_23 : decode cX11_isCutNumber 23 = .ok (.goto 4, 3) := by decide +kernel
theorem dX11_isCutNumber_26 : decode cX11_isCutNumber 26 = .ok (.iconst 0, 1) := by decide +kernel
theorem dX11_isCutNumber_27 : decode cX11_isCutNumber 27 = .ok (.istore_n 1, 1) := by decide +kernel
theorem dX11_isCutNumber_28 : decode cX11_isCutNumber 28 = .ok (.iinc 2 1, 3) := by decide +kernel
theorem dX11_isCutNumber_31 : decode cX11_isCutNumber 31 = .ok (.goto (-27), 3) := by decide +kernel
theorem dX11_isCutNumber_34 : decode cX11_isCutNumber 34 = .ok (.iload_n 1, 1) := by decide +kernel
theorem dX11_isCutNumber_35 : decode cX11_isCutNumber 35 = .ok (.ireturn, 1) := by decide +kernel
set_option maxRecDepth 20000 in
theorem ggX11_isTold_X11_in : GoodIn wsX11_isTold wsX11_in := goodIn_r _ [4] (by decide +kernel) (by decide +kernel)
set_option maxRecDepth 20000 in
theorem gX11_isTold_X11_in : GoodIn wsX11_isTold (va_wsS RX11 70 yX11_in wsX11_in) := goodIn_app (goodIn_of _ (by decide +kernel)) ggX11_isTold_X11_in
set_option maxRecDepth 20000 in
theorem ggX11_isTold_X11_isCutNumber : GoodIn wsX11_isTold wsX11_isCutNumber := goodIn_r _ [7, 8, 9, 3, 10] (by decide +kernel) (by decide +kernel)
set_option maxRecDepth 20000 in
theorem gX11_isTold_X11_isCutNumber : GoodIn wsX11_isTold (va_wsS RX11 243 yX11_isCutNumber wsX11_isCutNumber) := goodIn_app (goodIn_of _ (by decide +kernel)) ggX11_isTold_X11_isCutNumber
theorem dX11_isTold_0 : decode cX11_isTold 0 = .ok (.iload_n 0, 1) := by decide +kernel
theorem dX11_isTold_1 : decode cX11_isTold 1 = .ok (.tableswitch 49 0 2 #[27, 37, 42], 27) := by decide +kernel
theorem dX11_isTold_28 : decode cX11_isTold 28 = .ok (.iload_n 1, 1) := by decide +kernel
theorem dX11_isTold_29 : decode cX11_isTold 29 = .ok (.bipush 10, 2) := by decide +kernel
theorem dX11_isTold_31 : decode cX11_isTold 31 = .ok (.sipush 200, 3) := by decide +kernel
theorem dX11_isTold_34 : decode cX11_isTold 34 = .ok (.invokestatic 70, 3) := by decide +kernel
theorem dX11_isTold_37 : decode cX11_isTold 37 = .ok (.ireturn, 1) := by decide +kernel
theorem dX11_isTold_38 : decode cX11_isTold 38 = .ok (.iload_n 1, 1) := by decide +kernel
theorem dX11_isTold_39 : decode cX11_isTold 39 = .ok (.invokestatic 243, 3) := by decide +kernel
theorem dX11_isTold_42 : decode cX11_isTold 42 = .ok (.ireturn, 1) := by decide +kernel
theorem dX11_isTold_43 : decode cX11_isTold 43 = .ok (.iload_n 1, 1) := by decide +kernel
theorem dX11_isTold_44 : decode cX11_isTold 44 = .ok (.iconst 0, 1) := by decide +kernel
theorem dX11_isTold_45 : decode cX11_isTold 45 = .ok (.iconst 3, 1) := by decide +kernel
theorem dX11_isTold_46 : decode cX11_isTold 46 = .ok (.invokestatic 70, 3) := by decide +kernel
theorem dX11_isTold_49 : decode cX11_isTold 49 = .ok (.ireturn, 1) := by decide +kernel
theorem dX11_isTold_50 : decode cX11_isTold 50 = .ok (.iconst 0, 1) := by decide +kernel
theorem dX11_isTold_51 : decode cX11_isTold 51 = .ok (.ireturn, 1) := by decide +kernel
set_option maxRecDepth 20000 in
theorem ggX11_tell_X11_isTold : GoodIn wsX11_tell wsX11_isTold := goodIn_r _ [5, 6, 7, 4, 8, 9, 10, 11, 12, 13, 14] (by decide +kernel) (by decide +kernel)
set_option maxRecDepth 20000 in
theorem gX11_tell_X11_isTold : GoodIn wsX11_tell (va_wsS RX11 246 yX11_isTold wsX11_isTold) := goodIn_app (goodIn_of _ (by decide +kernel)) ggX11_tell_X11_isTold
set_option maxRecDepth 20000 in
theorem ggX11_tell_X11_notes : GoodIn wsX11_tell wsX11_notes := goodIn_r _ [18, 19, 20, 1, 21, 22, 4, 23, 24, 25, 26, 27, 28, 29, 30, 31, 32, 33, 34, 35, 36, 37, 38, 39, 40, 41, 42] (by decide +kernel) (by decide +kernel)
set_option maxRecDepth 20000 in
theorem gX11_tell_X11_notes : GoodIn wsX11_tell (wsV RX11 237 RX11 yX11_notes wsX11_notes) := goodIn_app (goodIn_of _ (by decide +kernel)) ggX11_tell_X11_notes
theorem dX11_tell_0 : decode cX11_tell 0 = .ok (.iload_n 1, 1) := by decide +kernel
theorem dX11_tell_1 : decode cX11_tell 1 = .ok (.iload_n 2, 1) := by decide +kernel
theorem dX11_tell_2 : decode cX11_tell 2 = .ok (.invokestatic 246, 3) := by decide +kernel
theorem dX11_tell_5 : decode cX11_tell 5 = .ok (.ifCond .ne 5, 3) := by decide +kernel
theorem dX11_tell_8 : decode cX11_tell 8 = .ok (.iconst (-1), 1) := by decide +kernel
theorem dX11_tell_9 : decode cX11_tell 9 = .ok (.ireturn, 1) := by decide +kernel
theorem dX11_tell_10 : decode cX11_tell 10 = .ok (.aload_n 0, 1) := by decide +kernel
theorem dX11_tell_11 : decode cX11_tell 11 = .ok (.getfield 7, 3) := by decide +kernel
theorem dX11_tell_14 : decode cX11_tell 14 = .ok (.sipush 266, 3) := by decide +kernel
theorem dX11_tell_17 : decode cX11_tell 17 = .ok (.iload_n 1, 1) := by decide +kernel
theorem dX11_tell_18 : decode cX11_tell 18 = .ok (.iadd, 1) := by decide +kernel
theorem dX11_tell_19 : decode cX11_tell 19 = .ok (.iaload, 1) := by decide +kernel
theorem dX11_tell_20 : decode cX11_tell 20 = .ok (.istore_n 3, 1) := by decide +kernel
theorem dX11_tell_21 : decode cX11_tell 21 = .ok (.iload_n 3, 1) := by decide +kernel
theorem dX11_tell_22 : decode cX11_tell 22 = .ok (.iload_n 2, 1) := by decide +kernel
theorem dX11_tell_23 : decode cX11_tell 23 = .ok (.if_icmp .ne 6, 3) := by decide +kernel
theorem dX11_tell_26 : decode cX11_tell 26 = .ok (.bipush (-2), 2) := by decide +kernel
theorem dX11_tell_28 : decode cX11_tell 28 = .ok (.ireturn, 1) := by decide +kernel
theorem dX11_tell_29 : decode cX11_tell 29 = .ok (.aload_n 0, 1) := by decide +kernel
theorem dX11_tell_30 : decode cX11_tell 30 = .ok (.invokevirtual 237, 3) := by decide +kernel
theorem dX11_tell_33 : decode cX11_tell 33 = .ok (.aload_n 0, 1) := by decide +kernel
theorem dX11_tell_34 : decode cX11_tell 34 = .ok (.getfield 7, 3) := by decide +kernel
theorem dX11_tell_37 : decode cX11_tell 37 = .ok (.sipush 266, 3) := by decide +kernel
theorem dX11_tell_40 : decode cX11_tell 40 = .ok (.iload_n 1, 1) := by decide +kernel
theorem dX11_tell_41 : decode cX11_tell 41 = .ok (.iadd, 1) := by decide +kernel
theorem dX11_tell_42 : decode cX11_tell 42 = .ok (.iload_n 2, 1) := by decide +kernel
theorem dX11_tell_43 : decode cX11_tell 43 = .ok (.iastore, 1) := by decide +kernel
theorem dX11_tell_44 : decode cX11_tell 44 = .ok (.iload_n 3, 1) := by decide +kernel
theorem dX11_tell_45 : decode cX11_tell 45 = .ok (.ireturn, 1) := by decide +kernel
set_option maxRecDepth 20000 in
theorem ggX11_add_X11_isNumber : GoodIn wsX11_add wsX11_isNumber := goodIn_r _ [5, 6, 7, 4, 8] (by decide +kernel) (by decide +kernel)
set_option maxRecDepth 20000 in
theorem gX11_add_X11_isNumber : GoodIn wsX11_add (va_wsS RX11 166 yX11_isNumber wsX11_isNumber) := goodIn_app (goodIn_of _ (by decide +kernel)) ggX11_add_X11_isNumber
set_option maxRecDepth 20000 in
theorem ggX11_add_X11_notes : GoodIn wsX11_add wsX11_notes := goodIn_r _ [12, 13, 14, 1, 15, 16, 4, 17, 18, 19, 20, 21, 22, 23, 24, 25, 26, 27, 28, 29, 30, 31, 32, 33, 34, 35, 36] (by decide +kernel) (by decide +kernel)
set_option maxRecDepth 20000 in
theorem gX11_add_X11_notes : GoodIn wsX11_add (wsV RX11 237 RX11 yX11_notes wsX11_notes) := goodIn_app (goodIn_of _ (by decide +kernel)) ggX11_add_X11_notes
theorem dX11_add_0 : decode cX11_add 0 = .ok (.iload_n 1, 1) := by decide +kernel
theorem dX11_add_1 : decode cX11_add 1 = .ok (.invokestatic 166, 3) := by decide +kernel
theorem dX11_add_4 : decode cX11_add 4 = .ok (.ifCond .ne 5, 3) := by decide +kernel
theorem dX11_add_7 : decode cX11_add 7 = .ok (.iconst (-1), 1) := by decide +kernel
theorem dX11_add_8 : decode cX11_add 8 = .ok (.ireturn, 1) := by decide +kernel
theorem dX11_add_9 : decode cX11_add 9 = .ok (.aload_n 0, 1) := by decide +kernel
theorem dX11_add_10 : decode cX11_add 10 = .ok (.getfield 7, 3) := by decide +kernel
theorem dX11_add_13 : decode cX11_add 13 = .ok (.sipush 269, 3) := by decide +kernel
theorem dX11_add_16 : decode cX11_add 16 = .ok (.iaload, 1) := by decide +kernel
theorem dX11_add_17 : decode cX11_add 17 = .ok (.bipush 8, 2) := by decide +kernel
theorem dX11_add_19 : decode cX11_add 19 = .ok (.if_icmp .ne 6, 3) := by decide +kernel
theorem dX11_add_22 : decode cX11_add 22 = .ok (.bipush (-3), 2) := by decide +kernel
theorem dX11_add_24 : decode cX11_add 24 = .ok (.ireturn, 1) := by decide +kernel
theorem dX11_add_25 : decode cX11_add 25 = .ok (.aload_n 0, 1) := by decide +kernel
theorem dX11_add_26 : decode cX11_add 26 = .ok (.invokevirtual 237, 3) := by decide +kernel
theorem dX11_add_29 : decode cX11_add 29 = .ok (.aload_n 0, 1) := by decide +kernel
theorem dX11_add_30 : decode cX11_add 30 = .ok (.getfield 7, 3) := by decide +kernel
theorem dX11_add_33 : decode cX11_add 33 = .ok (.sipush 270, 3) := by decide +kernel
theorem dX11_add_36 : decode cX11_add 36 = .ok (.aload_n 0, 1) := by decide +kernel
theorem dX11_add_37 : decode cX11_add 37 = .ok (.getfield 7, 3) := by decide +kernel
theorem dX11_add_40 : decode cX11_add 40 = .ok (.sipush 269, 3) := by decide +kernel
theorem dX11_add_43 : decode cX11_add 43 = .ok (.iaload, 1) := by decide +kernel
theorem dX11_add_44 : decode cX11_add 44 = .ok (.iadd, 1) := by decide +kernel
theorem dX11_add_45 : decode cX11_add 45 = .ok (.iload_n 1, 1) := by decide +kernel
theorem dX11_add_46 : decode cX11_add 46 = .ok (.iastore, 1) := by decide +kernel
theorem dX11_add_47 : decode cX11_add 47 = .ok (.aload_n 0, 1) := by decide +kernel
theorem dX11_add_48 : decode cX11_add 48 = .ok (.getfield 7, 3) := by decide +kernel
theorem dX11_add_51 : decode cX11_add 51 = .ok (.sipush 269, 3) := by decide +kernel
theorem dX11_add_54 : decode cX11_add 54 = .ok (.dup2, 1) := by decide +kernel
theorem dX11_add_55 : decode cX11_add 55 = .ok (.iaload, 1) := by decide +kernel
theorem dX11_add_56 : decode cX11_add 56 = .ok (.iconst 1, 1) := by decide +kernel
theorem dX11_add_57 : decode cX11_add 57 = .ok (.iadd, 1) := by decide +kernel
theorem dX11_add_58 : decode cX11_add 58 = .ok (.iastore, 1) := by decide +kernel
theorem dX11_add_59 : decode cX11_add 59 = .ok (.aload_n 0, 1) := by decide +kernel
theorem dX11_add_60 : decode cX11_add 60 = .ok (.getfield 7, 3) := by decide +kernel
theorem dX11_add_63 : decode cX11_add 63 = .ok (.sipush 269, 3) := by decide +kernel
theorem dX11_add_66 : decode cX11_add 66 = .ok (.iaload, 1) := by decide +kernel
theorem dX11_add_67 : decode cX11_add 67 = .ok (.ireturn, 1) := by decide +kernel
set_option maxRecDepth 20000 in
theorem ggX11_out_X11_isNumber : GoodIn wsX11_out wsX11_isNumber := goodIn_r _ [5, 6, 7, 4, 8] (by decide +kernel) (by decide +kernel)
set_option maxRecDepth 20000 in
theorem gX11_out_X11_isNumber : GoodIn wsX11_out (va_wsS RX11 166 yX11_isNumber wsX11_isNumber) := goodIn_app (goodIn_of _ (by decide +kernel)) ggX11_out_X11_isNumber
set_option maxRecDepth 20000 in
theorem ggX11_out_X11_notes : GoodIn wsX11_out wsX11_notes := goodIn_r _ [12, 13, 14, 1, 15, 16, 4, 17, 18, 19, 20, 21, 22, 23, 24, 25, 26, 27, 28, 29, 30, 31, 32, 33, 34, 35, 36] (by decide +kernel) (by decide +kernel)
set_option maxRecDepth 20000 in
theorem gX11_out_X11_notes : GoodIn wsX11_out (wsV RX11 237 RX11 yX11_notes wsX11_notes) := goodIn_app (goodIn_of _ (by decide +kernel)) ggX11_out_X11_notes
theorem dX11_out_0 : decode cX11_out 0 = .ok (.iload_n 1, 1) := by decide +kernel
theorem dX11_out_1 : decode cX11_out 1 = .ok (.invokestatic 166, 3) := by decide +kernel
theorem dX11_out_4 : decode cX11_out 4 = .ok (.ifCond .ne 5, 3) := by decide +kernel
theorem dX11_out_7 : decode cX11_out 7 = .ok (.iconst (-1), 1) := by decide +kernel
theorem dX11_out_8 : decode cX11_out 8 = .ok (.ireturn, 1) := by decide +kernel
theorem dX11_out_9 : decode cX11_out 9 = .ok (.iconst 0, 1) := by decide +kernel
theorem dX11_out_10 : decode cX11_out 10 = .ok (.istore_n 2, 1) := by decide +kernel
theorem dX11_out_11 : decode cX11_out 11 = .ok (.iconst 0, 1) := by decide +kernel
theorem dX11_out_12 : decode cX11_out 12 = .ok (.istore_n 3, 1) := by decide +kernel
theorem dX11_out_13 : decode cX11_out 13 = .ok (.iload_n 3, 1) := by decide +kernel
theorem dX11_out_14 : decode cX11_out 14 = .ok (.aload_n 0, 1) := by decide +kernel
theorem dX11_out_15 : decode cX11_out 15 = .ok (.getfield 7, 3) := by decide +kernel
theorem dX11_out_18 : decode cX11_out 18 = .ok (.sipush 269, 3) := by decide +kernel
theorem dX11_out_21 : decode cX11_out 21 = .ok (.iaload, 1) := by decide +kernel
theorem dX11_out_22 : decode cX11_out 22 = .ok (.if_icmp .ge 31, 3) := by decide +kernel
theorem dX11_out_25 : decode cX11_out 25 = .ok (.iload_n 2, 1) := by decide +kernel
theorem dX11_out_26 : decode cX11_out 26 = .ok (.aload_n 0, 1) := by decide +kernel
theorem dX11_out_27 : decode cX11_out 27 = .ok (.getfield 7, 3) := by decide +kernel
theorem dX11_out_30 : decode cX11_out 30 = .ok (.sipush 270, 3) := by decide +kernel
theorem dX11_out_33 : decode cX11_out 33 = .ok (.iload_n 3, 1) := by decide +kernel
theorem dX11_out_34 : decode cX11_out 34 = .ok (.iadd, 1) := by decide +kernel
theorem dX11_out_35 : decode cX11_out 35 = .ok (.iaload, 1) := by decide +kernel
theorem dX11_out_36 : decode cX11_out 36 = .ok (.iload_n 1, 1) := by decide +kernel
theorem dX11_out_37 : decode cX11_out 37 = .ok (.if_icmp .ne 7, 3) := by decide +kernel
theorem dX11_out_40 : decode cX11_out 40 = .ok (.iconst 1, 1) := by decide +kernel
theorem dX11_out_41 : decode cX11_out 41 = .ok (.goto 4, 3) := by decide +kernel
theorem dX11_out_44 : decode cX11_out 44 = .ok (.iconst 0, 1) := by decide +kernel
theorem dX11_out_45 : decode cX11_out 45 = .ok (.iadd, 1) := by decide +kernel
theorem dX11_out_46 : decode cX11_out 46 = .ok (.istore_n 2, 1) := by decide +kernel
theorem dX11_out_47 : decode cX11_out 47 = .ok (.iinc 3 1, 3) := by decide +kernel
theorem dX11_out_50 : decode cX11_out 50 = .ok (.goto (-37), 3) := by decide +kernel
theorem dX11_out_53 : decode cX11_out 53 = .ok (.iload_n 2, 1) := by decide +kernel
theorem dX11_out_54 : decode cX11_out 54 = .ok (.ifCond .ne 6, 3) := by decide +kernel
theorem dX11_out_57 : decode cX11_out 57 = .ok (.bipush (-4), 2) := by decide +kernel
theorem dX11_out_59 : decode cX11_out 59 = .ok (.ireturn, 1) := by decide +kernel
theorem dX11_out_60 : decode cX11_out 60 = .ok (.aload_n 0, 1) := by decide +kernel
theorem dX11_out_61 : decode cX11_out 61 = .ok (.invokevirtual 237, 3) := by decide +kernel
theorem dX11_out_64 : decode cX11_out 64 = .ok (.iconst 0, 1) := by decide +kernel
theorem dX11_out_65 : decode cX11_out 65 = .ok (.istore_n 3, 1) := by decide +kernel
theorem dX11_out_66 : decode cX11_out 66 = .ok (.iconst 0, 1) := by decide +kernel
theorem dX11_out_67 : decode cX11_out 67 = .ok (.istore 4, 2) := by decide +kernel
theorem dX11_out_69 : decode cX11_out 69 = .ok (.iload 4, 2) := by decide +kernel
theorem dX11_out_71 : decode cX11_out 71 = .ok (.aload_n 0, 1) := by decide +kernel
theorem dX11_out_72 : decode cX11_out 72 = .ok (.getfield 7, 3) := by decide +kernel
theorem dX11_out_75 : decode cX11_out 75 = .ok (.sipush 269, 3) := by decide +kernel
theorem dX11_out_78 : decode cX11_out 78 = .ok (.iaload, 1) := by decide +kernel
theorem dX11_out_79 : decode cX11_out 79 = .ok (.if_icmp .ge 48, 3) := by decide +kernel
theorem dX11_out_82 : decode cX11_out 82 = .ok (.aload_n 0, 1) := by decide +kernel
theorem dX11_out_83 : decode cX11_out 83 = .ok (.getfield 7, 3) := by decide +kernel
theorem dX11_out_86 : decode cX11_out 86 = .ok (.sipush 270, 3) := by decide +kernel
theorem dX11_out_89 : decode cX11_out 89 = .ok (.iload 4, 2) := by decide +kernel
theorem dX11_out_91 : decode cX11_out 91 = .ok (.iadd, 1) := by decide +kernel
theorem dX11_out_92 : decode cX11_out 92 = .ok (.iaload, 1) := by decide +kernel
theorem dX11_out_93 : decode cX11_out 93 = .ok (.iload_n 1, 1) := by decide +kernel
theorem dX11_out_94 : decode cX11_out 94 = .ok (.if_icmp .eq 27, 3) := by decide +kernel
theorem dX11_out_97 : decode cX11_out 97 = .ok (.aload_n 0, 1) := by decide +kernel
theorem dX11_out_98 : decode cX11_out 98 = .ok (.getfield 7, 3) := by decide +kernel
theorem dX11_out_101 : decode cX11_out 101 = .ok (.sipush 270, 3) := by decide +kernel
theorem dX11_out_104 : decode cX11_out 104 = .ok (.iload_n 3, 1) := by decide +kernel
theorem dX11_out_105 : decode cX11_out 105 = .ok (.iadd, 1) := by decide +kernel
theorem dX11_out_106 : decode cX11_out 106 = .ok (.aload_n 0, 1) := by decide +kernel
theorem dX11_out_107 : decode cX11_out 107 = .ok (.getfield 7, 3) := by decide +kernel
theorem dX11_out_110 : decode cX11_out 110 = .ok (.sipush 270, 3) := by decide +kernel
theorem dX11_out_113 : decode cX11_out 113 = .ok (.iload 4, 2) := by decide +kernel
theorem dX11_out_115 : decode cX11_out 115 = .ok (.iadd, 1) := by decide +kernel
theorem dX11_out_116 : decode cX11_out 116 = .ok (.iaload, 1) := by decide +kernel
theorem dX11_out_117 : decode cX11_out 117 = .ok (.iastore, 1) := by decide +kernel
theorem dX11_out_118 : decode cX11_out 118 = .ok (.iinc 3 1, 3) := by decide +kernel
theorem dX11_out_121 : decode cX11_out 121 = .ok (.iinc 4 1, 3) := by decide +kernel
theorem dX11_out_124 : decode cX11_out 124 = .ok (.goto (-55), 3) := by decide +kernel
theorem dX11_out_127 : decode cX11_out 127 = .ok (.aload_n 0, 1) := by decide +kernel
theorem dX11_out_128 : decode cX11_out 128 = .ok (.getfield 7, 3) := by decide +kernel
theorem dX11_out_131 : decode cX11_out 131 = .ok (.sipush 269, 3) := by decide +kernel
theorem dX11_out_134 : decode cX11_out 134 = .ok (.iload_n 3, 1) := by decide +kernel
theorem dX11_out_135 : decode cX11_out 135 = .ok (.iastore, 1) := by decide +kernel
theorem dX11_out_136 : decode cX11_out 136 = .ok (.iload_n 2, 1) := by decide +kernel
theorem dX11_out_137 : decode cX11_out 137 = .ok (.ireturn, 1) := by decide +kernel
set_option maxRecDepth 20000 in
theorem ggX11_reverse_X11_notes : GoodIn wsX11_reverse wsX11_notes := goodIn_r _ [6, 7, 8, 1, 9, 10, 5, 11, 12, 13, 14, 15, 16, 17, 18, 19, 20, 21, 22, 23, 24, 25, 26, 27, 28, 29, 30] (by decide +kernel) (by decide +kernel)
set_option maxRecDepth 20000 in
theorem gX11_reverse_X11_notes : GoodIn wsX11_reverse (wsV RX11 237 RX11 yX11_notes wsX11_notes) := goodIn_app (goodIn_of _ (by decide +kernel)) ggX11_reverse_X11_notes
theorem dX11_reverse_0 : decode cX11_reverse 0 = .ok (.aload_n 0, 1) := by decide +kernel
theorem dX11_reverse_1 : decode cX11_reverse 1 = .ok (.getfield 7, 3) := by decide +kernel
theorem dX11_reverse_4 : decode cX11_reverse 4 = .ok (.sipush 269, 3) := by decide +kernel
theorem dX11_reverse_7 : decode cX11_reverse 7 = .ok (.iaload, 1) := by decide +kernel
theorem dX11_reverse_8 : decode cX11_reverse 8 = .ok (.iconst 2, 1) := by decide +kernel
theorem dX11_reverse_9 : decode cX11_reverse 9 = .ok (.if_icmp .ge 6, 3) := by decide +kernel
theorem dX11_reverse_12 : decode cX11_reverse 12 = .ok (.bipush (-2), 2) := by decide +kernel
theorem dX11_reverse_14 : decode cX11_reverse 14 = .ok (.ireturn, 1) := by decide +kernel
theorem dX11_reverse_15 : decode cX11_reverse 15 = .ok (.aload_n 0, 1) := by decide +kernel
theorem dX11_reverse_16 : decode cX11_reverse 16 = .ok (.invokevirtual 237, 3) := by decide +kernel
theorem dX11_reverse_19 : decode cX11_reverse 19 = .ok (.sipush 270, 3) := by decide +kernel
theorem dX11_reverse_22 : decode cX11_reverse 22 = .ok (.aload_n 0, 1) := by decide +kernel
theorem dX11_reverse_23 : decode cX11_reverse 23 = .ok (.getfield 7, 3) := by decide +kernel
theorem dX11_reverse_26 : decode cX11_reverse 26 = .ok (.sipush 269, 3) := by decide +kernel
theorem dX11_reverse_29 : decode cX11_reverse 29 = .ok (.iaload, 1) := by decide +kernel
theorem dX11_reverse_30 : decode cX11_reverse 30 = .ok (.iadd, 1) := by decide +kernel
theorem dX11_reverse_31 : decode cX11_reverse 31 = .ok (.iconst 1, 1) := by decide +kernel
theorem dX11_reverse_32 : decode cX11_reverse 32 = .ok (.isub, 1) := by decide +kernel
theorem dX11_reverse_33 : decode cX11_reverse 33 = .ok (.istore_n 1, 1) := by decide +kernel
theorem dX11_reverse_34 : decode cX11_reverse 34 = .ok (.iconst 0, 1) := by decide +kernel
theorem dX11_reverse_35 : decode cX11_reverse 35 = .ok (.istore_n 2, 1) := by decide +kernel
theorem dX11_reverse_36 : decode cX11_reverse 36 = .ok (.iload_n 2, 1) := by decide +kernel
theorem dX11_reverse_37 : decode cX11_reverse 37 = .ok (.aload_n 0, 1) := by decide +kernel
theorem dX11_reverse_38 : decode cX11_reverse 38 = .ok (.getfield 7, 3) := by decide +kernel
theorem dX11_reverse_41 : decode cX11_reverse 41 = .ok (.sipush 269, 3) := by decide +kernel
theorem dX11_reverse_44 : decode cX11_reverse 44 = .ok (.iaload, 1) := by decide +kernel
theorem dX11_reverse_45 : decode cX11_reverse 45 = .ok (.iconst 2, 1) := by decide +kernel
theorem dX11_reverse_46 : decode cX11_reverse 46 = .ok (.idiv, 1) := by decide +kernel
theorem dX11_reverse_47 : decode cX11_reverse 47 = .ok (.if_icmp .ge 47, 3) := by decide +kernel
theorem dX11_reverse_50 : decode cX11_reverse 50 = .ok (.aload_n 0, 1) := by decide +kernel
theorem dX11_reverse_51 : decode cX11_reverse 51 = .ok (.getfield 7, 3) := by decide +kernel
theorem dX11_reverse_54 : decode cX11_reverse 54 = .ok (.sipush 270, 3) := by decide +kernel
theorem dX11_reverse_57 : decode cX11_reverse 57 = .ok (.iload_n 2, 1) := by decide +kernel
theorem dX11_reverse_58 : decode cX11_reverse 58 = .ok (.iadd, 1) := by decide +kernel
theorem dX11_reverse_59 : decode cX11_reverse 59 = .ok (.iaload, 1) := by decide +kernel
theorem dX11_reverse_60 : decode cX11_reverse 60 = .ok (.istore_n 3, 1) := by decide +kernel
theorem dX11_reverse_61 : decode cX11_reverse 61 = .ok (.aload_n 0, 1) := by decide +kernel
theorem dX11_reverse_62 : decode cX11_reverse 62 = .ok (.getfield 7, 3) := by decide +kernel
theorem dX11_reverse_65 : decode cX11_reverse 65 = .ok (.sipush 270, 3) := by decide +kernel
theorem dX11_reverse_68 : decode cX11_reverse 68 = .ok (.iload_n 2, 1) := by decide +kernel
theorem dX11_reverse_69 : decode cX11_reverse 69 = .ok (.iadd, 1) := by decide +kernel
theorem dX11_reverse_70 : decode cX11_reverse 70 = .ok (.aload_n 0, 1) := by decide +kernel
theorem dX11_reverse_71 : decode cX11_reverse 71 = .ok (.getfield 7, 3) := by decide +kernel
theorem dX11_reverse_74 : decode cX11_reverse 74 = .ok (.iload_n 1, 1) := by decide +kernel
theorem dX11_reverse_75 : decode cX11_reverse 75 = .ok (.iload_n 2, 1) := by decide +kernel
theorem dX11_reverse_76 : decode cX11_reverse 76 = .ok (.isub, 1) := by decide +kernel
theorem dX11_reverse_77 : decode cX11_reverse 77 = .ok (.iaload, 1) := by decide +kernel
theorem dX11_reverse_78 : decode cX11_reverse 78 = .ok (.iastore, 1) := by decide +kernel
theorem dX11_reverse_79 : decode cX11_reverse 79 = .ok (.aload_n 0, 1) := by decide +kernel
theorem dX11_reverse_80 : decode cX11_reverse 80 = .ok (.getfield 7, 3) := by decide +kernel
theorem dX11_reverse_83 : decode cX11_reverse 83 = .ok (.iload_n 1, 1) := by decide +kernel
theorem dX11_reverse_84 : decode cX11_reverse 84 = .ok (.iload_n 2, 1) := by decide +kernel
theorem dX11_reverse_85 : decode cX11_reverse 85 = .ok (.isub, 1) := by decide +kernel
theorem dX11_reverse_86 : decode cX11_reverse 86 = .ok (.iload_n 3, 1) := by decide +kernel
theorem dX11_reverse_87 : decode cX11_reverse 87 = .ok (.iastore, 1) := by decide +kernel
theorem dX11_reverse_88 : decode cX11_reverse 88 = .ok (.iinc 2 1, 3) := by decide +kernel
theorem dX11_reverse_91 : decode cX11_reverse 91 = .ok (.goto (-55), 3) := by decide +kernel
theorem dX11_reverse_94 : decode cX11_reverse 94 = .ok (.aload_n 0, 1) := by decide +kernel
theorem dX11_reverse_95 : decode cX11_reverse 95 = .ok (.getfield 7, 3) := by decide +kernel
theorem dX11_reverse_98 : decode cX11_reverse 98 = .ok (.sipush 270, 3) := by decide +kernel
theorem dX11_reverse_101 : decode cX11_reverse 101 = .ok (.iaload, 1) := by decide +kernel
theorem dX11_reverse_102 : decode cX11_reverse 102 = .ok (.ireturn, 1) := by decide +kernel
set_option maxRecDepth 20000 in
theorem ggX11_type_X11_in : GoodIn wsX11_type wsX11_in := goodIn_r _ [6] (by decide +kernel) (by decide +kernel)
set_option maxRecDepth 20000 in
theorem gX11_type_X11_in : GoodIn wsX11_type (va_wsS RX11 70 yX11_in wsX11_in) := goodIn_app (goodIn_of _ (by decide +kernel)) ggX11_type_X11_in
theorem dX11_type_0 : decode cX11_type 0 = .ok (.iload_n 1, 1) := by decide +kernel
theorem dX11_type_1 : decode cX11_type 1 = .ok (.bipush 32, 2) := by decide +kernel
theorem dX11_type_3 : decode cX11_type 3 = .ok (.bipush 126, 2) := by decide +kernel
theorem dX11_type_5 : decode cX11_type 5 = .ok (.invokestatic 70, 3) := by decide +kernel
theorem dX11_type_8 : decode cX11_type 8 = .ok (.ifCond .ne 5, 3) := by decide +kernel
theorem dX11_type_11 : decode cX11_type 11 = .ok (.iconst (-1), 1) := by decide +kernel
theorem dX11_type_12 : decode cX11_type 12 = .ok (.ireturn, 1) := by decide +kernel
theorem dX11_type_13 : decode cX11_type 13 = .ok (.aload_n 0, 1) := by decide +kernel
theorem dX11_type_14 : decode cX11_type 14 = .ok (.getfield 249, 3) := by decide +kernel
theorem dX11_type_17 : decode cX11_type 17 = .ok (.bipush 90, 2) := by decide +kernel
theorem dX11_type_19 : decode cX11_type 19 = .ok (.if_icmp .ne 6, 3) := by decide +kernel
theorem dX11_type_22 : decode cX11_type 22 = .ok (.bipush (-3), 2) := by decide +kernel
theorem dX11_type_24 : decode cX11_type 24 = .ok (.ireturn, 1) := by decide +kernel
theorem dX11_type_25 : decode cX11_type 25 = .ok (.aload_n 0, 1) := by decide +kernel
theorem dX11_type_26 : decode cX11_type 26 = .ok (.getfield 26, 3) := by decide +kernel
theorem dX11_type_29 : decode cX11_type 29 = .ok (.aload_n 0, 1) := by decide +kernel
theorem dX11_type_30 : decode cX11_type 30 = .ok (.getfield 249, 3) := by decide +kernel
theorem dX11_type_33 : decode cX11_type 33 = .ok (.iload_n 1, 1) := by decide +kernel
theorem dX11_type_34 : decode cX11_type 34 = .ok (.iastore, 1) := by decide +kernel
theorem dX11_type_35 : decode cX11_type 35 = .ok (.aload_n 0, 1) := by decide +kernel
theorem dX11_type_36 : decode cX11_type 36 = .ok (.dup, 1) := by decide +kernel
theorem dX11_type_37 : decode cX11_type 37 = .ok (.getfield 249, 3) := by decide +kernel
theorem dX11_type_40 : decode cX11_type 40 = .ok (.iconst 1, 1) := by decide +kernel
theorem dX11_type_41 : decode cX11_type 41 = .ok (.iadd, 1) := by decide +kernel
theorem dX11_type_42 : decode cX11_type 42 = .ok (.putfield 249, 3) := by decide +kernel
theorem dX11_type_45 : decode cX11_type 45 = .ok (.aload_n 0, 1) := by decide +kernel
theorem dX11_type_46 : decode cX11_type 46 = .ok (.getfield 249, 3) := by decide +kernel
theorem dX11_type_49 : decode cX11_type 49 = .ok (.ireturn, 1) := by decide +kernel
theorem dX11_here_0 : decode cX11_here 0 = .ok (.aload_n 0, 1) := by decide +kernel
theorem dX11_here_1 : decode cX11_here 1 = .ok (.getfield 252, 3) := by decide +kernel
theorem dX11_here_4 : decode cX11_here 4 = .ok (.aload_n 0, 1) := by decide +kernel
theorem dX11_here_5 : decode cX11_here 5 = .ok (.getfield 249, 3) := by decide +kernel
theorem dX11_here_8 : decode cX11_here 8 = .ok (.if_icmp .ge 15, 3) := by decide +kernel
theorem dX11_here_11 : decode cX11_here 11 = .ok (.aload_n 0, 1) := by decide +kernel
theorem dX11_here_12 : decode cX11_here 12 = .ok (.getfield 26, 3) := by decide +kernel
theorem dX11_here_15 : decode cX11_here 15 = .ok (.aload_n 0, 1) := by decide +kernel
theorem dX11_here_16 : decode cX11_here 16 = .ok (.getfield 252, 3) := by decide +kernel
theorem dX11_here_19 : decode cX11_here 19 = .ok (.iaload, 1) := by decide +kernel
theorem dX11_here_20 : decode cX11_here 20 = .ok (.goto 4, 3) := by decide +kernel
theorem dX11_here_23 : decode cX11_here 23 = .ok (.iconst 0, 1) := by decide +kernel
theorem dX11_here_24 : decode cX11_here 24 = .ok (.ireturn, 1) := by decide +kernel
set_option maxRecDepth 20000 in
theorem ggX11_sign_X11_here : GoodIn wsX11_sign wsX11_here := goodIn_r _ [6, 1, 7, 8, 9, 10, 11, 12, 13, 14, 15, 16, 17, 18, 19, 20, 21, 22, 23, 24, 25, 26, 27] (by decide +kernel) (by decide +kernel)
set_option maxRecDepth 20000 in
theorem gX11_sign_X11_here : GoodIn wsX11_sign (wsV RX11 255 RX11 yX11_here wsX11_here) := goodIn_app (goodIn_of _ (by decide +kernel)) ggX11_sign_X11_here
theorem dX11_sign_0 : decode cX11_sign 0 = .ok (.aload_n 0, 1) := by decide +kernel
theorem dX11_sign_1 : decode cX11_sign 1 = .ok (.invokevirtual 255, 3) := by decide +kernel
theorem dX11_sign_4 : decode cX11_sign 4 = .ok (.bipush 32, 2) := by decide +kernel
theorem dX11_sign_6 : decode cX11_sign 6 = .ok (.if_icmp .ne 16, 3) := by decide +kernel
theorem dX11_sign_9 : decode cX11_sign 9 = .ok (.aload_n 0, 1) := by decide +kernel
theorem dX11_sign_10 : decode cX11_sign 10 = .ok (.dup, 1) := by decide +kernel
theorem dX11_sign_11 : decode cX11_sign 11 = .ok (.getfield 252, 3) := by decide +kernel
theorem dX11_sign_14 : decode cX11_sign 14 = .ok (.iconst 1, 1) := by decide +kernel
theorem dX11_sign_15 : decode cX11_sign 15 = .ok (.iadd, 1) := by decide +kernel
theorem dX11_sign_16 : decode cX11_sign 16 = .ok (.putfield 252, 3) := by decide +kernel
theorem dX11_sign_19 : decode cX11_sign 19 = .ok (.goto (-19), 3) := by decide +kernel
theorem dX11_sign_22 : decode cX11_sign 22 = .ok (.aload_n 0, 1) := by decide +kernel
theorem dX11_sign_23 : decode cX11_sign 23 = .ok (.invokevirtual 255, 3) := by decide +kernel
theorem dX11_sign_26 : decode cX11_sign 26 = .ok (.ireturn, 1) := by decide +kernel
theorem dX11_isFigure_0 : decode cX11_isFigure 0 = .ok (.iload_n 0, 1) := by decide +kernel
theorem dX11_isFigure_1 : decode cX11_isFigure 1 = .ok (.bipush 48, 2) := by decide +kernel
theorem dX11_isFigure_3 : decode cX11_isFigure 3 = .ok (.if_icmp .lt 13, 3) := by decide +kernel
theorem dX11_isFigure_6 : decode cX11_isFigure 6 = .ok (.iload_n 0, 1) := by decide +kernel
theorem dX11_isFigure_7 : decode cX11_isFigure 7 = .ok (.bipush 57, 2) := by decide +kernel
theorem dX11_isFigure_9 : decode cX11_isFigure 9 = .ok (.if_icmp .gt 7, 3) := by decide +kernel
theorem dX11_isFigure_12 : decode cX11_isFigure 12 = .ok (.iconst 1, 1) := by decide +kernel
theorem dX11_isFigure_13 : decode cX11_isFigure 13 = .ok (.goto 4, 3) := by decide +kernel
theorem dX11_isFigure_16 : decode cX11_isFigure 16 = .ok (.iconst 0, 1) := by decide +kernel
theorem dX11_isFigure_17 : decode cX11_isFigure 17 = .ok (.ireturn, 1) := by decide +kernel
set_option maxRecDepth 20000 in
theorem ggX11_takes_X11_sign : GoodIn wsX11_takes wsX11_sign := goodIn_r _ [6, 1, 7, 8, 9, 5, 10, 11, 12, 13, 14, 15, 16, 17, 18, 19, 20, 21, 22, 23, 24, 25, 26, 27, 28, 29, 30, 31] (by decide +kernel) (by decide +kernel)
set_option maxRecDepth 20000 in
theorem gX11_takes_X11_sign : GoodIn wsX11_takes (wsV RX11 258 RX11 yX11_sign wsX11_sign) := goodIn_app (goodIn_of _ (by decide +kernel)) ggX11_takes_X11_sign
theorem dX11_takes_0 : decode cX11_takes 0 = .ok (.aload_n 0, 1) := by decide +kernel
theorem dX11_takes_1 : decode cX11_takes 1 = .ok (.invokevirtual 258, 3) := by decide +kernel
theorem dX11_takes_4 : decode cX11_takes 4 = .ok (.iload_n 1, 1) := by decide +kernel
theorem dX11_takes_5 : decode cX11_takes 5 = .ok (.if_icmp .ne 7, 3) := by decide +kernel
theorem dX11_takes_8 : decode cX11_takes 8 = .ok (.iconst 1, 1) := by decide +kernel
theorem dX11_takes_9 : decode cX11_takes 9 = .ok (.goto 4, 3) := by decide +kernel
theorem dX11_takes_12 : decode cX11_takes 12 = .ok (.iconst 0, 1) := by decide +kernel
theorem dX11_takes_13 : decode cX11_takes 13 = .ok (.istore_n 2, 1) := by decide +kernel
theorem dX11_takes_14 : decode cX11_takes 14 = .ok (.aload_n 0, 1) := by decide +kernel
theorem dX11_takes_15 : decode cX11_takes 15 = .ok (.dup, 1) := by decide +kernel
theorem dX11_takes_16 : decode cX11_takes 16 = .ok (.getfield 252, 3) := by decide +kernel
theorem dX11_takes_19 : decode cX11_takes 19 = .ok (.iload_n 2, 1) := by decide +kernel
theorem dX11_takes_20 : decode cX11_takes 20 = .ok (.ifCond .eq 7, 3) := by decide +kernel
theorem dX11_takes_23 : decode cX11_takes 23 = .ok (.iconst 1, 1) := by decide +kernel
theorem dX11_takes_24 : decode cX11_takes 24 = .ok (.goto 4, 3) := by decide +kernel
theorem dX11_takes_27 : decode cX11_takes 27 = .ok (.iconst 0, 1) := by decide +kernel
theorem dX11_takes_28 : decode cX11_takes 28 = .ok (.iadd, 1) := by decide +kernel
theorem dX11_takes_29 : decode cX11_takes 29 = .ok (.putfield 252, 3) := by decide +kernel
theorem dX11_takes_32 : decode cX11_takes 32 = .ok (.iload_n 2, 1) := by decide +kernel
theorem dX11_takes_33 : decode cX11_takes 33 = .ok (.ireturn, 1) := by decide +kernel
set_option maxRecDepth 20000 in
theorem ggX11_readsNumber_X11_sign : GoodIn wsX11_readsNumber wsX11_sign := goodIn_r _ [8, 1, 9, 10, 11, 7, 12, 2, 3, 16, 17, 18, 19, 20, 21, 22, 23, 24, 25, 26, 27, 28, 29, 30, 31, 32, 33, 34] (by decide +kernel) (by decide +kernel)
set_option maxRecDepth 20000 in
theorem gX11_readsNumber_X11_sign : GoodIn wsX11_readsNumber (wsV RX11 258 RX11 yX11_sign wsX11_sign) := goodIn_app (goodIn_of _ (by decide +kernel)) ggX11_readsNumber_X11_sign
set_option maxRecDepth 20000 in
theorem ggX11_readsNumber_X11_isFigure : GoodIn wsX11_readsNumber wsX11_isFigure := goodIn_r _ [15] (by decide +kernel) (by decide +kernel)
set_option maxRecDepth 20000 in
theorem gX11_readsNumber_X11_isFigure : GoodIn wsX11_readsNumber (va_wsS RX11 261 yX11_isFigure wsX11_isFigure) := goodIn_app (goodIn_of _ (by decide +kernel)) ggX11_readsNumber_X11_isFigure
set_option maxRecDepth 20000 in
theorem ggX11_readsNumber_X11_here : GoodIn wsX11_readsNumber wsX11_here := goodIn_r _ [12, 1, 2, 3, 16, 17, 18, 19, 20, 21, 22, 23, 24, 25, 26, 27, 28, 29, 30, 31, 32, 33, 34] (by decide +kernel) (by decide +kernel)
set_option maxRecDepth 20000 in
theorem gX11_readsNumber_X11_here : GoodIn wsX11_readsNumber (wsV RX11 255 RX11 yX11_here wsX11_here) := goodIn_app (goodIn_of _ (by decide +kernel)) ggX11_readsNumber_X11_here
theorem dX11_readsNumber_0 : decode cX11_readsNumber 0 = .ok (.aload_n 0, 1) := by decide +kernel
theorem dX11_readsNumber_1 : decode cX11_readsNumber 1 = .ok (.invokevirtual 258, 3) := by decide +kernel
theorem dX11_readsNumber_4 : decode cX11_readsNumber 4 = .ok (.invokestatic 261, 3) := by decide +kernel
theorem dX11_readsNumber_7 : decode cX11_readsNumber 7 = .ok (.ifCond .ne 6, 3) := by decide +kernel
theorem dX11_readsNumber_10 : decode cX11_readsNumber 10 = .ok (.bipush (-4), 2) := by decide +kernel
theorem dX11_readsNumber_12 : decode cX11_readsNumber 12 = .ok (.ireturn, 1) := by decide +kernel
theorem dX11_readsNumber_13 : decode cX11_readsNumber 13 = .ok (.aload_n 0, 1) := by decide +kernel
theorem dX11_readsNumber_14 : decode cX11_readsNumber 14 = .ok (.invokevirtual 255, 3) := by decide +kernel
theorem dX11_readsNumber_17 : decode cX11_readsNumber 17 = .ok (.bipush 48, 2) := by decide +kernel
theorem dX11_readsNumber_19 : decode cX11_readsNumber 19 = .ok (.isub, 1) := by decide +kernel
theorem dX11_readsNumber_20 : decode cX11_readsNumber 20 = .ok (.istore_n 1, 1) := by decide +kernel
theorem dX11_readsNumber_21 : decode cX11_readsNumber 21 = .ok (.aload_n 0, 1) := by decide +kernel
theorem dX11_readsNumber_22 : decode cX11_readsNumber 22 = .ok (.getfield 252, 3) := by decide +kernel
theorem dX11_readsNumber_25 : decode cX11_readsNumber 25 = .ok (.iconst 1, 1) := by decide +kernel
theorem dX11_readsNumber_26 : decode cX11_readsNumber 26 = .ok (.iadd, 1) := by decide +kernel
theorem dX11_readsNumber_27 : decode cX11_readsNumber 27 = .ok (.aload_n 0, 1) := by decide +kernel
theorem dX11_readsNumber_28 : decode cX11_readsNumber 28 = .ok (.getfield 249, 3) := by decide +kernel
theorem dX11_readsNumber_31 : decode cX11_readsNumber 31 = .ok (.if_icmp .ge 24, 3) := by decide +kernel
theorem dX11_readsNumber_34 : decode cX11_readsNumber 34 = .ok (.aload_n 0, 1) := by decide +kernel
theorem dX11_readsNumber_35 : decode cX11_readsNumber 35 = .ok (.getfield 26, 3) := by decide +kernel
theorem dX11_readsNumber_38 : decode cX11_readsNumber 38 = .ok (.aload_n 0, 1) := by decide +kernel
theorem dX11_readsNumber_39 : decode cX11_readsNumber 39 = .ok (.getfield 252, 3) := by decide +kernel
theorem dX11_readsNumber_42 : decode cX11_readsNumber 42 = .ok (.iconst 1, 1) := by decide +kernel
theorem dX11_readsNumber_43 : decode cX11_readsNumber 43 = .ok (.iadd, 1) := by decide +kernel
theorem dX11_readsNumber_44 : decode cX11_readsNumber 44 = .ok (.iaload, 1) := by decide +kernel
theorem dX11_readsNumber_45 : decode cX11_readsNumber 45 = .ok (.invokestatic 261, 3) := by decide +kernel
theorem dX11_readsNumber_48 : decode cX11_readsNumber 48 = .ok (.ifCond .eq 7, 3) := by decide +kernel
theorem dX11_readsNumber_51 : decode cX11_readsNumber 51 = .ok (.iconst 1, 1) := by decide +kernel
theorem dX11_readsNumber_52 : decode cX11_readsNumber 52 = .ok (.goto 4, 3) := by decide +kernel
theorem dX11_readsNumber_55 : decode cX11_readsNumber 55 = .ok (.iconst 0, 1) := by decide +kernel
theorem dX11_readsNumber_56 : decode cX11_readsNumber 56 = .ok (.istore_n 2, 1) := by decide +kernel
theorem dX11_readsNumber_57 : decode cX11_readsNumber 57 = .ok (.iload_n 2, 1) := by decide +kernel
theorem dX11_readsNumber_58 : decode cX11_readsNumber 58 = .ok (.ifCond .eq 23, 3) := by decide +kernel
theorem dX11_readsNumber_61 : decode cX11_readsNumber 61 = .ok (.bipush 10, 2) := by decide +kernel
theorem dX11_readsNumber_63 : decode cX11_readsNumber 63 = .ok (.iload_n 1, 1) := by decide +kernel
theorem dX11_readsNumber_64 : decode cX11_readsNumber 64 = .ok (.imul, 1) := by decide +kernel
theorem dX11_readsNumber_65 : decode cX11_readsNumber 65 = .ok (.aload_n 0, 1) := by decide +kernel
theorem dX11_readsNumber_66 : decode cX11_readsNumber 66 = .ok (.getfield 26, 3) := by decide +kernel
theorem dX11_readsNumber_69 : decode cX11_readsNumber 69 = .ok (.aload_n 0, 1) := by decide +kernel
theorem dX11_readsNumber_70 : decode cX11_readsNumber 70 = .ok (.getfield 252, 3) := by decide +kernel
theorem dX11_readsNumber_73 : decode cX11_readsNumber 73 = .ok (.iconst 1, 1) := by decide +kernel
theorem dX11_readsNumber_74 : decode cX11_readsNumber 74 = .ok (.iadd, 1) := by decide +kernel
theorem dX11_readsNumber_75 : decode cX11_readsNumber 75 = .ok (.iaload, 1) := by decide +kernel
theorem dX11_readsNumber_76 : decode cX11_readsNumber 76 = .ok (.iadd, 1) := by decide +kernel
theorem dX11_readsNumber_77 : decode cX11_readsNumber 77 = .ok (.bipush 48, 2) := by decide +kernel
theorem dX11_readsNumber_79 : decode cX11_readsNumber 79 = .ok (.isub, 1) := by decide +kernel
theorem dX11_readsNumber_80 : decode cX11_readsNumber 80 = .ok (.istore_n 1, 1) := by decide +kernel
theorem dX11_readsNumber_81 : decode cX11_readsNumber 81 = .ok (.iload_n 1, 1) := by decide +kernel
theorem dX11_readsNumber_82 : decode cX11_readsNumber 82 = .ok (.bipush 23, 2) := by decide +kernel
theorem dX11_readsNumber_84 : decode cX11_readsNumber 84 = .ok (.if_icmp .le 6, 3) := by decide +kernel
theorem dX11_readsNumber_87 : decode cX11_readsNumber 87 = .ok (.bipush (-4), 2) := by decide +kernel
theorem dX11_readsNumber_89 : decode cX11_readsNumber 89 = .ok (.ireturn, 1) := by decide +kernel
theorem dX11_readsNumber_90 : decode cX11_readsNumber 90 = .ok (.aload_n 0, 1) := by decide +kernel
theorem dX11_readsNumber_91 : decode cX11_readsNumber 91 = .ok (.dup, 1) := by decide +kernel
theorem dX11_readsNumber_92 : decode cX11_readsNumber 92 = .ok (.getfield 252, 3) := by decide +kernel
theorem dX11_readsNumber_95 : decode cX11_readsNumber 95 = .ok (.iload_n 2, 1) := by decide +kernel
theorem dX11_readsNumber_96 : decode cX11_readsNumber 96 = .ok (.ifCond .eq 7, 3) := by decide +kernel
theorem dX11_readsNumber_99 : decode cX11_readsNumber 99 = .ok (.iconst 2, 1) := by decide +kernel
theorem dX11_readsNumber_100 : decode cX11_readsNumber 100 = .ok (.goto 4, 3) := by decide +kernel
theorem dX11_readsNumber_103 : decode cX11_readsNumber 103 = .ok (.iconst 1, 1) := by decide +kernel
theorem dX11_readsNumber_104 : decode cX11_readsNumber 104 = .ok (.iadd, 1) := by decide +kernel
theorem dX11_readsNumber_105 : decode cX11_readsNumber 105 = .ok (.putfield 252, 3) := by decide +kernel
theorem dX11_readsNumber_108 : decode cX11_readsNumber 108 = .ok (.aload_n 0, 1) := by decide +kernel
theorem dX11_readsNumber_109 : decode cX11_readsNumber 109 = .ok (.invokevirtual 255, 3) := by decide +kernel
theorem dX11_readsNumber_112 : decode cX11_readsNumber 112 = .ok (.invokestatic 261, 3) := by decide +kernel
theorem dX11_readsNumber_115 : decode cX11_readsNumber 115 = .ok (.ifCond .eq 8, 3) := by decide +kernel
theorem dX11_readsNumber_118 : decode cX11_readsNumber 118 = .ok (.bipush (-4), 2) := by decide +kernel
theorem dX11_readsNumber_120 : decode cX11_readsNumber 120 = .ok (.goto 4, 3) := by decide +kernel
theorem dX11_readsNumber_123 : decode cX11_readsNumber 123 = .ok (.iload_n 1, 1) := by decide +kernel
theorem dX11_readsNumber_124 : decode cX11_readsNumber 124 = .ok (.ireturn, 1) := by decide +kernel
set_option maxRecDepth 20000 in
theorem ggX11_marks_X11_numberOf : GoodIn wsX11_marks wsX11_numberOf := goodIn_r _ [5] (by decide +kernel) (by decide +kernel)
set_option maxRecDepth 20000 in
theorem gX11_marks_X11_numberOf : GoodIn wsX11_marks (va_wsS RX11 102 yX11_numberOf wsX11_numberOf) := goodIn_app (goodIn_of _ (by decide +kernel)) ggX11_marks_X11_numberOf
theorem dX11_marks_0 : decode cX11_marks 0 = .ok (.iload_n 2, 1) := by decide +kernel
theorem dX11_marks_1 : decode cX11_marks 1 = .ok (.istore 4, 2) := by decide +kernel
theorem dX11_marks_3 : decode cX11_marks 3 = .ok (.aload_n 0, 1) := by decide +kernel
theorem dX11_marks_4 : decode cX11_marks 4 = .ok (.getfield 54, 3) := by decide +kernel
theorem dX11_marks_7 : decode cX11_marks 7 = .ok (.iload_n 1, 1) := by decide +kernel
theorem dX11_marks_8 : decode cX11_marks 8 = .ok (.iload 4, 2) := by decide +kernel
theorem dX11_marks_10 : decode cX11_marks 10 = .ok (.invokestatic 102, 3) := by decide +kernel
theorem dX11_marks_13 : decode cX11_marks 13 = .ok (.iconst 1, 1) := by decide +kernel
theorem dX11_marks_14 : decode cX11_marks 14 = .ok (.iastore, 1) := by decide +kernel
theorem dX11_marks_15 : decode cX11_marks 15 = .ok (.iload 4, 2) := by decide +kernel
theorem dX11_marks_17 : decode cX11_marks 17 = .ok (.iload_n 3, 1) := by decide +kernel
theorem dX11_marks_18 : decode cX11_marks 18 = .ok (.if_icmp .eq 27, 3) := by decide +kernel
theorem dX11_marks_21 : decode cX11_marks 21 = .ok (.iload 4, 2) := by decide +kernel
theorem dX11_marks_23 : decode cX11_marks 23 = .ok (.iconst 1, 1) := by decide +kernel
theorem dX11_marks_24 : decode cX11_marks 24 = .ok (.iadd, 1) := by decide +kernel
theorem dX11_marks_25 : decode cX11_marks 25 = .ok (.bipush 24, 2) := by decide +kernel
theorem dX11_marks_27 : decode cX11_marks 27 = .ok (.irem, 1) := by decide +kernel
theorem dX11_marks_28 : decode cX11_marks 28 = .ok (.istore 4, 2) := by decide +kernel
theorem dX11_marks_30 : decode cX11_marks 30 = .ok (.aload_n 0, 1) := by decide +kernel
theorem dX11_marks_31 : decode cX11_marks 31 = .ok (.getfield 54, 3) := by decide +kernel
theorem dX11_marks_34 : decode cX11_marks 34 = .ok (.iload_n 1, 1) := by decide +kernel
theorem dX11_marks_35 : decode cX11_marks 35 = .ok (.iload 4, 2) := by decide +kernel
theorem dX11_marks_37 : decode cX11_marks 37 = .ok (.invokestatic 102, 3) := by decide +kernel
theorem dX11_marks_40 : decode cX11_marks 40 = .ok (.iconst 1, 1) := by decide +kernel
theorem dX11_marks_41 : decode cX11_marks 41 = .ok (.iastore, 1) := by decide +kernel
theorem dX11_marks_42 : decode cX11_marks 42 = .ok (.goto (-27), 3) := by decide +kernel
theorem dX11_marks_45 : decode cX11_marks 45 = .ok (.return_, 1) := by decide +kernel
set_option maxRecDepth 20000 in
theorem ggX11_readsRun_X11_readsNumber : GoodIn wsX11_readsRun wsX11_readsNumber := goodIn_r _ [5, 6, 7, 8, 9, 10, 11, 4, 12, 13, 14, 15, 16, 17, 18, 19, 32, 33, 34, 35, 36, 37, 38, 39, 40, 41, 42, 43, 44, 45, 46, 47, 48, 49, 50] (by decide +kernel) (by decide +kernel)
set_option maxRecDepth 20000 in
theorem gX11_readsRun_X11_readsNumber : GoodIn wsX11_readsRun (wsV RX11 264 RX11 yX11_readsNumber wsX11_readsNumber) := goodIn_app (goodIn_of _ (by decide +kernel)) ggX11_readsRun_X11_readsNumber
set_option maxRecDepth 20000 in
theorem ggX11_readsRun_X11_takes : GoodIn wsX11_readsRun wsX11_takes := goodIn_r _ [23, 6, 9, 10, 11, 4, 12, 13, 14, 15, 16, 7, 8, 32, 33, 34, 35, 36, 37, 38, 39, 40, 41, 42, 43, 44, 45, 46, 47, 48, 49, 50] (by decide +kernel) (by decide +kernel)
set_option maxRecDepth 20000 in
theorem gX11_readsRun_X11_takes : GoodIn wsX11_readsRun (wsV RX11 267 RX11 yX11_takes wsX11_takes) := goodIn_app (goodIn_of _ (by decide +kernel)) ggX11_readsRun_X11_takes
set_option maxRecDepth 20000 in
theorem ggX11_readsRun_X11_marks : GoodIn wsX11_readsRun wsX11_marks := goodIn_r _ [27, 28, 29, 30, 4, 31, 32, 33, 34, 35, 36, 37, 38, 39, 40, 41, 42, 43, 44, 45, 46, 47, 48, 49, 50] (by decide +kernel) (by decide +kernel)
set_option maxRecDepth 20000 in
theorem gX11_readsRun_X11_marks : GoodIn wsX11_readsRun (wsV RX11 270 RX11 yX11_marks wsX11_marks) := goodIn_app (goodIn_of _ (by decide +kernel)) ggX11_readsRun_X11_marks
theorem dX11_readsRun_0 : decode cX11_readsRun 0 = .ok (.aload_n 0, 1) := by decide +kernel
theorem dX11_readsRun_1 : decode cX11_readsRun 1 = .ok (.invokevirtual 264, 3) := by decide +kernel
theorem dX11_readsRun_4 : decode cX11_readsRun 4 = .ok (.istore_n 2, 1) := by decide +kernel
theorem dX11_readsRun_5 : decode cX11_readsRun 5 = .ok (.iload_n 2, 1) := by decide +kernel
theorem dX11_readsRun_6 : decode cX11_readsRun 6 = .ok (.ifCond .ge 5, 3) := by decide +kernel
theorem dX11_readsRun_9 : decode cX11_readsRun 9 = .ok (.iconst 0, 1) := by decide +kernel
theorem dX11_readsRun_10 : decode cX11_readsRun 10 = .ok (.ireturn, 1) := by decide +kernel
theorem dX11_readsRun_11 : decode cX11_readsRun 11 = .ok (.iload_n 2, 1) := by decide +kernel
theorem dX11_readsRun_12 : decode cX11_readsRun 12 = .ok (.istore_n 3, 1) := by decide +kernel
theorem dX11_readsRun_13 : decode cX11_readsRun 13 = .ok (.aload_n 0, 1) := by decide +kernel
theorem dX11_readsRun_14 : decode cX11_readsRun 14 = .ok (.bipush 45, 2) := by decide +kernel
theorem dX11_readsRun_16 : decode cX11_readsRun 16 = .ok (.invokevirtual 267, 3) := by decide +kernel
theorem dX11_readsRun_19 : decode cX11_readsRun 19 = .ok (.ifCond .eq 8, 3) := by decide +kernel
theorem dX11_readsRun_22 : decode cX11_readsRun 22 = .ok (.aload_n 0, 1) := by decide +kernel
theorem dX11_readsRun_23 : decode cX11_readsRun 23 = .ok (.invokevirtual 264, 3) := by decide +kernel
theorem dX11_readsRun_26 : decode cX11_readsRun 26 = .ok (.istore_n 3, 1) := by decide +kernel
theorem dX11_readsRun_27 : decode cX11_readsRun 27 = .ok (.iload_n 3, 1) := by decide +kernel
theorem dX11_readsRun_28 : decode cX11_readsRun 28 = .ok (.ifCond .ge 5, 3) := by decide +kernel
theorem dX11_readsRun_31 : decode cX11_readsRun 31 = .ok (.iconst 0, 1) := by decide +kernel
theorem dX11_readsRun_32 : decode cX11_readsRun 32 = .ok (.ireturn, 1) := by decide +kernel
theorem dX11_readsRun_33 : decode cX11_readsRun 33 = .ok (.aload_n 0, 1) := by decide +kernel
theorem dX11_readsRun_34 : decode cX11_readsRun 34 = .ok (.iload_n 1, 1) := by decide +kernel
theorem dX11_readsRun_35 : decode cX11_readsRun 35 = .ok (.iload_n 2, 1) := by decide +kernel
theorem dX11_readsRun_36 : decode cX11_readsRun 36 = .ok (.iload_n 3, 1) := by decide +kernel
theorem dX11_readsRun_37 : decode cX11_readsRun 37 = .ok (.invokevirtual 270, 3) := by decide +kernel
theorem dX11_readsRun_40 : decode cX11_readsRun 40 = .ok (.iconst 1, 1) := by decide +kernel
theorem dX11_readsRun_41 : decode cX11_readsRun 41 = .ok (.ireturn, 1) := by decide +kernel
set_option maxRecDepth 20000 in
theorem ggX11_readsRow_X11_takes : GoodIn wsX11_readsRow wsX11_takes := goodIn_r _ [6, 1, 7, 8, 9, 5, 10, 11, 12, 13, 14, 15, 16, 39, 40, 41, 42, 43, 44, 45, 46, 47, 48, 49, 50, 51, 52, 53, 54, 55, 56, 57] (by decide +kernel) (by decide +kernel)
set_option maxRecDepth 20000 in
theorem gX11_readsRow_X11_takes : GoodIn wsX11_readsRow (wsV RX11 267 RX11 yX11_takes wsX11_takes) := goodIn_app (goodIn_of _ (by decide +kernel)) ggX11_readsRow_X11_takes
set_option maxRecDepth 20000 in
theorem ggX11_readsRow_X11_sign : GoodIn wsX11_readsRow wsX11_sign := goodIn_r _ [10, 1, 11, 12, 13, 5, 14, 15, 16, 39, 40, 41, 42, 43, 44, 45, 46, 47, 48, 49, 50, 51, 52, 53, 54, 55, 56, 57] (by decide +kernel) (by decide +kernel)
set_option maxRecDepth 20000 in
theorem gX11_readsRow_X11_sign : GoodIn wsX11_readsRow (wsV RX11 258 RX11 yX11_sign wsX11_sign) := goodIn_app (goodIn_of _ (by decide +kernel)) ggX11_readsRow_X11_sign
set_option maxRecDepth 20000 in
theorem ggX11_readsRow_X11_in : GoodIn wsX11_readsRow wsX11_in := goodIn_r _ [19] (by decide +kernel) (by decide +kernel)
set_option maxRecDepth 20000 in
theorem gX11_readsRow_X11_in : GoodIn wsX11_readsRow (va_wsS RX11 70 yX11_in wsX11_in) := goodIn_app (goodIn_of _ (by decide +kernel)) ggX11_readsRow_X11_in
set_option maxRecDepth 20000 in
theorem ggX11_readsRow_X11_readsRun : GoodIn wsX11_readsRow wsX11_readsRun := goodIn_r _ [23, 24, 25, 26, 5, 27, 1, 15, 16, 7, 8, 9, 10, 11, 12, 13, 14, 28, 29, 30, 2, 3, 4, 6, 31, 32, 33, 34, 35, 36, 37, 38, 39, 40, 41, 42, 43, 44, 45, 46, 47, 48, 49, 50, 51, 52, 53, 54, 55, 56, 57] (by decide +kernel) (by decide +kernel)
set_option maxRecDepth 20000 in
theorem gX11_readsRow_X11_readsRun : GoodIn wsX11_readsRow (wsV RX11 274 RX11 yX11_readsRun wsX11_readsRun) := goodIn_app (goodIn_of _ (by decide +kernel)) ggX11_readsRow_X11_readsRun
theorem dX11_readsRow_0 : decode cX11_readsRow 0 = .ok (.aload_n 0, 1) := by decide +kernel
theorem dX11_readsRow_1 : decode cX11_readsRow 1 = .ok (.bipush 45, 2) := by decide +kernel
theorem dX11_readsRow_3 : decode cX11_readsRow 3 = .ok (.invokevirtual 267, 3) := by decide +kernel
theorem dX11_readsRow_6 : decode cX11_readsRow 6 = .ok (.istore_n 1, 1) := by decide +kernel
theorem dX11_readsRow_7 : decode cX11_readsRow 7 = .ok (.aload_n 0, 1) := by decide +kernel
theorem dX11_readsRow_8 : decode cX11_readsRow 8 = .ok (.invokevirtual 258, 3) := by decide +kernel
theorem dX11_readsRow_11 : decode cX11_readsRow 11 = .ok (.istore_n 2, 1) := by decide +kernel
theorem dX11_readsRow_12 : decode cX11_readsRow 12 = .ok (.iload_n 2, 1) := by decide +kernel
theorem dX11_readsRow_13 : decode cX11_readsRow 13 = .ok (.bipush 48, 2) := by decide +kernel
theorem dX11_readsRow_15 : decode cX11_readsRow 15 = .ok (.bipush 54, 2) := by decide +kernel
theorem dX11_readsRow_17 : decode cX11_readsRow 17 = .ok (.invokestatic 70, 3) := by decide +kernel
theorem dX11_readsRow_20 : decode cX11_readsRow 20 = .ok (.ifCond .ne 5, 3) := by decide +kernel
theorem dX11_readsRow_23 : decode cX11_readsRow 23 = .ok (.iconst 0, 1) := by decide +kernel
theorem dX11_readsRow_24 : decode cX11_readsRow 24 = .ok (.ireturn, 1) := by decide +kernel
theorem dX11_readsRow_25 : decode cX11_readsRow 25 = .ok (.aload_n 0, 1) := by decide +kernel
theorem dX11_readsRow_26 : decode cX11_readsRow 26 = .ok (.dup, 1) := by decide +kernel
theorem dX11_readsRow_27 : decode cX11_readsRow 27 = .ok (.getfield 252, 3) := by decide +kernel
theorem dX11_readsRow_30 : decode cX11_readsRow 30 = .ok (.iconst 1, 1) := by decide +kernel
theorem dX11_readsRow_31 : decode cX11_readsRow 31 = .ok (.iadd, 1) := by decide +kernel
theorem dX11_readsRow_32 : decode cX11_readsRow 32 = .ok (.putfield 252, 3) := by decide +kernel
theorem dX11_readsRow_35 : decode cX11_readsRow 35 = .ok (.iload_n 1, 1) := by decide +kernel
theorem dX11_readsRow_36 : decode cX11_readsRow 36 = .ok (.ifCond .eq 10, 3) := by decide +kernel
theorem dX11_readsRow_39 : decode cX11_readsRow 39 = .ok (.bipush 48, 2) := by decide +kernel
theorem dX11_readsRow_41 : decode cX11_readsRow 41 = .ok (.iload_n 2, 1) := by decide +kernel
theorem dX11_readsRow_42 : decode cX11_readsRow 42 = .ok (.isub, 1) := by decide +kernel
theorem dX11_readsRow_43 : decode cX11_readsRow 43 = .ok (.goto 7, 3) := by decide +kernel
theorem dX11_readsRow_46 : decode cX11_readsRow 46 = .ok (.iload_n 2, 1) := by decide +kernel
theorem dX11_readsRow_47 : decode cX11_readsRow 47 = .ok (.bipush 48, 2) := by decide +kernel
theorem dX11_readsRow_49 : decode cX11_readsRow 49 = .ok (.isub, 1) := by decide +kernel
theorem dX11_readsRow_50 : decode cX11_readsRow 50 = .ok (.istore_n 3, 1) := by decide +kernel
theorem dX11_readsRow_51 : decode cX11_readsRow 51 = .ok (.aload_n 0, 1) := by decide +kernel
theorem dX11_readsRow_52 : decode cX11_readsRow 52 = .ok (.bipush 58, 2) := by decide +kernel
theorem dX11_readsRow_54 : decode cX11_readsRow 54 = .ok (.invokevirtual 267, 3) := by decide +kernel
theorem dX11_readsRow_57 : decode cX11_readsRow 57 = .ok (.ifCond .ne 5, 3) := by decide +kernel
theorem dX11_readsRow_60 : decode cX11_readsRow 60 = .ok (.iconst 0, 1) := by decide +kernel
theorem dX11_readsRow_61 : decode cX11_readsRow 61 = .ok (.ireturn, 1) := by decide +kernel
theorem dX11_readsRow_62 : decode cX11_readsRow 62 = .ok (.aload_n 0, 1) := by decide +kernel
theorem dX11_readsRow_63 : decode cX11_readsRow 63 = .ok (.iload_n 3, 1) := by decide +kernel
theorem dX11_readsRow_64 : decode cX11_readsRow 64 = .ok (.invokevirtual 274, 3) := by decide +kernel
theorem dX11_readsRow_67 : decode cX11_readsRow 67 = .ok (.istore 4, 2) := by decide +kernel
theorem dX11_readsRow_69 : decode cX11_readsRow 69 = .ok (.iload 4, 2) := by decide +kernel
theorem dX11_readsRow_71 : decode cX11_readsRow 71 = .ok (.ifCond .eq 22, 3) := by decide +kernel
theorem dX11_readsRow_74 : decode cX11_readsRow 74 = .ok (.aload_n 0, 1) := by decide +kernel
theorem dX11_readsRow_75 : decode cX11_readsRow 75 = .ok (.bipush 44, 2) := by decide +kernel
theorem dX11_readsRow_77 : decode cX11_readsRow 77 = .ok (.invokevirtual 267, 3) := by decide +kernel
theorem dX11_readsRow_80 : decode cX11_readsRow 80 = .ok (.ifCond .eq 13, 3) := by decide +kernel
theorem dX11_readsRow_83 : decode cX11_readsRow 83 = .ok (.aload_n 0, 1) := by decide +kernel
theorem dX11_readsRow_84 : decode cX11_readsRow 84 = .ok (.iload_n 3, 1) := by decide +kernel
theorem dX11_readsRow_85 : decode cX11_readsRow 85 = .ok (.invokevirtual 274, 3) := by decide +kernel
theorem dX11_readsRow_88 : decode cX11_readsRow 88 = .ok (.istore 4, 2) := by decide +kernel
theorem dX11_readsRow_90 : decode cX11_readsRow 90 = .ok (.goto (-21), 3) := by decide +kernel
theorem dX11_readsRow_93 : decode cX11_readsRow 93 = .ok (.iload 4, 2) := by decide +kernel
theorem dX11_readsRow_95 : decode cX11_readsRow 95 = .ok (.ireturn, 1) := by decide +kernel
set_option maxRecDepth 20000 in
theorem ggX11_reads_X11_readsRow : GoodIn wsX11_reads wsX11_readsRow := goodIn_r _ [7, 1, 8, 9, 10, 6, 11, 12, 13, 14, 15, 16, 17, 18, 19, 20, 21, 22, 23, 24, 25, 26, 27, 28, 29, 30, 31, 32, 33, 34, 35, 36, 37, 38, 39, 2, 40, 41, 42, 43, 44, 45, 46, 47, 48, 49, 50, 51, 52, 53, 54, 55, 56, 57, 58, 59, 60, 61] (by decide +kernel) (by decide +kernel)
set_option maxRecDepth 20000 in
theorem gX11_reads_X11_readsRow : GoodIn wsX11_reads (wsV RX11 277 RX11 yX11_readsRow wsX11_readsRow) := goodIn_app (goodIn_of _ (by decide +kernel)) ggX11_reads_X11_readsRow
set_option maxRecDepth 20000 in
theorem ggX11_reads_X11_takes : GoodIn wsX11_reads wsX11_takes := goodIn_r _ [11, 1, 12, 13, 14, 6, 15, 16, 17, 18, 19, 20, 21, 43, 44, 45, 46, 47, 48, 49, 50, 51, 52, 53, 54, 55, 56, 57, 58, 59, 60, 61] (by decide +kernel) (by decide +kernel)
set_option maxRecDepth 20000 in
theorem gX11_reads_X11_takes : GoodIn wsX11_reads (wsV RX11 267 RX11 yX11_takes wsX11_takes) := goodIn_app (goodIn_of _ (by decide +kernel)) ggX11_reads_X11_takes
set_option maxRecDepth 20000 in
theorem ggX11_reads_X11_sign : GoodIn wsX11_reads wsX11_sign := goodIn_r _ [15, 1, 16, 17, 18, 6, 19, 20, 21, 43, 44, 45, 46, 47, 48, 49, 50, 51, 52, 53, 54, 55, 56, 57, 58, 59, 60, 61] (by decide +kernel) (by decide +kernel)
set_option maxRecDepth 20000 in
theorem gX11_reads_X11_sign : GoodIn wsX11_reads (wsV RX11 258 RX11 yX11_sign wsX11_sign) := goodIn_app (goodIn_of _ (by decide +kernel)) ggX11_reads_X11_sign
theorem dX11_reads_0 : decode cX11_reads 0 = .ok (.aload_n 0, 1) := by decide +kernel
theorem dX11_reads_1 : decode cX11_reads 1 = .ok (.iconst 0, 1) := by decide +kernel
theorem dX11_reads_2 : decode cX11_reads 2 = .ok (.putfield 252, 3) := by decide +kernel
theorem dX11_reads_5 : decode cX11_reads 5 = .ok (.iconst 0, 1) := by decide +kernel
theorem dX11_reads_6 : decode cX11_reads 6 = .ok (.istore_n 1, 1) := by decide +kernel
theorem dX11_reads_7 : decode cX11_reads 7 = .ok (.iload_n 1, 1) := by decide +kernel
theorem dX11_reads_8 : decode cX11_reads 8 = .ok (.sipush 266, 3) := by decide +kernel
theorem dX11_reads_11 : decode cX11_reads 11 = .ok (.if_icmp .ge 16, 3) := by decide +kernel
theorem dX11_reads_14 : decode cX11_reads 14 = .ok (.aload_n 0, 1) := by decide +kernel
theorem dX11_reads_15 : decode cX11_reads 15 = .ok (.getfield 54, 3) := by decide +kernel
theorem dX11_reads_18 : decode cX11_reads 18 = .ok (.iload_n 1, 1) := by decide +kernel
theorem dX11_reads_19 : decode cX11_reads 19 = .ok (.iconst 0, 1) := by decide +kernel
theorem dX11_reads_20 : decode cX11_reads 20 = .ok (.iastore, 1) := by decide +kernel
theorem dX11_reads_21 : decode cX11_reads 21 = .ok (.iinc 1 1, 3) := by decide +kernel
theorem dX11_reads_24 : decode cX11_reads 24 = .ok (.goto (-17), 3) := by decide +kernel
theorem dX11_reads_27 : decode cX11_reads 27 = .ok (.aload_n 0, 1) := by decide +kernel
theorem dX11_reads_28 : decode cX11_reads 28 = .ok (.invokevirtual 277, 3) := by decide +kernel
theorem dX11_reads_31 : decode cX11_reads 31 = .ok (.istore_n 1, 1) := by decide +kernel
theorem dX11_reads_32 : decode cX11_reads 32 = .ok (.iload_n 1, 1) := by decide +kernel
theorem dX11_reads_33 : decode cX11_reads 33 = .ok (.ifCond .eq 20, 3) := by decide +kernel
theorem dX11_reads_36 : decode cX11_reads 36 = .ok (.aload_n 0, 1) := by decide +kernel
theorem dX11_reads_37 : decode cX11_reads 37 = .ok (.bipush 59, 2) := by decide +kernel
theorem dX11_reads_39 : decode cX11_reads 39 = .ok (.invokevirtual 267, 3) := by decide +kernel
theorem dX11_reads_42 : decode cX11_reads 42 = .ok (.ifCond .eq 11, 3) := by decide +kernel
theorem dX11_reads_45 : decode cX11_reads 45 = .ok (.aload_n 0, 1) := by decide +kernel
theorem dX11_reads_46 : decode cX11_reads 46 = .ok (.invokevirtual 277, 3) := by decide +kernel
theorem dX11_reads_49 : decode cX11_reads 49 = .ok (.istore_n 1, 1) := by decide +kernel
theorem dX11_reads_50 : decode cX11_reads 50 = .ok (.goto (-18), 3) := by decide +kernel
theorem dX11_reads_53 : decode cX11_reads 53 = .ok (.iload_n 1, 1) := by decide +kernel
theorem dX11_reads_54 : decode cX11_reads 54 = .ok (.ifCond .eq 14, 3) := by decide +kernel
theorem dX11_reads_57 : decode cX11_reads 57 = .ok (.aload_n 0, 1) := by decide +kernel
theorem dX11_reads_58 : decode cX11_reads 58 = .ok (.invokevirtual 258, 3) := by decide +kernel
theorem dX11_reads_61 : decode cX11_reads 61 = .ok (.ifCond .ne 7, 3) := by decide +kernel
theorem dX11_reads_64 : decode cX11_reads 64 = .ok (.iconst 1, 1) := by decide +kernel
theorem dX11_reads_65 : decode cX11_reads 65 = .ok (.goto 4, 3) := by decide +kernel
theorem dX11_reads_68 : decode cX11_reads 68 = .ok (.iconst 0, 1) := by decide +kernel
theorem dX11_reads_69 : decode cX11_reads 69 = .ok (.ireturn, 1) := by decide +kernel
set_option maxRecDepth 20000 in
theorem ggX11_read_X11_reads : GoodIn wsX11_read wsX11_reads := goodIn_r _ [9, 2, 3, 10, 11, 12, 8, 13, 14, 15, 16, 17, 18, 19, 20, 21, 22, 23, 24, 25, 1, 26, 27, 28, 29, 30, 31, 32, 33, 34, 35, 36, 37, 38, 39, 40, 41, 42, 43, 44, 45, 46, 47, 61, 62, 63, 64, 65, 66, 67, 68, 69, 70, 71, 72, 73, 74, 75, 76, 77, 78, 79] (by decide +kernel) (by decide +kernel)
set_option maxRecDepth 20000 in
theorem gX11_read_X11_reads : GoodIn wsX11_read (wsV RX11 281 RX11 yX11_reads wsX11_reads) := goodIn_app (goodIn_of _ (by decide +kernel)) ggX11_read_X11_reads
set_option maxRecDepth 20000 in
theorem ggX11_read_X11_notes : GoodIn wsX11_read wsX11_notes := goodIn_r _ [51, 52, 53, 4, 54, 55, 8, 56, 61, 62, 63, 64, 65, 66, 67, 68, 69, 70, 71, 72, 73, 74, 75, 76, 77, 78, 79] (by decide +kernel) (by decide +kernel)
set_option maxRecDepth 20000 in
theorem gX11_read_X11_notes : GoodIn wsX11_read (wsV RX11 237 RX11 yX11_notes wsX11_notes) := goodIn_app (goodIn_of _ (by decide +kernel)) ggX11_read_X11_notes
set_option maxRecDepth 20000 in
theorem ggX11_read_X11_bring : GoodIn wsX11_read wsX11_bring := goodIn_r _ [56] (by decide +kernel) (by decide +kernel)
set_option maxRecDepth 20000 in
theorem gX11_read_X11_bring : GoodIn wsX11_read (va_wsS RX11 233 yX11_bring wsX11_bring) := goodIn_app (goodIn_of _ (by decide +kernel)) ggX11_read_X11_bring
set_option maxRecDepth 20000 in
theorem ggX11_read_X11_landMany : GoodIn wsX11_read wsX11_landMany := goodIn_r _ [60, 4, 61, 62, 63, 64, 65, 66, 67, 68, 69, 70, 71, 72, 73, 74, 75, 76, 77, 78, 79] (by decide +kernel) (by decide +kernel)
set_option maxRecDepth 20000 in
theorem gX11_read_X11_landMany : GoodIn wsX11_read (wsV RX11 224 RX11 yX11_landMany wsX11_landMany) := goodIn_app (goodIn_of _ (by decide +kernel)) ggX11_read_X11_landMany
theorem dX11_read_0 : decode cX11_read 0 = .ok (.aload_n 0, 1) := by decide +kernel
theorem dX11_read_1 : decode cX11_read 1 = .ok (.invokevirtual 281, 3) := by decide +kernel
theorem dX11_read_4 : decode cX11_read 4 = .ok (.istore_n 1, 1) := by decide +kernel
theorem dX11_read_5 : decode cX11_read 5 = .ok (.aload_n 0, 1) := by decide +kernel
theorem dX11_read_6 : decode cX11_read 6 = .ok (.iconst 0, 1) := by decide +kernel
theorem dX11_read_7 : decode cX11_read 7 = .ok (.putfield 249, 3) := by decide +kernel
theorem dX11_read_10 : decode cX11_read 10 = .ok (.iload_n 1, 1) := by decide +kernel
theorem dX11_read_11 : decode cX11_read 11 = .ok (.ifCond .ne 11, 3) := by decide +kernel
theorem dX11_read_14 : decode cX11_read 14 = .ok (.bipush (-20), 2) := by decide +kernel
theorem dX11_read_16 : decode cX11_read 16 = .ok (.aload_n 0, 1) := by decide +kernel
theorem dX11_read_17 : decode cX11_read 17 = .ok (.getfield 252, 3) := by decide +kernel
theorem dX11_read_20 : decode cX11_read 20 = .ok (.isub, 1) := by decide +kernel
theorem dX11_read_21 : decode cX11_read 21 = .ok (.ireturn, 1) := by decide +kernel
theorem dX11_read_22 : decode cX11_read 22 = .ok (.aload_n 0, 1) := by decide +kernel
theorem dX11_read_23 : decode cX11_read 23 = .ok (.invokevirtual 237, 3) := by decide +kernel
theorem dX11_read_26 : decode cX11_read 26 = .ok (.aload_n 0, 1) := by decide +kernel
theorem dX11_read_27 : decode cX11_read 27 = .ok (.getfield 54, 3) := by decide +kernel
theorem dX11_read_30 : decode cX11_read 30 = .ok (.iconst 0, 1) := by decide +kernel
theorem dX11_read_31 : decode cX11_read 31 = .ok (.aload_n 0, 1) := by decide +kernel
theorem dX11_read_32 : decode cX11_read 32 = .ok (.getfield 7, 3) := by decide +kernel
theorem dX11_read_35 : decode cX11_read 35 = .ok (.iconst 0, 1) := by decide +kernel
theorem dX11_read_36 : decode cX11_read 36 = .ok (.sipush 266, 3) := by decide +kernel
theorem dX11_read_39 : decode cX11_read 39 = .ok (.invokestatic 233, 3) := by decide +kernel
theorem dX11_read_42 : decode cX11_read 42 = .ok (.aload_n 0, 1) := by decide +kernel
theorem dX11_read_43 : decode cX11_read 43 = .ok (.invokevirtual 224, 3) := by decide +kernel
theorem dX11_read_46 : decode cX11_read 46 = .ok (.ireturn, 1) := by decide +kernel
set_option maxRecDepth 20000 in
theorem ggX11_turnsOnce_X11_notes : GoodIn wsX11_turnsOnce wsX11_notes := goodIn_r _ [10, 11, 12, 1, 13, 14, 9, 15, 16, 17, 18, 19, 20, 21, 22, 23, 24, 25, 26, 27, 28, 29, 30, 31, 32, 33, 34] (by decide +kernel) (by decide +kernel)
set_option maxRecDepth 20000 in
theorem gX11_turnsOnce_X11_notes : GoodIn wsX11_turnsOnce (wsV RX11 237 RX11 yX11_notes wsX11_notes) := goodIn_app (goodIn_of _ (by decide +kernel)) ggX11_turnsOnce_X11_notes
theorem dX11_turnsOnce_0 : decode cX11_turnsOnce 0 = .ok (.aload_n 0, 1) := by decide +kernel
theorem dX11_turnsOnce_1 : decode cX11_turnsOnce 1 = .ok (.invokevirtual 237, 3) := by decide +kernel
theorem dX11_turnsOnce_4 : decode cX11_turnsOnce 4 = .ok (.aload_n 0, 1) := by decide +kernel
theorem dX11_turnsOnce_5 : decode cX11_turnsOnce 5 = .ok (.getfield 7, 3) := by decide +kernel
theorem dX11_turnsOnce_8 : decode cX11_turnsOnce 8 = .ok (.sipush 278, 3) := by decide +kernel
theorem dX11_turnsOnce_11 : decode cX11_turnsOnce 11 = .ok (.iaload, 1) := by decide +kernel
theorem dX11_turnsOnce_12 : decode cX11_turnsOnce 12 = .ok (.i2l, 1) := by decide +kernel
theorem dX11_turnsOnce_13 : decode cX11_turnsOnce 13 = .ok (.ldc2_w 284, 3) := by decide +kernel
theorem dX11_turnsOnce_16 : decode cX11_turnsOnce 16 = .ok (.lmul, 1) := by decide +kernel
theorem dX11_turnsOnce_17 : decode cX11_turnsOnce 17 = .ok (.ldc2_w 286, 3) := by decide +kernel
theorem dX11_turnsOnce_20 : decode cX11_turnsOnce 20 = .ok (.ladd, 1) := by decide +kernel
theorem dX11_turnsOnce_21 : decode cX11_turnsOnce 21 = .ok (.lstore_n 1, 1) := by decide +kernel
theorem dX11_turnsOnce_22 : decode cX11_turnsOnce 22 = .ok (.aload_n 0, 1) := by decide +kernel
theorem dX11_turnsOnce_23 : decode cX11_turnsOnce 23 = .ok (.getfield 7, 3) := by decide +kernel
theorem dX11_turnsOnce_26 : decode cX11_turnsOnce 26 = .ok (.sipush 278, 3) := by decide +kernel
theorem dX11_turnsOnce_29 : decode cX11_turnsOnce 29 = .ok (.lload_n 1, 1) := by decide +kernel
theorem dX11_turnsOnce_30 : decode cX11_turnsOnce 30 = .ok (.ldc2_w 288, 3) := by decide +kernel
theorem dX11_turnsOnce_33 : decode cX11_turnsOnce 33 = .ok (.lrem, 1) := by decide +kernel
theorem dX11_turnsOnce_34 : decode cX11_turnsOnce 34 = .ok (.l2i, 1) := by decide +kernel
theorem dX11_turnsOnce_35 : decode cX11_turnsOnce 35 = .ok (.iastore, 1) := by decide +kernel
theorem dX11_turnsOnce_36 : decode cX11_turnsOnce 36 = .ok (.aload_n 0, 1) := by decide +kernel
theorem dX11_turnsOnce_37 : decode cX11_turnsOnce 37 = .ok (.getfield 7, 3) := by decide +kernel
theorem dX11_turnsOnce_40 : decode cX11_turnsOnce 40 = .ok (.sipush 278, 3) := by decide +kernel
theorem dX11_turnsOnce_43 : decode cX11_turnsOnce 43 = .ok (.iaload, 1) := by decide +kernel
theorem dX11_turnsOnce_44 : decode cX11_turnsOnce 44 = .ok (.ldc_w 290, 3) := by decide +kernel
theorem dX11_turnsOnce_47 : decode cX11_turnsOnce 47 = .ok (.idiv, 1) := by decide +kernel
theorem dX11_turnsOnce_48 : decode cX11_turnsOnce 48 = .ok (.sipush 266, 3) := by decide +kernel
theorem dX11_turnsOnce_51 : decode cX11_turnsOnce 51 = .ok (.irem, 1) := by decide +kernel
theorem dX11_turnsOnce_52 : decode cX11_turnsOnce 52 = .ok (.istore_n 3, 1) := by decide +kernel
theorem dX11_turnsOnce_53 : decode cX11_turnsOnce 53 = .ok (.aload_n 0, 1) := by decide +kernel
theorem dX11_turnsOnce_54 : decode cX11_turnsOnce 54 = .ok (.getfield 7, 3) := by decide +kernel
theorem dX11_turnsOnce_57 : decode cX11_turnsOnce 57 = .ok (.iload_n 3, 1) := by decide +kernel
theorem dX11_turnsOnce_58 : decode cX11_turnsOnce 58 = .ok (.iconst 1, 1) := by decide +kernel
theorem dX11_turnsOnce_59 : decode cX11_turnsOnce 59 = .ok (.aload_n 0, 1) := by decide +kernel
theorem dX11_turnsOnce_60 : decode cX11_turnsOnce 60 = .ok (.getfield 7, 3) := by decide +kernel
theorem dX11_turnsOnce_63 : decode cX11_turnsOnce 63 = .ok (.iload_n 3, 1) := by decide +kernel
theorem dX11_turnsOnce_64 : decode cX11_turnsOnce 64 = .ok (.iaload, 1) := by decide +kernel
theorem dX11_turnsOnce_65 : decode cX11_turnsOnce 65 = .ok (.isub, 1) := by decide +kernel
theorem dX11_turnsOnce_66 : decode cX11_turnsOnce 66 = .ok (.iastore, 1) := by decide +kernel
theorem dX11_turnsOnce_67 : decode cX11_turnsOnce 67 = .ok (.return_, 1) := by decide +kernel
set_option maxRecDepth 20000 in
theorem ggX11_drift_X11_in : GoodIn wsX11_drift wsX11_in := goodIn_r _ [4] (by decide +kernel) (by decide +kernel)
set_option maxRecDepth 20000 in
theorem gX11_drift_X11_in : GoodIn wsX11_drift (va_wsS RX11 70 yX11_in wsX11_in) := goodIn_app (goodIn_of _ (by decide +kernel)) ggX11_drift_X11_in
set_option maxRecDepth 20000 in
theorem ggX11_drift_X11_turnsOnce : GoodIn wsX11_drift wsX11_turnsOnce := goodIn_r _ [8, 9, 10, 11, 12, 13, 14, 15, 16, 3, 17, 18, 19, 20, 21, 22, 27, 28, 29, 30, 31, 32, 33, 34, 35, 36, 37, 38, 39, 40, 41, 42, 43, 44, 45] (by decide +kernel) (by decide +kernel)
set_option maxRecDepth 20000 in
theorem gX11_drift_X11_turnsOnce : GoodIn wsX11_drift (wsV RX11 291 RX11 yX11_turnsOnce wsX11_turnsOnce) := goodIn_app (goodIn_of _ (by decide +kernel)) ggX11_drift_X11_turnsOnce
set_option maxRecDepth 20000 in
theorem ggX11_drift_X11_landMany : GoodIn wsX11_drift wsX11_landMany := goodIn_r _ [26, 9, 27, 28, 29, 30, 31, 32, 33, 34, 35, 36, 37, 38, 39, 40, 41, 42, 43, 44, 45] (by decide +kernel) (by decide +kernel)
set_option maxRecDepth 20000 in
theorem gX11_drift_X11_landMany : GoodIn wsX11_drift (wsV RX11 224 RX11 yX11_landMany wsX11_landMany) := goodIn_app (goodIn_of _ (by decide +kernel)) ggX11_drift_X11_landMany
theorem dX11_drift_0 : decode cX11_drift 0 = .ok (.iload_n 1, 1) := by decide +kernel
theorem dX11_drift_1 : decode cX11_drift 1 = .ok (.iconst 1, 1) := by decide +kernel
theorem dX11_drift_2 : decode cX11_drift 2 = .ok (.bipush 40, 2) := by decide +kernel
theorem dX11_drift_4 : decode cX11_drift 4 = .ok (.invokestatic 70, 3) := by decide +kernel
theorem dX11_drift_7 : decode cX11_drift 7 = .ok (.ifCond .ne 5, 3) := by decide +kernel
theorem dX11_drift_10 : decode cX11_drift 10 = .ok (.iconst (-1), 1) := by decide +kernel
theorem dX11_drift_11 : decode cX11_drift 11 = .ok (.ireturn, 1) := by decide +kernel
theorem dX11_drift_12 : decode cX11_drift 12 = .ok (.iconst 0, 1) := by decide +kernel
theorem dX11_drift_13 : decode cX11_drift 13 = .ok (.istore_n 2, 1) := by decide +kernel
theorem dX11_drift_14 : decode cX11_drift 14 = .ok (.iload_n 2, 1) := by decide +kernel
theorem dX11_drift_15 : decode cX11_drift 15 = .ok (.iload_n 1, 1) := by decide +kernel
theorem dX11_drift_16 : decode cX11_drift 16 = .ok (.if_icmp .ge 13, 3) := by decide +kernel
theorem dX11_drift_19 : decode cX11_drift 19 = .ok (.aload_n 0, 1) := by decide +kernel
theorem dX11_drift_20 : decode cX11_drift 20 = .ok (.invokevirtual 291, 3) := by decide +kernel
theorem dX11_drift_23 : decode cX11_drift 23 = .ok (.iinc 2 1, 3) := by decide +kernel
theorem dX11_drift_26 : decode cX11_drift 26 = .ok (.goto (-12), 3) := by decide +kernel
theorem dX11_drift_29 : decode cX11_drift 29 = .ok (.aload_n 0, 1) := by decide +kernel
theorem dX11_drift_30 : decode cX11_drift 30 = .ok (.invokevirtual 224, 3) := by decide +kernel
theorem dX11_drift_33 : decode cX11_drift 33 = .ok (.ireturn, 1) := by decide +kernel
set_option maxRecDepth 20000 in
theorem ggX11_undo_X11_bring : GoodIn wsX11_undo wsX11_bring := goodIn_r _ [7] (by decide +kernel) (by decide +kernel)
set_option maxRecDepth 20000 in
theorem gX11_undo_X11_bring : GoodIn wsX11_undo (va_wsS RX11 233 yX11_bring wsX11_bring) := goodIn_app (goodIn_of _ (by decide +kernel)) ggX11_undo_X11_bring
theorem dX11_undo_0 : decode cX11_undo 0 = .ok (.aload_n 0, 1) := by decide +kernel
theorem dX11_undo_1 : decode cX11_undo 1 = .ok (.getfield 230, 3) := by decide +kernel
theorem dX11_undo_4 : decode cX11_undo 4 = .ok (.ifCond .ne 6, 3) := by decide +kernel
theorem dX11_undo_7 : decode cX11_undo 7 = .ok (.bipush (-4), 2) := by decide +kernel
theorem dX11_undo_9 : decode cX11_undo 9 = .ok (.ireturn, 1) := by decide +kernel
theorem dX11_undo_10 : decode cX11_undo 10 = .ok (.aload_n 0, 1) := by decide +kernel
theorem dX11_undo_11 : decode cX11_undo 11 = .ok (.dup, 1) := by decide +kernel
theorem dX11_undo_12 : decode cX11_undo 12 = .ok (.getfield 230, 3) := by decide +kernel
theorem dX11_undo_15 : decode cX11_undo 15 = .ok (.iconst 1, 1) := by decide +kernel
theorem dX11_undo_16 : decode cX11_undo 16 = .ok (.isub, 1) := by decide +kernel
theorem dX11_undo_17 : decode cX11_undo 17 = .ok (.putfield 230, 3) := by decide +kernel
theorem dX11_undo_20 : decode cX11_undo 20 = .ok (.aload_n 0, 1) := by decide +kernel
theorem dX11_undo_21 : decode cX11_undo 21 = .ok (.getfield 13, 3) := by decide +kernel
theorem dX11_undo_24 : decode cX11_undo 24 = .ok (.sipush 279, 3) := by decide +kernel
theorem dX11_undo_27 : decode cX11_undo 27 = .ok (.aload_n 0, 1) := by decide +kernel
theorem dX11_undo_28 : decode cX11_undo 28 = .ok (.getfield 230, 3) := by decide +kernel
theorem dX11_undo_31 : decode cX11_undo 31 = .ok (.imul, 1) := by decide +kernel
theorem dX11_undo_32 : decode cX11_undo 32 = .ok (.aload_n 0, 1) := by decide +kernel
theorem dX11_undo_33 : decode cX11_undo 33 = .ok (.getfield 7, 3) := by decide +kernel
theorem dX11_undo_36 : decode cX11_undo 36 = .ok (.iconst 0, 1) := by decide +kernel
theorem dX11_undo_37 : decode cX11_undo 37 = .ok (.sipush 279, 3) := by decide +kernel
theorem dX11_undo_40 : decode cX11_undo 40 = .ok (.invokestatic 233, 3) := by decide +kernel
theorem dX11_undo_43 : decode cX11_undo 43 = .ok (.aload_n 0, 1) := by decide +kernel
theorem dX11_undo_44 : decode cX11_undo 44 = .ok (.getfield 230, 3) := by decide +kernel
theorem dX11_undo_47 : decode cX11_undo 47 = .ok (.ireturn, 1) := by decide +kernel
theorem dX11_seed_0 : decode cX11_seed 0 = .ok (.iload_n 1, 1) := by decide +kernel
theorem dX11_seed_1 : decode cX11_seed 1 = .ok (.ifCond .ge 5, 3) := by decide +kernel
theorem dX11_seed_4 : decode cX11_seed 4 = .ok (.iconst (-1), 1) := by decide +kernel
theorem dX11_seed_5 : decode cX11_seed 5 = .ok (.ireturn, 1) := by decide +kernel
theorem dX11_seed_6 : decode cX11_seed 6 = .ok (.aload_n 0, 1) := by decide +kernel
theorem dX11_seed_7 : decode cX11_seed 7 = .ok (.getfield 7, 3) := by decide +kernel
theorem dX11_seed_10 : decode cX11_seed 10 = .ok (.sipush 278, 3) := by decide +kernel
theorem dX11_seed_13 : decode cX11_seed 13 = .ok (.iaload, 1) := by decide +kernel
theorem dX11_seed_14 : decode cX11_seed 14 = .ok (.istore_n 2, 1) := by decide +kernel
theorem dX11_seed_15 : decode cX11_seed 15 = .ok (.aload_n 0, 1) := by decide +kernel
theorem dX11_seed_16 : decode cX11_seed 16 = .ok (.getfield 7, 3) := by decide +kernel
theorem dX11_seed_19 : decode cX11_seed 19 = .ok (.sipush 278, 3) := by decide +kernel
theorem dX11_seed_22 : decode cX11_seed 22 = .ok (.iload_n 1, 1) := by decide +kernel
theorem dX11_seed_23 : decode cX11_seed 23 = .ok (.iastore, 1) := by decide +kernel
theorem dX11_seed_24 : decode cX11_seed 24 = .ok (.iload_n 2, 1) := by decide +kernel
theorem dX11_seed_25 : decode cX11_seed 25 = .ok (.ireturn, 1) := by decide +kernel
set_option maxRecDepth 20000 in
theorem ggX11_image_X11_bring : GoodIn wsX11_image wsX11_bring := goodIn_r _ [10] (by decide +kernel) (by decide +kernel)
set_option maxRecDepth 20000 in
theorem gX11_image_X11_bring : GoodIn wsX11_image (va_wsS RX11 233 yX11_bring wsX11_bring) := goodIn_app (goodIn_of _ (by decide +kernel)) ggX11_image_X11_bring
theorem dX11_image_0 : decode cX11_image 0 = .ok (.aload_n 0, 1) := by decide +kernel
theorem dX11_image_1 : decode cX11_image 1 = .ok (.getfield 7, 3) := by decide +kernel
theorem dX11_image_4 : decode cX11_image 4 = .ok (.iconst 0, 1) := by decide +kernel
theorem dX11_image_5 : decode cX11_image 5 = .ok (.aload_n 0, 1) := by decide +kernel
theorem dX11_image_6 : decode cX11_image 6 = .ok (.getfield 16, 3) := by decide +kernel
theorem dX11_image_9 : decode cX11_image 9 = .ok (.iconst 0, 1) := by decide +kernel
theorem dX11_image_10 : decode cX11_image 10 = .ok (.sipush 279, 3) := by decide +kernel
theorem dX11_image_13 : decode cX11_image 13 = .ok (.invokestatic 233, 3) := by decide +kernel
theorem dX11_image_16 : decode cX11_image 16 = .ok (.aload_n 0, 1) := by decide +kernel
theorem dX11_image_17 : decode cX11_image 17 = .ok (.getfield 13, 3) := by decide +kernel
theorem dX11_image_20 : decode cX11_image 20 = .ok (.iconst 0, 1) := by decide +kernel
theorem dX11_image_21 : decode cX11_image 21 = .ok (.aload_n 0, 1) := by decide +kernel
theorem dX11_image_22 : decode cX11_image 22 = .ok (.getfield 19, 3) := by decide +kernel
theorem dX11_image_25 : decode cX11_image 25 = .ok (.iconst 0, 1) := by decide +kernel
theorem dX11_image_26 : decode cX11_image 26 = .ok (.sipush 1674, 3) := by decide +kernel
theorem dX11_image_29 : decode cX11_image 29 = .ok (.invokestatic 233, 3) := by decide +kernel
theorem dX11_image_32 : decode cX11_image 32 = .ok (.aload_n 0, 1) := by decide +kernel
theorem dX11_image_33 : decode cX11_image 33 = .ok (.aload_n 0, 1) := by decide +kernel
theorem dX11_image_34 : decode cX11_image 34 = .ok (.getfield 230, 3) := by decide +kernel
theorem dX11_image_37 : decode cX11_image 37 = .ok (.putfield 22, 3) := by decide +kernel
theorem dX11_image_40 : decode cX11_image 40 = .ok (.iconst 1, 1) := by decide +kernel
theorem dX11_image_41 : decode cX11_image 41 = .ok (.ireturn, 1) := by decide +kernel
set_option maxRecDepth 20000 in
theorem ggX11_restore_X11_bring : GoodIn wsX11_restore wsX11_bring := goodIn_r _ [10] (by decide +kernel) (by decide +kernel)
set_option maxRecDepth 20000 in
theorem gX11_restore_X11_bring : GoodIn wsX11_restore (va_wsS RX11 233 yX11_bring wsX11_bring) := goodIn_app (goodIn_of _ (by decide +kernel)) ggX11_restore_X11_bring
theorem dX11_restore_0 : decode cX11_restore 0 = .ok (.aload_n 0, 1) := by decide +kernel
theorem dX11_restore_1 : decode cX11_restore 1 = .ok (.getfield 22, 3) := by decide +kernel
theorem dX11_restore_4 : decode cX11_restore 4 = .ok (.ifCond .ge 6, 3) := by decide +kernel
theorem dX11_restore_7 : decode cX11_restore 7 = .ok (.bipush (-4), 2) := by decide +kernel
theorem dX11_restore_9 : decode cX11_restore 9 = .ok (.ireturn, 1) := by decide +kernel
theorem dX11_restore_10 : decode cX11_restore 10 = .ok (.aload_n 0, 1) := by decide +kernel
theorem dX11_restore_11 : decode cX11_restore 11 = .ok (.getfield 16, 3) := by decide +kernel
theorem dX11_restore_14 : decode cX11_restore 14 = .ok (.iconst 0, 1) := by decide +kernel
theorem dX11_restore_15 : decode cX11_restore 15 = .ok (.aload_n 0, 1) := by decide +kernel
theorem dX11_restore_16 : decode cX11_restore 16 = .ok (.getfield 7, 3) := by decide +kernel
theorem dX11_restore_19 : decode cX11_restore 19 = .ok (.iconst 0, 1) := by decide +kernel
theorem dX11_restore_20 : decode cX11_restore 20 = .ok (.sipush 279, 3) := by decide +kernel
theorem dX11_restore_23 : decode cX11_restore 23 = .ok (.invokestatic 233, 3) := by decide +kernel
theorem dX11_restore_26 : decode cX11_restore 26 = .ok (.aload_n 0, 1) := by decide +kernel
theorem dX11_restore_27 : decode cX11_restore 27 = .ok (.getfield 19, 3) := by decide +kernel
theorem dX11_restore_30 : decode cX11_restore 30 = .ok (.iconst 0, 1) := by decide +kernel
theorem dX11_restore_31 : decode cX11_restore 31 = .ok (.aload_n 0, 1) := by decide +kernel
theorem dX11_restore_32 : decode cX11_restore 32 = .ok (.getfield 13, 3) := by decide +kernel
theorem dX11_restore_35 : decode cX11_restore 35 = .ok (.iconst 0, 1) := by decide +kernel
theorem dX11_restore_36 : decode cX11_restore 36 = .ok (.sipush 1674, 3) := by decide +kernel
theorem dX11_restore_39 : decode cX11_restore 39 = .ok (.invokestatic 233, 3) := by decide +kernel
theorem dX11_restore_42 : decode cX11_restore 42 = .ok (.aload_n 0, 1) := by decide +kernel
theorem dX11_restore_43 : decode cX11_restore 43 = .ok (.aload_n 0, 1) := by decide +kernel
theorem dX11_restore_44 : decode cX11_restore 44 = .ok (.getfield 22, 3) := by decide +kernel
theorem dX11_restore_47 : decode cX11_restore 47 = .ok (.putfield 230, 3) := by decide +kernel
theorem dX11_restore_50 : decode cX11_restore 50 = .ok (.iconst 1, 1) := by decide +kernel
theorem dX11_restore_51 : decode cX11_restore 51 = .ok (.ireturn, 1) := by decide +kernel
set_option maxRecDepth 20000 in
theorem ggX11_isSheet_X11_in : GoodIn wsX11_isSheet wsX11_in := goodIn_r _ [4] (by decide +kernel) (by decide +kernel)
set_option maxRecDepth 20000 in
theorem gX11_isSheet_X11_in : GoodIn wsX11_isSheet (va_wsS RX11 70 yX11_in wsX11_in) := goodIn_app (goodIn_of _ (by decide +kernel)) ggX11_isSheet_X11_in
theorem dX11_isSheet_0 : decode cX11_isSheet 0 = .ok (.iload_n 0, 1) := by decide +kernel
theorem dX11_isSheet_1 : decode cX11_isSheet 1 = .ok (.iconst 0, 1) := by decide +kernel
theorem dX11_isSheet_2 : decode cX11_isSheet 2 = .ok (.iconst 3, 1) := by decide +kernel
theorem dX11_isSheet_3 : decode cX11_isSheet 3 = .ok (.invokestatic 70, 3) := by decide +kernel
theorem dX11_isSheet_6 : decode cX11_isSheet 6 = .ok (.ifCond .eq 16, 3) := by decide +kernel
theorem dX11_isSheet_9 : decode cX11_isSheet 9 = .ok (.iload_n 1, 1) := by decide +kernel
theorem dX11_isSheet_10 : decode cX11_isSheet 10 = .ok (.iconst 0, 1) := by decide +kernel
theorem dX11_isSheet_11 : decode cX11_isSheet 11 = .ok (.iconst 3, 1) := by decide +kernel
theorem dX11_isSheet_12 : decode cX11_isSheet 12 = .ok (.invokestatic 70, 3) := by decide +kernel
theorem dX11_isSheet_15 : decode cX11_isSheet 15 = .ok (.ifCond .eq 7, 3) := by decide +kernel
theorem dX11_isSheet_18 : decode cX11_isSheet 18 = .ok (.iconst 1, 1) := by decide +kernel
theorem dX11_isSheet_19 : decode cX11_isSheet 19 = .ok (.goto 4, 3) := by decide +kernel
theorem dX11_isSheet_22 : decode cX11_isSheet 22 = .ok (.iconst 0, 1) := by decide +kernel
theorem dX11_isSheet_23 : decode cX11_isSheet 23 = .ok (.ireturn, 1) := by decide +kernel
theorem dX11_found_0 : decode cX11_found 0 = .ok (.aload_n 0, 1) := by decide +kernel
theorem dX11_found_1 : decode cX11_found 1 = .ok (.getfield 29, 3) := by decide +kernel
theorem dX11_found_4 : decode cX11_found 4 = .ok (.iload_n 1, 1) := by decide +kernel
theorem dX11_found_5 : decode cX11_found 5 = .ok (.iaload, 1) := by decide +kernel
theorem dX11_found_6 : decode cX11_found 6 = .ok (.ifCond .ge 6, 3) := by decide +kernel
theorem dX11_found_9 : decode cX11_found 9 = .ok (.bipush (-11), 2) := by decide +kernel
theorem dX11_found_11 : decode cX11_found 11 = .ok (.ireturn, 1) := by decide +kernel
theorem dX11_found_12 : decode cX11_found 12 = .ok (.aload_n 0, 1) := by decide +kernel
theorem dX11_found_13 : decode cX11_found 13 = .ok (.getfield 29, 3) := by decide +kernel
theorem dX11_found_16 : decode cX11_found 16 = .ok (.iload_n 1, 1) := by decide +kernel
theorem dX11_found_17 : decode cX11_found 17 = .ok (.iaload, 1) := by decide +kernel
theorem dX11_found_18 : decode cX11_found 18 = .ok (.iload_n 2, 1) := by decide +kernel
theorem dX11_found_19 : decode cX11_found 19 = .ok (.if_icmp .eq 6, 3) := by decide +kernel
theorem dX11_found_22 : decode cX11_found 22 = .ok (.bipush (-12), 2) := by decide +kernel
theorem dX11_found_24 : decode cX11_found 24 = .ok (.ireturn, 1) := by decide +kernel
theorem dX11_found_25 : decode cX11_found 25 = .ok (.iload_n 3, 1) := by decide +kernel
theorem dX11_found_26 : decode cX11_found 26 = .ok (.ifCond .lt 16, 3) := by decide +kernel
theorem dX11_found_29 : decode cX11_found 29 = .ok (.iload_n 3, 1) := by decide +kernel
theorem dX11_found_30 : decode cX11_found 30 = .ok (.aload_n 0, 1) := by decide +kernel
theorem dX11_found_31 : decode cX11_found 31 = .ok (.getfield 32, 3) := by decide +kernel
theorem dX11_found_34 : decode cX11_found 34 = .ok (.iload_n 1, 1) := by decide +kernel
theorem dX11_found_35 : decode cX11_found 35 = .ok (.iaload, 1) := by decide +kernel
theorem dX11_found_36 : decode cX11_found 36 = .ok (.iload 4, 2) := by decide +kernel
theorem dX11_found_38 : decode cX11_found 38 = .ok (.isub, 1) := by decide +kernel
theorem dX11_found_39 : decode cX11_found 39 = .ok (.if_icmp .le 8, 3) := by decide +kernel
theorem dX11_found_42 : decode cX11_found 42 = .ok (.bipush (-13), 2) := by decide +kernel
theorem dX11_found_44 : decode cX11_found 44 = .ok (.goto 4, 3) := by decide +kernel
theorem dX11_found_47 : decode cX11_found 47 = .ok (.iconst 0, 1) := by decide +kernel
theorem dX11_found_48 : decode cX11_found 48 = .ok (.ireturn, 1) := by decide +kernel
set_option maxRecDepth 20000 in
theorem ggX11_seenX_X11_size : GoodIn wsX11_seenX wsX11_size := goodIn_r _ [4] (by decide +kernel) (by decide +kernel)
set_option maxRecDepth 20000 in
theorem gX11_seenX_X11_size : GoodIn wsX11_seenX (va_wsS RX11 64 yX11_size wsX11_size) := goodIn_app (goodIn_of _ (by decide +kernel)) ggX11_seenX_X11_size
set_option maxRecDepth 20000 in
theorem ggX11_seenX_X11_acrossBy : GoodIn wsX11_seenX wsX11_acrossBy := goodIn_r _ [8, 9, 10, 11, 3, 12, 1, 2, 4, 13, 14, 15, 16, 17, 18, 19, 20, 21, 22, 23, 24, 25, 26, 27, 28, 29, 30, 31, 32, 33, 34, 35, 36, 37, 38, 39, 40] (by decide +kernel) (by decide +kernel)
set_option maxRecDepth 20000 in
theorem gX11_seenX_X11_acrossBy : GoodIn wsX11_seenX (wsV RX11 85 RX11 yX11_acrossBy wsX11_acrossBy) := goodIn_app (goodIn_of _ (by decide +kernel)) ggX11_seenX_X11_acrossBy
theorem dX11_seenX_0 : decode cX11_seenX 0 = .ok (.bipush 24, 2) := by decide +kernel
theorem dX11_seenX_2 : decode cX11_seenX 2 = .ok (.iload_n 1, 1) := by decide +kernel
theorem dX11_seenX_3 : decode cX11_seenX 3 = .ok (.idiv, 1) := by decide +kernel
theorem dX11_seenX_4 : decode cX11_seenX 4 = .ok (.istore 4, 2) := by decide +kernel
theorem dX11_seenX_6 : decode cX11_seenX 6 = .ok (.iload_n 2, 1) := by decide +kernel
theorem dX11_seenX_7 : decode cX11_seenX 7 = .ok (.invokestatic 64, 3) := by decide +kernel
theorem dX11_seenX_10 : decode cX11_seenX 10 = .ok (.bipush 6, 2) := by decide +kernel
theorem dX11_seenX_12 : decode cX11_seenX 12 = .ok (.if_icmp .ne 7, 3) := by decide +kernel
theorem dX11_seenX_15 : decode cX11_seenX 15 = .ok (.iconst 0, 1) := by decide +kernel
theorem dX11_seenX_16 : decode cX11_seenX 16 = .ok (.goto 4, 3) := by decide +kernel
theorem dX11_seenX_19 : decode cX11_seenX 19 = .ok (.iload_n 3, 1) := by decide +kernel
theorem dX11_seenX_20 : decode cX11_seenX 20 = .ok (.istore 5, 2) := by decide +kernel
theorem dX11_seenX_22 : decode cX11_seenX 22 = .ok (.aload_n 0, 1) := by decide +kernel
theorem dX11_seenX_23 : decode cX11_seenX 23 = .ok (.iload 4, 2) := by decide +kernel
theorem dX11_seenX_25 : decode cX11_seenX 25 = .ok (.iload 5, 2) := by decide +kernel
theorem dX11_seenX_27 : decode cX11_seenX 27 = .ok (.iload 4, 2) := by decide +kernel
theorem dX11_seenX_29 : decode cX11_seenX 29 = .ok (.idiv, 1) := by decide +kernel
theorem dX11_seenX_30 : decode cX11_seenX 30 = .ok (.iload 5, 2) := by decide +kernel
theorem dX11_seenX_32 : decode cX11_seenX 32 = .ok (.iload 4, 2) := by decide +kernel
theorem dX11_seenX_34 : decode cX11_seenX 34 = .ok (.irem, 1) := by decide +kernel
theorem dX11_seenX_35 : decode cX11_seenX 35 = .ok (.iload_n 2, 1) := by decide +kernel
theorem dX11_seenX_36 : decode cX11_seenX 36 = .ok (.invokevirtual 85, 3) := by decide +kernel
theorem dX11_seenX_39 : decode cX11_seenX 39 = .ok (.ireturn, 1) := by decide +kernel
set_option maxRecDepth 20000 in
theorem ggX11_isSeen_X11_seenX : GoodIn wsX11_isSeen wsX11_seenX := goodIn_r _ [6, 7, 8, 5, 9, 10, 11, 12, 13, 14, 15, 16, 17, 18, 19, 20, 21, 22, 23, 24, 25, 26, 27, 28, 29, 30, 31, 32, 33, 34, 35, 36, 37, 38, 39, 40, 41, 42, 43, 44, 45] (by decide +kernel) (by decide +kernel)
set_option maxRecDepth 20000 in
theorem gX11_isSeen_X11_seenX : GoodIn wsX11_isSeen (wsV RX11 294 RX11 yX11_seenX wsX11_seenX) := goodIn_app (goodIn_of _ (by decide +kernel)) ggX11_isSeen_X11_seenX
theorem dX11_isSeen_0 : decode cX11_isSeen 0 = .ok (.iconst 1, 1) := by decide +kernel
theorem dX11_isSeen_1 : decode cX11_isSeen 1 = .ok (.istore 4, 2) := by decide +kernel
theorem dX11_isSeen_3 : decode cX11_isSeen 3 = .ok (.iconst 0, 1) := by decide +kernel
theorem dX11_isSeen_4 : decode cX11_isSeen 4 = .ok (.istore 5, 2) := by decide +kernel
theorem dX11_isSeen_6 : decode cX11_isSeen 6 = .ok (.iload 5, 2) := by decide +kernel
theorem dX11_isSeen_8 : decode cX11_isSeen 8 = .ok (.iload_n 3, 1) := by decide +kernel
theorem dX11_isSeen_9 : decode cX11_isSeen 9 = .ok (.if_icmp .ge 78, 3) := by decide +kernel
theorem dX11_isSeen_12 : decode cX11_isSeen 12 = .ok (.aload_n 0, 1) := by decide +kernel
theorem dX11_isSeen_13 : decode cX11_isSeen 13 = .ok (.getfield 35, 3) := by decide +kernel
theorem dX11_isSeen_16 : decode cX11_isSeen 16 = .ok (.iload_n 2, 1) := by decide +kernel
theorem dX11_isSeen_17 : decode cX11_isSeen 17 = .ok (.iconst 3, 1) := by decide +kernel
theorem dX11_isSeen_18 : decode cX11_isSeen 18 = .ok (.iload 5, 2) := by decide +kernel
theorem dX11_isSeen_20 : decode cX11_isSeen 20 = .ok (.imul, 1) := by decide +kernel
theorem dX11_isSeen_21 : decode cX11_isSeen 21 = .ok (.iadd, 1) := by decide +kernel
theorem dX11_isSeen_22 : decode cX11_isSeen 22 = .ok (.laload, 1) := by decide +kernel
theorem dX11_isSeen_23 : decode cX11_isSeen 23 = .ok (.l2i, 1) := by decide +kernel
theorem dX11_isSeen_24 : decode cX11_isSeen 24 = .ok (.istore 6, 2) := by decide +kernel
theorem dX11_isSeen_26 : decode cX11_isSeen 26 = .ok (.aload_n 0, 1) := by decide +kernel
theorem dX11_isSeen_27 : decode cX11_isSeen 27 = .ok (.getfield 35, 3) := by decide +kernel
theorem dX11_isSeen_30 : decode cX11_isSeen 30 = .ok (.iload_n 2, 1) := by decide +kernel
theorem dX11_isSeen_31 : decode cX11_isSeen 31 = .ok (.iconst 3, 1) := by decide +kernel
theorem dX11_isSeen_32 : decode cX11_isSeen 32 = .ok (.iload 5, 2) := by decide +kernel
theorem dX11_isSeen_34 : decode cX11_isSeen 34 = .ok (.imul, 1) := by decide +kernel
theorem dX11_isSeen_35 : decode cX11_isSeen 35 = .ok (.iadd, 1) := by decide +kernel
theorem dX11_isSeen_36 : decode cX11_isSeen 36 = .ok (.iconst 1, 1) := by decide +kernel
theorem dX11_isSeen_37 : decode cX11_isSeen 37 = .ok (.iadd, 1) := by decide +kernel
theorem dX11_isSeen_38 : decode cX11_isSeen 38 = .ok (.laload, 1) := by decide +kernel
theorem dX11_isSeen_39 : decode cX11_isSeen 39 = .ok (.l2i, 1) := by decide +kernel
theorem dX11_isSeen_40 : decode cX11_isSeen 40 = .ok (.istore 7, 2) := by decide +kernel
theorem dX11_isSeen_42 : decode cX11_isSeen 42 = .ok (.iload 4, 2) := by decide +kernel
theorem dX11_isSeen_44 : decode cX11_isSeen 44 = .ok (.ifCond .eq 34, 3) := by decide +kernel
theorem dX11_isSeen_47 : decode cX11_isSeen 47 = .ok (.aload_n 0, 1) := by decide +kernel
theorem dX11_isSeen_48 : decode cX11_isSeen 48 = .ok (.iload_n 1, 1) := by decide +kernel
theorem dX11_isSeen_49 : decode cX11_isSeen 49 = .ok (.iload 6, 2) := by decide +kernel
theorem dX11_isSeen_51 : decode cX11_isSeen 51 = .ok (.iload 7, 2) := by decide +kernel
theorem dX11_isSeen_53 : decode cX11_isSeen 53 = .ok (.invokevirtual 294, 3) := by decide +kernel
theorem dX11_isSeen_56 : decode cX11_isSeen 56 = .ok (.i2l, 1) := by decide +kernel
theorem dX11_isSeen_57 : decode cX11_isSeen 57 = .ok (.aload_n 0, 1) := by decide +kernel
theorem dX11_isSeen_58 : decode cX11_isSeen 58 = .ok (.getfield 35, 3) := by decide +kernel
theorem dX11_isSeen_61 : decode cX11_isSeen 61 = .ok (.iload_n 2, 1) := by decide +kernel
theorem dX11_isSeen_62 : decode cX11_isSeen 62 = .ok (.iconst 3, 1) := by decide +kernel
theorem dX11_isSeen_63 : decode cX11_isSeen 63 = .ok (.iload 5, 2) := by decide +kernel
theorem dX11_isSeen_65 : decode cX11_isSeen 65 = .ok (.imul, 1) := by decide +kernel
theorem dX11_isSeen_66 : decode cX11_isSeen 66 = .ok (.iadd, 1) := by decide +kernel
theorem dX11_isSeen_67 : decode cX11_isSeen 67 = .ok (.iconst 2, 1) := by decide +kernel
theorem dX11_isSeen_68 : decode cX11_isSeen 68 = .ok (.iadd, 1) := by decide +kernel
theorem dX11_isSeen_69 : decode cX11_isSeen 69 = .ok (.laload, 1) := by decide +kernel
theorem dX11_isSeen_70 : decode cX11_isSeen 70 = .ok (.lcmp, 1) := by decide +kernel
theorem dX11_isSeen_71 : decode cX11_isSeen 71 = .ok (.ifCond .ne 7, 3) := by decide +kernel
theorem dX11_isSeen_74 : decode cX11_isSeen 74 = .ok (.iconst 1, 1) := by decide +kernel
theorem dX11_isSeen_75 : decode cX11_isSeen 75 = .ok (.goto 4, 3) := by decide +kernel
theorem dX11_isSeen_78 : decode cX11_isSeen 78 = .ok (.iconst 0, 1) := by decide +kernel
theorem dX11_isSeen_79 : decode cX11_isSeen 79 = .ok (.istore 4, 2) := by decide +kernel
theorem dX11_isSeen_81 : decode cX11_isSeen 81 = .ok (.iinc 5 1, 3) := by decide +kernel
theorem dX11_isSeen_84 : decode cX11_isSeen 84 = .ok (.goto (-78), 3) := by decide +kernel
theorem dX11_isSeen_87 : decode cX11_isSeen 87 = .ok (.iload 4, 2) := by decide +kernel
theorem dX11_isSeen_89 : decode cX11_isSeen 89 = .ok (.ireturn, 1) := by decide +kernel
set_option maxRecDepth 20000 in
theorem ggX11_seen_X11_isSheet : GoodIn wsX11_seen wsX11_isSheet := goodIn_r _ [8, 9, 10, 7, 11] (by decide +kernel) (by decide +kernel)
set_option maxRecDepth 20000 in
theorem gX11_seen_X11_isSheet : GoodIn wsX11_seen (va_wsS RX11 297 yX11_isSheet wsX11_isSheet) := goodIn_app (goodIn_of _ (by decide +kernel)) ggX11_seen_X11_isSheet
set_option maxRecDepth 20000 in
theorem ggX11_seen_X11_in : GoodIn wsX11_seen wsX11_in := goodIn_r _ [11] (by decide +kernel) (by decide +kernel)
set_option maxRecDepth 20000 in
theorem gX11_seen_X11_in : GoodIn wsX11_seen (va_wsS RX11 70 yX11_in wsX11_in) := goodIn_app (goodIn_of _ (by decide +kernel)) ggX11_seen_X11_in
set_option maxRecDepth 20000 in
theorem ggX11_seen_X11_found : GoodIn wsX11_seen wsX11_found := goodIn_r _ [15, 16, 17, 49, 50, 51, 52, 53, 54, 55, 56, 57, 58, 59, 60, 61, 62, 63, 64, 65, 66, 67] (by decide +kernel) (by decide +kernel)
set_option maxRecDepth 20000 in
theorem gX11_seen_X11_found : GoodIn wsX11_seen (wsV RX11 300 RX11 yX11_found wsX11_found) := goodIn_app (goodIn_of _ (by decide +kernel)) ggX11_seen_X11_found
set_option maxRecDepth 20000 in
theorem ggX11_seen_X11_cutsOf : GoodIn wsX11_seen wsX11_cutsOf := goodIn_r _ [20] (by decide +kernel) (by decide +kernel)
set_option maxRecDepth 20000 in
theorem gX11_seen_X11_cutsOf : GoodIn wsX11_seen (va_wsS RX11 240 yX11_cutsOf wsX11_cutsOf) := goodIn_app (goodIn_of _ (by decide +kernel)) ggX11_seen_X11_cutsOf
set_option maxRecDepth 20000 in
theorem ggX11_seen_X11_isSeen : GoodIn wsX11_seen wsX11_isSeen := goodIn_r _ [24, 1, 25, 26, 27, 7, 28, 29, 30, 31, 32, 33, 34, 35, 36, 37, 38, 39, 40, 41, 42, 43, 44, 45, 46, 47, 48, 49, 50, 51, 52, 53, 54, 55, 56, 57, 58, 59, 60, 61, 62, 63, 64, 65, 66, 67] (by decide +kernel) (by decide +kernel)
set_option maxRecDepth 20000 in
theorem gX11_seen_X11_isSeen : GoodIn wsX11_seen (wsV RX11 309 RX11 yX11_isSeen wsX11_isSeen) := goodIn_app (goodIn_of _ (by decide +kernel)) ggX11_seen_X11_isSeen
theorem dX11_seen_0 : decode cX11_seen 0 = .ok (.iload_n 1, 1) := by decide +kernel
theorem dX11_seen_1 : decode cX11_seen 1 = .ok (.iload_n 2, 1) := by decide +kernel
theorem dX11_seen_2 : decode cX11_seen 2 = .ok (.invokestatic 297, 3) := by decide +kernel
theorem dX11_seen_5 : decode cX11_seen 5 = .ok (.ifCond .eq 14, 3) := by decide +kernel
theorem dX11_seen_8 : decode cX11_seen 8 = .ok (.iload 4, 2) := by decide +kernel
theorem dX11_seen_10 : decode cX11_seen 10 = .ok (.iconst 1, 1) := by decide +kernel
theorem dX11_seen_11 : decode cX11_seen 11 = .ok (.bipush 8, 2) := by decide +kernel
theorem dX11_seen_13 : decode cX11_seen 13 = .ok (.invokestatic 70, 3) := by decide +kernel
theorem dX11_seen_16 : decode cX11_seen 16 = .ok (.ifCond .ne 5, 3) := by decide +kernel
theorem dX11_seen_19 : decode cX11_seen 19 = .ok (.iconst (-1), 1) := by decide +kernel
theorem dX11_seen_20 : decode cX11_seen 20 = .ok (.ireturn, 1) := by decide +kernel
theorem dX11_seen_21 : decode cX11_seen 21 = .ok (.aload_n 0, 1) := by decide +kernel
theorem dX11_seen_22 : decode cX11_seen 22 = .ok (.iload_n 1, 1) := by decide +kernel
theorem dX11_seen_23 : decode cX11_seen 23 = .ok (.iload_n 2, 1) := by decide +kernel
theorem dX11_seen_24 : decode cX11_seen 24 = .ok (.iload_n 3, 1) := by decide +kernel
theorem dX11_seen_25 : decode cX11_seen 25 = .ok (.iconst 3, 1) := by decide +kernel
theorem dX11_seen_26 : decode cX11_seen 26 = .ok (.iload 4, 2) := by decide +kernel
theorem dX11_seen_28 : decode cX11_seen 28 = .ok (.imul, 1) := by decide +kernel
theorem dX11_seen_29 : decode cX11_seen 29 = .ok (.invokevirtual 300, 3) := by decide +kernel
theorem dX11_seen_32 : decode cX11_seen 32 = .ok (.istore 5, 2) := by decide +kernel
theorem dX11_seen_34 : decode cX11_seen 34 = .ok (.iload 5, 2) := by decide +kernel
theorem dX11_seen_36 : decode cX11_seen 36 = .ok (.ifCond .eq 6, 3) := by decide +kernel
theorem dX11_seen_39 : decode cX11_seen 39 = .ok (.iload 5, 2) := by decide +kernel
theorem dX11_seen_41 : decode cX11_seen 41 = .ok (.ireturn, 1) := by decide +kernel
theorem dX11_seen_42 : decode cX11_seen 42 = .ok (.bipush 30, 2) := by decide +kernel
theorem dX11_seen_44 : decode cX11_seen 44 = .ok (.iload_n 1, 1) := by decide +kernel
theorem dX11_seen_45 : decode cX11_seen 45 = .ok (.imul, 1) := by decide +kernel
theorem dX11_seen_46 : decode cX11_seen 46 = .ok (.iload_n 3, 1) := by decide +kernel
theorem dX11_seen_47 : decode cX11_seen 47 = .ok (.iadd, 1) := by decide +kernel
theorem dX11_seen_48 : decode cX11_seen 48 = .ok (.istore 6, 2) := by decide +kernel
theorem dX11_seen_50 : decode cX11_seen 50 = .ok (.iconst 0, 1) := by decide +kernel
theorem dX11_seen_51 : decode cX11_seen 51 = .ok (.istore 7, 2) := by decide +kernel
theorem dX11_seen_53 : decode cX11_seen 53 = .ok (.iload 7, 2) := by decide +kernel
theorem dX11_seen_55 : decode cX11_seen 55 = .ok (.iload 4, 2) := by decide +kernel
theorem dX11_seen_57 : decode cX11_seen 57 = .ok (.if_icmp .ge 76, 3) := by decide +kernel
theorem dX11_seen_60 : decode cX11_seen 60 = .ok (.aload_n 0, 1) := by decide +kernel
theorem dX11_seen_61 : decode cX11_seen 61 = .ok (.getfield 35, 3) := by decide +kernel
theorem dX11_seen_64 : decode cX11_seen 64 = .ok (.iload 6, 2) := by decide +kernel
theorem dX11_seen_66 : decode cX11_seen 66 = .ok (.iconst 3, 1) := by decide +kernel
theorem dX11_seen_67 : decode cX11_seen 67 = .ok (.iload 7, 2) := by decide +kernel
theorem dX11_seen_69 : decode cX11_seen 69 = .ok (.imul, 1) := by decide +kernel
theorem dX11_seen_70 : decode cX11_seen 70 = .ok (.iadd, 1) := by decide +kernel
theorem dX11_seen_71 : decode cX11_seen 71 = .ok (.laload, 1) := by decide +kernel
theorem dX11_seen_72 : decode cX11_seen 72 = .ok (.lstore 8, 2) := by decide +kernel
theorem dX11_seen_74 : decode cX11_seen 74 = .ok (.aload_n 0, 1) := by decide +kernel
theorem dX11_seen_75 : decode cX11_seen 75 = .ok (.getfield 35, 3) := by decide +kernel
theorem dX11_seen_78 : decode cX11_seen 78 = .ok (.iload 6, 2) := by decide +kernel
theorem dX11_seen_80 : decode cX11_seen 80 = .ok (.iconst 3, 1) := by decide +kernel
theorem dX11_seen_81 : decode cX11_seen 81 = .ok (.iload 7, 2) := by decide +kernel
theorem dX11_seen_83 : decode cX11_seen 83 = .ok (.imul, 1) := by decide +kernel
theorem dX11_seen_84 : decode cX11_seen 84 = .ok (.iadd, 1) := by decide +kernel
theorem dX11_seen_85 : decode cX11_seen 85 = .ok (.iconst 1, 1) := by decide +kernel
theorem dX11_seen_86 : decode cX11_seen 86 = .ok (.iadd, 1) := by decide +kernel
theorem dX11_seen_87 : decode cX11_seen 87 = .ok (.laload, 1) := by decide +kernel
theorem dX11_seen_88 : decode cX11_seen 88 = .ok (.lstore 10, 2) := by decide +kernel
theorem dX11_seen_90 : decode cX11_seen 90 = .ok (.lload 8, 2) := by decide +kernel
theorem dX11_seen_92 : decode cX11_seen 92 = .ok (.ldc2_w 303, 3) := by decide +kernel
theorem dX11_seen_95 : decode cX11_seen 95 = .ok (.lcmp, 1) := by decide +kernel
theorem dX11_seen_96 : decode cX11_seen 96 = .ok (.ifCond .lt 28, 3) := by decide +kernel
theorem dX11_seen_99 : decode cX11_seen 99 = .ok (.lload 8, 2) := by decide +kernel
theorem dX11_seen_101 : decode cX11_seen 101 = .ok (.ldc2_w 305, 3) := by decide +kernel
theorem dX11_seen_104 : decode cX11_seen 104 = .ok (.lcmp, 1) := by decide +kernel
theorem dX11_seen_105 : decode cX11_seen 105 = .ok (.ifCond .gt 19, 3) := by decide +kernel
theorem dX11_seen_108 : decode cX11_seen 108 = .ok (.lload 10, 2) := by decide +kernel
theorem dX11_seen_110 : decode cX11_seen 110 = .ok (.lconst 0, 1) := by decide +kernel
theorem dX11_seen_111 : decode cX11_seen 111 = .ok (.lcmp, 1) := by decide +kernel
theorem dX11_seen_112 : decode cX11_seen 112 = .ok (.ifCond .lt 12, 3) := by decide +kernel
theorem dX11_seen_115 : decode cX11_seen 115 = .ok (.lload 10, 2) := by decide +kernel
theorem dX11_seen_117 : decode cX11_seen 117 = .ok (.ldc2_w 307, 3) := by decide +kernel
theorem dX11_seen_120 : decode cX11_seen 120 = .ok (.lcmp, 1) := by decide +kernel
theorem dX11_seen_121 : decode cX11_seen 121 = .ok (.ifCond .le 6, 3) := by decide +kernel
theorem dX11_seen_124 : decode cX11_seen 124 = .ok (.bipush (-2), 2) := by decide +kernel
theorem dX11_seen_126 : decode cX11_seen 126 = .ok (.ireturn, 1) := by decide +kernel
theorem dX11_seen_127 : decode cX11_seen 127 = .ok (.iinc 7 1, 3) := by decide +kernel
theorem dX11_seen_130 : decode cX11_seen 130 = .ok (.goto (-77), 3) := by decide +kernel
theorem dX11_seen_133 : decode cX11_seen 133 = .ok (.iconst 0, 1) := by decide +kernel
theorem dX11_seen_134 : decode cX11_seen 134 = .ok (.istore 7, 2) := by decide +kernel
theorem dX11_seen_136 : decode cX11_seen 136 = .ok (.iconst 0, 1) := by decide +kernel
theorem dX11_seen_137 : decode cX11_seen 137 = .ok (.istore 8, 2) := by decide +kernel
theorem dX11_seen_139 : decode cX11_seen 139 = .ok (.iload 8, 2) := by decide +kernel
theorem dX11_seen_141 : decode cX11_seen 141 = .ok (.bipush 6, 2) := by decide +kernel
theorem dX11_seen_143 : decode cX11_seen 143 = .ok (.if_icmp .ge 38, 3) := by decide +kernel
theorem dX11_seen_146 : decode cX11_seen 146 = .ok (.iload 7, 2) := by decide +kernel
theorem dX11_seen_148 : decode cX11_seen 148 = .ok (.aload_n 0, 1) := by decide +kernel
theorem dX11_seen_149 : decode cX11_seen 149 = .ok (.iload 8, 2) := by decide +kernel
theorem dX11_seen_151 : decode cX11_seen 151 = .ok (.invokestatic 240, 3) := by decide +kernel
theorem dX11_seen_154 : decode cX11_seen 154 = .ok (.iload 6, 2) := by decide +kernel
theorem dX11_seen_156 : decode cX11_seen 156 = .ok (.iload 4, 2) := by decide +kernel
theorem dX11_seen_158 : decode cX11_seen 158 = .ok (.invokevirtual 309, 3) := by decide +kernel
theorem dX11_seen_161 : decode cX11_seen 161 = .ok (.ifCond .eq 10, 3) := by decide +kernel
theorem dX11_seen_164 : decode cX11_seen 164 = .ok (.iconst 1, 1) := by decide +kernel
theorem dX11_seen_165 : decode cX11_seen 165 = .ok (.iload 8, 2) := by decide +kernel
theorem dX11_seen_167 : decode cX11_seen 167 = .ok (.ishl, 1) := by decide +kernel
theorem dX11_seen_168 : decode cX11_seen 168 = .ok (.goto 4, 3) := by decide +kernel
theorem dX11_seen_171 : decode cX11_seen 171 = .ok (.iconst 0, 1) := by decide +kernel
theorem dX11_seen_172 : decode cX11_seen 172 = .ok (.ior, 1) := by decide +kernel
theorem dX11_seen_173 : decode cX11_seen 173 = .ok (.istore 7, 2) := by decide +kernel
theorem dX11_seen_175 : decode cX11_seen 175 = .ok (.iinc 8 1, 3) := by decide +kernel
theorem dX11_seen_178 : decode cX11_seen 178 = .ok (.goto (-39), 3) := by decide +kernel
theorem dX11_seen_181 : decode cX11_seen 181 = .ok (.iload 7, 2) := by decide +kernel
theorem dX11_seen_183 : decode cX11_seen 183 = .ok (.ireturn, 1) := by decide +kernel
theorem dX11_lowest_0 : decode cX11_lowest 0 = .ok (.iload_n 2, 1) := by decide +kernel
theorem dX11_lowest_1 : decode cX11_lowest 1 = .ok (.ifCond .ne 13, 3) := by decide +kernel
theorem dX11_lowest_4 : decode cX11_lowest 4 = .ok (.lload_n 0, 1) := by decide +kernel
theorem dX11_lowest_5 : decode cX11_lowest 5 = .ok (.bipush 56, 2) := by decide +kernel
theorem dX11_lowest_7 : decode cX11_lowest 7 = .ok (.lshl, 1) := by decide +kernel
theorem dX11_lowest_8 : decode cX11_lowest 8 = .ok (.bipush 56, 2) := by decide +kernel
theorem dX11_lowest_10 : decode cX11_lowest 10 = .ok (.lshr, 1) := by decide +kernel
theorem dX11_lowest_11 : decode cX11_lowest 11 = .ok (.goto 34, 3) := by decide +kernel
theorem dX11_lowest_14 : decode cX11_lowest 14 = .ok (.iload_n 2, 1) := by decide +kernel
theorem dX11_lowest_15 : decode cX11_lowest 15 = .ok (.iconst 1, 1) := by decide +kernel
theorem dX11_lowest_16 : decode cX11_lowest 16 = .ok (.if_icmp .ne 13, 3) := by decide +kernel
theorem dX11_lowest_19 : decode cX11_lowest 19 = .ok (.lload_n 0, 1) := by decide +kernel
theorem dX11_lowest_20 : decode cX11_lowest 20 = .ok (.bipush 48, 2) := by decide +kernel
theorem dX11_lowest_22 : decode cX11_lowest 22 = .ok (.lshl, 1) := by decide +kernel
theorem dX11_lowest_23 : decode cX11_lowest 23 = .ok (.bipush 48, 2) := by decide +kernel
theorem dX11_lowest_25 : decode cX11_lowest 25 = .ok (.lshr, 1) := by decide +kernel
theorem dX11_lowest_26 : decode cX11_lowest 26 = .ok (.goto 19, 3) := by decide +kernel
theorem dX11_lowest_29 : decode cX11_lowest 29 = .ok (.iload_n 2, 1) := by decide +kernel
theorem dX11_lowest_30 : decode cX11_lowest 30 = .ok (.iconst 2, 1) := by decide +kernel
theorem dX11_lowest_31 : decode cX11_lowest 31 = .ok (.if_icmp .ne 13, 3) := by decide +kernel
theorem dX11_lowest_34 : decode cX11_lowest 34 = .ok (.lload_n 0, 1) := by decide +kernel
theorem dX11_lowest_35 : decode cX11_lowest 35 = .ok (.bipush 32, 2) := by decide +kernel
theorem dX11_lowest_37 : decode cX11_lowest 37 = .ok (.lshl, 1) := by decide +kernel
theorem dX11_lowest_38 : decode cX11_lowest 38 = .ok (.bipush 32, 2) := by decide +kernel
theorem dX11_lowest_40 : decode cX11_lowest 40 = .ok (.lshr, 1) := by decide +kernel
theorem dX11_lowest_41 : decode cX11_lowest 41 = .ok (.goto 4, 3) := by decide +kernel
theorem dX11_lowest_44 : decode cX11_lowest 44 = .ok (.lload_n 0, 1) := by decide +kernel
theorem dX11_lowest_45 : decode cX11_lowest 45 = .ok (.lreturn, 1) := by decide +kernel
set_option maxRecDepth 20000 in
theorem ggX11_film_X11_in : GoodIn wsX11_film wsX11_in := goodIn_r _ [5] (by decide +kernel) (by decide +kernel)
set_option maxRecDepth 20000 in
theorem gX11_film_X11_in : GoodIn wsX11_film (va_wsS RX11 70 yX11_in wsX11_in) := goodIn_app (goodIn_of _ (by decide +kernel)) ggX11_film_X11_in
set_option maxRecDepth 20000 in
theorem ggX11_film_X11_isSheet : GoodIn wsX11_film wsX11_isSheet := goodIn_r _ [8, 2, 3, 4, 5] (by decide +kernel) (by decide +kernel)
set_option maxRecDepth 20000 in
theorem gX11_film_X11_isSheet : GoodIn wsX11_film (va_wsS RX11 297 yX11_isSheet wsX11_isSheet) := goodIn_app (goodIn_of _ (by decide +kernel)) ggX11_film_X11_isSheet
set_option maxRecDepth 20000 in
theorem ggX11_film_X11_isOnStrips : GoodIn wsX11_film wsX11_isOnStrips := goodIn_r _ [12, 13, 14, 15, 4, 16, 66, 67, 68, 69, 70, 71, 72, 73, 74, 75, 76, 77, 78, 79, 80, 81, 82, 83, 84] (by decide +kernel) (by decide +kernel)
set_option maxRecDepth 20000 in
theorem gX11_film_X11_isOnStrips : GoodIn wsX11_film (wsV RX11 128 RX11 yX11_isOnStrips wsX11_isOnStrips) := goodIn_app (goodIn_of _ (by decide +kernel)) ggX11_film_X11_isOnStrips
set_option maxRecDepth 20000 in
theorem ggX11_film_X11_found : GoodIn wsX11_film wsX11_found := goodIn_r _ [20, 21, 22, 66, 67, 68, 69, 70, 71, 72, 73, 74, 75, 76, 77, 78, 79, 80, 81, 82, 83, 84] (by decide +kernel) (by decide +kernel)
set_option maxRecDepth 20000 in
theorem gX11_film_X11_found : GoodIn wsX11_film (wsV RX11 300 RX11 yX11_found wsX11_found) := goodIn_app (goodIn_of _ (by decide +kernel)) ggX11_film_X11_found
set_option maxRecDepth 20000 in
theorem ggX11_film_X11_numberOf : GoodIn wsX11_film wsX11_numberOf := goodIn_r _ [25] (by decide +kernel) (by decide +kernel)
set_option maxRecDepth 20000 in
theorem gX11_film_X11_numberOf : GoodIn wsX11_film (va_wsS RX11 102 yX11_numberOf wsX11_numberOf) := goodIn_app (goodIn_of _ (by decide +kernel)) ggX11_film_X11_numberOf
set_option maxRecDepth 20000 in
theorem ggX11_film_X11_xOf : GoodIn wsX11_film wsX11_xOf := goodIn_r _ [29, 30, 31, 4, 32, 33, 34, 35, 36, 37, 38, 39, 13, 40, 41, 42, 43, 44, 45, 46, 47, 48, 49, 50, 51, 52, 53, 14, 15, 16, 54, 55, 56, 57, 58, 59, 60, 61, 62, 66, 67, 68, 69, 70, 71, 72, 73, 74, 75, 76, 77, 78, 79, 80, 81, 82, 83, 84] (by decide +kernel) (by decide +kernel)
set_option maxRecDepth 20000 in
theorem gX11_film_X11_xOf : GoodIn wsX11_film (wsV RX11 134 RX11 yX11_xOf wsX11_xOf) := goodIn_app (goodIn_of _ (by decide +kernel)) ggX11_film_X11_xOf
set_option maxRecDepth 20000 in
theorem ggX11_film_X11_lowest : GoodIn wsX11_film wsX11_lowest := goodIn_r _ [65] (by decide +kernel) (by decide +kernel)
set_option maxRecDepth 20000 in
theorem gX11_film_X11_lowest : GoodIn wsX11_film (va_wsS RX11 312 yX11_lowest wsX11_lowest) := goodIn_app (goodIn_of _ (by decide +kernel)) ggX11_film_X11_lowest
theorem dX11_film_0 : decode cX11_film 0 = .ok (.iload_n 1, 1) := by decide +kernel
theorem dX11_film_1 : decode cX11_film 1 = .ok (.bipush (-6), 2) := by decide +kernel
theorem dX11_film_3 : decode cX11_film 3 = .ok (.bipush 6, 2) := by decide +kernel
theorem dX11_film_5 : decode cX11_film 5 = .ok (.invokestatic 70, 3) := by decide +kernel
theorem dX11_film_8 : decode cX11_film 8 = .ok (.ifCond .eq 11, 3) := by decide +kernel
theorem dX11_film_11 : decode cX11_film 11 = .ok (.iload_n 2, 1) := by decide +kernel
theorem dX11_film_12 : decode cX11_film 12 = .ok (.iload_n 3, 1) := by decide +kernel
theorem dX11_film_13 : decode cX11_film 13 = .ok (.invokestatic 297, 3) := by decide +kernel
theorem dX11_film_16 : decode cX11_film 16 = .ok (.ifCond .ne 5, 3) := by decide +kernel
theorem dX11_film_19 : decode cX11_film 19 = .ok (.iconst (-1), 1) := by decide +kernel
theorem dX11_film_20 : decode cX11_film 20 = .ok (.ireturn, 1) := by decide +kernel
theorem dX11_film_21 : decode cX11_film 21 = .ok (.aload_n 0, 1) := by decide +kernel
theorem dX11_film_22 : decode cX11_film 22 = .ok (.iload_n 1, 1) := by decide +kernel
theorem dX11_film_23 : decode cX11_film 23 = .ok (.invokevirtual 128, 3) := by decide +kernel
theorem dX11_film_26 : decode cX11_film 26 = .ok (.ifCond .ne 6, 3) := by decide +kernel
theorem dX11_film_29 : decode cX11_film 29 = .ok (.bipush (-2), 2) := by decide +kernel
theorem dX11_film_31 : decode cX11_film 31 = .ok (.ireturn, 1) := by decide +kernel
theorem dX11_film_32 : decode cX11_film 32 = .ok (.aload_n 0, 1) := by decide +kernel
theorem dX11_film_33 : decode cX11_film 33 = .ok (.iload_n 2, 1) := by decide +kernel
theorem dX11_film_34 : decode cX11_film 34 = .ok (.iload_n 3, 1) := by decide +kernel
theorem dX11_film_35 : decode cX11_film 35 = .ok (.iload 4, 2) := by decide +kernel
theorem dX11_film_37 : decode cX11_film 37 = .ok (.bipush 24, 2) := by decide +kernel
theorem dX11_film_39 : decode cX11_film 39 = .ok (.invokevirtual 300, 3) := by decide +kernel
theorem dX11_film_42 : decode cX11_film 42 = .ok (.istore 5, 2) := by decide +kernel
theorem dX11_film_44 : decode cX11_film 44 = .ok (.iload 5, 2) := by decide +kernel
theorem dX11_film_46 : decode cX11_film 46 = .ok (.ifCond .eq 6, 3) := by decide +kernel
theorem dX11_film_49 : decode cX11_film 49 = .ok (.iload 5, 2) := by decide +kernel
theorem dX11_film_51 : decode cX11_film 51 = .ok (.ireturn, 1) := by decide +kernel
theorem dX11_film_52 : decode cX11_film 52 = .ok (.iconst 0, 1) := by decide +kernel
theorem dX11_film_53 : decode cX11_film 53 = .ok (.istore 6, 2) := by decide +kernel
theorem dX11_film_55 : decode cX11_film 55 = .ok (.iload 6, 2) := by decide +kernel
theorem dX11_film_57 : decode cX11_film 57 = .ok (.bipush 24, 2) := by decide +kernel
theorem dX11_film_59 : decode cX11_film 59 = .ok (.if_icmp .ge 39, 3) := by decide +kernel
theorem dX11_film_62 : decode cX11_film 62 = .ok (.aload_n 0, 1) := by decide +kernel
theorem dX11_film_63 : decode cX11_film 63 = .ok (.getfield 35, 3) := by decide +kernel
theorem dX11_film_66 : decode cX11_film 66 = .ok (.bipush 30, 2) := by decide +kernel
theorem dX11_film_68 : decode cX11_film 68 = .ok (.iload_n 2, 1) := by decide +kernel
theorem dX11_film_69 : decode cX11_film 69 = .ok (.imul, 1) := by decide +kernel
theorem dX11_film_70 : decode cX11_film 70 = .ok (.iload 4, 2) := by decide +kernel
theorem dX11_film_72 : decode cX11_film 72 = .ok (.iadd, 1) := by decide +kernel
theorem dX11_film_73 : decode cX11_film 73 = .ok (.iload 6, 2) := by decide +kernel
theorem dX11_film_75 : decode cX11_film 75 = .ok (.iadd, 1) := by decide +kernel
theorem dX11_film_76 : decode cX11_film 76 = .ok (.aload_n 0, 1) := by decide +kernel
theorem dX11_film_77 : decode cX11_film 77 = .ok (.iload_n 1, 1) := by decide +kernel
theorem dX11_film_78 : decode cX11_film 78 = .ok (.iload 6, 2) := by decide +kernel
theorem dX11_film_80 : decode cX11_film 80 = .ok (.invokestatic 102, 3) := by decide +kernel
theorem dX11_film_83 : decode cX11_film 83 = .ok (.invokevirtual 134, 3) := by decide +kernel
theorem dX11_film_86 : decode cX11_film 86 = .ok (.i2l, 1) := by decide +kernel
theorem dX11_film_87 : decode cX11_film 87 = .ok (.iload_n 3, 1) := by decide +kernel
theorem dX11_film_88 : decode cX11_film 88 = .ok (.invokestatic 312, 3) := by decide +kernel
theorem dX11_film_91 : decode cX11_film 91 = .ok (.lastore, 1) := by decide +kernel
theorem dX11_film_92 : decode cX11_film 92 = .ok (.iinc 6 1, 3) := by decide +kernel
theorem dX11_film_95 : decode cX11_film 95 = .ok (.goto (-40), 3) := by decide +kernel
theorem dX11_film_98 : decode cX11_film 98 = .ok (.bipush 24, 2) := by decide +kernel
theorem dX11_film_100 : decode cX11_film 100 = .ok (.ireturn, 1) := by decide +kernel
set_option maxRecDepth 20000 in
theorem ggX11_sheet_X11_isSheet : GoodIn wsX11_sheet wsX11_isSheet := goodIn_r _ [7, 8, 9, 6, 10] (by decide +kernel) (by decide +kernel)
set_option maxRecDepth 20000 in
theorem gX11_sheet_X11_isSheet : GoodIn wsX11_sheet (va_wsS RX11 297 yX11_isSheet wsX11_isSheet) := goodIn_app (goodIn_of _ (by decide +kernel)) ggX11_sheet_X11_isSheet
theorem dX11_sheet_0 : decode cX11_sheet 0 = .ok (.iload_n 1, 1) := by decide +kernel
theorem dX11_sheet_1 : decode cX11_sheet 1 = .ok (.iload_n 2, 1) := by decide +kernel
theorem dX11_sheet_2 : decode cX11_sheet 2 = .ok (.invokestatic 297, 3) := by decide +kernel
theorem dX11_sheet_5 : decode cX11_sheet 5 = .ok (.ifCond .eq 9, 3) := by decide +kernel
theorem dX11_sheet_8 : decode cX11_sheet 8 = .ok (.iload_n 3, 1) := by decide +kernel
theorem dX11_sheet_9 : decode cX11_sheet 9 = .ok (.bipush 30, 2) := by decide +kernel
theorem dX11_sheet_11 : decode cX11_sheet 11 = .ok (.if_icmp .le 5, 3) := by decide +kernel
theorem dX11_sheet_14 : decode cX11_sheet 14 = .ok (.iconst (-1), 1) := by decide +kernel
theorem dX11_sheet_15 : decode cX11_sheet 15 = .ok (.ireturn, 1) := by decide +kernel
theorem dX11_sheet_16 : decode cX11_sheet 16 = .ok (.iload_n 3, 1) := by decide +kernel
theorem dX11_sheet_17 : decode cX11_sheet 17 = .ok (.ifCond .ge 6, 3) := by decide +kernel
theorem dX11_sheet_20 : decode cX11_sheet 20 = .ok (.bipush (-14), 2) := by decide +kernel
theorem dX11_sheet_22 : decode cX11_sheet 22 = .ok (.ireturn, 1) := by decide +kernel
theorem dX11_sheet_23 : decode cX11_sheet 23 = .ok (.aload_n 0, 1) := by decide +kernel
theorem dX11_sheet_24 : decode cX11_sheet 24 = .ok (.getfield 29, 3) := by decide +kernel
theorem dX11_sheet_27 : decode cX11_sheet 27 = .ok (.iload_n 1, 1) := by decide +kernel
theorem dX11_sheet_28 : decode cX11_sheet 28 = .ok (.iload_n 2, 1) := by decide +kernel
theorem dX11_sheet_29 : decode cX11_sheet 29 = .ok (.iastore, 1) := by decide +kernel
theorem dX11_sheet_30 : decode cX11_sheet 30 = .ok (.aload_n 0, 1) := by decide +kernel
theorem dX11_sheet_31 : decode cX11_sheet 31 = .ok (.getfield 32, 3) := by decide +kernel
theorem dX11_sheet_34 : decode cX11_sheet 34 = .ok (.iload_n 1, 1) := by decide +kernel
theorem dX11_sheet_35 : decode cX11_sheet 35 = .ok (.iload_n 3, 1) := by decide +kernel
theorem dX11_sheet_36 : decode cX11_sheet 36 = .ok (.iastore, 1) := by decide +kernel
theorem dX11_sheet_37 : decode cX11_sheet 37 = .ok (.iconst 0, 1) := by decide +kernel
theorem dX11_sheet_38 : decode cX11_sheet 38 = .ok (.istore 4, 2) := by decide +kernel
theorem dX11_sheet_40 : decode cX11_sheet 40 = .ok (.iload 4, 2) := by decide +kernel
theorem dX11_sheet_42 : decode cX11_sheet 42 = .ok (.iload_n 3, 1) := by decide +kernel
theorem dX11_sheet_43 : decode cX11_sheet 43 = .ok (.if_icmp .ge 22, 3) := by decide +kernel
theorem dX11_sheet_46 : decode cX11_sheet 46 = .ok (.aload_n 0, 1) := by decide +kernel
theorem dX11_sheet_47 : decode cX11_sheet 47 = .ok (.getfield 35, 3) := by decide +kernel
theorem dX11_sheet_50 : decode cX11_sheet 50 = .ok (.bipush 30, 2) := by decide +kernel
theorem dX11_sheet_52 : decode cX11_sheet 52 = .ok (.iload_n 1, 1) := by decide +kernel
theorem dX11_sheet_53 : decode cX11_sheet 53 = .ok (.imul, 1) := by decide +kernel
theorem dX11_sheet_54 : decode cX11_sheet 54 = .ok (.iload 4, 2) := by decide +kernel
theorem dX11_sheet_56 : decode cX11_sheet 56 = .ok (.iadd, 1) := by decide +kernel
theorem dX11_sheet_57 : decode cX11_sheet 57 = .ok (.lconst 0, 1) := by decide +kernel
theorem dX11_sheet_58 : decode cX11_sheet 58 = .ok (.lastore, 1) := by decide +kernel
theorem dX11_sheet_59 : decode cX11_sheet 59 = .ok (.iinc 4 1, 3) := by decide +kernel
theorem dX11_sheet_62 : decode cX11_sheet 62 = .ok (.goto (-22), 3) := by decide +kernel
theorem dX11_sheet_65 : decode cX11_sheet 65 = .ok (.iload_n 3, 1) := by decide +kernel
theorem dX11_sheet_66 : decode cX11_sheet 66 = .ok (.ireturn, 1) := by decide +kernel
set_option maxRecDepth 20000 in
theorem ggX11_drop_X11_in : GoodIn wsX11_drop wsX11_in := goodIn_r _ [6] (by decide +kernel) (by decide +kernel)
set_option maxRecDepth 20000 in
theorem gX11_drop_X11_in : GoodIn wsX11_drop (va_wsS RX11 70 yX11_in wsX11_in) := goodIn_app (goodIn_of _ (by decide +kernel)) ggX11_drop_X11_in
theorem dX11_drop_0 : decode cX11_drop 0 = .ok (.iload_n 1, 1) := by decide +kernel
theorem dX11_drop_1 : decode cX11_drop 1 = .ok (.iconst 0, 1) := by decide +kernel
theorem dX11_drop_2 : decode cX11_drop 2 = .ok (.iconst 3, 1) := by decide +kernel
theorem dX11_drop_3 : decode cX11_drop 3 = .ok (.invokestatic 70, 3) := by decide +kernel
theorem dX11_drop_6 : decode cX11_drop 6 = .ok (.ifCond .ne 5, 3) := by decide +kernel
theorem dX11_drop_9 : decode cX11_drop 9 = .ok (.iconst (-1), 1) := by decide +kernel
theorem dX11_drop_10 : decode cX11_drop 10 = .ok (.ireturn, 1) := by decide +kernel
theorem dX11_drop_11 : decode cX11_drop 11 = .ok (.aload_n 0, 1) := by decide +kernel
theorem dX11_drop_12 : decode cX11_drop 12 = .ok (.getfield 29, 3) := by decide +kernel
theorem dX11_drop_15 : decode cX11_drop 15 = .ok (.iload_n 1, 1) := by decide +kernel
theorem dX11_drop_16 : decode cX11_drop 16 = .ok (.iaload, 1) := by decide +kernel
theorem dX11_drop_17 : decode cX11_drop 17 = .ok (.ifCond .ge 6, 3) := by decide +kernel
theorem dX11_drop_20 : decode cX11_drop 20 = .ok (.bipush (-11), 2) := by decide +kernel
theorem dX11_drop_22 : decode cX11_drop 22 = .ok (.ireturn, 1) := by decide +kernel
theorem dX11_drop_23 : decode cX11_drop 23 = .ok (.aload_n 0, 1) := by decide +kernel
theorem dX11_drop_24 : decode cX11_drop 24 = .ok (.getfield 29, 3) := by decide +kernel
theorem dX11_drop_27 : decode cX11_drop 27 = .ok (.iload_n 1, 1) := by decide +kernel
theorem dX11_drop_28 : decode cX11_drop 28 = .ok (.bipush (-4), 2) := by decide +kernel
theorem dX11_drop_30 : decode cX11_drop 30 = .ok (.iastore, 1) := by decide +kernel
theorem dX11_drop_31 : decode cX11_drop 31 = .ok (.aload_n 0, 1) := by decide +kernel
theorem dX11_drop_32 : decode cX11_drop 32 = .ok (.getfield 32, 3) := by decide +kernel
theorem dX11_drop_35 : decode cX11_drop 35 = .ok (.iload_n 1, 1) := by decide +kernel
theorem dX11_drop_36 : decode cX11_drop 36 = .ok (.iaload, 1) := by decide +kernel
theorem dX11_drop_37 : decode cX11_drop 37 = .ok (.ireturn, 1) := by decide +kernel
set_option maxRecDepth 20000 in
theorem ggX11_item_X11_isSheet : GoodIn wsX11_item wsX11_isSheet := goodIn_r _ [5, 6, 7, 4, 8] (by decide +kernel) (by decide +kernel)
set_option maxRecDepth 20000 in
theorem gX11_item_X11_isSheet : GoodIn wsX11_item (va_wsS RX11 297 yX11_isSheet wsX11_isSheet) := goodIn_app (goodIn_of _ (by decide +kernel)) ggX11_item_X11_isSheet
set_option maxRecDepth 20000 in
theorem ggX11_item_X11_found : GoodIn wsX11_item wsX11_found := goodIn_r _ [12, 13, 14, 18, 19, 20, 21, 22, 23, 24, 25, 26, 27, 28, 29, 30, 31, 32, 33, 34, 35, 36] (by decide +kernel) (by decide +kernel)
set_option maxRecDepth 20000 in
theorem gX11_item_X11_found : GoodIn wsX11_item (wsV RX11 300 RX11 yX11_found wsX11_found) := goodIn_app (goodIn_of _ (by decide +kernel)) ggX11_item_X11_found
set_option maxRecDepth 20000 in
theorem ggX11_item_X11_lowest : GoodIn wsX11_item wsX11_lowest := goodIn_r _ [17] (by decide +kernel) (by decide +kernel)
set_option maxRecDepth 20000 in
theorem gX11_item_X11_lowest : GoodIn wsX11_item (va_wsS RX11 312 yX11_lowest wsX11_lowest) := goodIn_app (goodIn_of _ (by decide +kernel)) ggX11_item_X11_lowest
theorem dX11_item_0 : decode cX11_item 0 = .ok (.iload_n 1, 1) := by decide +kernel
theorem dX11_item_1 : decode cX11_item 1 = .ok (.iload_n 2, 1) := by decide +kernel
theorem dX11_item_2 : decode cX11_item 2 = .ok (.invokestatic 297, 3) := by decide +kernel
theorem dX11_item_5 : decode cX11_item 5 = .ok (.ifCond .ne 5, 3) := by decide +kernel
theorem dX11_item_8 : decode cX11_item 8 = .ok (.iconst (-1), 1) := by decide +kernel
theorem dX11_item_9 : decode cX11_item 9 = .ok (.ireturn, 1) := by decide +kernel
theorem dX11_item_10 : decode cX11_item 10 = .ok (.aload_n 0, 1) := by decide +kernel
theorem dX11_item_11 : decode cX11_item 11 = .ok (.iload_n 1, 1) := by decide +kernel
theorem dX11_item_12 : decode cX11_item 12 = .ok (.iload_n 2, 1) := by decide +kernel
theorem dX11_item_13 : decode cX11_item 13 = .ok (.iload_n 3, 1) := by decide +kernel
theorem dX11_item_14 : decode cX11_item 14 = .ok (.iconst 1, 1) := by decide +kernel
theorem dX11_item_15 : decode cX11_item 15 = .ok (.invokevirtual 300, 3) := by decide +kernel
theorem dX11_item_18 : decode cX11_item 18 = .ok (.istore 6, 2) := by decide +kernel
theorem dX11_item_20 : decode cX11_item 20 = .ok (.iload 6, 2) := by decide +kernel
theorem dX11_item_22 : decode cX11_item 22 = .ok (.ifCond .eq 6, 3) := by decide +kernel
theorem dX11_item_25 : decode cX11_item 25 = .ok (.iload 6, 2) := by decide +kernel
theorem dX11_item_27 : decode cX11_item 27 = .ok (.ireturn, 1) := by decide +kernel
theorem dX11_item_28 : decode cX11_item 28 = .ok (.aload_n 0, 1) := by decide +kernel
theorem dX11_item_29 : decode cX11_item 29 = .ok (.getfield 35, 3) := by decide +kernel
theorem dX11_item_32 : decode cX11_item 32 = .ok (.bipush 30, 2) := by decide +kernel
theorem dX11_item_34 : decode cX11_item 34 = .ok (.iload_n 1, 1) := by decide +kernel
theorem dX11_item_35 : decode cX11_item 35 = .ok (.imul, 1) := by decide +kernel
theorem dX11_item_36 : decode cX11_item 36 = .ok (.iload_n 3, 1) := by decide +kernel
theorem dX11_item_37 : decode cX11_item 37 = .ok (.iadd, 1) := by decide +kernel
theorem dX11_item_38 : decode cX11_item 38 = .ok (.lload 4, 2) := by decide +kernel
theorem dX11_item_40 : decode cX11_item 40 = .ok (.iload_n 2, 1) := by decide +kernel
theorem dX11_item_41 : decode cX11_item 41 = .ok (.invokestatic 312, 3) := by decide +kernel
theorem dX11_item_44 : decode cX11_item 44 = .ok (.lastore, 1) := by decide +kernel
theorem dX11_item_45 : decode cX11_item 45 = .ok (.iconst 1, 1) := by decide +kernel
theorem dX11_item_46 : decode cX11_item 46 = .ok (.ireturn, 1) := by decide +kernel
set_option maxRecDepth 20000 in
theorem ggX11_copy_X11_in : GoodIn wsX11_copy wsX11_in := goodIn_r _ [7] (by decide +kernel) (by decide +kernel)
set_option maxRecDepth 20000 in
theorem gX11_copy_X11_in : GoodIn wsX11_copy (va_wsS RX11 70 yX11_in wsX11_in) := goodIn_app (goodIn_of _ (by decide +kernel)) ggX11_copy_X11_in
theorem dX11_copy_0 : decode cX11_copy 0 = .ok (.iload_n 1, 1) := by decide +kernel
theorem dX11_copy_1 : decode cX11_copy 1 = .ok (.iconst 0, 1) := by decide +kernel
theorem dX11_copy_2 : decode cX11_copy 2 = .ok (.iconst 3, 1) := by decide +kernel
theorem dX11_copy_3 : decode cX11_copy 3 = .ok (.invokestatic 70, 3) := by decide +kernel
theorem dX11_copy_6 : decode cX11_copy 6 = .ok (.ifCond .eq 12, 3) := by decide +kernel
theorem dX11_copy_9 : decode cX11_copy 9 = .ok (.iload_n 3, 1) := by decide +kernel
theorem dX11_copy_10 : decode cX11_copy 10 = .ok (.iconst 0, 1) := by decide +kernel
theorem dX11_copy_11 : decode cX11_copy 11 = .ok (.iconst 3, 1) := by decide +kernel
theorem dX11_copy_12 : decode cX11_copy 12 = .ok (.invokestatic 70, 3) := by decide +kernel
theorem dX11_copy_15 : decode cX11_copy 15 = .ok (.ifCond .ne 5, 3) := by decide +kernel
theorem dX11_copy_18 : decode cX11_copy 18 = .ok (.iconst (-1), 1) := by decide +kernel
theorem dX11_copy_19 : decode cX11_copy 19 = .ok (.ireturn, 1) := by decide +kernel
theorem dX11_copy_20 : decode cX11_copy 20 = .ok (.aload_n 0, 1) := by decide +kernel
theorem dX11_copy_21 : decode cX11_copy 21 = .ok (.getfield 29, 3) := by decide +kernel
theorem dX11_copy_24 : decode cX11_copy 24 = .ok (.iload_n 1, 1) := by decide +kernel
theorem dX11_copy_25 : decode cX11_copy 25 = .ok (.iaload, 1) := by decide +kernel
theorem dX11_copy_26 : decode cX11_copy 26 = .ok (.ifCond .lt 12, 3) := by decide +kernel
theorem dX11_copy_29 : decode cX11_copy 29 = .ok (.aload_n 0, 1) := by decide +kernel
theorem dX11_copy_30 : decode cX11_copy 30 = .ok (.getfield 29, 3) := by decide +kernel
theorem dX11_copy_33 : decode cX11_copy 33 = .ok (.iload_n 3, 1) := by decide +kernel
theorem dX11_copy_34 : decode cX11_copy 34 = .ok (.iaload, 1) := by decide +kernel
theorem dX11_copy_35 : decode cX11_copy 35 = .ok (.ifCond .ge 6, 3) := by decide +kernel
theorem dX11_copy_38 : decode cX11_copy 38 = .ok (.bipush (-11), 2) := by decide +kernel
theorem dX11_copy_40 : decode cX11_copy 40 = .ok (.ireturn, 1) := by decide +kernel
theorem dX11_copy_41 : decode cX11_copy 41 = .ok (.aload_n 0, 1) := by decide +kernel
theorem dX11_copy_42 : decode cX11_copy 42 = .ok (.getfield 29, 3) := by decide +kernel
theorem dX11_copy_45 : decode cX11_copy 45 = .ok (.iload_n 1, 1) := by decide +kernel
theorem dX11_copy_46 : decode cX11_copy 46 = .ok (.iaload, 1) := by decide +kernel
theorem dX11_copy_47 : decode cX11_copy 47 = .ok (.aload_n 0, 1) := by decide +kernel
theorem dX11_copy_48 : decode cX11_copy 48 = .ok (.getfield 29, 3) := by decide +kernel
theorem dX11_copy_51 : decode cX11_copy 51 = .ok (.iload_n 3, 1) := by decide +kernel
theorem dX11_copy_52 : decode cX11_copy 52 = .ok (.iaload, 1) := by decide +kernel
theorem dX11_copy_53 : decode cX11_copy 53 = .ok (.if_icmp .eq 6, 3) := by decide +kernel
theorem dX11_copy_56 : decode cX11_copy 56 = .ok (.bipush (-12), 2) := by decide +kernel
theorem dX11_copy_58 : decode cX11_copy 58 = .ok (.ireturn, 1) := by decide +kernel
theorem dX11_copy_59 : decode cX11_copy 59 = .ok (.iload 5, 2) := by decide +kernel
theorem dX11_copy_61 : decode cX11_copy 61 = .ok (.ifCond .lt 46, 3) := by decide +kernel
theorem dX11_copy_64 : decode cX11_copy 64 = .ok (.iload 5, 2) := by decide +kernel
theorem dX11_copy_66 : decode cX11_copy 66 = .ok (.bipush 30, 2) := by decide +kernel
theorem dX11_copy_68 : decode cX11_copy 68 = .ok (.if_icmp .gt 39, 3) := by decide +kernel
theorem dX11_copy_71 : decode cX11_copy 71 = .ok (.iload_n 2, 1) := by decide +kernel
theorem dX11_copy_72 : decode cX11_copy 72 = .ok (.ifCond .lt 35, 3) := by decide +kernel
theorem dX11_copy_75 : decode cX11_copy 75 = .ok (.iload 4, 2) := by decide +kernel
theorem dX11_copy_77 : decode cX11_copy 77 = .ok (.ifCond .lt 30, 3) := by decide +kernel
theorem dX11_copy_80 : decode cX11_copy 80 = .ok (.iload_n 2, 1) := by decide +kernel
theorem dX11_copy_81 : decode cX11_copy 81 = .ok (.aload_n 0, 1) := by decide +kernel
theorem dX11_copy_82 : decode cX11_copy 82 = .ok (.getfield 32, 3) := by decide +kernel
theorem dX11_copy_85 : decode cX11_copy 85 = .ok (.iload_n 1, 1) := by decide +kernel
theorem dX11_copy_86 : decode cX11_copy 86 = .ok (.iaload, 1) := by decide +kernel
theorem dX11_copy_87 : decode cX11_copy 87 = .ok (.iload 5, 2) := by decide +kernel
theorem dX11_copy_89 : decode cX11_copy 89 = .ok (.isub, 1) := by decide +kernel
theorem dX11_copy_90 : decode cX11_copy 90 = .ok (.if_icmp .gt 17, 3) := by decide +kernel
theorem dX11_copy_93 : decode cX11_copy 93 = .ok (.iload 4, 2) := by decide +kernel
theorem dX11_copy_95 : decode cX11_copy 95 = .ok (.aload_n 0, 1) := by decide +kernel
theorem dX11_copy_96 : decode cX11_copy 96 = .ok (.getfield 32, 3) := by decide +kernel
theorem dX11_copy_99 : decode cX11_copy 99 = .ok (.iload_n 3, 1) := by decide +kernel
theorem dX11_copy_100 : decode cX11_copy 100 = .ok (.iaload, 1) := by decide +kernel
theorem dX11_copy_101 : decode cX11_copy 101 = .ok (.iload 5, 2) := by decide +kernel
theorem dX11_copy_103 : decode cX11_copy 103 = .ok (.isub, 1) := by decide +kernel
theorem dX11_copy_104 : decode cX11_copy 104 = .ok (.if_icmp .le 6, 3) := by decide +kernel
theorem dX11_copy_107 : decode cX11_copy 107 = .ok (.bipush (-13), 2) := by decide +kernel
theorem dX11_copy_109 : decode cX11_copy 109 = .ok (.ireturn, 1) := by decide +kernel
theorem dX11_copy_110 : decode cX11_copy 110 = .ok (.iload 4, 2) := by decide +kernel
theorem dX11_copy_112 : decode cX11_copy 112 = .ok (.iload_n 2, 1) := by decide +kernel
theorem dX11_copy_113 : decode cX11_copy 113 = .ok (.if_icmp .le 7, 3) := by decide +kernel
theorem dX11_copy_116 : decode cX11_copy 116 = .ok (.iconst 1, 1) := by decide +kernel
theorem dX11_copy_117 : decode cX11_copy 117 = .ok (.goto 4, 3) := by decide +kernel
theorem dX11_copy_120 : decode cX11_copy 120 = .ok (.iconst 0, 1) := by decide +kernel
theorem dX11_copy_121 : decode cX11_copy 121 = .ok (.istore 6, 2) := by decide +kernel
theorem dX11_copy_123 : decode cX11_copy 123 = .ok (.iconst 0, 1) := by decide +kernel
theorem dX11_copy_124 : decode cX11_copy 124 = .ok (.istore 7, 2) := by decide +kernel
theorem dX11_copy_126 : decode cX11_copy 126 = .ok (.iload 7, 2) := by decide +kernel
theorem dX11_copy_128 : decode cX11_copy 128 = .ok (.iload 5, 2) := by decide +kernel
theorem dX11_copy_130 : decode cX11_copy 130 = .ok (.if_icmp .ge 57, 3) := by decide +kernel
theorem dX11_copy_133 : decode cX11_copy 133 = .ok (.iload 6, 2) := by decide +kernel
theorem dX11_copy_135 : decode cX11_copy 135 = .ok (.ifCond .eq 13, 3) := by decide +kernel
theorem dX11_copy_138 : decode cX11_copy 138 = .ok (.iload 5, 2) := by decide +kernel
theorem dX11_copy_140 : decode cX11_copy 140 = .ok (.iconst 1, 1) := by decide +kernel
theorem dX11_copy_141 : decode cX11_copy 141 = .ok (.isub, 1) := by decide +kernel
theorem dX11_copy_142 : decode cX11_copy 142 = .ok (.iload 7, 2) := by decide +kernel
theorem dX11_copy_144 : decode cX11_copy 144 = .ok (.isub, 1) := by decide +kernel
theorem dX11_copy_145 : decode cX11_copy 145 = .ok (.goto 5, 3) := by decide +kernel
theorem dX11_copy_148 : decode cX11_copy 148 = .ok (.iload 7, 2) := by decide +kernel
theorem dX11_copy_150 : decode cX11_copy 150 = .ok (.istore 8, 2) := by decide +kernel
theorem dX11_copy_152 : decode cX11_copy 152 = .ok (.aload_n 0, 1) := by decide +kernel
theorem dX11_copy_153 : decode cX11_copy 153 = .ok (.getfield 35, 3) := by decide +kernel
theorem dX11_copy_156 : decode cX11_copy 156 = .ok (.bipush 30, 2) := by decide +kernel
theorem dX11_copy_158 : decode cX11_copy 158 = .ok (.iload_n 3, 1) := by decide +kernel
theorem dX11_copy_159 : decode cX11_copy 159 = .ok (.imul, 1) := by decide +kernel
theorem dX11_copy_160 : decode cX11_copy 160 = .ok (.iload 4, 2) := by decide +kernel
theorem dX11_copy_162 : decode cX11_copy 162 = .ok (.iadd, 1) := by decide +kernel
theorem dX11_copy_163 : decode cX11_copy 163 = .ok (.iload 8, 2) := by decide +kernel
theorem dX11_copy_165 : decode cX11_copy 165 = .ok (.iadd, 1) := by decide +kernel
theorem dX11_copy_166 : decode cX11_copy 166 = .ok (.aload_n 0, 1) := by decide +kernel
theorem dX11_copy_167 : decode cX11_copy 167 = .ok (.getfield 35, 3) := by decide +kernel
theorem dX11_copy_170 : decode cX11_copy 170 = .ok (.bipush 30, 2) := by decide +kernel
theorem dX11_copy_172 : decode cX11_copy 172 = .ok (.iload_n 1, 1) := by decide +kernel
theorem dX11_copy_173 : decode cX11_copy 173 = .ok (.imul, 1) := by decide +kernel
theorem dX11_copy_174 : decode cX11_copy 174 = .ok (.iload_n 2, 1) := by decide +kernel
theorem dX11_copy_175 : decode cX11_copy 175 = .ok (.iadd, 1) := by decide +kernel
theorem dX11_copy_176 : decode cX11_copy 176 = .ok (.iload 8, 2) := by decide +kernel
theorem dX11_copy_178 : decode cX11_copy 178 = .ok (.iadd, 1) := by decide +kernel
theorem dX11_copy_179 : decode cX11_copy 179 = .ok (.laload, 1) := by decide +kernel
theorem dX11_copy_180 : decode cX11_copy 180 = .ok (.lastore, 1) := by decide +kernel
theorem dX11_copy_181 : decode cX11_copy 181 = .ok (.iinc 7 1, 3) := by decide +kernel
theorem dX11_copy_184 : decode cX11_copy 184 = .ok (.goto (-58), 3) := by decide +kernel
theorem dX11_copy_187 : decode cX11_copy 187 = .ok (.iload 5, 2) := by decide +kernel
theorem dX11_copy_189 : decode cX11_copy 189 = .ok (.ireturn, 1) := by decide +kernel
theorem dJ13_bitCount_95d88_0 : decode cJ13_bitCount_95d88 0 = .ok (.lload_n 0, 1) := by decide +kernel
theorem dJ13_bitCount_95d88_1 : decode cJ13_bitCount_95d88 1 = .ok (.lload_n 0, 1) := by decide +kernel
theorem dJ13_bitCount_95d88_2 : decode cJ13_bitCount_95d88 2 = .ok (.iconst 1, 1) := by decide +kernel
theorem dJ13_bitCount_95d88_3 : decode cJ13_bitCount_95d88 3 = .ok (.lushr, 1) := by decide +kernel
theorem dJ13_bitCount_95d88_4 : decode cJ13_bitCount_95d88 4 = .ok (.ldc2_w 314, 3) := by decide +kernel
theorem dJ13_bitCount_95d88_7 : decode cJ13_bitCount_95d88 7 = .ok (.land, 1) := by decide +kernel
theorem dJ13_bitCount_95d88_8 : decode cJ13_bitCount_95d88 8 = .ok (.lsub, 1) := by decide +kernel
theorem dJ13_bitCount_95d88_9 : decode cJ13_bitCount_95d88 9 = .ok (.lstore_n 0, 1) := by decide +kernel
theorem dJ13_bitCount_95d88_10 : decode cJ13_bitCount_95d88 10 = .ok (.lload_n 0, 1) := by decide +kernel
theorem dJ13_bitCount_95d88_11 : decode cJ13_bitCount_95d88 11 = .ok (.ldc2_w 316, 3) := by decide +kernel
theorem dJ13_bitCount_95d88_14 : decode cJ13_bitCount_95d88 14 = .ok (.land, 1) := by decide +kernel
theorem dJ13_bitCount_95d88_15 : decode cJ13_bitCount_95d88 15 = .ok (.lload_n 0, 1) := by decide +kernel
theorem dJ13_bitCount_95d88_16 : decode cJ13_bitCount_95d88 16 = .ok (.iconst 2, 1) := by decide +kernel
theorem dJ13_bitCount_95d88_17 : decode cJ13_bitCount_95d88 17 = .ok (.lushr, 1) := by decide +kernel
theorem dJ13_bitCount_95d88_18 : decode cJ13_bitCount_95d88 18 = .ok (.ldc2_w 316, 3) := by decide +kernel
theorem dJ13_bitCount_95d88_21 : decode cJ13_bitCount_95d88 21 = .ok (.land, 1) := by decide +kernel
theorem dJ13_bitCount_95d88_22 : decode cJ13_bitCount_95d88 22 = .ok (.ladd, 1) := by decide +kernel
theorem dJ13_bitCount_95d88_23 : decode cJ13_bitCount_95d88 23 = .ok (.lstore_n 0, 1) := by decide +kernel
theorem dJ13_bitCount_95d88_24 : decode cJ13_bitCount_95d88 24 = .ok (.lload_n 0, 1) := by decide +kernel
theorem dJ13_bitCount_95d88_25 : decode cJ13_bitCount_95d88 25 = .ok (.lload_n 0, 1) := by decide +kernel
theorem dJ13_bitCount_95d88_26 : decode cJ13_bitCount_95d88 26 = .ok (.iconst 4, 1) := by decide +kernel
theorem dJ13_bitCount_95d88_27 : decode cJ13_bitCount_95d88 27 = .ok (.lushr, 1) := by decide +kernel
theorem dJ13_bitCount_95d88_28 : decode cJ13_bitCount_95d88 28 = .ok (.ladd, 1) := by decide +kernel
theorem dJ13_bitCount_95d88_29 : decode cJ13_bitCount_95d88 29 = .ok (.ldc2_w 318, 3) := by decide +kernel
theorem dJ13_bitCount_95d88_32 : decode cJ13_bitCount_95d88 32 = .ok (.land, 1) := by decide +kernel
theorem dJ13_bitCount_95d88_33 : decode cJ13_bitCount_95d88 33 = .ok (.lstore_n 0, 1) := by decide +kernel
theorem dJ13_bitCount_95d88_34 : decode cJ13_bitCount_95d88 34 = .ok (.lload_n 0, 1) := by decide +kernel
theorem dJ13_bitCount_95d88_35 : decode cJ13_bitCount_95d88 35 = .ok (.lload_n 0, 1) := by decide +kernel
theorem dJ13_bitCount_95d88_36 : decode cJ13_bitCount_95d88 36 = .ok (.bipush 8, 2) := by decide +kernel
theorem dJ13_bitCount_95d88_38 : decode cJ13_bitCount_95d88 38 = .ok (.lushr, 1) := by decide +kernel
theorem dJ13_bitCount_95d88_39 : decode cJ13_bitCount_95d88 39 = .ok (.ladd, 1) := by decide +kernel
theorem dJ13_bitCount_95d88_40 : decode cJ13_bitCount_95d88 40 = .ok (.lstore_n 0, 1) := by decide +kernel
theorem dJ13_bitCount_95d88_41 : decode cJ13_bitCount_95d88 41 = .ok (.lload_n 0, 1) := by decide +kernel
theorem dJ13_bitCount_95d88_42 : decode cJ13_bitCount_95d88 42 = .ok (.lload_n 0, 1) := by decide +kernel
theorem dJ13_bitCount_95d88_43 : decode cJ13_bitCount_95d88 43 = .ok (.bipush 16, 2) := by decide +kernel
theorem dJ13_bitCount_95d88_45 : decode cJ13_bitCount_95d88 45 = .ok (.lushr, 1) := by decide +kernel
theorem dJ13_bitCount_95d88_46 : decode cJ13_bitCount_95d88 46 = .ok (.ladd, 1) := by decide +kernel
theorem dJ13_bitCount_95d88_47 : decode cJ13_bitCount_95d88 47 = .ok (.lstore_n 0, 1) := by decide +kernel
theorem dJ13_bitCount_95d88_48 : decode cJ13_bitCount_95d88 48 = .ok (.lload_n 0, 1) := by decide +kernel
theorem dJ13_bitCount_95d88_49 : decode cJ13_bitCount_95d88 49 = .ok (.lload_n 0, 1) := by decide +kernel
theorem dJ13_bitCount_95d88_50 : decode cJ13_bitCount_95d88 50 = .ok (.bipush 32, 2) := by decide +kernel
theorem dJ13_bitCount_95d88_52 : decode cJ13_bitCount_95d88 52 = .ok (.lushr, 1) := by decide +kernel
theorem dJ13_bitCount_95d88_53 : decode cJ13_bitCount_95d88 53 = .ok (.ladd, 1) := by decide +kernel
theorem dJ13_bitCount_95d88_54 : decode cJ13_bitCount_95d88 54 = .ok (.lstore_n 0, 1) := by decide +kernel
theorem dJ13_bitCount_95d88_55 : decode cJ13_bitCount_95d88 55 = .ok (.lload_n 0, 1) := by decide +kernel
theorem dJ13_bitCount_95d88_56 : decode cJ13_bitCount_95d88 56 = .ok (.l2i, 1) := by decide +kernel
theorem dJ13_bitCount_95d88_57 : decode cJ13_bitCount_95d88 57 = .ok (.bipush 127, 2) := by decide +kernel
theorem dJ13_bitCount_95d88_59 : decode cJ13_bitCount_95d88 59 = .ok (.iand, 1) := by decide +kernel
theorem dJ13_bitCount_95d88_60 : decode cJ13_bitCount_95d88 60 = .ok (.ireturn, 1) := by decide +kernel
theorem dJ9_floorMod_7cf53_0 : decode cJ9_floorMod_7cf53 0 = .ok (.iload_n 0, 1) := by decide +kernel
theorem dJ9_floorMod_7cf53_1 : decode cJ9_floorMod_7cf53 1 = .ok (.iload_n 1, 1) := by decide +kernel
theorem dJ9_floorMod_7cf53_2 : decode cJ9_floorMod_7cf53 2 = .ok (.irem, 1) := by decide +kernel
theorem dJ9_floorMod_7cf53_3 : decode cJ9_floorMod_7cf53 3 = .ok (.istore_n 2, 1) := by decide +kernel
theorem dJ9_floorMod_7cf53_4 : decode cJ9_floorMod_7cf53 4 = .ok (.iload_n 0, 1) := by decide +kernel
theorem dJ9_floorMod_7cf53_5 : decode cJ9_floorMod_7cf53 5 = .ok (.iload_n 1, 1) := by decide +kernel
theorem dJ9_floorMod_7cf53_6 : decode cJ9_floorMod_7cf53 6 = .ok (.ixor, 1) := by decide +kernel
theorem dJ9_floorMod_7cf53_7 : decode cJ9_floorMod_7cf53 7 = .ok (.ifCond .ge 11, 3) := by decide +kernel
theorem dJ9_floorMod_7cf53_10 : decode cJ9_floorMod_7cf53 10 = .ok (.iload_n 2, 1) := by decide +kernel
theorem dJ9_floorMod_7cf53_11 : decode cJ9_floorMod_7cf53 11 = .ok (.ifCond .eq 7, 3) := by decide +kernel
theorem dJ9_floorMod_7cf53_14 : decode cJ9_floorMod_7cf53 14 = .ok (.iload_n 2, 1) := by decide +kernel
theorem dJ9_floorMod_7cf53_15 : decode cJ9_floorMod_7cf53 15 = .ok (.iload_n 1, 1) := by decide +kernel
theorem dJ9_floorMod_7cf53_16 : decode cJ9_floorMod_7cf53 16 = .ok (.iadd, 1) := by decide +kernel
theorem dJ9_floorMod_7cf53_17 : decode cJ9_floorMod_7cf53 17 = .ok (.ireturn, 1) := by decide +kernel
theorem dJ9_floorMod_7cf53_18 : decode cJ9_floorMod_7cf53 18 = .ok (.iload_n 2, 1) := by decide +kernel
theorem dJ9_floorMod_7cf53_19 : decode cJ9_floorMod_7cf53 19 = .ok (.ireturn, 1) := by decide +kernel
theorem dJ9_abs_0f7a4_0 : decode cJ9_abs_0f7a4 0 = .ok (.iload_n 0, 1) := by decide +kernel
theorem dJ9_abs_0f7a4_1 : decode cJ9_abs_0f7a4 1 = .ok (.ifCond .ge 8, 3) := by decide +kernel
theorem dJ9_abs_0f7a4_4 : decode cJ9_abs_0f7a4 4 = .ok (.iload_n 0, 1) := by decide +kernel
theorem dJ9_abs_0f7a4_5 : decode cJ9_abs_0f7a4 5 = .ok (.ineg, 1) := by decide +kernel
theorem dJ9_abs_0f7a4_6 : decode cJ9_abs_0f7a4 6 = .ok (.goto 4, 3) := by decide +kernel
theorem dJ9_abs_0f7a4_9 : decode cJ9_abs_0f7a4 9 = .ok (.iload_n 0, 1) := by decide +kernel
theorem dJ9_abs_0f7a4_10 : decode cJ9_abs_0f7a4 10 = .ok (.ireturn, 1) := by decide +kernel
theorem dJ9_max_7cf53_0 : decode cJ9_max_7cf53 0 = .ok (.iload_n 0, 1) := by decide +kernel
theorem dJ9_max_7cf53_1 : decode cJ9_max_7cf53 1 = .ok (.iload_n 1, 1) := by decide +kernel
theorem dJ9_max_7cf53_2 : decode cJ9_max_7cf53 2 = .ok (.if_icmp .lt 7, 3) := by decide +kernel
theorem dJ9_max_7cf53_5 : decode cJ9_max_7cf53 5 = .ok (.iload_n 0, 1) := by decide +kernel
theorem dJ9_max_7cf53_6 : decode cJ9_max_7cf53 6 = .ok (.goto 4, 3) := by decide +kernel
theorem dJ9_max_7cf53_9 : decode cJ9_max_7cf53 9 = .ok (.iload_n 1, 1) := by decide +kernel
theorem dJ9_max_7cf53_10 : decode cJ9_max_7cf53 10 = .ok (.ireturn, 1) := by decide +kernel
theorem dJ9_max_f86c9_0 : decode cJ9_max_f86c9 0 = .ok (.lload_n 0, 1) := by decide +kernel
theorem dJ9_max_f86c9_1 : decode cJ9_max_f86c9 1 = .ok (.lload_n 2, 1) := by decide +kernel
theorem dJ9_max_f86c9_2 : decode cJ9_max_f86c9 2 = .ok (.lcmp, 1) := by decide +kernel
theorem dJ9_max_f86c9_3 : decode cJ9_max_f86c9 3 = .ok (.ifCond .lt 7, 3) := by decide +kernel
theorem dJ9_max_f86c9_6 : decode cJ9_max_f86c9 6 = .ok (.lload_n 0, 1) := by decide +kernel
theorem dJ9_max_f86c9_7 : decode cJ9_max_f86c9 7 = .ok (.goto 4, 3) := by decide +kernel
theorem dJ9_max_f86c9_10 : decode cJ9_max_f86c9 10 = .ok (.lload_n 2, 1) := by decide +kernel
theorem dJ9_max_f86c9_11 : decode cJ9_max_f86c9 11 = .ok (.lreturn, 1) := by decide +kernel
theorem dJ9_min_7cf53_0 : decode cJ9_min_7cf53 0 = .ok (.iload_n 0, 1) := by decide +kernel
theorem dJ9_min_7cf53_1 : decode cJ9_min_7cf53 1 = .ok (.iload_n 1, 1) := by decide +kernel
theorem dJ9_min_7cf53_2 : decode cJ9_min_7cf53 2 = .ok (.if_icmp .gt 7, 3) := by decide +kernel
theorem dJ9_min_7cf53_5 : decode cJ9_min_7cf53 5 = .ok (.iload_n 0, 1) := by decide +kernel
theorem dJ9_min_7cf53_6 : decode cJ9_min_7cf53 6 = .ok (.goto 4, 3) := by decide +kernel
theorem dJ9_min_7cf53_9 : decode cJ9_min_7cf53 9 = .ok (.iload_n 1, 1) := by decide +kernel
theorem dJ9_min_7cf53_10 : decode cJ9_min_7cf53 10 = .ok (.ireturn, 1) := by decide +kernel
theorem dJ7_fill_d0a16_0 : decode cJ7_fill_d0a16 0 = .ok (.iconst 0, 1) := by decide +kernel
theorem dJ7_fill_d0a16_1 : decode cJ7_fill_d0a16 1 = .ok (.istore_n 3, 1) := by decide +kernel
theorem dJ7_fill_d0a16_2 : decode cJ7_fill_d0a16 2 = .ok (.aload_n 0, 1) := by decide +kernel
theorem dJ7_fill_d0a16_3 : decode cJ7_fill_d0a16 3 = .ok (.arraylength, 1) := by decide +kernel
theorem dJ7_fill_d0a16_4 : decode cJ7_fill_d0a16 4 = .ok (.istore 4, 2) := by decide +kernel
theorem dJ7_fill_d0a16_6 : decode cJ7_fill_d0a16 6 = .ok (.iload_n 3, 1) := by decide +kernel
theorem dJ7_fill_d0a16_7 : decode cJ7_fill_d0a16 7 = .ok (.iload 4, 2) := by decide +kernel
theorem dJ7_fill_d0a16_9 : decode cJ7_fill_d0a16 9 = .ok (.if_icmp .ge 13, 3) := by decide +kernel
theorem dJ7_fill_d0a16_12 : decode cJ7_fill_d0a16 12 = .ok (.aload_n 0, 1) := by decide +kernel
theorem dJ7_fill_d0a16_13 : decode cJ7_fill_d0a16 13 = .ok (.iload_n 3, 1) := by decide +kernel
theorem dJ7_fill_d0a16_14 : decode cJ7_fill_d0a16 14 = .ok (.lload_n 1, 1) := by decide +kernel
theorem dJ7_fill_d0a16_15 : decode cJ7_fill_d0a16 15 = .ok (.lastore, 1) := by decide +kernel
theorem dJ7_fill_d0a16_16 : decode cJ7_fill_d0a16 16 = .ok (.iinc 3 1, 3) := by decide +kernel
theorem dJ7_fill_d0a16_19 : decode cJ7_fill_d0a16 19 = .ok (.goto (-13), 3) := by decide +kernel
theorem dJ7_fill_d0a16_22 : decode cJ7_fill_d0a16 22 = .ok (.return_, 1) := by decide +kernel
theorem dJ7_fill_53178_0 : decode cJ7_fill_53178 0 = .ok (.iconst 0, 1) := by decide +kernel
theorem dJ7_fill_53178_1 : decode cJ7_fill_53178 1 = .ok (.istore_n 2, 1) := by decide +kernel
theorem dJ7_fill_53178_2 : decode cJ7_fill_53178 2 = .ok (.aload_n 0, 1) := by decide +kernel
theorem dJ7_fill_53178_3 : decode cJ7_fill_53178 3 = .ok (.arraylength, 1) := by decide +kernel
theorem dJ7_fill_53178_4 : decode cJ7_fill_53178 4 = .ok (.istore_n 3, 1) := by decide +kernel
theorem dJ7_fill_53178_5 : decode cJ7_fill_53178 5 = .ok (.iload_n 2, 1) := by decide +kernel
theorem dJ7_fill_53178_6 : decode cJ7_fill_53178 6 = .ok (.iload_n 3, 1) := by decide +kernel
theorem dJ7_fill_53178_7 : decode cJ7_fill_53178 7 = .ok (.if_icmp .ge 13, 3) := by decide +kernel
theorem dJ7_fill_53178_10 : decode cJ7_fill_53178 10 = .ok (.aload_n 0, 1) := by decide +kernel
theorem dJ7_fill_53178_11 : decode cJ7_fill_53178 11 = .ok (.iload_n 2, 1) := by decide +kernel
theorem dJ7_fill_53178_12 : decode cJ7_fill_53178 12 = .ok (.iload_n 1, 1) := by decide +kernel
theorem dJ7_fill_53178_13 : decode cJ7_fill_53178 13 = .ok (.iastore, 1) := by decide +kernel
theorem dJ7_fill_53178_14 : decode cJ7_fill_53178 14 = .ok (.iinc 2 1, 3) := by decide +kernel
theorem dJ7_fill_53178_17 : decode cJ7_fill_53178 17 = .ok (.goto (-12), 3) := by decide +kernel
theorem dJ7_fill_53178_20 : decode cJ7_fill_53178 20 = .ok (.return_, 1) := by decide +kernel
