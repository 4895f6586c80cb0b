set_option maxRecDepth 20000 in
theorem ggX10_init_X0_init : GoodIn wsX10_init wsX0_init := goodIn_r _ [39, 40, 2, 3, 41, 42, 43, 44, 45, 46, 47, 48, 80, 81, 82, 83, 84, 85, 86] (by decide +kernel) (by decide +kernel)
set_option maxRecDepth 20000 in
theorem gX10_init_X0_init_n9 : GoodIn wsX10_init (wsX0_init) := ggX10_init_X0_init
set_option maxRecDepth 20000 in
theorem ggX10_init_X4_init : GoodIn wsX10_init wsX4_init := goodIn_r _ [51, 52, 2, 3, 53, 54, 5, 6, 38, 39, 40, 41, 42, 43, 44, 45, 46, 47, 48, 98, 99, 100, 80, 81, 82, 83, 84, 85, 86] (by decide +kernel) (by decide +kernel)
set_option maxRecDepth 20000 in
theorem gX10_init_X4_init : GoodIn wsX10_init (wsX4_init) := ggX10_init_X4_init
set_option maxRecDepth 20000 in
theorem ggX10_init_X7_init : GoodIn wsX10_init wsX7_init := goodIn_r _ [56, 57, 2, 3, 43, 58, 41, 59, 101, 102, 103, 104, 105] (by decide +kernel) (by decide +kernel)
set_option maxRecDepth 20000 in
theorem gX10_init_X7_init_n31 : GoodIn wsX10_init (wsX7_init) := ggX10_init_X7_init
set_option maxRecDepth 20000 in
theorem ggX10_init_X5_init : GoodIn wsX10_init wsX5_init := goodIn_r _ [61, 62, 2, 3, 43, 63, 64, 106, 107, 108] (by decide +kernel) (by decide +kernel)
set_option maxRecDepth 20000 in
theorem gX10_init_X5_init_n44 : GoodIn wsX10_init (wsX5_init) := ggX10_init_X5_init
set_option maxRecDepth 20000 in
theorem ggX10_init_X8_init : GoodIn wsX10_init wsX8_init := goodIn_r _ [66, 67, 2, 3, 43, 68, 41, 69, 109, 110, 111] (by decide +kernel) (by decide +kernel)
set_option maxRecDepth 20000 in
theorem gX10_init_X8_init_n51 : GoodIn wsX10_init (wsX8_init) := ggX10_init_X8_init
set_option maxRecDepth 20000 in
theorem ggX10_init_X9_init : GoodIn wsX10_init wsX9_init := goodIn_r _ [71, 72, 2, 3] (by decide +kernel) (by decide +kernel)
set_option maxRecDepth 20000 in
theorem gX10_init_X9_init_n58 : GoodIn wsX10_init (wsX9_init) := ggX10_init_X9_init
set_option maxRecDepth 20000 in
theorem ggX10_init_X2_init : GoodIn wsX10_init wsX2_init := goodIn_r _ [74, 75, 2, 3] (by decide +kernel) (by decide +kernel)
set_option maxRecDepth 20000 in
theorem gX10_init_X2_init_n65 : GoodIn wsX10_init (wsX2_init) := ggX10_init_X2_init
set_option maxRecDepth 20000 in
theorem ggX10_init_X6_init : GoodIn wsX10_init wsX6_init := goodIn_r _ [77, 78, 2, 3, 41, 79, 120, 121, 122, 123] (by decide +kernel) (by decide +kernel)
set_option maxRecDepth 20000 in
theorem gX10_init_X6_init_n70 : GoodIn wsX10_init (wsX6_init) := ggX10_init_X6_init
theorem dX10_init_0 : decode cX10_init 0 = .ok (.aload_n 0, 1) := by decide +kernel
theorem dX10_init_1 : decode cX10_init 1 = .ok (.invokespecial 1, 3) := by decide +kernel
theorem dX10_init_4 : decode cX10_init 4 = .ok (.aload_n 0, 1) := by decide +kernel
theorem dX10_init_5 : decode cX10_init 5 = .ok (.new 7, 3) := by decide +kernel
theorem dX10_init_8 : decode cX10_init 8 = .ok (.dup, 1) := by decide +kernel
theorem dX10_init_9 : decode cX10_init 9 = .ok (.invokespecial 9, 3) := by decide +kernel
theorem dX10_init_12 : decode cX10_init 12 = .ok (.putfield 10, 3) := by decide +kernel
theorem dX10_init_15 : decode cX10_init 15 = .ok (.aload_n 0, 1) := by decide +kernel
theorem dX10_init_16 : decode cX10_init 16 = .ok (.new 16, 3) := by decide +kernel
theorem dX10_init_19 : decode cX10_init 19 = .ok (.dup, 1) := by decide +kernel
theorem dX10_init_20 : decode cX10_init 20 = .ok (.invokespecial 18, 3) := by decide +kernel
theorem dX10_init_23 : decode cX10_init 23 = .ok (.putfield 19, 3) := by decide +kernel
theorem dX10_init_26 : decode cX10_init 26 = .ok (.aload_n 0, 1) := by decide +kernel
theorem dX10_init_27 : decode cX10_init 27 = .ok (.new 7, 3) := by decide +kernel
theorem dX10_init_30 : decode cX10_init 30 = .ok (.dup, 1) := by decide +kernel
theorem dX10_init_31 : decode cX10_init 31 = .ok (.invokespecial 9, 3) := by decide +kernel
theorem dX10_init_34 : decode cX10_init 34 = .ok (.putfield 23, 3) := by decide +kernel
theorem dX10_init_37 : decode cX10_init 37 = .ok (.aload_n 0, 1) := by decide +kernel
theorem dX10_init_38 : decode cX10_init 38 = .ok (.new 16, 3) := by decide +kernel
theorem dX10_init_41 : decode cX10_init 41 = .ok (.dup, 1) := by decide +kernel
theorem dX10_init_42 : decode cX10_init 42 = .ok (.invokespecial 18, 3) := by decide +kernel
theorem dX10_init_45 : decode cX10_init 45 = .ok (.putfield 26, 3) := by decide +kernel
theorem dX10_init_48 : decode cX10_init 48 = .ok (.aload_n 0, 1) := by decide +kernel
theorem dX10_init_49 : decode cX10_init 49 = .ok (.new 29, 3) := by decide +kernel
theorem dX10_init_52 : decode cX10_init 52 = .ok (.dup, 1) := by decide +kernel
theorem dX10_init_53 : decode cX10_init 53 = .ok (.invokespecial 31, 3) := by decide +kernel
theorem dX10_init_56 : decode cX10_init 56 = .ok (.putfield 32, 3) := by decide +kernel
theorem dX10_init_59 : decode cX10_init 59 = .ok (.aload_n 0, 1) := by decide +kernel
theorem dX10_init_60 : decode cX10_init 60 = .ok (.iconst 4, 1) := by decide +kernel
theorem dX10_init_61 : decode cX10_init 61 = .ok (.anewarray 36, 3) := by decide +kernel
theorem dX10_init_64 : decode cX10_init 64 = .ok (.putfield 38, 3) := by decide +kernel
theorem dX10_init_67 : decode cX10_init 67 = .ok (.aload_n 0, 1) := by decide +kernel
theorem dX10_init_68 : decode cX10_init 68 = .ok (.new 42, 3) := by decide +kernel
theorem dX10_init_71 : decode cX10_init 71 = .ok (.dup, 1) := by decide +kernel
theorem dX10_init_72 : decode cX10_init 72 = .ok (.invokespecial 44, 3) := by decide +kernel
theorem dX10_init_75 : decode cX10_init 75 = .ok (.putfield 45, 3) := by decide +kernel
theorem dX10_init_78 : decode cX10_init 78 = .ok (.aload_n 0, 1) := by decide +kernel
theorem dX10_init_79 : decode cX10_init 79 = .ok (.new 49, 3) := by decide +kernel
theorem dX10_init_82 : decode cX10_init 82 = .ok (.dup, 1) := by decide +kernel
theorem dX10_init_83 : decode cX10_init 83 = .ok (.invokespecial 51, 3) := by decide +kernel
theorem dX10_init_86 : decode cX10_init 86 = .ok (.putfield 52, 3) := by decide +kernel
theorem dX10_init_89 : decode cX10_init 89 = .ok (.aload_n 0, 1) := by decide +kernel
theorem dX10_init_90 : decode cX10_init 90 = .ok (.new 56, 3) := by decide +kernel
theorem dX10_init_93 : decode cX10_init 93 = .ok (.dup, 1) := by decide +kernel
theorem dX10_init_94 : decode cX10_init 94 = .ok (.invokespecial 58, 3) := by decide +kernel
theorem dX10_init_97 : decode cX10_init 97 = .ok (.putfield 59, 3) := by decide +kernel
theorem dX10_init_100 : decode cX10_init 100 = .ok (.aload_n 0, 1) := by decide +kernel
theorem dX10_init_101 : decode cX10_init 101 = .ok (.new 63, 3) := by decide +kernel
theorem dX10_init_104 : decode cX10_init 104 = .ok (.dup, 1) := by decide +kernel
theorem dX10_init_105 : decode cX10_init 105 = .ok (.invokespecial 65, 3) := by decide +kernel
theorem dX10_init_108 : decode cX10_init 108 = .ok (.putfield 66, 3) := by decide +kernel
theorem dX10_init_111 : decode cX10_init 111 = .ok (.iconst 0, 1) := by decide +kernel
theorem dX10_init_112 : decode cX10_init 112 = .ok (.istore_n 1, 1) := by decide +kernel
theorem dX10_init_113 : decode cX10_init 113 = .ok (.iload_n 1, 1) := by decide +kernel
theorem dX10_init_114 : decode cX10_init 114 = .ok (.iconst 4, 1) := by decide +kernel
theorem dX10_init_115 : decode cX10_init 115 = .ok (.if_icmp .ge 22, 3) := by decide +kernel
theorem dX10_init_118 : decode cX10_init 118 = .ok (.aload_n 0, 1) := by decide +kernel
theorem dX10_init_119 : decode cX10_init 119 = .ok (.getfield 38, 3) := by decide +kernel
theorem dX10_init_122 : decode cX10_init 122 = .ok (.iload_n 1, 1) := by decide +kernel
theorem dX10_init_123 : decode cX10_init 123 = .ok (.new 36, 3) := by decide +kernel
theorem dX10_init_126 : decode cX10_init 126 = .ok (.dup, 1) := by decide +kernel
theorem dX10_init_127 : decode cX10_init 127 = .ok (.invokespecial 70, 3) := by decide +kernel
theorem dX10_init_130 : decode cX10_init 130 = .ok (.aastore, 1) := by decide +kernel
theorem dX10_init_131 : decode cX10_init 131 = .ok (.iinc 1 1, 3) := by decide +kernel
theorem dX10_init_134 : decode cX10_init 134 = .ok (.goto (-21), 3) := by decide +kernel
theorem dX10_init_137 : decode cX10_init 137 = .ok (.return_, 1) := by decide +kernel
set_option maxRecDepth 20000 in
theorem ggX10_place_X1_isPlace : GoodIn wsX10_place wsX1_isPlace := goodIn_r _ [7] (by decide +kernel) (by decide +kernel)
set_option maxRecDepth 20000 in
theorem gX10_place_X1_isPlace : GoodIn wsX10_place (va_wsS RX10 71 yX1_isPlace wsX1_isPlace) := goodIn_app (goodIn_of _ (by decide +kernel)) ggX10_place_X1_isPlace
set_option maxRecDepth 20000 in
theorem ggX10_place_X10_isIn : GoodIn wsX10_place wsX10_isIn := goodIn_r _ [11] (by decide +kernel) (by decide +kernel)
set_option maxRecDepth 20000 in
theorem gX10_place_X10_isIn : GoodIn wsX10_place (va_wsS RX10 77 yX10_isIn wsX10_isIn) := goodIn_app (goodIn_of _ (by decide +kernel)) ggX10_place_X10_isIn
set_option maxRecDepth 20000 in
theorem ggX10_place_X1_numberOf : GoodIn wsX10_place wsX1_numberOf := goodIn_r _ [14] (by decide +kernel) (by decide +kernel)
set_option maxRecDepth 20000 in
theorem gX10_place_X1_numberOf : GoodIn wsX10_place (va_wsS RX10 81 yX1_numberOf wsX1_numberOf) := goodIn_app (goodIn_of _ (by decide +kernel)) ggX10_place_X1_numberOf
set_option maxRecDepth 20000 in
theorem ggX10_place_X0_isLand : GoodIn wsX10_place wsX0_isLand := goodIn_r _ [19, 20, 85, 86, 87, 88, 89, 90, 91] (by decide +kernel) (by decide +kernel)
set_option maxRecDepth 20000 in
theorem gX10_place_X0_isLand : GoodIn wsX10_place (wsV RX10 85 RX0 yX0_isLand wsX0_isLand) := goodIn_app (goodIn_of _ (by decide +kernel)) ggX10_place_X0_isLand
set_option maxRecDepth 20000 in
theorem ggX10_place_X5_chart : GoodIn wsX10_place wsX5_chart := goodIn_r _ [25, 26, 27, 28, 16, 17, 18, 19, 20, 29, 30, 31, 24, 32, 33, 34, 35, 6, 36, 37, 38, 39, 40, 41, 42, 43, 44, 45, 46, 47, 48, 49, 50, 51, 52, 82, 83, 84, 85, 86, 87, 88, 89, 90, 91] (by decide +kernel) (by decide +kernel)
set_option maxRecDepth 20000 in
theorem gX10_place_X5_chart : GoodIn wsX10_place (wsV RX10 89 RX5 yX5_chart wsX5_chart) := goodIn_app (goodIn_of _ (by decide +kernel)) ggX10_place_X5_chart
set_option maxRecDepth 20000 in
theorem ggX10_place_X0_isOnStrips : GoodIn wsX10_place wsX0_isOnStrips := goodIn_r _ [56, 57, 58, 45, 59, 60, 85, 86, 87, 88, 89, 90, 91] (by decide +kernel) (by decide +kernel)
set_option maxRecDepth 20000 in
theorem gX10_place_X0_isOnStrips : GoodIn wsX10_place (wsV RX10 97 RX0 yX0_isOnStrips wsX0_isOnStrips) := goodIn_app (goodIn_of _ (by decide +kernel)) ggX10_place_X0_isOnStrips
set_option maxRecDepth 20000 in
theorem ggX10_place_X1_stepOf : GoodIn wsX10_place wsX1_stepOf := goodIn_r _ [52, 37, 38, 6, 39] (by decide +kernel) (by decide +kernel)
set_option maxRecDepth 20000 in
theorem gX10_place_X1_stepOf : GoodIn wsX10_place (va_wsS RX10 100 yX1_stepOf wsX1_stepOf) := goodIn_app (goodIn_of _ (by decide +kernel)) ggX10_place_X1_stepOf
set_option maxRecDepth 20000 in
theorem ggX10_place_X0_width : GoodIn wsX10_place wsX0_width := goodIn_r _ [65, 66, 85, 86, 87, 88, 89, 90, 91] (by decide +kernel) (by decide +kernel)
set_option maxRecDepth 20000 in
theorem gX10_place_X0_width : GoodIn wsX10_place (wsV RX10 104 RX0 yX0_width wsX0_width) := goodIn_app (goodIn_of _ (by decide +kernel)) ggX10_place_X0_width
set_option maxRecDepth 20000 in
theorem ggX10_place_X0_isOnCap : GoodIn wsX10_place wsX0_isOnCap := goodIn_r _ [70, 60, 57, 58, 45, 59, 85, 86, 87, 88, 89, 90, 91] (by decide +kernel) (by decide +kernel)
set_option maxRecDepth 20000 in
theorem gX10_place_X0_isOnCap : GoodIn wsX10_place (wsV RX10 108 RX0 yX0_isOnCap wsX0_isOnCap) := goodIn_app (goodIn_of _ (by decide +kernel)) ggX10_place_X0_isOnCap
theorem dX10_place_0 : decode cX10_place 0 = .ok (.iload_n 1, 1) := by decide +kernel
theorem dX10_place_1 : decode cX10_place 1 = .ok (.iload_n 2, 1) := by decide +kernel
theorem dX10_place_2 : decode cX10_place 2 = .ok (.invokestatic 71, 3) := by decide +kernel
theorem dX10_place_5 : decode cX10_place 5 = .ok (.ifCond .eq 12, 3) := by decide +kernel
theorem dX10_place_8 : decode cX10_place 8 = .ok (.iload_n 3, 1) := by decide +kernel
theorem dX10_place_9 : decode cX10_place 9 = .ok (.iconst 0, 1) := by decide +kernel
theorem dX10_place_10 : decode cX10_place 10 = .ok (.iconst 4, 1) := by decide +kernel
theorem dX10_place_11 : decode cX10_place 11 = .ok (.invokestatic 77, 3) := by decide +kernel
theorem dX10_place_14 : decode cX10_place 14 = .ok (.ifCond .ne 5, 3) := by decide +kernel
theorem dX10_place_17 : decode cX10_place 17 = .ok (.iconst (-1), 1) := by decide +kernel
theorem dX10_place_18 : decode cX10_place 18 = .ok (.ireturn, 1) := by decide +kernel
theorem dX10_place_19 : decode cX10_place 19 = .ok (.iload_n 1, 1) := by decide +kernel
theorem dX10_place_20 : decode cX10_place 20 = .ok (.iload_n 2, 1) := by decide +kernel
theorem dX10_place_21 : decode cX10_place 21 = .ok (.invokestatic 81, 3) := by decide +kernel
theorem dX10_place_24 : decode cX10_place 24 = .ok (.istore 4, 2) := by decide +kernel
theorem dX10_place_26 : decode cX10_place 26 = .ok (.iload_n 3, 1) := by decide +kernel
theorem dX10_place_27 : decode cX10_place 27 = .ok (.tableswitch 102 0 3 #[29, 32, 50, 72], 29) := by decide +kernel
theorem dX10_place_56 : decode cX10_place 56 = .ok (.iload 4, 2) := by decide +kernel
theorem dX10_place_58 : decode cX10_place 58 = .ok (.ireturn, 1) := by decide +kernel
theorem dX10_place_59 : decode cX10_place 59 = .ok (.aload_n 0, 1) := by decide +kernel
theorem dX10_place_60 : decode cX10_place 60 = .ok (.getfield 10, 3) := by decide +kernel
theorem dX10_place_63 : decode cX10_place 63 = .ok (.iload 4, 2) := by decide +kernel
theorem dX10_place_65 : decode cX10_place 65 = .ok (.invokevirtual 85, 3) := by decide +kernel
theorem dX10_place_68 : decode cX10_place 68 = .ok (.ifCond .eq 7, 3) := by decide +kernel
theorem dX10_place_71 : decode cX10_place 71 = .ok (.iconst 1, 1) := by decide +kernel
theorem dX10_place_72 : decode cX10_place 72 = .ok (.goto 4, 3) := by decide +kernel
theorem dX10_place_75 : decode cX10_place 75 = .ok (.iconst 0, 1) := by decide +kernel
theorem dX10_place_76 : decode cX10_place 76 = .ok (.ireturn, 1) := by decide +kernel
theorem dX10_place_77 : decode cX10_place 77 = .ok (.aload_n 0, 1) := by decide +kernel
theorem dX10_place_78 : decode cX10_place 78 = .ok (.getfield 45, 3) := by decide +kernel
theorem dX10_place_81 : decode cX10_place 81 = .ok (.aload_n 0, 1) := by decide +kernel
theorem dX10_place_82 : decode cX10_place 82 = .ok (.getfield 10, 3) := by decide +kernel
theorem dX10_place_85 : decode cX10_place 85 = .ok (.invokevirtual 89, 3) := by decide +kernel
theorem dX10_place_88 : decode cX10_place 88 = .ok (.aload_n 0, 1) := by decide +kernel
theorem dX10_place_89 : decode cX10_place 89 = .ok (.getfield 45, 3) := by decide +kernel
theorem dX10_place_92 : decode cX10_place 92 = .ok (.getfield 93, 3) := by decide +kernel
theorem dX10_place_95 : decode cX10_place 95 = .ok (.iload 4, 2) := by decide +kernel
theorem dX10_place_97 : decode cX10_place 97 = .ok (.iaload, 1) := by decide +kernel
theorem dX10_place_98 : decode cX10_place 98 = .ok (.ireturn, 1) := by decide +kernel
theorem dX10_place_99 : decode cX10_place 99 = .ok (.aload_n 0, 1) := by decide +kernel
theorem dX10_place_100 : decode cX10_place 100 = .ok (.getfield 10, 3) := by decide +kernel
theorem dX10_place_103 : decode cX10_place 103 = .ok (.iload_n 1, 1) := by decide +kernel
theorem dX10_place_104 : decode cX10_place 104 = .ok (.invokevirtual 97, 3) := by decide +kernel
theorem dX10_place_107 : decode cX10_place 107 = .ok (.ifCond .eq 19, 3) := by decide +kernel
theorem dX10_place_110 : decode cX10_place 110 = .ok (.iload 4, 2) := by decide +kernel
theorem dX10_place_112 : decode cX10_place 112 = .ok (.invokestatic 100, 3) := by decide +kernel
theorem dX10_place_115 : decode cX10_place 115 = .ok (.aload_n 0, 1) := by decide +kernel
theorem dX10_place_116 : decode cX10_place 116 = .ok (.getfield 10, 3) := by decide +kernel
theorem dX10_place_119 : decode cX10_place 119 = .ok (.invokevirtual 104, 3) := by decide +kernel
theorem dX10_place_122 : decode cX10_place 122 = .ok (.idiv, 1) := by decide +kernel
theorem dX10_place_123 : decode cX10_place 123 = .ok (.goto 5, 3) := by decide +kernel
theorem dX10_place_126 : decode cX10_place 126 = .ok (.bipush (-4), 2) := by decide +kernel
theorem dX10_place_128 : decode cX10_place 128 = .ok (.ireturn, 1) := by decide +kernel
theorem dX10_place_129 : decode cX10_place 129 = .ok (.aload_n 0, 1) := by decide +kernel
theorem dX10_place_130 : decode cX10_place 130 = .ok (.getfield 10, 3) := by decide +kernel
theorem dX10_place_133 : decode cX10_place 133 = .ok (.iload_n 1, 1) := by decide +kernel
theorem dX10_place_134 : decode cX10_place 134 = .ok (.invokevirtual 108, 3) := by decide +kernel
theorem dX10_place_137 : decode cX10_place 137 = .ok (.ifCond .eq 7, 3) := by decide +kernel
theorem dX10_place_140 : decode cX10_place 140 = .ok (.iconst 1, 1) := by decide +kernel
theorem dX10_place_141 : decode cX10_place 141 = .ok (.goto 4, 3) := by decide +kernel
theorem dX10_place_144 : decode cX10_place 144 = .ok (.iconst 0, 1) := by decide +kernel
theorem dX10_place_145 : decode cX10_place 145 = .ok (.ireturn, 1) := by decide +kernel
set_option maxRecDepth 20000 in
theorem ggX10_flat_X1_isPlace : GoodIn wsX10_flat wsX1_isPlace := goodIn_r _ [6] (by decide +kernel) (by decide +kernel)
set_option maxRecDepth 20000 in
theorem gX10_flat_X1_isPlace : GoodIn wsX10_flat (va_wsS RX10 71 yX1_isPlace wsX1_isPlace) := goodIn_app (goodIn_of _ (by decide +kernel)) ggX10_flat_X1_isPlace
set_option maxRecDepth 20000 in
theorem ggX10_flat_X10_isIn : GoodIn wsX10_flat wsX10_isIn := goodIn_r _ [10] (by decide +kernel) (by decide +kernel)
set_option maxRecDepth 20000 in
theorem gX10_flat_X10_isIn : GoodIn wsX10_flat (va_wsS RX10 77 yX10_isIn wsX10_isIn) := goodIn_app (goodIn_of _ (by decide +kernel)) ggX10_flat_X10_isIn
set_option maxRecDepth 20000 in
theorem ggX10_flat_X1_numberOf : GoodIn wsX10_flat wsX1_numberOf := goodIn_r _ [13] (by decide +kernel) (by decide +kernel)
set_option maxRecDepth 20000 in
theorem gX10_flat_X1_numberOf : GoodIn wsX10_flat (va_wsS RX10 81 yX1_numberOf wsX1_numberOf) := goodIn_app (goodIn_of _ (by decide +kernel)) ggX10_flat_X1_numberOf
set_option maxRecDepth 20000 in
theorem ggX10_flat_X1_stepOf : GoodIn wsX10_flat wsX1_stepOf := goodIn_r _ [16, 17, 18, 5, 19] (by decide +kernel) (by decide +kernel)
set_option maxRecDepth 20000 in
theorem gX10_flat_X1_stepOf : GoodIn wsX10_flat (va_wsS RX10 100 yX1_stepOf wsX1_stepOf) := goodIn_app (goodIn_of _ (by decide +kernel)) ggX10_flat_X1_stepOf
set_option maxRecDepth 20000 in
theorem ggX10_flat_X0_isOnStrips : GoodIn wsX10_flat wsX0_isOnStrips := goodIn_r _ [24, 25, 26, 27, 28, 29, 90, 91, 92, 93, 94, 95, 96] (by decide +kernel) (by decide +kernel)
set_option maxRecDepth 20000 in
theorem gX10_flat_X0_isOnStrips : GoodIn wsX10_flat (wsV RX10 97 RX0 yX0_isOnStrips wsX0_isOnStrips) := goodIn_app (goodIn_of _ (by decide +kernel)) ggX10_flat_X0_isOnStrips
set_option maxRecDepth 20000 in
theorem ggX10_flat_X0_isOnCap : GoodIn wsX10_flat wsX0_isOnCap := goodIn_r _ [33, 29, 25, 26, 27, 28, 90, 91, 92, 93, 94, 95, 96] (by decide +kernel) (by decide +kernel)
set_option maxRecDepth 20000 in
theorem gX10_flat_X0_isOnCap : GoodIn wsX10_flat (wsV RX10 108 RX0 yX0_isOnCap wsX0_isOnCap) := goodIn_app (goodIn_of _ (by decide +kernel)) ggX10_flat_X0_isOnCap
set_option maxRecDepth 20000 in
theorem ggX10_flat_X0_width : GoodIn wsX10_flat wsX0_width := goodIn_r _ [37, 38, 90, 91, 92, 93, 94, 95, 96] (by decide +kernel) (by decide +kernel)
set_option maxRecDepth 20000 in
theorem gX10_flat_X0_width : GoodIn wsX10_flat (wsV RX10 104 RX0 yX0_width wsX0_width) := goodIn_app (goodIn_of _ (by decide +kernel)) ggX10_flat_X0_width
set_option maxRecDepth 20000 in
theorem ggX10_flat_X3_stripX : GoodIn wsX10_flat wsX3_stripX := goodIn_r _ [42, 43, 44, 41, 45, 46, 47, 5, 48, 49] (by decide +kernel) (by decide +kernel)
set_option maxRecDepth 20000 in
theorem gX10_flat_X3_stripX : GoodIn wsX10_flat (va_wsS RX10 115 yX3_stripX wsX3_stripX) := goodIn_app (goodIn_of _ (by decide +kernel)) ggX10_flat_X3_stripX
set_option maxRecDepth 20000 in
theorem ggX10_flat_X3_stripY : GoodIn wsX10_flat wsX3_stripY := goodIn_r _ [52] (by decide +kernel) (by decide +kernel)
set_option maxRecDepth 20000 in
theorem gX10_flat_X3_stripY : GoodIn wsX10_flat (va_wsS RX10 121 yX3_stripY wsX3_stripY) := goodIn_app (goodIn_of _ (by decide +kernel)) ggX10_flat_X3_stripY
set_option maxRecDepth 20000 in
theorem ggX10_flat_X3_twinX : GoodIn wsX10_flat wsX3_twinX := goodIn_r _ [55, 56, 57, 58, 35, 36, 23, 37, 38, 43, 44, 41, 45, 46, 47, 5, 48, 49, 90, 91, 92, 93, 94, 95, 96] (by decide +kernel) (by decide +kernel)
set_option maxRecDepth 20000 in
theorem gX10_flat_X3_twinX : GoodIn wsX10_flat (va_wsS RX10 124 yX3_twinX wsX3_twinX) := goodIn_app (goodIn_of _ (by decide +kernel)) ggX10_flat_X3_twinX
set_option maxRecDepth 20000 in
theorem ggX10_flat_X3_capX : GoodIn wsX10_flat wsX3_capX := goodIn_r _ [61, 62, 63, 41, 64, 57, 65, 26, 27, 28, 66, 67, 5, 68, 49, 69, 70, 71, 72, 90, 91, 92, 93, 94, 95, 96] (by decide +kernel) (by decide +kernel)
set_option maxRecDepth 20000 in
theorem gX10_flat_X3_capX : GoodIn wsX10_flat (va_wsS RX10 128 yX3_capX wsX3_capX) := goodIn_app (goodIn_of _ (by decide +kernel)) ggX10_flat_X3_capX
set_option maxRecDepth 20000 in
theorem ggX10_flat_X3_capY : GoodIn wsX10_flat wsX3_capY := goodIn_r _ [75, 69, 70, 41, 71, 57, 72, 62, 63, 64, 65, 26, 27, 28, 76, 77, 5, 78, 49, 90, 91, 92, 93, 94, 95, 96] (by decide +kernel) (by decide +kernel)
set_option maxRecDepth 20000 in
theorem gX10_flat_X3_capY : GoodIn wsX10_flat (va_wsS RX10 131 yX3_capY wsX3_capY) := goodIn_app (goodIn_of _ (by decide +kernel)) ggX10_flat_X3_capY
theorem dX10_flat_0 : decode cX10_flat 0 = .ok (.iload_n 1, 1) := by decide +kernel
theorem dX10_flat_1 : decode cX10_flat 1 = .ok (.iload_n 2, 1) := by decide +kernel
theorem dX10_flat_2 : decode cX10_flat 2 = .ok (.invokestatic 71, 3) := by decide +kernel
theorem dX10_flat_5 : decode cX10_flat 5 = .ok (.ifCond .eq 12, 3) := by decide +kernel
theorem dX10_flat_8 : decode cX10_flat 8 = .ok (.iload_n 3, 1) := by decide +kernel
theorem dX10_flat_9 : decode cX10_flat 9 = .ok (.iconst 0, 1) := by decide +kernel
theorem dX10_flat_10 : decode cX10_flat 10 = .ok (.iconst 4, 1) := by decide +kernel
theorem dX10_flat_11 : decode cX10_flat 11 = .ok (.invokestatic 77, 3) := by decide +kernel
theorem dX10_flat_14 : decode cX10_flat 14 = .ok (.ifCond .ne 5, 3) := by decide +kernel
theorem dX10_flat_17 : decode cX10_flat 17 = .ok (.iconst (-1), 1) := by decide +kernel
theorem dX10_flat_18 : decode cX10_flat 18 = .ok (.ireturn, 1) := by decide +kernel
theorem dX10_flat_19 : decode cX10_flat 19 = .ok (.iload_n 1, 1) := by decide +kernel
theorem dX10_flat_20 : decode cX10_flat 20 = .ok (.iload_n 2, 1) := by decide +kernel
theorem dX10_flat_21 : decode cX10_flat 21 = .ok (.invokestatic 81, 3) := by decide +kernel
theorem dX10_flat_24 : decode cX10_flat 24 = .ok (.invokestatic 100, 3) := by decide +kernel
theorem dX10_flat_27 : decode cX10_flat 27 = .ok (.istore 4, 2) := by decide +kernel
theorem dX10_flat_29 : decode cX10_flat 29 = .ok (.iload_n 3, 1) := by decide +kernel
theorem dX10_flat_30 : decode cX10_flat 30 = .ok (.iconst 2, 1) := by decide +kernel
theorem dX10_flat_31 : decode cX10_flat 31 = .ok (.if_icmp .gt 14, 3) := by decide +kernel
theorem dX10_flat_34 : decode cX10_flat 34 = .ok (.aload_n 0, 1) := by decide +kernel
theorem dX10_flat_35 : decode cX10_flat 35 = .ok (.getfield 10, 3) := by decide +kernel
theorem dX10_flat_38 : decode cX10_flat 38 = .ok (.iload_n 1, 1) := by decide +kernel
theorem dX10_flat_39 : decode cX10_flat 39 = .ok (.invokevirtual 97, 3) := by decide +kernel
theorem dX10_flat_42 : decode cX10_flat 42 = .ok (.goto 11, 3) := by decide +kernel
theorem dX10_flat_45 : decode cX10_flat 45 = .ok (.aload_n 0, 1) := by decide +kernel
theorem dX10_flat_46 : decode cX10_flat 46 = .ok (.getfield 10, 3) := by decide +kernel
theorem dX10_flat_49 : decode cX10_flat 49 = .ok (.iload_n 1, 1) := by decide +kernel
theorem dX10_flat_50 : decode cX10_flat 50 = .ok (.invokevirtual 108, 3) := by decide +kernel
theorem dX10_flat_53 : decode cX10_flat 53 = .ok (.istore 5, 2) := by decide +kernel
theorem dX10_flat_55 : decode cX10_flat 55 = .ok (.iload 5, 2) := by decide +kernel
theorem dX10_flat_57 : decode cX10_flat 57 = .ok (.ifCond .ne 6, 3) := by decide +kernel
theorem dX10_flat_60 : decode cX10_flat 60 = .ok (.bipush (-4), 2) := by decide +kernel
theorem dX10_flat_62 : decode cX10_flat 62 = .ok (.ireturn, 1) := by decide +kernel
theorem dX10_flat_63 : decode cX10_flat 63 = .ok (.iload_n 3, 1) := by decide +kernel
theorem dX10_flat_64 : decode cX10_flat 64 = .ok (.tableswitch 87 0 3 #[32, 53, 65, 76], 32) := by decide +kernel
theorem dX10_flat_96 : decode cX10_flat 96 = .ok (.aload_n 0, 1) := by decide +kernel
theorem dX10_flat_97 : decode cX10_flat 97 = .ok (.getfield 10, 3) := by decide +kernel
theorem dX10_flat_100 : decode cX10_flat 100 = .ok (.getfield 111, 3) := by decide +kernel
theorem dX10_flat_103 : decode cX10_flat 103 = .ok (.aload_n 0, 1) := by decide +kernel
theorem dX10_flat_104 : decode cX10_flat 104 = .ok (.getfield 10, 3) := by decide +kernel
theorem dX10_flat_107 : decode cX10_flat 107 = .ok (.invokevirtual 104, 3) := by decide +kernel
theorem dX10_flat_110 : decode cX10_flat 110 = .ok (.iload_n 1, 1) := by decide +kernel
theorem dX10_flat_111 : decode cX10_flat 111 = .ok (.iload 4, 2) := by decide +kernel
theorem dX10_flat_113 : decode cX10_flat 113 = .ok (.invokestatic 115, 3) := by decide +kernel
theorem dX10_flat_116 : decode cX10_flat 116 = .ok (.ireturn, 1) := by decide +kernel
theorem dX10_flat_117 : decode cX10_flat 117 = .ok (.aload_n 0, 1) := by decide +kernel
theorem dX10_flat_118 : decode cX10_flat 118 = .ok (.getfield 10, 3) := by decide +kernel
theorem dX10_flat_121 : decode cX10_flat 121 = .ok (.getfield 111, 3) := by decide +kernel
theorem dX10_flat_124 : decode cX10_flat 124 = .ok (.iload_n 1, 1) := by decide +kernel
theorem dX10_flat_125 : decode cX10_flat 125 = .ok (.invokestatic 121, 3) := by decide +kernel
theorem dX10_flat_128 : decode cX10_flat 128 = .ok (.ireturn, 1) := by decide +kernel
theorem dX10_flat_129 : decode cX10_flat 129 = .ok (.aload_n 0, 1) := by decide +kernel
theorem dX10_flat_130 : decode cX10_flat 130 = .ok (.getfield 10, 3) := by decide +kernel
theorem dX10_flat_133 : decode cX10_flat 133 = .ok (.iload_n 1, 1) := by decide +kernel
theorem dX10_flat_134 : decode cX10_flat 134 = .ok (.iload 4, 2) := by decide +kernel
theorem dX10_flat_136 : decode cX10_flat 136 = .ok (.invokestatic 124, 3) := by decide +kernel
theorem dX10_flat_139 : decode cX10_flat 139 = .ok (.ireturn, 1) := by decide +kernel
theorem dX10_flat_140 : decode cX10_flat 140 = .ok (.aload_n 0, 1) := by decide +kernel
theorem dX10_flat_141 : decode cX10_flat 141 = .ok (.getfield 10, 3) := by decide +kernel
theorem dX10_flat_144 : decode cX10_flat 144 = .ok (.iload_n 1, 1) := by decide +kernel
theorem dX10_flat_145 : decode cX10_flat 145 = .ok (.iload 4, 2) := by decide +kernel
theorem dX10_flat_147 : decode cX10_flat 147 = .ok (.invokestatic 128, 3) := by decide +kernel
theorem dX10_flat_150 : decode cX10_flat 150 = .ok (.ireturn, 1) := by decide +kernel
theorem dX10_flat_151 : decode cX10_flat 151 = .ok (.aload_n 0, 1) := by decide +kernel
theorem dX10_flat_152 : decode cX10_flat 152 = .ok (.getfield 10, 3) := by decide +kernel
theorem dX10_flat_155 : decode cX10_flat 155 = .ok (.iload_n 1, 1) := by decide +kernel
theorem dX10_flat_156 : decode cX10_flat 156 = .ok (.iload 4, 2) := by decide +kernel
theorem dX10_flat_158 : decode cX10_flat 158 = .ok (.invokestatic 131, 3) := by decide +kernel
theorem dX10_flat_161 : decode cX10_flat 161 = .ok (.ireturn, 1) := by decide +kernel
set_option maxRecDepth 20000 in
theorem ggX10_back_X10_isIn : GoodIn wsX10_back wsX10_isIn := goodIn_r _ [7] (by decide +kernel) (by decide +kernel)
set_option maxRecDepth 20000 in
theorem gX10_back_X10_isIn : GoodIn wsX10_back (va_wsS RX10 77 yX10_isIn wsX10_isIn) := goodIn_app (goodIn_of _ (by decide +kernel)) ggX10_back_X10_isIn
set_option maxRecDepth 20000 in
theorem ggX10_back_X3_foundOnStrips : GoodIn wsX10_back wsX3_foundOnStrips := goodIn_r _ [11, 12, 13, 14, 15, 16, 17, 18, 19, 20, 21, 22, 23, 24, 25, 26, 27, 28, 29, 30, 31, 32, 33, 34, 35, 36, 37, 38, 39, 10, 40, 41, 42, 43, 87, 88, 89, 90, 91, 92, 93] (by decide +kernel) (by decide +kernel)
set_option maxRecDepth 20000 in
theorem gX10_back_X3_foundOnStrips : GoodIn wsX10_back (va_wsS RX10 137 yX3_foundOnStrips wsX3_foundOnStrips) := goodIn_app (goodIn_of _ (by decide +kernel)) ggX10_back_X3_foundOnStrips
set_option maxRecDepth 20000 in
theorem ggX10_back_X3_foundOnCap : GoodIn wsX10_back wsX3_foundOnCap := goodIn_r _ [46, 47, 48, 49, 50, 35, 51, 52, 53, 54, 55, 56, 57, 58, 59, 10, 60, 61, 62, 63, 12, 18, 19, 16, 20, 64, 65, 66, 37, 67, 68, 69, 70, 71, 72, 73, 74, 75, 87, 88, 89, 90, 91, 92, 93] (by decide +kernel) (by decide +kernel)
set_option maxRecDepth 20000 in
theorem gX10_back_X3_foundOnCap : GoodIn wsX10_back (va_wsS RX10 140 yX3_foundOnCap wsX3_foundOnCap) := goodIn_app (goodIn_of _ (by decide +kernel)) ggX10_back_X3_foundOnCap
theorem dX10_back_0 : decode cX10_back 0 = .ok (.iload_n 1, 1) := by decide +kernel
theorem dX10_back_1 : decode cX10_back 1 = .ok (.iconst 0, 1) := by decide +kernel
theorem dX10_back_2 : decode cX10_back 2 = .ok (.iconst 2, 1) := by decide +kernel
theorem dX10_back_3 : decode cX10_back 3 = .ok (.invokestatic 77, 3) := by decide +kernel
theorem dX10_back_6 : decode cX10_back 6 = .ok (.ifCond .ne 5, 3) := by decide +kernel
theorem dX10_back_9 : decode cX10_back 9 = .ok (.iconst (-1), 1) := by decide +kernel
theorem dX10_back_10 : decode cX10_back 10 = .ok (.ireturn, 1) := by decide +kernel
theorem dX10_back_11 : decode cX10_back 11 = .ok (.iconst 4, 1) := by decide +kernel
theorem dX10_back_12 : decode cX10_back 12 = .ok (.aload_n 0, 1) := by decide +kernel
theorem dX10_back_13 : decode cX10_back 13 = .ok (.getfield 10, 3) := by decide +kernel
theorem dX10_back_16 : decode cX10_back 16 = .ok (.getfield 111, 3) := by decide +kernel
theorem dX10_back_19 : decode cX10_back 19 = .ok (.imul, 1) := by decide +kernel
theorem dX10_back_20 : decode cX10_back 20 = .ok (.aload_n 0, 1) := by decide +kernel
theorem dX10_back_21 : decode cX10_back 21 = .ok (.getfield 10, 3) := by decide +kernel
theorem dX10_back_24 : decode cX10_back 24 = .ok (.getfield 134, 3) := by decide +kernel
theorem dX10_back_27 : decode cX10_back 27 = .ok (.imul, 1) := by decide +kernel
theorem dX10_back_28 : decode cX10_back 28 = .ok (.istore 4, 2) := by decide +kernel
theorem dX10_back_30 : decode cX10_back 30 = .ok (.iload_n 1, 1) := by decide +kernel
theorem dX10_back_31 : decode cX10_back 31 = .ok (.ifCond .ne 16, 3) := by decide +kernel
theorem dX10_back_34 : decode cX10_back 34 = .ok (.bipush 48, 2) := by decide +kernel
theorem dX10_back_36 : decode cX10_back 36 = .ok (.aload_n 0, 1) := by decide +kernel
theorem dX10_back_37 : decode cX10_back 37 = .ok (.getfield 10, 3) := by decide +kernel
theorem dX10_back_40 : decode cX10_back 40 = .ok (.getfield 111, 3) := by decide +kernel
theorem dX10_back_43 : decode cX10_back 43 = .ok (.imul, 1) := by decide +kernel
theorem dX10_back_44 : decode cX10_back 44 = .ok (.goto 5, 3) := by decide +kernel
theorem dX10_back_47 : decode cX10_back 47 = .ok (.iload 4, 2) := by decide +kernel
theorem dX10_back_49 : decode cX10_back 49 = .ok (.istore 5, 2) := by decide +kernel
theorem dX10_back_51 : decode cX10_back 51 = .ok (.iload_n 1, 1) := by decide +kernel
theorem dX10_back_52 : decode cX10_back 52 = .ok (.ifCond .ne 16, 3) := by decide +kernel
theorem dX10_back_55 : decode cX10_back 55 = .ok (.bipush 24, 2) := by decide +kernel
theorem dX10_back_57 : decode cX10_back 57 = .ok (.aload_n 0, 1) := by decide +kernel
theorem dX10_back_58 : decode cX10_back 58 = .ok (.getfield 10, 3) := by decide +kernel
theorem dX10_back_61 : decode cX10_back 61 = .ok (.getfield 111, 3) := by decide +kernel
theorem dX10_back_64 : decode cX10_back 64 = .ok (.imul, 1) := by decide +kernel
theorem dX10_back_65 : decode cX10_back 65 = .ok (.goto 5, 3) := by decide +kernel
theorem dX10_back_68 : decode cX10_back 68 = .ok (.iload 4, 2) := by decide +kernel
theorem dX10_back_70 : decode cX10_back 70 = .ok (.istore 6, 2) := by decide +kernel
theorem dX10_back_72 : decode cX10_back 72 = .ok (.iload_n 2, 1) := by decide +kernel
theorem dX10_back_73 : decode cX10_back 73 = .ok (.iconst 0, 1) := by decide +kernel
theorem dX10_back_74 : decode cX10_back 74 = .ok (.iload 5, 2) := by decide +kernel
theorem dX10_back_76 : decode cX10_back 76 = .ok (.invokestatic 77, 3) := by decide +kernel
theorem dX10_back_79 : decode cX10_back 79 = .ok (.ifCond .eq 13, 3) := by decide +kernel
theorem dX10_back_82 : decode cX10_back 82 = .ok (.iload_n 3, 1) := by decide +kernel
theorem dX10_back_83 : decode cX10_back 83 = .ok (.iconst 0, 1) := by decide +kernel
theorem dX10_back_84 : decode cX10_back 84 = .ok (.iload 6, 2) := by decide +kernel
theorem dX10_back_86 : decode cX10_back 86 = .ok (.invokestatic 77, 3) := by decide +kernel
theorem dX10_back_89 : decode cX10_back 89 = .ok (.ifCond .ne 5, 3) := by decide +kernel
theorem dX10_back_92 : decode cX10_back 92 = .ok (.iconst (-1), 1) := by decide +kernel
theorem dX10_back_93 : decode cX10_back 93 = .ok (.ireturn, 1) := by decide +kernel
theorem dX10_back_94 : decode cX10_back 94 = .ok (.iload_n 1, 1) := by decide +kernel
theorem dX10_back_95 : decode cX10_back 95 = .ok (.ifCond .ne 13, 3) := by decide +kernel
theorem dX10_back_98 : decode cX10_back 98 = .ok (.aload_n 0, 1) := by decide +kernel
theorem dX10_back_99 : decode cX10_back 99 = .ok (.getfield 10, 3) := by decide +kernel
theorem dX10_back_102 : decode cX10_back 102 = .ok (.iload_n 2, 1) := by decide +kernel
theorem dX10_back_103 : decode cX10_back 103 = .ok (.iload_n 3, 1) := by decide +kernel
theorem dX10_back_104 : decode cX10_back 104 = .ok (.invokestatic 137, 3) := by decide +kernel
theorem dX10_back_107 : decode cX10_back 107 = .ok (.ireturn, 1) := by decide +kernel
theorem dX10_back_108 : decode cX10_back 108 = .ok (.aload_n 0, 1) := by decide +kernel
theorem dX10_back_109 : decode cX10_back 109 = .ok (.getfield 10, 3) := by decide +kernel
theorem dX10_back_112 : decode cX10_back 112 = .ok (.getfield 134, 3) := by decide +kernel
theorem dX10_back_115 : decode cX10_back 115 = .ok (.ifCond .ne 8, 3) := by decide +kernel
theorem dX10_back_118 : decode cX10_back 118 = .ok (.bipush (-4), 2) := by decide +kernel
theorem dX10_back_120 : decode cX10_back 120 = .ok (.goto 22, 3) := by decide +kernel
theorem dX10_back_123 : decode cX10_back 123 = .ok (.aload_n 0, 1) := by decide +kernel
theorem dX10_back_124 : decode cX10_back 124 = .ok (.getfield 10, 3) := by decide +kernel
theorem dX10_back_127 : decode cX10_back 127 = .ok (.iload_n 1, 1) := by decide +kernel
theorem dX10_back_128 : decode cX10_back 128 = .ok (.iconst 1, 1) := by decide +kernel
theorem dX10_back_129 : decode cX10_back 129 = .ok (.if_icmp .ne 7, 3) := by decide +kernel
theorem dX10_back_132 : decode cX10_back 132 = .ok (.iconst 1, 1) := by decide +kernel
theorem dX10_back_133 : decode cX10_back 133 = .ok (.goto 4, 3) := by decide +kernel
theorem dX10_back_136 : decode cX10_back 136 = .ok (.iconst 0, 1) := by decide +kernel
theorem dX10_back_137 : decode cX10_back 137 = .ok (.iload_n 2, 1) := by decide +kernel
theorem dX10_back_138 : decode cX10_back 138 = .ok (.iload_n 3, 1) := by decide +kernel
theorem dX10_back_139 : decode cX10_back 139 = .ok (.invokestatic 140, 3) := by decide +kernel
theorem dX10_back_142 : decode cX10_back 142 = .ok (.ireturn, 1) := by decide +kernel
set_option maxRecDepth 20000 in
theorem ggX10_pair_X1_isNumber : GoodIn wsX10_pair wsX1_isNumber := goodIn_r _ [5] (by decide +kernel) (by decide +kernel)
set_option maxRecDepth 20000 in
theorem gX10_pair_X1_isNumber : GoodIn wsX10_pair (va_wsS RX10 144 yX1_isNumber wsX1_isNumber) := goodIn_app (goodIn_of _ (by decide +kernel)) ggX10_pair_X1_isNumber
set_option maxRecDepth 20000 in
theorem ggX10_pair_X10_isIn : GoodIn wsX10_pair wsX10_isIn := goodIn_r _ [9] (by decide +kernel) (by decide +kernel)
set_option maxRecDepth 20000 in
theorem gX10_pair_X10_isIn : GoodIn wsX10_pair (va_wsS RX10 77 yX10_isIn wsX10_isIn) := goodIn_app (goodIn_of _ (by decide +kernel)) ggX10_pair_X10_isIn
set_option maxRecDepth 20000 in
theorem ggX10_pair_X1_areNeighbours : GoodIn wsX10_pair wsX1_areNeighbours := goodIn_r _ [12, 13, 14, 4, 15, 16, 17, 18, 19, 20, 21, 22, 23, 24, 25, 26, 27, 28, 29, 30, 31] (by decide +kernel) (by decide +kernel)
set_option maxRecDepth 20000 in
theorem gX10_pair_X1_areNeighbours : GoodIn wsX10_pair (va_wsS RX10 147 yX1_areNeighbours wsX1_areNeighbours) := goodIn_app (goodIn_of _ (by decide +kernel)) ggX10_pair_X1_areNeighbours
set_option maxRecDepth 20000 in
theorem ggX10_pair_X1_rowOf : GoodIn wsX10_pair wsX1_rowOf := goodIn_r _ [34] (by decide +kernel) (by decide +kernel)
set_option maxRecDepth 20000 in
theorem gX10_pair_X1_rowOf : GoodIn wsX10_pair (va_wsS RX10 150 yX1_rowOf wsX1_rowOf) := goodIn_app (goodIn_of _ (by decide +kernel)) ggX10_pair_X1_rowOf
set_option maxRecDepth 20000 in
theorem ggX10_pair_X0_far : GoodIn wsX10_pair wsX0_far := goodIn_r _ [39, 40, 41, 42, 4, 43, 44, 93, 94, 95, 96, 97, 98, 99] (by decide +kernel) (by decide +kernel)
set_option maxRecDepth 20000 in
theorem gX10_pair_X0_far : GoodIn wsX10_pair (wsV RX10 153 RX0 yX0_far wsX0_far) := goodIn_app (goodIn_of _ (by decide +kernel)) ggX10_pair_X0_far
set_option maxRecDepth 20000 in
theorem ggX10_pair_X0_areOnStrips : GoodIn wsX10_pair wsX0_areOnStrips := goodIn_r _ [48, 49, 33, 4, 34, 50, 51, 52, 38, 53, 54, 55, 24, 56, 57, 93, 94, 95, 96, 97, 98, 99] (by decide +kernel) (by decide +kernel)
set_option maxRecDepth 20000 in
theorem gX10_pair_X0_areOnStrips : GoodIn wsX10_pair (wsV RX10 156 RX0 yX0_areOnStrips wsX0_areOnStrips) := goodIn_app (goodIn_of _ (by decide +kernel)) ggX10_pair_X0_areOnStrips
set_option maxRecDepth 20000 in
theorem ggX10_pair_X3_straight : GoodIn wsX10_pair wsX3_straight := goodIn_r _ [61, 62, 63, 55, 24, 56, 64, 65, 66, 38, 67, 68, 69, 33, 4, 34, 70, 30, 31, 16, 17, 18, 71, 72, 60, 73, 74, 75, 76, 77, 42, 43, 44, 78, 79, 80, 81, 93, 94, 95, 96, 97, 98, 99] (by decide +kernel) (by decide +kernel)
set_option maxRecDepth 20000 in
theorem gX10_pair_X3_straight : GoodIn wsX10_pair (va_wsS RX10 159 yX3_straight wsX3_straight) := goodIn_app (goodIn_of _ (by decide +kernel)) ggX10_pair_X3_straight
theorem dX10_pair_0 : decode cX10_pair 0 = .ok (.iload_n 1, 1) := by decide +kernel
theorem dX10_pair_1 : decode cX10_pair 1 = .ok (.invokestatic 144, 3) := by decide +kernel
theorem dX10_pair_4 : decode cX10_pair 4 = .ok (.ifCond .eq 19, 3) := by decide +kernel
theorem dX10_pair_7 : decode cX10_pair 7 = .ok (.iload_n 2, 1) := by decide +kernel
theorem dX10_pair_8 : decode cX10_pair 8 = .ok (.invokestatic 144, 3) := by decide +kernel
theorem dX10_pair_11 : decode cX10_pair 11 = .ok (.ifCond .eq 12, 3) := by decide +kernel
theorem dX10_pair_14 : decode cX10_pair 14 = .ok (.iload_n 3, 1) := by decide +kernel
theorem dX10_pair_15 : decode cX10_pair 15 = .ok (.iconst 0, 1) := by decide +kernel
theorem dX10_pair_16 : decode cX10_pair 16 = .ok (.iconst 1, 1) := by decide +kernel
theorem dX10_pair_17 : decode cX10_pair 17 = .ok (.invokestatic 77, 3) := by decide +kernel
theorem dX10_pair_20 : decode cX10_pair 20 = .ok (.ifCond .ne 5, 3) := by decide +kernel
theorem dX10_pair_23 : decode cX10_pair 23 = .ok (.iconst (-1), 1) := by decide +kernel
theorem dX10_pair_24 : decode cX10_pair 24 = .ok (.ireturn, 1) := by decide +kernel
theorem dX10_pair_25 : decode cX10_pair 25 = .ok (.iload_n 1, 1) := by decide +kernel
theorem dX10_pair_26 : decode cX10_pair 26 = .ok (.iload_n 2, 1) := by decide +kernel
theorem dX10_pair_27 : decode cX10_pair 27 = .ok (.invokestatic 147, 3) := by decide +kernel
theorem dX10_pair_30 : decode cX10_pair 30 = .ok (.ifCond .ne 6, 3) := by decide +kernel
theorem dX10_pair_33 : decode cX10_pair 33 = .ok (.bipush (-2), 2) := by decide +kernel
theorem dX10_pair_35 : decode cX10_pair 35 = .ok (.ireturn, 1) := by decide +kernel
theorem dX10_pair_36 : decode cX10_pair 36 = .ok (.iload_n 3, 1) := by decide +kernel
theorem dX10_pair_37 : decode cX10_pair 37 = .ok (.ifCond .ne 19, 3) := by decide +kernel
theorem dX10_pair_40 : decode cX10_pair 40 = .ok (.aload_n 0, 1) := by decide +kernel
theorem dX10_pair_41 : decode cX10_pair 41 = .ok (.getfield 10, 3) := by decide +kernel
theorem dX10_pair_44 : decode cX10_pair 44 = .ok (.iload_n 1, 1) := by decide +kernel
theorem dX10_pair_45 : decode cX10_pair 45 = .ok (.invokestatic 150, 3) := by decide +kernel
theorem dX10_pair_48 : decode cX10_pair 48 = .ok (.iload_n 2, 1) := by decide +kernel
theorem dX10_pair_49 : decode cX10_pair 49 = .ok (.invokestatic 150, 3) := by decide +kernel
theorem dX10_pair_52 : decode cX10_pair 52 = .ok (.invokevirtual 153, 3) := by decide +kernel
theorem dX10_pair_55 : decode cX10_pair 55 = .ok (.ireturn, 1) := by decide +kernel
theorem dX10_pair_56 : decode cX10_pair 56 = .ok (.aload_n 0, 1) := by decide +kernel
theorem dX10_pair_57 : decode cX10_pair 57 = .ok (.getfield 10, 3) := by decide +kernel
theorem dX10_pair_60 : decode cX10_pair 60 = .ok (.iload_n 1, 1) := by decide +kernel
theorem dX10_pair_61 : decode cX10_pair 61 = .ok (.iload_n 2, 1) := by decide +kernel
theorem dX10_pair_62 : decode cX10_pair 62 = .ok (.invokevirtual 156, 3) := by decide +kernel
theorem dX10_pair_65 : decode cX10_pair 65 = .ok (.ifCond .eq 15, 3) := by decide +kernel
theorem dX10_pair_68 : decode cX10_pair 68 = .ok (.aload_n 0, 1) := by decide +kernel
theorem dX10_pair_69 : decode cX10_pair 69 = .ok (.getfield 10, 3) := by decide +kernel
theorem dX10_pair_72 : decode cX10_pair 72 = .ok (.iload_n 1, 1) := by decide +kernel
theorem dX10_pair_73 : decode cX10_pair 73 = .ok (.iload_n 2, 1) := by decide +kernel
theorem dX10_pair_74 : decode cX10_pair 74 = .ok (.invokestatic 159, 3) := by decide +kernel
theorem dX10_pair_77 : decode cX10_pair 77 = .ok (.goto 5, 3) := by decide +kernel
theorem dX10_pair_80 : decode cX10_pair 80 = .ok (.bipush (-4), 2) := by decide +kernel
theorem dX10_pair_82 : decode cX10_pair 82 = .ok (.ireturn, 1) := by decide +kernel
set_option maxRecDepth 20000 in
theorem ggX10_worst_X10_isIn : GoodIn wsX10_worst wsX10_isIn := goodIn_r _ [9] (by decide +kernel) (by decide +kernel)
set_option maxRecDepth 20000 in
theorem gX10_worst_X10_isIn : GoodIn wsX10_worst (va_wsS RX10 77 yX10_isIn wsX10_isIn) := goodIn_app (goodIn_of _ (by decide +kernel)) ggX10_worst_X10_isIn
set_option maxRecDepth 20000 in
theorem ggX10_worst_X9_seek : GoodIn wsX10_worst wsX9_seek := goodIn_r _ [14, 15, 16, 17, 18, 19, 20, 21, 22, 23, 24, 25, 26, 27, 28, 29, 30, 31, 32, 33, 34, 35, 36, 37, 38, 39, 40, 41, 42, 43, 44, 45, 46, 47, 48, 49, 50, 51, 52, 53, 54, 13, 55, 56, 57, 58, 59, 60, 61, 62, 63, 64, 65, 66, 67, 68, 69, 70, 71, 72, 73, 74, 75, 76, 77, 78, 79, 80, 81, 82, 83, 84, 85, 86, 87, 88, 89, 90, 91, 92, 104, 105, 106, 107, 108, 109, 110, 111, 112, 113] (by decide +kernel) (by decide +kernel)
set_option maxRecDepth 20000 in
theorem gX10_worst_X9_seek : GoodIn wsX10_worst (wsV RX10 162 RX9 yX9_seek wsX9_seek) := goodIn_app (goodIn_of _ (by decide +kernel)) ggX10_worst_X9_seek
theorem dX10_worst_0 : decode cX10_worst 0 = .ok (.iload_n 1, 1) := by decide +kernel
theorem dX10_worst_1 : decode cX10_worst 1 = .ok (.iconst 0, 1) := by decide +kernel
theorem dX10_worst_2 : decode cX10_worst 2 = .ok (.iconst 2, 1) := by decide +kernel
theorem dX10_worst_3 : decode cX10_worst 3 = .ok (.invokestatic 77, 3) := by decide +kernel
theorem dX10_worst_6 : decode cX10_worst 6 = .ok (.ifCond .ne 5, 3) := by decide +kernel
theorem dX10_worst_9 : decode cX10_worst 9 = .ok (.iconst (-1), 1) := by decide +kernel
theorem dX10_worst_10 : decode cX10_worst 10 = .ok (.ireturn, 1) := by decide +kernel
theorem dX10_worst_11 : decode cX10_worst 11 = .ok (.aload_n 0, 1) := by decide +kernel
theorem dX10_worst_12 : decode cX10_worst 12 = .ok (.getfield 59, 3) := by decide +kernel
theorem dX10_worst_15 : decode cX10_worst 15 = .ok (.aload_n 0, 1) := by decide +kernel
theorem dX10_worst_16 : decode cX10_worst 16 = .ok (.getfield 10, 3) := by decide +kernel
theorem dX10_worst_19 : decode cX10_worst 19 = .ok (.invokevirtual 162, 3) := by decide +kernel
theorem dX10_worst_22 : decode cX10_worst 22 = .ok (.iload_n 1, 1) := by decide +kernel
theorem dX10_worst_23 : decode cX10_worst 23 = .ok (.ifCond .ne 11, 3) := by decide +kernel
theorem dX10_worst_26 : decode cX10_worst 26 = .ok (.aload_n 0, 1) := by decide +kernel
theorem dX10_worst_27 : decode cX10_worst 27 = .ok (.getfield 59, 3) := by decide +kernel
theorem dX10_worst_30 : decode cX10_worst 30 = .ok (.getfield 165, 3) := by decide +kernel
theorem dX10_worst_33 : decode cX10_worst 33 = .ok (.ireturn, 1) := by decide +kernel
theorem dX10_worst_34 : decode cX10_worst 34 = .ok (.iload_n 1, 1) := by decide +kernel
theorem dX10_worst_35 : decode cX10_worst 35 = .ok (.iconst 1, 1) := by decide +kernel
theorem dX10_worst_36 : decode cX10_worst 36 = .ok (.if_icmp .ne 13, 3) := by decide +kernel
theorem dX10_worst_39 : decode cX10_worst 39 = .ok (.aload_n 0, 1) := by decide +kernel
theorem dX10_worst_40 : decode cX10_worst 40 = .ok (.getfield 59, 3) := by decide +kernel
theorem dX10_worst_43 : decode cX10_worst 43 = .ok (.getfield 168, 3) := by decide +kernel
theorem dX10_worst_46 : decode cX10_worst 46 = .ok (.goto 10, 3) := by decide +kernel
theorem dX10_worst_49 : decode cX10_worst 49 = .ok (.aload_n 0, 1) := by decide +kernel
theorem dX10_worst_50 : decode cX10_worst 50 = .ok (.getfield 59, 3) := by decide +kernel
theorem dX10_worst_53 : decode cX10_worst 53 = .ok (.getfield 171, 3) := by decide +kernel
theorem dX10_worst_56 : decode cX10_worst 56 = .ok (.ireturn, 1) := by decide +kernel
set_option maxRecDepth 20000 in
theorem ggX10_way_X1_isNumber : GoodIn wsX10_way wsX1_isNumber := goodIn_r _ [8] (by decide +kernel) (by decide +kernel)
set_option maxRecDepth 20000 in
theorem gX10_way_X1_isNumber : GoodIn wsX10_way (va_wsS RX10 144 yX1_isNumber wsX1_isNumber) := goodIn_app (goodIn_of _ (by decide +kernel)) ggX10_way_X1_isNumber
set_option maxRecDepth 20000 in
theorem ggX10_way_X10_isIn : GoodIn wsX10_way wsX10_isIn := goodIn_r _ [12] (by decide +kernel) (by decide +kernel)
set_option maxRecDepth 20000 in
theorem gX10_way_X10_isIn : GoodIn wsX10_way (va_wsS RX10 77 yX10_isIn wsX10_isIn) := goodIn_app (goodIn_of _ (by decide +kernel)) ggX10_way_X10_isIn
set_option maxRecDepth 20000 in
theorem ggX10_way_X8_spread : GoodIn wsX10_way wsX8_spread := goodIn_r _ [17, 18, 19, 20, 21, 22, 23, 24, 25, 26, 27, 28, 29, 30, 31, 32, 33, 34, 16, 35, 36, 37, 38, 39, 40, 41, 42, 43, 44, 45, 46, 7, 47, 48, 49, 50, 51, 52, 53, 54, 55, 56, 57, 58, 59, 60, 61, 62, 63, 64, 65, 66, 67, 68, 69, 70, 71, 72, 73, 74, 75, 76, 77, 78, 100, 101, 102, 103, 104, 105, 106, 107, 108, 109] (by decide +kernel) (by decide +kernel)
set_option maxRecDepth 20000 in
theorem gX10_way_X8_spread : GoodIn wsX10_way (wsV RX10 174 RX8 yX8_spread wsX8_spread) := goodIn_app (goodIn_of _ (by decide +kernel)) ggX10_way_X8_spread
set_option maxRecDepth 20000 in
theorem ggX10_way_X8_farOf : GoodIn wsX10_way wsX8_farOf := goodIn_r _ [81] (by decide +kernel) (by decide +kernel)
set_option maxRecDepth 20000 in
theorem gX10_way_X8_farOf : GoodIn wsX10_way (va_wsS RX10 182 yX8_farOf wsX8_farOf) := goodIn_app (goodIn_of _ (by decide +kernel)) ggX10_way_X8_farOf
set_option maxRecDepth 20000 in
theorem ggX10_way_X8_stepsOf : GoodIn wsX10_way wsX8_stepsOf := goodIn_r _ [84] (by decide +kernel) (by decide +kernel)
set_option maxRecDepth 20000 in
theorem gX10_way_X8_stepsOf : GoodIn wsX10_way (va_wsS RX10 185 yX8_stepsOf wsX8_stepsOf) := goodIn_app (goodIn_of _ (by decide +kernel)) ggX10_way_X8_stepsOf
set_option maxRecDepth 20000 in
theorem ggX10_way_X8_leastFirstStep : GoodIn wsX10_way wsX8_leastFirstStep := goodIn_r _ [88, 18, 19, 45, 46, 7, 47, 48, 49, 50, 51, 52, 53, 54, 55, 56, 57, 58, 59, 60, 61, 62, 63, 64, 65, 16, 66, 67, 68, 69, 70, 71, 72, 29, 73, 74, 75, 76, 77, 78, 100, 101, 102, 103, 104, 105, 106, 107, 108, 109] (by decide +kernel) (by decide +kernel)
set_option maxRecDepth 20000 in
theorem gX10_way_X8_leastFirstStep : GoodIn wsX10_way (wsV RX10 188 RX8 yX8_leastFirstStep wsX8_leastFirstStep) := goodIn_app (goodIn_of _ (by decide +kernel)) ggX10_way_X8_leastFirstStep
theorem dX10_way_0 : decode cX10_way 0 = .ok (.iload_n 1, 1) := by decide +kernel
theorem dX10_way_1 : decode cX10_way 1 = .ok (.invokestatic 144, 3) := by decide +kernel
theorem dX10_way_4 : decode cX10_way 4 = .ok (.ifCond .eq 19, 3) := by decide +kernel
theorem dX10_way_7 : decode cX10_way 7 = .ok (.iload_n 2, 1) := by decide +kernel
theorem dX10_way_8 : decode cX10_way 8 = .ok (.invokestatic 144, 3) := by decide +kernel
theorem dX10_way_11 : decode cX10_way 11 = .ok (.ifCond .eq 12, 3) := by decide +kernel
theorem dX10_way_14 : decode cX10_way 14 = .ok (.iload_n 3, 1) := by decide +kernel
theorem dX10_way_15 : decode cX10_way 15 = .ok (.iconst 0, 1) := by decide +kernel
theorem dX10_way_16 : decode cX10_way 16 = .ok (.iconst 2, 1) := by decide +kernel
theorem dX10_way_17 : decode cX10_way 17 = .ok (.invokestatic 77, 3) := by decide +kernel
theorem dX10_way_20 : decode cX10_way 20 = .ok (.ifCond .ne 5, 3) := by decide +kernel
theorem dX10_way_23 : decode cX10_way 23 = .ok (.iconst (-1), 1) := by decide +kernel
theorem dX10_way_24 : decode cX10_way 24 = .ok (.ireturn, 1) := by decide +kernel
theorem dX10_way_25 : decode cX10_way 25 = .ok (.aload_n 0, 1) := by decide +kernel
theorem dX10_way_26 : decode cX10_way 26 = .ok (.getfield 52, 3) := by decide +kernel
theorem dX10_way_29 : decode cX10_way 29 = .ok (.aload_n 0, 1) := by decide +kernel
theorem dX10_way_30 : decode cX10_way 30 = .ok (.getfield 10, 3) := by decide +kernel
theorem dX10_way_33 : decode cX10_way 33 = .ok (.iload_n 2, 1) := by decide +kernel
theorem dX10_way_34 : decode cX10_way 34 = .ok (.iload_n 1, 1) := by decide +kernel
theorem dX10_way_35 : decode cX10_way 35 = .ok (.invokevirtual 174, 3) := by decide +kernel
theorem dX10_way_38 : decode cX10_way 38 = .ok (.aload_n 0, 1) := by decide +kernel
theorem dX10_way_39 : decode cX10_way 39 = .ok (.getfield 52, 3) := by decide +kernel
theorem dX10_way_42 : decode cX10_way 42 = .ok (.getfield 178, 3) := by decide +kernel
theorem dX10_way_45 : decode cX10_way 45 = .ok (.iload_n 1, 1) := by decide +kernel
theorem dX10_way_46 : decode cX10_way 46 = .ok (.iaload, 1) := by decide +kernel
theorem dX10_way_47 : decode cX10_way 47 = .ok (.istore 4, 2) := by decide +kernel
theorem dX10_way_49 : decode cX10_way 49 = .ok (.iload 4, 2) := by decide +kernel
theorem dX10_way_51 : decode cX10_way 51 = .ok (.ldc 181, 2) := by decide +kernel
theorem dX10_way_53 : decode cX10_way 53 = .ok (.if_icmp .ne 6, 3) := by decide +kernel
theorem dX10_way_56 : decode cX10_way 56 = .ok (.bipush (-4), 2) := by decide +kernel
theorem dX10_way_58 : decode cX10_way 58 = .ok (.ireturn, 1) := by decide +kernel
theorem dX10_way_59 : decode cX10_way 59 = .ok (.iload_n 3, 1) := by decide +kernel
theorem dX10_way_60 : decode cX10_way 60 = .ok (.lookupswitch 40 #[(0, 28), (1, 34)], 28) := by decide +kernel
theorem dX10_way_88 : decode cX10_way 88 = .ok (.iload 4, 2) := by decide +kernel
theorem dX10_way_90 : decode cX10_way 90 = .ok (.invokestatic 182, 3) := by decide +kernel
theorem dX10_way_93 : decode cX10_way 93 = .ok (.ireturn, 1) := by decide +kernel
theorem dX10_way_94 : decode cX10_way 94 = .ok (.iload 4, 2) := by decide +kernel
theorem dX10_way_96 : decode cX10_way 96 = .ok (.invokestatic 185, 3) := by decide +kernel
theorem dX10_way_99 : decode cX10_way 99 = .ok (.ireturn, 1) := by decide +kernel
theorem dX10_way_100 : decode cX10_way 100 = .ok (.aload_n 0, 1) := by decide +kernel
theorem dX10_way_101 : decode cX10_way 101 = .ok (.getfield 52, 3) := by decide +kernel
theorem dX10_way_104 : decode cX10_way 104 = .ok (.aload_n 0, 1) := by decide +kernel
theorem dX10_way_105 : decode cX10_way 105 = .ok (.getfield 10, 3) := by decide +kernel
theorem dX10_way_108 : decode cX10_way 108 = .ok (.iload_n 1, 1) := by decide +kernel
theorem dX10_way_109 : decode cX10_way 109 = .ok (.invokevirtual 188, 3) := by decide +kernel
theorem dX10_way_112 : decode cX10_way 112 = .ok (.ireturn, 1) := by decide +kernel
set_option maxRecDepth 20000 in
theorem ggX10_sea_X5_chart : GoodIn wsX10_sea wsX5_chart := goodIn_r _ [8, 9, 10, 11, 12, 13, 14, 15, 16, 17, 18, 19, 7, 20, 21, 22, 23, 24, 25, 26, 27, 28, 29, 30, 31, 32, 33, 34, 35, 36, 37, 38, 39, 40, 41, 69, 70, 71, 72, 73, 74, 75, 76, 77, 78] (by decide +kernel) (by decide +kernel)
set_option maxRecDepth 20000 in
theorem gX10_sea_X5_chart : GoodIn wsX10_sea (wsV RX10 89 RX5 yX5_chart wsX5_chart) := goodIn_app (goodIn_of _ (by decide +kernel)) ggX10_sea_X5_chart
set_option maxRecDepth 20000 in
theorem ggX10_sea_X10_isIn : GoodIn wsX10_sea wsX10_isIn := goodIn_r _ [45] (by decide +kernel) (by decide +kernel)
set_option maxRecDepth 20000 in
theorem gX10_sea_X10_isIn : GoodIn wsX10_sea (va_wsS RX10 77 yX10_isIn wsX10_isIn) := goodIn_app (goodIn_of _ (by decide +kernel)) ggX10_sea_X10_isIn
set_option maxRecDepth 20000 in
theorem ggX10_sea_X5_sizeOf : GoodIn wsX10_sea wsX5_sizeOf := goodIn_r _ [49, 9, 69, 70, 71] (by decide +kernel) (by decide +kernel)
set_option maxRecDepth 20000 in
theorem gX10_sea_X5_sizeOf : GoodIn wsX10_sea (wsV RX10 195 RX5 yX5_sizeOf wsX5_sizeOf) := goodIn_app (goodIn_of _ (by decide +kernel)) ggX10_sea_X5_sizeOf
set_option maxRecDepth 20000 in
theorem ggX10_sea_X5_leastOf : GoodIn wsX10_sea wsX5_leastOf := goodIn_r _ [53, 9, 69, 70, 71] (by decide +kernel) (by decide +kernel)
set_option maxRecDepth 20000 in
theorem gX10_sea_X5_leastOf : GoodIn wsX10_sea (wsV RX10 198 RX5 yX5_leastOf wsX5_leastOf) := goodIn_app (goodIn_of _ (by decide +kernel)) ggX10_sea_X5_leastOf
set_option maxRecDepth 20000 in
theorem ggX10_sea_X5_greatestOf : GoodIn wsX10_sea wsX5_greatestOf := goodIn_r _ [57, 9, 69, 70, 71] (by decide +kernel) (by decide +kernel)
set_option maxRecDepth 20000 in
theorem gX10_sea_X5_greatestOf : GoodIn wsX10_sea (wsV RX10 201 RX5 yX5_greatestOf wsX5_greatestOf) := goodIn_app (goodIn_of _ (by decide +kernel)) ggX10_sea_X5_greatestOf
theorem dX10_sea_0 : decode cX10_sea 0 = .ok (.aload_n 0, 1) := by decide +kernel
theorem dX10_sea_1 : decode cX10_sea 1 = .ok (.getfield 45, 3) := by decide +kernel
theorem dX10_sea_4 : decode cX10_sea 4 = .ok (.aload_n 0, 1) := by decide +kernel
theorem dX10_sea_5 : decode cX10_sea 5 = .ok (.getfield 10, 3) := by decide +kernel
theorem dX10_sea_8 : decode cX10_sea 8 = .ok (.invokevirtual 89, 3) := by decide +kernel
theorem dX10_sea_11 : decode cX10_sea 11 = .ok (.iload_n 1, 1) := by decide +kernel
theorem dX10_sea_12 : decode cX10_sea 12 = .ok (.iconst 0, 1) := by decide +kernel
theorem dX10_sea_13 : decode cX10_sea 13 = .ok (.aload_n 0, 1) := by decide +kernel
theorem dX10_sea_14 : decode cX10_sea 14 = .ok (.getfield 45, 3) := by decide +kernel
theorem dX10_sea_17 : decode cX10_sea 17 = .ok (.getfield 192, 3) := by decide +kernel
theorem dX10_sea_20 : decode cX10_sea 20 = .ok (.iconst 1, 1) := by decide +kernel
theorem dX10_sea_21 : decode cX10_sea 21 = .ok (.isub, 1) := by decide +kernel
theorem dX10_sea_22 : decode cX10_sea 22 = .ok (.invokestatic 77, 3) := by decide +kernel
theorem dX10_sea_25 : decode cX10_sea 25 = .ok (.ifCond .eq 12, 3) := by decide +kernel
theorem dX10_sea_28 : decode cX10_sea 28 = .ok (.iload_n 2, 1) := by decide +kernel
theorem dX10_sea_29 : decode cX10_sea 29 = .ok (.iconst 0, 1) := by decide +kernel
theorem dX10_sea_30 : decode cX10_sea 30 = .ok (.iconst 2, 1) := by decide +kernel
theorem dX10_sea_31 : decode cX10_sea 31 = .ok (.invokestatic 77, 3) := by decide +kernel
theorem dX10_sea_34 : decode cX10_sea 34 = .ok (.ifCond .ne 5, 3) := by decide +kernel
theorem dX10_sea_37 : decode cX10_sea 37 = .ok (.iconst (-1), 1) := by decide +kernel
theorem dX10_sea_38 : decode cX10_sea 38 = .ok (.ireturn, 1) := by decide +kernel
theorem dX10_sea_39 : decode cX10_sea 39 = .ok (.iload_n 2, 1) := by decide +kernel
theorem dX10_sea_40 : decode cX10_sea 40 = .ok (.lookupswitch 46 #[(0, 28), (1, 37)], 28) := by decide +kernel
theorem dX10_sea_68 : decode cX10_sea 68 = .ok (.aload_n 0, 1) := by decide +kernel
theorem dX10_sea_69 : decode cX10_sea 69 = .ok (.getfield 45, 3) := by decide +kernel
theorem dX10_sea_72 : decode cX10_sea 72 = .ok (.iload_n 1, 1) := by decide +kernel
theorem dX10_sea_73 : decode cX10_sea 73 = .ok (.invokevirtual 195, 3) := by decide +kernel
theorem dX10_sea_76 : decode cX10_sea 76 = .ok (.ireturn, 1) := by decide +kernel
theorem dX10_sea_77 : decode cX10_sea 77 = .ok (.aload_n 0, 1) := by decide +kernel
theorem dX10_sea_78 : decode cX10_sea 78 = .ok (.getfield 45, 3) := by decide +kernel
theorem dX10_sea_81 : decode cX10_sea 81 = .ok (.iload_n 1, 1) := by decide +kernel
theorem dX10_sea_82 : decode cX10_sea 82 = .ok (.invokevirtual 198, 3) := by decide +kernel
theorem dX10_sea_85 : decode cX10_sea 85 = .ok (.ireturn, 1) := by decide +kernel
theorem dX10_sea_86 : decode cX10_sea 86 = .ok (.aload_n 0, 1) := by decide +kernel
theorem dX10_sea_87 : decode cX10_sea 87 = .ok (.getfield 45, 3) := by decide +kernel
theorem dX10_sea_90 : decode cX10_sea 90 = .ok (.iload_n 1, 1) := by decide +kernel
theorem dX10_sea_91 : decode cX10_sea 91 = .ok (.invokevirtual 201, 3) := by decide +kernel
theorem dX10_sea_94 : decode cX10_sea 94 = .ok (.ireturn, 1) := by decide +kernel
theorem dX10_stop_0 : decode cX10_stop 0 = .ok (.iload_n 1, 1) := by decide +kernel
theorem dX10_stop_1 : decode cX10_stop 1 = .ok (.ifCond .ge 5, 3) := by decide +kernel
theorem dX10_stop_4 : decode cX10_stop 4 = .ok (.iconst (-1), 1) := by decide +kernel
theorem dX10_stop_5 : decode cX10_stop 5 = .ok (.ireturn, 1) := by decide +kernel
theorem dX10_stop_6 : decode cX10_stop 6 = .ok (.iload_n 1, 1) := by decide +kernel
theorem dX10_stop_7 : decode cX10_stop 7 = .ok (.aload_n 0, 1) := by decide +kernel
theorem dX10_stop_8 : decode cX10_stop 8 = .ok (.getfield 10, 3) := by decide +kernel
theorem dX10_stop_11 : decode cX10_stop 11 = .ok (.getfield 204, 3) := by decide +kernel
theorem dX10_stop_14 : decode cX10_stop 14 = .ok (.if_icmp .ge 15, 3) := by decide +kernel
theorem dX10_stop_17 : decode cX10_stop 17 = .ok (.aload_n 0, 1) := by decide +kernel
theorem dX10_stop_18 : decode cX10_stop 18 = .ok (.getfield 10, 3) := by decide +kernel
theorem dX10_stop_21 : decode cX10_stop 21 = .ok (.getfield 207, 3) := by decide +kernel
theorem dX10_stop_24 : decode cX10_stop 24 = .ok (.iload_n 1, 1) := by decide +kernel
theorem dX10_stop_25 : decode cX10_stop 25 = .ok (.iaload, 1) := by decide +kernel
theorem dX10_stop_26 : decode cX10_stop 26 = .ok (.goto 5, 3) := by decide +kernel
theorem dX10_stop_29 : decode cX10_stop 29 = .ok (.bipush (-4), 2) := by decide +kernel
theorem dX10_stop_31 : decode cX10_stop 31 = .ok (.ireturn, 1) := by decide +kernel
set_option maxRecDepth 20000 in
theorem ggX10_route_X10_isIn : GoodIn wsX10_route wsX10_isIn := goodIn_r _ [6] (by decide +kernel) (by decide +kernel)
set_option maxRecDepth 20000 in
theorem gX10_route_X10_isIn : GoodIn wsX10_route (va_wsS RX10 77 yX10_isIn wsX10_isIn) := goodIn_app (goodIn_of _ (by decide +kernel)) ggX10_route_X10_isIn
set_option maxRecDepth 20000 in
theorem ggX10_route_X10_routeLength : GoodIn wsX10_route wsX10_routeLength := goodIn_r _ [10, 1, 2, 11, 12, 13, 14, 15, 16, 17, 18, 19, 20, 21, 22, 23, 24, 25, 26, 27, 28, 29, 30, 31, 32, 33, 34, 35, 36, 37, 38, 39, 40, 41, 42, 43, 44, 45, 46, 47, 48, 49, 50, 51, 52, 53, 54, 55, 56, 57, 58, 59, 60, 61, 62, 63, 64, 65, 66, 67, 68, 69, 70, 71, 72, 73, 74, 75, 76, 77, 78, 79, 80, 81, 82, 83, 84, 85, 86, 87, 88, 89, 90, 91, 92, 93, 94, 95, 96, 97, 98, 99, 100, 101, 102, 103, 104, 105] (by decide +kernel) (by decide +kernel)
set_option maxRecDepth 20000 in
theorem gX10_route_X10_routeLength : GoodIn wsX10_route (wsV RX10 210 RX10 yX10_routeLength wsX10_routeLength) := goodIn_app (goodIn_of _ (by decide +kernel)) ggX10_route_X10_routeLength
theorem dX10_route_0 : decode cX10_route 0 = .ok (.iload_n 1, 1) := by decide +kernel
theorem dX10_route_1 : decode cX10_route 1 = .ok (.iconst 0, 1) := by decide +kernel
theorem dX10_route_2 : decode cX10_route 2 = .ok (.iconst 1, 1) := by decide +kernel
theorem dX10_route_3 : decode cX10_route 3 = .ok (.invokestatic 77, 3) := by decide +kernel
theorem dX10_route_6 : decode cX10_route 6 = .ok (.ifCond .ne 5, 3) := by decide +kernel
theorem dX10_route_9 : decode cX10_route 9 = .ok (.iconst (-1), 1) := by decide +kernel
theorem dX10_route_10 : decode cX10_route 10 = .ok (.ireturn, 1) := by decide +kernel
theorem dX10_route_11 : decode cX10_route 11 = .ok (.iload_n 1, 1) := by decide +kernel
theorem dX10_route_12 : decode cX10_route 12 = .ok (.ifCond .ne 13, 3) := by decide +kernel
theorem dX10_route_15 : decode cX10_route 15 = .ok (.aload_n 0, 1) := by decide +kernel
theorem dX10_route_16 : decode cX10_route 16 = .ok (.getfield 10, 3) := by decide +kernel
theorem dX10_route_19 : decode cX10_route 19 = .ok (.getfield 204, 3) := by decide +kernel
theorem dX10_route_22 : decode cX10_route 22 = .ok (.goto 7, 3) := by decide +kernel
theorem dX10_route_25 : decode cX10_route 25 = .ok (.aload_n 0, 1) := by decide +kernel
theorem dX10_route_26 : decode cX10_route 26 = .ok (.invokevirtual 210, 3) := by decide +kernel
theorem dX10_route_29 : decode cX10_route 29 = .ok (.ireturn, 1) := by decide +kernel
set_option maxRecDepth 20000 in
theorem ggX10_rolled_X10_isIn : GoodIn wsX10_rolled wsX10_isIn := goodIn_r _ [4] (by decide +kernel) (by decide +kernel)
set_option maxRecDepth 20000 in
theorem gX10_rolled_X10_isIn : GoodIn wsX10_rolled (va_wsS RX10 77 yX10_isIn wsX10_isIn) := goodIn_app (goodIn_of _ (by decide +kernel)) ggX10_rolled_X10_isIn
set_option maxRecDepth 20000 in
theorem ggX10_rolled_X10_routeLength : GoodIn wsX10_rolled wsX10_routeLength := goodIn_r _ [8, 9, 10, 11, 12, 13, 14, 15, 16, 17, 18, 19, 20, 21, 22, 23, 24, 25, 26, 27, 28, 29, 30, 31, 32, 33, 34, 35, 36, 37, 38, 39, 40, 41, 42, 43, 44, 45, 46, 47, 48, 49, 50, 51, 52, 53, 54, 55, 56, 57, 58, 59, 60, 61, 62, 63, 64, 65, 66, 67, 68, 69, 70, 71, 72, 73, 74, 75, 76, 77, 78, 79, 80, 81, 82, 83, 84, 85, 86, 87, 88, 89, 90, 91, 92, 93, 94, 95, 96, 97, 98, 99, 100, 101, 102, 103, 104, 105] (by decide +kernel) (by decide +kernel)
set_option maxRecDepth 20000 in
theorem gX10_rolled_X10_routeLength : GoodIn wsX10_rolled (wsV RX10 210 RX10 yX10_routeLength wsX10_routeLength) := goodIn_app (goodIn_of _ (by decide +kernel)) ggX10_rolled_X10_routeLength
theorem dX10_rolled_0 : decode cX10_rolled 0 = .ok (.iload_n 1, 1) := by decide +kernel
theorem dX10_rolled_1 : decode cX10_rolled 1 = .ok (.iconst 1, 1) := by decide +kernel
theorem dX10_rolled_2 : decode cX10_rolled 2 = .ok (.sipush 10000, 3) := by decide +kernel
theorem dX10_rolled_5 : decode cX10_rolled 5 = .ok (.invokestatic 77, 3) := by decide +kernel
theorem dX10_rolled_8 : decode cX10_rolled 8 = .ok (.ifCond .eq 12, 3) := by decide +kernel
theorem dX10_rolled_11 : decode cX10_rolled 11 = .ok (.iload_n 2, 1) := by decide +kernel
theorem dX10_rolled_12 : decode cX10_rolled 12 = .ok (.iconst 0, 1) := by decide +kernel
theorem dX10_rolled_13 : decode cX10_rolled 13 = .ok (.iconst 1, 1) := by decide +kernel
theorem dX10_rolled_14 : decode cX10_rolled 14 = .ok (.invokestatic 77, 3) := by decide +kernel
theorem dX10_rolled_17 : decode cX10_rolled 17 = .ok (.ifCond .ne 5, 3) := by decide +kernel
theorem dX10_rolled_20 : decode cX10_rolled 20 = .ok (.iconst (-1), 1) := by decide +kernel
theorem dX10_rolled_21 : decode cX10_rolled 21 = .ok (.ireturn, 1) := by decide +kernel
theorem dX10_rolled_22 : decode cX10_rolled 22 = .ok (.aload_n 0, 1) := by decide +kernel
theorem dX10_rolled_23 : decode cX10_rolled 23 = .ok (.invokevirtual 210, 3) := by decide +kernel
theorem dX10_rolled_26 : decode cX10_rolled 26 = .ok (.istore_n 3, 1) := by decide +kernel
theorem dX10_rolled_27 : decode cX10_rolled 27 = .ok (.iload_n 3, 1) := by decide +kernel
theorem dX10_rolled_28 : decode cX10_rolled 28 = .ok (.bipush (-4), 2) := by decide +kernel
theorem dX10_rolled_30 : decode cX10_rolled 30 = .ok (.if_icmp .ne 6, 3) := by decide +kernel
theorem dX10_rolled_33 : decode cX10_rolled 33 = .ok (.bipush (-4), 2) := by decide +kernel
theorem dX10_rolled_35 : decode cX10_rolled 35 = .ok (.ireturn, 1) := by decide +kernel
theorem dX10_rolled_36 : decode cX10_rolled 36 = .ok (.iload_n 2, 1) := by decide +kernel
theorem dX10_rolled_37 : decode cX10_rolled 37 = .ok (.ifCond .ne 9, 3) := by decide +kernel
theorem dX10_rolled_40 : decode cX10_rolled 40 = .ok (.iload_n 3, 1) := by decide +kernel
theorem dX10_rolled_41 : decode cX10_rolled 41 = .ok (.iload_n 1, 1) := by decide +kernel
theorem dX10_rolled_42 : decode cX10_rolled 42 = .ok (.idiv, 1) := by decide +kernel
theorem dX10_rolled_43 : decode cX10_rolled 43 = .ok (.goto 6, 3) := by decide +kernel
theorem dX10_rolled_46 : decode cX10_rolled 46 = .ok (.iload_n 3, 1) := by decide +kernel
theorem dX10_rolled_47 : decode cX10_rolled 47 = .ok (.iload_n 1, 1) := by decide +kernel
theorem dX10_rolled_48 : decode cX10_rolled 48 = .ok (.irem, 1) := by decide +kernel
theorem dX10_rolled_49 : decode cX10_rolled 49 = .ok (.ireturn, 1) := by decide +kernel
set_option maxRecDepth 20000 in
theorem ggX10_lost_X10_isIn : GoodIn wsX10_lost wsX10_isIn := goodIn_r _ [9] (by decide +kernel) (by decide +kernel)
set_option maxRecDepth 20000 in
theorem gX10_lost_X10_isIn : GoodIn wsX10_lost (va_wsS RX10 77 yX10_isIn wsX10_isIn) := goodIn_app (goodIn_of _ (by decide +kernel)) ggX10_lost_X10_isIn
set_option maxRecDepth 20000 in
theorem ggX10_lost_X2_reckon : GoodIn wsX10_lost wsX2_reckon := goodIn_r _ [14, 15, 16, 17, 18, 19, 20, 21, 22, 23, 24, 25, 26, 27, 28, 13, 29, 30, 31, 32, 33, 34, 35, 36, 37, 38, 39, 40, 41, 42, 43, 44, 45, 46, 47, 48, 49, 50, 51, 52, 53, 54, 55, 56, 57, 58, 59, 60, 61, 62, 63, 64, 65, 66, 67, 68, 69, 86, 87, 88, 89, 90, 91, 92, 81, 82, 83, 84, 85] (by decide +kernel) (by decide +kernel)
set_option maxRecDepth 20000 in
theorem gX10_lost_X2_reckon : GoodIn wsX10_lost (wsV RX10 215 RX2 yX2_reckon wsX2_reckon) := goodIn_app (goodIn_of _ (by decide +kernel)) ggX10_lost_X2_reckon
theorem dX10_lost_0 : decode cX10_lost 0 = .ok (.iload_n 1, 1) := by decide +kernel
theorem dX10_lost_1 : decode cX10_lost 1 = .ok (.iconst 0, 1) := by decide +kernel
theorem dX10_lost_2 : decode cX10_lost 2 = .ok (.bipush 10, 2) := by decide +kernel
theorem dX10_lost_4 : decode cX10_lost 4 = .ok (.invokestatic 77, 3) := by decide +kernel
theorem dX10_lost_7 : decode cX10_lost 7 = .ok (.ifCond .eq 12, 3) := by decide +kernel
theorem dX10_lost_10 : decode cX10_lost 10 = .ok (.iload_n 2, 1) := by decide +kernel
theorem dX10_lost_11 : decode cX10_lost 11 = .ok (.iconst 0, 1) := by decide +kernel
theorem dX10_lost_12 : decode cX10_lost 12 = .ok (.iconst 1, 1) := by decide +kernel
theorem dX10_lost_13 : decode cX10_lost 13 = .ok (.invokestatic 77, 3) := by decide +kernel
theorem dX10_lost_16 : decode cX10_lost 16 = .ok (.ifCond .ne 7, 3) := by decide +kernel
theorem dX10_lost_19 : decode cX10_lost 19 = .ok (.ldc2_w 213, 3) := by decide +kernel
theorem dX10_lost_22 : decode cX10_lost 22 = .ok (.lreturn, 1) := by decide +kernel
theorem dX10_lost_23 : decode cX10_lost 23 = .ok (.aload_n 0, 1) := by decide +kernel
theorem dX10_lost_24 : decode cX10_lost 24 = .ok (.getfield 66, 3) := by decide +kernel
theorem dX10_lost_27 : decode cX10_lost 27 = .ok (.aload_n 0, 1) := by decide +kernel
theorem dX10_lost_28 : decode cX10_lost 28 = .ok (.getfield 10, 3) := by decide +kernel
theorem dX10_lost_31 : decode cX10_lost 31 = .ok (.iload_n 1, 1) := by decide +kernel
theorem dX10_lost_32 : decode cX10_lost 32 = .ok (.invokevirtual 215, 3) := by decide +kernel
theorem dX10_lost_35 : decode cX10_lost 35 = .ok (.iload_n 2, 1) := by decide +kernel
theorem dX10_lost_36 : decode cX10_lost 36 = .ok (.ifCond .ne 13, 3) := by decide +kernel
theorem dX10_lost_39 : decode cX10_lost 39 = .ok (.aload_n 0, 1) := by decide +kernel
theorem dX10_lost_40 : decode cX10_lost 40 = .ok (.getfield 66, 3) := by decide +kernel
theorem dX10_lost_43 : decode cX10_lost 43 = .ok (.getfield 219, 3) := by decide +kernel
theorem dX10_lost_46 : decode cX10_lost 46 = .ok (.goto 10, 3) := by decide +kernel
theorem dX10_lost_49 : decode cX10_lost 49 = .ok (.aload_n 0, 1) := by decide +kernel
theorem dX10_lost_50 : decode cX10_lost 50 = .ok (.getfield 66, 3) := by decide +kernel
theorem dX10_lost_53 : decode cX10_lost 53 = .ok (.getfield 223, 3) := by decide +kernel
theorem dX10_lost_56 : decode cX10_lost 56 = .ok (.lreturn, 1) := by decide +kernel
set_option maxRecDepth 20000 in
theorem ggX10_count_X0_landNumber : GoodIn wsX10_count wsX0_landNumber := goodIn_r _ [13, 14, 15, 16, 17, 18, 19, 20, 21, 85, 86, 87, 88, 89, 90, 91] (by decide +kernel) (by decide +kernel)
set_option maxRecDepth 20000 in
theorem gX10_count_X0_landNumber : GoodIn wsX10_count (wsV RX10 229 RX0 yX0_landNumber wsX0_landNumber) := goodIn_app (goodIn_of _ (by decide +kernel)) ggX10_count_X0_landNumber
set_option maxRecDepth 20000 in
theorem ggX10_count_X5_chart : GoodIn wsX10_count wsX5_chart := goodIn_r _ [26, 27, 28, 29, 30, 31, 12, 32, 14, 33, 34, 35, 25, 36, 37, 38, 39, 40, 41, 42, 43, 44, 45, 46, 47, 48, 49, 50, 51, 52, 53, 54, 55, 56, 57, 92, 93, 94, 85, 86, 87, 88, 89, 90, 91] (by decide +kernel) (by decide +kernel)
set_option maxRecDepth 20000 in
theorem gX10_count_X5_chart : GoodIn wsX10_count (wsV RX10 89 RX5 yX5_chart wsX5_chart) := goodIn_app (goodIn_of _ (by decide +kernel)) ggX10_count_X5_chart
set_option maxRecDepth 20000 in
theorem ggX10_count_X0_landNumberOnStrips : GoodIn wsX10_count wsX0_landNumberOnStrips := goodIn_r _ [61, 62, 30, 31, 12, 32, 14, 63, 64, 40, 65, 66, 67, 68, 69, 70, 71, 50, 72, 73, 85, 86, 87, 88, 89, 90, 91] (by decide +kernel) (by decide +kernel)
set_option maxRecDepth 20000 in
theorem gX10_count_X0_landNumberOnStrips : GoodIn wsX10_count (wsV RX10 232 RX0 yX0_landNumberOnStrips wsX0_landNumberOnStrips) := goodIn_app (goodIn_of _ (by decide +kernel)) ggX10_count_X0_landNumberOnStrips
theorem dX10_count_0 : decode cX10_count 0 = .ok (.iload_n 1, 1) := by decide +kernel
theorem dX10_count_1 : decode cX10_count 1 = .ok (.tableswitch 110 0 6 #[43, 51, 59, 67, 75, 94, 102], 43) := by decide +kernel
theorem dX10_count_44 : decode cX10_count 44 = .ok (.aload_n 0, 1) := by decide +kernel
theorem dX10_count_45 : decode cX10_count 45 = .ok (.getfield 10, 3) := by decide +kernel
theorem dX10_count_48 : decode cX10_count 48 = .ok (.getfield 111, 3) := by decide +kernel
theorem dX10_count_51 : decode cX10_count 51 = .ok (.ireturn, 1) := by decide +kernel
theorem dX10_count_52 : decode cX10_count 52 = .ok (.aload_n 0, 1) := by decide +kernel
theorem dX10_count_53 : decode cX10_count 53 = .ok (.getfield 10, 3) := by decide +kernel
theorem dX10_count_56 : decode cX10_count 56 = .ok (.getfield 226, 3) := by decide +kernel
theorem dX10_count_59 : decode cX10_count 59 = .ok (.ireturn, 1) := by decide +kernel
theorem dX10_count_60 : decode cX10_count 60 = .ok (.aload_n 0, 1) := by decide +kernel
theorem dX10_count_61 : decode cX10_count 61 = .ok (.getfield 10, 3) := by decide +kernel
theorem dX10_count_64 : decode cX10_count 64 = .ok (.getfield 134, 3) := by decide +kernel
theorem dX10_count_67 : decode cX10_count 67 = .ok (.ireturn, 1) := by decide +kernel
theorem dX10_count_68 : decode cX10_count 68 = .ok (.aload_n 0, 1) := by decide +kernel
theorem dX10_count_69 : decode cX10_count 69 = .ok (.getfield 10, 3) := by decide +kernel
theorem dX10_count_72 : decode cX10_count 72 = .ok (.invokevirtual 229, 3) := by decide +kernel
theorem dX10_count_75 : decode cX10_count 75 = .ok (.ireturn, 1) := by decide +kernel
theorem dX10_count_76 : decode cX10_count 76 = .ok (.aload_n 0, 1) := by decide +kernel
theorem dX10_count_77 : decode cX10_count 77 = .ok (.getfield 45, 3) := by decide +kernel
theorem dX10_count_80 : decode cX10_count 80 = .ok (.aload_n 0, 1) := by decide +kernel
theorem dX10_count_81 : decode cX10_count 81 = .ok (.getfield 10, 3) := by decide +kernel
theorem dX10_count_84 : decode cX10_count 84 = .ok (.invokevirtual 89, 3) := by decide +kernel
theorem dX10_count_87 : decode cX10_count 87 = .ok (.aload_n 0, 1) := by decide +kernel
theorem dX10_count_88 : decode cX10_count 88 = .ok (.getfield 45, 3) := by decide +kernel
theorem dX10_count_91 : decode cX10_count 91 = .ok (.getfield 192, 3) := by decide +kernel
theorem dX10_count_94 : decode cX10_count 94 = .ok (.ireturn, 1) := by decide +kernel
theorem dX10_count_95 : decode cX10_count 95 = .ok (.aload_n 0, 1) := by decide +kernel
theorem dX10_count_96 : decode cX10_count 96 = .ok (.getfield 10, 3) := by decide +kernel
theorem dX10_count_99 : decode cX10_count 99 = .ok (.invokevirtual 232, 3) := by decide +kernel
theorem dX10_count_102 : decode cX10_count 102 = .ok (.ireturn, 1) := by decide +kernel
theorem dX10_count_103 : decode cX10_count 103 = .ok (.aload_n 0, 1) := by decide +kernel
theorem dX10_count_104 : decode cX10_count 104 = .ok (.getfield 19, 3) := by decide +kernel
theorem dX10_count_107 : decode cX10_count 107 = .ok (.getfield 235, 3) := by decide +kernel
theorem dX10_count_110 : decode cX10_count 110 = .ok (.ireturn, 1) := by decide +kernel
theorem dX10_count_111 : decode cX10_count 111 = .ok (.iconst (-1), 1) := by decide +kernel
theorem dX10_count_112 : decode cX10_count 112 = .ok (.ireturn, 1) := by decide +kernel
set_option maxRecDepth 20000 in
theorem ggX10_land_X1_isNumber : GoodIn wsX10_land wsX1_isNumber := goodIn_r _ [6] (by decide +kernel) (by decide +kernel)
set_option maxRecDepth 20000 in
theorem gX10_land_X1_isNumber : GoodIn wsX10_land (va_wsS RX10 144 yX1_isNumber wsX1_isNumber) := goodIn_app (goodIn_of _ (by decide +kernel)) ggX10_land_X1_isNumber
set_option maxRecDepth 20000 in
theorem ggX10_land_X10_isIn : GoodIn wsX10_land wsX10_isIn := goodIn_r _ [10] (by decide +kernel) (by decide +kernel)
set_option maxRecDepth 20000 in
theorem gX10_land_X10_isIn : GoodIn wsX10_land (va_wsS RX10 77 yX10_isIn wsX10_isIn) := goodIn_app (goodIn_of _ (by decide +kernel)) ggX10_land_X10_isIn
set_option maxRecDepth 20000 in
theorem ggX10_land_X0_isLand : GoodIn wsX10_land wsX0_isLand := goodIn_r _ [15, 16, 65, 66, 67, 68, 69, 70, 71] (by decide +kernel) (by decide +kernel)
set_option maxRecDepth 20000 in
theorem gX10_land_X0_isLand : GoodIn wsX10_land (wsV RX10 85 RX0 yX0_isLand wsX0_isLand) := goodIn_app (goodIn_of _ (by decide +kernel)) ggX10_land_X0_isLand
set_option maxRecDepth 20000 in
theorem ggX10_land_X4_keep : GoodIn wsX10_land wsX4_keep := goodIn_r _ [21, 22, 23, 24, 25, 26, 27, 14, 28, 16, 29, 30, 31, 32, 33, 34, 35, 36, 37, 38, 72, 73, 74, 65, 66, 67, 68, 69, 70, 71] (by decide +kernel) (by decide +kernel)
set_option maxRecDepth 20000 in
theorem gX10_land_X4_keep : GoodIn wsX10_land (wsV RX10 238 RX4 yX4_keep wsX4_keep) := goodIn_app (goodIn_of _ (by decide +kernel)) ggX10_land_X4_keep
set_option maxRecDepth 20000 in
theorem ggX10_land_X0_turnOver : GoodIn wsX10_land wsX0_turnOver := goodIn_r _ [42, 16, 65, 66, 67, 68, 69, 70, 71] (by decide +kernel) (by decide +kernel)
set_option maxRecDepth 20000 in
theorem gX10_land_X0_turnOver : GoodIn wsX10_land (wsV RX10 241 RX0 yX0_turnOver wsX0_turnOver) := goodIn_app (goodIn_of _ (by decide +kernel)) ggX10_land_X0_turnOver
set_option maxRecDepth 20000 in
theorem ggX10_land_X0_landNumber : GoodIn wsX10_land wsX0_landNumber := goodIn_r _ [46, 16, 47, 48, 49, 50, 51, 52, 53, 65, 66, 67, 68, 69, 70, 71] (by decide +kernel) (by decide +kernel)
set_option maxRecDepth 20000 in
theorem gX10_land_X0_landNumber : GoodIn wsX10_land (wsV RX10 229 RX0 yX0_landNumber wsX0_landNumber) := goodIn_app (goodIn_of _ (by decide +kernel)) ggX10_land_X0_landNumber
theorem dX10_land_0 : decode cX10_land 0 = .ok (.iload_n 1, 1) := by decide +kernel
theorem dX10_land_1 : decode cX10_land 1 = .ok (.invokestatic 144, 3) := by decide +kernel
theorem dX10_land_4 : decode cX10_land 4 = .ok (.ifCond .eq 12, 3) := by decide +kernel
theorem dX10_land_7 : decode cX10_land 7 = .ok (.iload_n 2, 1) := by decide +kernel
theorem dX10_land_8 : decode cX10_land 8 = .ok (.iconst 0, 1) := by decide +kernel
theorem dX10_land_9 : decode cX10_land 9 = .ok (.iconst 1, 1) := by decide +kernel
theorem dX10_land_10 : decode cX10_land 10 = .ok (.invokestatic 77, 3) := by decide +kernel
theorem dX10_land_13 : decode cX10_land 13 = .ok (.ifCond .ne 5, 3) := by decide +kernel
theorem dX10_land_16 : decode cX10_land 16 = .ok (.iconst (-1), 1) := by decide +kernel
theorem dX10_land_17 : decode cX10_land 17 = .ok (.ireturn, 1) := by decide +kernel
theorem dX10_land_18 : decode cX10_land 18 = .ok (.aload_n 0, 1) := by decide +kernel
theorem dX10_land_19 : decode cX10_land 19 = .ok (.getfield 10, 3) := by decide +kernel
theorem dX10_land_22 : decode cX10_land 22 = .ok (.iload_n 1, 1) := by decide +kernel
theorem dX10_land_23 : decode cX10_land 23 = .ok (.invokevirtual 85, 3) := by decide +kernel
theorem dX10_land_26 : decode cX10_land 26 = .ok (.iload_n 2, 1) := by decide +kernel
theorem dX10_land_27 : decode cX10_land 27 = .ok (.iconst 1, 1) := by decide +kernel
theorem dX10_land_28 : decode cX10_land 28 = .ok (.if_icmp .ne 7, 3) := by decide +kernel
theorem dX10_land_31 : decode cX10_land 31 = .ok (.iconst 1, 1) := by decide +kernel
theorem dX10_land_32 : decode cX10_land 32 = .ok (.goto 4, 3) := by decide +kernel
theorem dX10_land_35 : decode cX10_land 35 = .ok (.iconst 0, 1) := by decide +kernel
theorem dX10_land_36 : decode cX10_land 36 = .ok (.if_icmp .ne 6, 3) := by decide +kernel
theorem dX10_land_39 : decode cX10_land 39 = .ok (.bipush (-2), 2) := by decide +kernel
theorem dX10_land_41 : decode cX10_land 41 = .ok (.ireturn, 1) := by decide +kernel
theorem dX10_land_42 : decode cX10_land 42 = .ok (.aload_n 0, 1) := by decide +kernel
theorem dX10_land_43 : decode cX10_land 43 = .ok (.getfield 19, 3) := by decide +kernel
theorem dX10_land_46 : decode cX10_land 46 = .ok (.aload_n 0, 1) := by decide +kernel
theorem dX10_land_47 : decode cX10_land 47 = .ok (.getfield 10, 3) := by decide +kernel
theorem dX10_land_50 : decode cX10_land 50 = .ok (.invokevirtual 238, 3) := by decide +kernel
theorem dX10_land_53 : decode cX10_land 53 = .ok (.aload_n 0, 1) := by decide +kernel
theorem dX10_land_54 : decode cX10_land 54 = .ok (.getfield 10, 3) := by decide +kernel
theorem dX10_land_57 : decode cX10_land 57 = .ok (.iload_n 1, 1) := by decide +kernel
theorem dX10_land_58 : decode cX10_land 58 = .ok (.invokevirtual 241, 3) := by decide +kernel
theorem dX10_land_61 : decode cX10_land 61 = .ok (.aload_n 0, 1) := by decide +kernel
theorem dX10_land_62 : decode cX10_land 62 = .ok (.getfield 10, 3) := by decide +kernel
theorem dX10_land_65 : decode cX10_land 65 = .ok (.invokevirtual 229, 3) := by decide +kernel
theorem dX10_land_68 : decode cX10_land 68 = .ok (.ireturn, 1) := by decide +kernel
set_option maxRecDepth 20000 in
theorem ggX10_tell_X10_mayBeTold : GoodIn wsX10_tell wsX10_mayBeTold := goodIn_r _ [9, 10, 11, 8, 12, 13, 14, 15, 16] (by decide +kernel) (by decide +kernel)
set_option maxRecDepth 20000 in
theorem gX10_tell_X10_mayBeTold : GoodIn wsX10_tell (va_wsS RX10 245 yX10_mayBeTold wsX10_mayBeTold) := goodIn_app (goodIn_of _ (by decide +kernel)) ggX10_tell_X10_mayBeTold
set_option maxRecDepth 20000 in
theorem ggX10_tell_X4_keep : GoodIn wsX10_tell wsX4_keep := goodIn_r _ [21, 22, 23, 24, 25, 26, 27, 28, 29, 30, 31, 32, 33, 34, 35, 36, 37, 38, 39, 40, 59, 60, 61, 52, 53, 54, 55, 56, 57, 58] (by decide +kernel) (by decide +kernel)
set_option maxRecDepth 20000 in
theorem gX10_tell_X4_keep : GoodIn wsX10_tell (wsV RX10 238 RX4 yX4_keep wsX4_keep) := goodIn_app (goodIn_of _ (by decide +kernel)) ggX10_tell_X4_keep
theorem dX10_tell_0 : decode cX10_tell 0 = .ok (.iload_n 1, 1) := by decide +kernel
theorem dX10_tell_1 : decode cX10_tell 1 = .ok (.iload_n 2, 1) := by decide +kernel
theorem dX10_tell_2 : decode cX10_tell 2 = .ok (.invokestatic 245, 3) := by decide +kernel
theorem dX10_tell_5 : decode cX10_tell 5 = .ok (.ifCond .ne 5, 3) := by decide +kernel
theorem dX10_tell_8 : decode cX10_tell 8 = .ok (.iconst (-1), 1) := by decide +kernel
theorem dX10_tell_9 : decode cX10_tell 9 = .ok (.ireturn, 1) := by decide +kernel
theorem dX10_tell_10 : decode cX10_tell 10 = .ok (.iload_n 1, 1) := by decide +kernel
theorem dX10_tell_11 : decode cX10_tell 11 = .ok (.ifCond .ne 13, 3) := by decide +kernel
theorem dX10_tell_14 : decode cX10_tell 14 = .ok (.aload_n 0, 1) := by decide +kernel
theorem dX10_tell_15 : decode cX10_tell 15 = .ok (.getfield 10, 3) := by decide +kernel
theorem dX10_tell_18 : decode cX10_tell 18 = .ok (.getfield 111, 3) := by decide +kernel
theorem dX10_tell_21 : decode cX10_tell 21 = .ok (.goto 25, 3) := by decide +kernel
theorem dX10_tell_24 : decode cX10_tell 24 = .ok (.iload_n 1, 1) := by decide +kernel
theorem dX10_tell_25 : decode cX10_tell 25 = .ok (.iconst 1, 1) := by decide +kernel
theorem dX10_tell_26 : decode cX10_tell 26 = .ok (.if_icmp .ne 13, 3) := by decide +kernel
theorem dX10_tell_29 : decode cX10_tell 29 = .ok (.aload_n 0, 1) := by decide +kernel
theorem dX10_tell_30 : decode cX10_tell 30 = .ok (.getfield 10, 3) := by decide +kernel
theorem dX10_tell_33 : decode cX10_tell 33 = .ok (.getfield 226, 3) := by decide +kernel
theorem dX10_tell_36 : decode cX10_tell 36 = .ok (.goto 10, 3) := by decide +kernel
theorem dX10_tell_39 : decode cX10_tell 39 = .ok (.aload_n 0, 1) := by decide +kernel
theorem dX10_tell_40 : decode cX10_tell 40 = .ok (.getfield 10, 3) := by decide +kernel
theorem dX10_tell_43 : decode cX10_tell 43 = .ok (.getfield 134, 3) := by decide +kernel
theorem dX10_tell_46 : decode cX10_tell 46 = .ok (.istore_n 3, 1) := by decide +kernel
theorem dX10_tell_47 : decode cX10_tell 47 = .ok (.iload_n 3, 1) := by decide +kernel
theorem dX10_tell_48 : decode cX10_tell 48 = .ok (.iload_n 2, 1) := by decide +kernel
theorem dX10_tell_49 : decode cX10_tell 49 = .ok (.if_icmp .ne 6, 3) := by decide +kernel
theorem dX10_tell_52 : decode cX10_tell 52 = .ok (.bipush (-2), 2) := by decide +kernel
theorem dX10_tell_54 : decode cX10_tell 54 = .ok (.ireturn, 1) := by decide +kernel
theorem dX10_tell_55 : decode cX10_tell 55 = .ok (.aload_n 0, 1) := by decide +kernel
theorem dX10_tell_56 : decode cX10_tell 56 = .ok (.getfield 19, 3) := by decide +kernel
theorem dX10_tell_59 : decode cX10_tell 59 = .ok (.aload_n 0, 1) := by decide +kernel
theorem dX10_tell_60 : decode cX10_tell 60 = .ok (.getfield 10, 3) := by decide +kernel
theorem dX10_tell_63 : decode cX10_tell 63 = .ok (.invokevirtual 238, 3) := by decide +kernel
theorem dX10_tell_66 : decode cX10_tell 66 = .ok (.iload_n 1, 1) := by decide +kernel
theorem dX10_tell_67 : decode cX10_tell 67 = .ok (.ifCond .ne 14, 3) := by decide +kernel
theorem dX10_tell_70 : decode cX10_tell 70 = .ok (.aload_n 0, 1) := by decide +kernel
theorem dX10_tell_71 : decode cX10_tell 71 = .ok (.getfield 10, 3) := by decide +kernel
theorem dX10_tell_74 : decode cX10_tell 74 = .ok (.iload_n 2, 1) := by decide +kernel
theorem dX10_tell_75 : decode cX10_tell 75 = .ok (.putfield 111, 3) := by decide +kernel
theorem dX10_tell_78 : decode cX10_tell 78 = .ok (.goto 27, 3) := by decide +kernel
theorem dX10_tell_81 : decode cX10_tell 81 = .ok (.iload_n 1, 1) := by decide +kernel
theorem dX10_tell_82 : decode cX10_tell 82 = .ok (.iconst 1, 1) := by decide +kernel
theorem dX10_tell_83 : decode cX10_tell 83 = .ok (.if_icmp .ne 14, 3) := by decide +kernel
theorem dX10_tell_86 : decode cX10_tell 86 = .ok (.aload_n 0, 1) := by decide +kernel
theorem dX10_tell_87 : decode cX10_tell 87 = .ok (.getfield 10, 3) := by decide +kernel
theorem dX10_tell_90 : decode cX10_tell 90 = .ok (.iload_n 2, 1) := by decide +kernel
theorem dX10_tell_91 : decode cX10_tell 91 = .ok (.putfield 226, 3) := by decide +kernel
theorem dX10_tell_94 : decode cX10_tell 94 = .ok (.goto 11, 3) := by decide +kernel
theorem dX10_tell_97 : decode cX10_tell 97 = .ok (.aload_n 0, 1) := by decide +kernel
theorem dX10_tell_98 : decode cX10_tell 98 = .ok (.getfield 10, 3) := by decide +kernel
theorem dX10_tell_101 : decode cX10_tell 101 = .ok (.iload_n 2, 1) := by decide +kernel
theorem dX10_tell_102 : decode cX10_tell 102 = .ok (.putfield 134, 3) := by decide +kernel
theorem dX10_tell_105 : decode cX10_tell 105 = .ok (.iload_n 3, 1) := by decide +kernel
theorem dX10_tell_106 : decode cX10_tell 106 = .ok (.ireturn, 1) := by decide +kernel
set_option maxRecDepth 20000 in
theorem ggX10_add_X1_isNumber : GoodIn wsX10_add wsX1_isNumber := goodIn_r _ [8] (by decide +kernel) (by decide +kernel)
set_option maxRecDepth 20000 in
theorem gX10_add_X1_isNumber : GoodIn wsX10_add (va_wsS RX10 144 yX1_isNumber wsX1_isNumber) := goodIn_app (goodIn_of _ (by decide +kernel)) ggX10_add_X1_isNumber
set_option maxRecDepth 20000 in
theorem ggX10_add_X4_keep : GoodIn wsX10_add wsX4_keep := goodIn_r _ [13, 14, 15, 16, 17, 18, 19, 20, 21, 22, 23, 24, 25, 26, 27, 28, 29, 30, 31, 32, 51, 52, 53, 44, 45, 46, 47, 48, 49, 50] (by decide +kernel) (by decide +kernel)
set_option maxRecDepth 20000 in
theorem gX10_add_X4_keep : GoodIn wsX10_add (wsV RX10 238 RX4 yX4_keep wsX4_keep) := goodIn_app (goodIn_of _ (by decide +kernel)) ggX10_add_X4_keep
theorem dX10_add_0 : decode cX10_add 0 = .ok (.iload_n 1, 1) := by decide +kernel
theorem dX10_add_1 : decode cX10_add 1 = .ok (.invokestatic 144, 3) := by decide +kernel
theorem dX10_add_4 : decode cX10_add 4 = .ok (.ifCond .ne 5, 3) := by decide +kernel
theorem dX10_add_7 : decode cX10_add 7 = .ok (.iconst (-1), 1) := by decide +kernel
theorem dX10_add_8 : decode cX10_add 8 = .ok (.ireturn, 1) := by decide +kernel
theorem dX10_add_9 : decode cX10_add 9 = .ok (.aload_n 0, 1) := by decide +kernel
theorem dX10_add_10 : decode cX10_add 10 = .ok (.getfield 10, 3) := by decide +kernel
theorem dX10_add_13 : decode cX10_add 13 = .ok (.getfield 204, 3) := by decide +kernel
theorem dX10_add_16 : decode cX10_add 16 = .ok (.bipush 8, 2) := by decide +kernel
theorem dX10_add_18 : decode cX10_add 18 = .ok (.if_icmp .lt 6, 3) := by decide +kernel
theorem dX10_add_21 : decode cX10_add 21 = .ok (.bipush (-3), 2) := by decide +kernel
theorem dX10_add_23 : decode cX10_add 23 = .ok (.ireturn, 1) := by decide +kernel
theorem dX10_add_24 : decode cX10_add 24 = .ok (.aload_n 0, 1) := by decide +kernel
theorem dX10_add_25 : decode cX10_add 25 = .ok (.getfield 19, 3) := by decide +kernel
theorem dX10_add_28 : decode cX10_add 28 = .ok (.aload_n 0, 1) := by decide +kernel
theorem dX10_add_29 : decode cX10_add 29 = .ok (.getfield 10, 3) := by decide +kernel
theorem dX10_add_32 : decode cX10_add 32 = .ok (.invokevirtual 238, 3) := by decide +kernel
theorem dX10_add_35 : decode cX10_add 35 = .ok (.aload_n 0, 1) := by decide +kernel
theorem dX10_add_36 : decode cX10_add 36 = .ok (.getfield 10, 3) := by decide +kernel
theorem dX10_add_39 : decode cX10_add 39 = .ok (.getfield 207, 3) := by decide +kernel
theorem dX10_add_42 : decode cX10_add 42 = .ok (.aload_n 0, 1) := by decide +kernel
theorem dX10_add_43 : decode cX10_add 43 = .ok (.getfield 10, 3) := by decide +kernel
theorem dX10_add_46 : decode cX10_add 46 = .ok (.getfield 204, 3) := by decide +kernel
theorem dX10_add_49 : decode cX10_add 49 = .ok (.iload_n 1, 1) := by decide +kernel
theorem dX10_add_50 : decode cX10_add 50 = .ok (.iastore, 1) := by decide +kernel
theorem dX10_add_51 : decode cX10_add 51 = .ok (.aload_n 0, 1) := by decide +kernel
theorem dX10_add_52 : decode cX10_add 52 = .ok (.getfield 10, 3) := by decide +kernel
theorem dX10_add_55 : decode cX10_add 55 = .ok (.dup, 1) := by decide +kernel
theorem dX10_add_56 : decode cX10_add 56 = .ok (.getfield 204, 3) := by decide +kernel
theorem dX10_add_59 : decode cX10_add 59 = .ok (.iconst 1, 1) := by decide +kernel
theorem dX10_add_60 : decode cX10_add 60 = .ok (.iadd, 1) := by decide +kernel
theorem dX10_add_61 : decode cX10_add 61 = .ok (.putfield 204, 3) := by decide +kernel
theorem dX10_add_64 : decode cX10_add 64 = .ok (.aload_n 0, 1) := by decide +kernel
theorem dX10_add_65 : decode cX10_add 65 = .ok (.getfield 10, 3) := by decide +kernel
theorem dX10_add_68 : decode cX10_add 68 = .ok (.getfield 204, 3) := by decide +kernel
theorem dX10_add_71 : decode cX10_add 71 = .ok (.ireturn, 1) := by decide +kernel
set_option maxRecDepth 20000 in
theorem ggX10_out_X1_isNumber : GoodIn wsX10_out wsX1_isNumber := goodIn_r _ [6] (by decide +kernel) (by decide +kernel)
set_option maxRecDepth 20000 in
theorem gX10_out_X1_isNumber : GoodIn wsX10_out (va_wsS RX10 144 yX1_isNumber wsX1_isNumber) := goodIn_app (goodIn_of _ (by decide +kernel)) ggX10_out_X1_isNumber
set_option maxRecDepth 20000 in
theorem ggX10_out_X0_stopsAt : GoodIn wsX10_out wsX0_stopsAt := goodIn_r _ [11, 12, 13, 50, 51, 52, 53, 54, 55, 56] (by decide +kernel) (by decide +kernel)
set_option maxRecDepth 20000 in
theorem gX10_out_X0_stopsAt : GoodIn wsX10_out (wsV RX10 248 RX0 yX0_stopsAt wsX0_stopsAt) := goodIn_app (goodIn_of _ (by decide +kernel)) ggX10_out_X0_stopsAt
set_option maxRecDepth 20000 in
theorem ggX10_out_X4_keep : GoodIn wsX10_out wsX4_keep := goodIn_r _ [18, 19, 20, 21, 22, 23, 24, 10, 25, 26, 27, 28, 29, 30, 13, 12, 31, 32, 33, 34, 57, 58, 59, 50, 51, 52, 53, 54, 55, 56] (by decide +kernel) (by decide +kernel)
set_option maxRecDepth 20000 in
theorem gX10_out_X4_keep : GoodIn wsX10_out (wsV RX10 238 RX4 yX4_keep wsX4_keep) := goodIn_app (goodIn_of _ (by decide +kernel)) ggX10_out_X4_keep
set_option maxRecDepth 20000 in
theorem ggX10_out_X0_withoutStop : GoodIn wsX10_out wsX0_withoutStop := goodIn_r _ [38, 12, 13, 50, 51, 52, 53, 54, 55, 56] (by decide +kernel) (by decide +kernel)
set_option maxRecDepth 20000 in
theorem gX10_out_X0_withoutStop : GoodIn wsX10_out (wsV RX10 251 RX0 yX0_withoutStop wsX0_withoutStop) := goodIn_app (goodIn_of _ (by decide +kernel)) ggX10_out_X0_withoutStop
theorem dX10_out_0 : decode cX10_out 0 = .ok (.iload_n 1, 1) := by decide +kernel
theorem dX10_out_1 : decode cX10_out 1 = .ok (.invokestatic 144, 3) := by decide +kernel
theorem dX10_out_4 : decode cX10_out 4 = .ok (.ifCond .ne 5, 3) := by decide +kernel
theorem dX10_out_7 : decode cX10_out 7 = .ok (.iconst (-1), 1) := by decide +kernel
theorem dX10_out_8 : decode cX10_out 8 = .ok (.ireturn, 1) := by decide +kernel
theorem dX10_out_9 : decode cX10_out 9 = .ok (.aload_n 0, 1) := by decide +kernel
theorem dX10_out_10 : decode cX10_out 10 = .ok (.getfield 10, 3) := by decide +kernel
theorem dX10_out_13 : decode cX10_out 13 = .ok (.iload_n 1, 1) := by decide +kernel
theorem dX10_out_14 : decode cX10_out 14 = .ok (.invokevirtual 248, 3) := by decide +kernel
theorem dX10_out_17 : decode cX10_out 17 = .ok (.ifCond .ne 6, 3) := by decide +kernel
theorem dX10_out_20 : decode cX10_out 20 = .ok (.bipush (-4), 2) := by decide +kernel
theorem dX10_out_22 : decode cX10_out 22 = .ok (.ireturn, 1) := by decide +kernel
theorem dX10_out_23 : decode cX10_out 23 = .ok (.aload_n 0, 1) := by decide +kernel
theorem dX10_out_24 : decode cX10_out 24 = .ok (.getfield 19, 3) := by decide +kernel
theorem dX10_out_27 : decode cX10_out 27 = .ok (.aload_n 0, 1) := by decide +kernel
theorem dX10_out_28 : decode cX10_out 28 = .ok (.getfield 10, 3) := by decide +kernel
theorem dX10_out_31 : decode cX10_out 31 = .ok (.invokevirtual 238, 3) := by decide +kernel
theorem dX10_out_34 : decode cX10_out 34 = .ok (.aload_n 0, 1) := by decide +kernel
theorem dX10_out_35 : decode cX10_out 35 = .ok (.getfield 10, 3) := by decide +kernel
theorem dX10_out_38 : decode cX10_out 38 = .ok (.iload_n 1, 1) := by decide +kernel
theorem dX10_out_39 : decode cX10_out 39 = .ok (.invokevirtual 251, 3) := by decide +kernel
theorem dX10_out_42 : decode cX10_out 42 = .ok (.ireturn, 1) := by decide +kernel
set_option maxRecDepth 20000 in
theorem ggX10_reverse_X4_keep : GoodIn wsX10_reverse wsX4_keep := goodIn_r _ [9, 10, 11, 12, 13, 14, 15, 16, 17, 18, 19, 20, 21, 22, 23, 24, 25, 26, 27, 28, 51, 52, 53, 44, 45, 46, 47, 48, 49, 50] (by decide +kernel) (by decide +kernel)
set_option maxRecDepth 20000 in
theorem gX10_reverse_X4_keep : GoodIn wsX10_reverse (wsV RX10 238 RX4 yX4_keep wsX4_keep) := goodIn_app (goodIn_of _ (by decide +kernel)) ggX10_reverse_X4_keep
set_option maxRecDepth 20000 in
theorem ggX10_reverse_X0_turnRoute : GoodIn wsX10_reverse wsX0_turnRoute := goodIn_r _ [32, 24, 23, 44, 45, 46, 47, 48, 49, 50] (by decide +kernel) (by decide +kernel)
set_option maxRecDepth 20000 in
theorem gX10_reverse_X0_turnRoute : GoodIn wsX10_reverse (wsV RX10 254 RX0 yX0_turnRoute wsX0_turnRoute) := goodIn_app (goodIn_of _ (by decide +kernel)) ggX10_reverse_X0_turnRoute
theorem dX10_reverse_0 : decode cX10_reverse 0 = .ok (.aload_n 0, 1) := by decide +kernel
theorem dX10_reverse_1 : decode cX10_reverse 1 = .ok (.getfield 10, 3) := by decide +kernel
theorem dX10_reverse_4 : decode cX10_reverse 4 = .ok (.getfield 204, 3) := by decide +kernel
theorem dX10_reverse_7 : decode cX10_reverse 7 = .ok (.iconst 2, 1) := by decide +kernel
theorem dX10_reverse_8 : decode cX10_reverse 8 = .ok (.if_icmp .ge 6, 3) := by decide +kernel
theorem dX10_reverse_11 : decode cX10_reverse 11 = .ok (.bipush (-2), 2) := by decide +kernel
theorem dX10_reverse_13 : decode cX10_reverse 13 = .ok (.ireturn, 1) := by decide +kernel
theorem dX10_reverse_14 : decode cX10_reverse 14 = .ok (.aload_n 0, 1) := by decide +kernel
theorem dX10_reverse_15 : decode cX10_reverse 15 = .ok (.getfield 19, 3) := by decide +kernel
theorem dX10_reverse_18 : decode cX10_reverse 18 = .ok (.aload_n 0, 1) := by decide +kernel
theorem dX10_reverse_19 : decode cX10_reverse 19 = .ok (.getfield 10, 3) := by decide +kernel
theorem dX10_reverse_22 : decode cX10_reverse 22 = .ok (.invokevirtual 238, 3) := by decide +kernel
theorem dX10_reverse_25 : decode cX10_reverse 25 = .ok (.aload_n 0, 1) := by decide +kernel
theorem dX10_reverse_26 : decode cX10_reverse 26 = .ok (.getfield 10, 3) := by decide +kernel
theorem dX10_reverse_29 : decode cX10_reverse 29 = .ok (.invokevirtual 254, 3) := by decide +kernel
theorem dX10_reverse_32 : decode cX10_reverse 32 = .ok (.aload_n 0, 1) := by decide +kernel
theorem dX10_reverse_33 : decode cX10_reverse 33 = .ok (.getfield 10, 3) := by decide +kernel
theorem dX10_reverse_36 : decode cX10_reverse 36 = .ok (.getfield 207, 3) := by decide +kernel
theorem dX10_reverse_39 : decode cX10_reverse 39 = .ok (.iconst 0, 1) := by decide +kernel
theorem dX10_reverse_40 : decode cX10_reverse 40 = .ok (.iaload, 1) := by decide +kernel
theorem dX10_reverse_41 : decode cX10_reverse 41 = .ok (.ireturn, 1) := by decide +kernel
set_option maxRecDepth 20000 in
theorem ggX10_type_X10_isIn : GoodIn wsX10_type wsX10_isIn := goodIn_r _ [7] (by decide +kernel) (by decide +kernel)
set_option maxRecDepth 20000 in
theorem gX10_type_X10_isIn : GoodIn wsX10_type (va_wsS RX10 77 yX10_isIn wsX10_isIn) := goodIn_app (goodIn_of _ (by decide +kernel)) ggX10_type_X10_isIn
theorem dX10_type_0 : decode cX10_type 0 = .ok (.iload_n 1, 1) := by decide +kernel
theorem dX10_type_1 : decode cX10_type 1 = .ok (.bipush 32, 2) := by decide +kernel
theorem dX10_type_3 : decode cX10_type 3 = .ok (.bipush 126, 2) := by decide +kernel
theorem dX10_type_5 : decode cX10_type 5 = .ok (.invokestatic 77, 3) := by decide +kernel
theorem dX10_type_8 : decode cX10_type 8 = .ok (.ifCond .ne 5, 3) := by decide +kernel
theorem dX10_type_11 : decode cX10_type 11 = .ok (.iconst (-1), 1) := by decide +kernel
theorem dX10_type_12 : decode cX10_type 12 = .ok (.ireturn, 1) := by decide +kernel
theorem dX10_type_13 : decode cX10_type 13 = .ok (.aload_n 0, 1) := by decide +kernel
theorem dX10_type_14 : decode cX10_type 14 = .ok (.getfield 32, 3) := by decide +kernel
theorem dX10_type_17 : decode cX10_type 17 = .ok (.getfield 257, 3) := by decide +kernel
theorem dX10_type_20 : decode cX10_type 20 = .ok (.bipush 90, 2) := by decide +kernel
theorem dX10_type_22 : decode cX10_type 22 = .ok (.if_icmp .lt 6, 3) := by decide +kernel
theorem dX10_type_25 : decode cX10_type 25 = .ok (.bipush (-3), 2) := by decide +kernel
theorem dX10_type_27 : decode cX10_type 27 = .ok (.ireturn, 1) := by decide +kernel
theorem dX10_type_28 : decode cX10_type 28 = .ok (.aload_n 0, 1) := by decide +kernel
theorem dX10_type_29 : decode cX10_type 29 = .ok (.getfield 32, 3) := by decide +kernel
theorem dX10_type_32 : decode cX10_type 32 = .ok (.getfield 260, 3) := by decide +kernel
theorem dX10_type_35 : decode cX10_type 35 = .ok (.aload_n 0, 1) := by decide +kernel
theorem dX10_type_36 : decode cX10_type 36 = .ok (.getfield 32, 3) := by decide +kernel
theorem dX10_type_39 : decode cX10_type 39 = .ok (.getfield 257, 3) := by decide +kernel
theorem dX10_type_42 : decode cX10_type 42 = .ok (.iload_n 1, 1) := by decide +kernel
theorem dX10_type_43 : decode cX10_type 43 = .ok (.iastore, 1) := by decide +kernel
theorem dX10_type_44 : decode cX10_type 44 = .ok (.aload_n 0, 1) := by decide +kernel
theorem dX10_type_45 : decode cX10_type 45 = .ok (.getfield 32, 3) := by decide +kernel
theorem dX10_type_48 : decode cX10_type 48 = .ok (.dup, 1) := by decide +kernel
theorem dX10_type_49 : decode cX10_type 49 = .ok (.getfield 257, 3) := by decide +kernel
theorem dX10_type_52 : decode cX10_type 52 = .ok (.iconst 1, 1) := by decide +kernel
theorem dX10_type_53 : decode cX10_type 53 = .ok (.iadd, 1) := by decide +kernel
theorem dX10_type_54 : decode cX10_type 54 = .ok (.putfield 257, 3) := by decide +kernel
theorem dX10_type_57 : decode cX10_type 57 = .ok (.aload_n 0, 1) := by decide +kernel
theorem dX10_type_58 : decode cX10_type 58 = .ok (.getfield 32, 3) := by decide +kernel
theorem dX10_type_61 : decode cX10_type 61 = .ok (.getfield 257, 3) := by decide +kernel
theorem dX10_type_64 : decode cX10_type 64 = .ok (.ireturn, 1) := by decide +kernel
set_option maxRecDepth 20000 in
theorem ggX10_read_X7_understand : GoodIn wsX10_read wsX7_understand := goodIn_r _ [15, 16, 17, 18, 19, 20, 21, 22, 23, 24, 14, 25, 26, 27, 28, 29, 30, 31, 32, 33, 34, 35, 36, 37, 38, 39, 40, 41, 42, 43, 44, 45, 46, 47, 48, 49, 50, 51, 52, 53, 54, 55, 99, 100, 101, 102, 103] (by decide +kernel) (by decide +kernel)
set_option maxRecDepth 20000 in
theorem gX10_read_X7_understand : GoodIn wsX10_read (wsV RX10 263 RX7 yX7_understand wsX7_understand) := goodIn_app (goodIn_of _ (by decide +kernel)) ggX10_read_X7_understand
set_option maxRecDepth 20000 in
theorem ggX10_read_X4_keep : GoodIn wsX10_read wsX4_keep := goodIn_r _ [60, 61, 62, 63, 64, 65, 66, 67, 68, 69, 70, 8, 9, 10, 71, 72, 73, 74, 75, 76, 111, 112, 113, 104, 105, 106, 107, 108, 109, 110] (by decide +kernel) (by decide +kernel)
set_option maxRecDepth 20000 in
theorem gX10_read_X4_keep : GoodIn wsX10_read (wsV RX10 238 RX4 yX4_keep wsX4_keep) := goodIn_app (goodIn_of _ (by decide +kernel)) ggX10_read_X4_keep
set_option maxRecDepth 20000 in
theorem ggX10_read_X0_landNumber : GoodIn wsX10_read wsX0_landNumber := goodIn_r _ [80, 69, 81, 82, 83, 84, 85, 86, 87, 104, 105, 106, 107, 108, 109, 110] (by decide +kernel) (by decide +kernel)
set_option maxRecDepth 20000 in
theorem gX10_read_X0_landNumber : GoodIn wsX10_read (wsV RX10 229 RX0 yX0_landNumber wsX0_landNumber) := goodIn_app (goodIn_of _ (by decide +kernel)) ggX10_read_X0_landNumber
theorem dX10_read_0 : decode cX10_read 0 = .ok (.aload_n 0, 1) := by decide +kernel
theorem dX10_read_1 : decode cX10_read 1 = .ok (.getfield 32, 3) := by decide +kernel
theorem dX10_read_4 : decode cX10_read 4 = .ok (.invokevirtual 263, 3) := by decide +kernel
theorem dX10_read_7 : decode cX10_read 7 = .ok (.istore_n 1, 1) := by decide +kernel
theorem dX10_read_8 : decode cX10_read 8 = .ok (.aload_n 0, 1) := by decide +kernel
theorem dX10_read_9 : decode cX10_read 9 = .ok (.getfield 32, 3) := by decide +kernel
theorem dX10_read_12 : decode cX10_read 12 = .ok (.iconst 0, 1) := by decide +kernel
theorem dX10_read_13 : decode cX10_read 13 = .ok (.putfield 257, 3) := by decide +kernel
theorem dX10_read_16 : decode cX10_read 16 = .ok (.iload_n 1, 1) := by decide +kernel
theorem dX10_read_17 : decode cX10_read 17 = .ok (.iconst (-1), 1) := by decide +kernel
theorem dX10_read_18 : decode cX10_read 18 = .ok (.if_icmp .eq 8, 3) := by decide +kernel
theorem dX10_read_21 : decode cX10_read 21 = .ok (.bipush (-20), 2) := by decide +kernel
theorem dX10_read_23 : decode cX10_read 23 = .ok (.iload_n 1, 1) := by decide +kernel
theorem dX10_read_24 : decode cX10_read 24 = .ok (.isub, 1) := by decide +kernel
theorem dX10_read_25 : decode cX10_read 25 = .ok (.ireturn, 1) := by decide +kernel
theorem dX10_read_26 : decode cX10_read 26 = .ok (.aload_n 0, 1) := by decide +kernel
theorem dX10_read_27 : decode cX10_read 27 = .ok (.getfield 19, 3) := by decide +kernel
theorem dX10_read_30 : decode cX10_read 30 = .ok (.aload_n 0, 1) := by decide +kernel
theorem dX10_read_31 : decode cX10_read 31 = .ok (.getfield 10, 3) := by decide +kernel
theorem dX10_read_34 : decode cX10_read 34 = .ok (.invokevirtual 238, 3) := by decide +kernel
theorem dX10_read_37 : decode cX10_read 37 = .ok (.aload_n 0, 1) := by decide +kernel
theorem dX10_read_38 : decode cX10_read 38 = .ok (.getfield 32, 3) := by decide +kernel
theorem dX10_read_41 : decode cX10_read 41 = .ok (.getfield 266, 3) := by decide +kernel
theorem dX10_read_44 : decode cX10_read 44 = .ok (.iconst 0, 1) := by decide +kernel
theorem dX10_read_45 : decode cX10_read 45 = .ok (.aload_n 0, 1) := by decide +kernel
theorem dX10_read_46 : decode cX10_read 46 = .ok (.getfield 10, 3) := by decide +kernel
theorem dX10_read_49 : decode cX10_read 49 = .ok (.getfield 270, 3) := by decide +kernel
theorem dX10_read_52 : decode cX10_read 52 = .ok (.iconst 0, 1) := by decide +kernel
theorem dX10_read_53 : decode cX10_read 53 = .ok (.iconst 5, 1) := by decide +kernel
theorem dX10_read_54 : decode cX10_read 54 = .ok (.invokestatic 271, 3) := by decide +kernel
theorem dX10_read_57 : decode cX10_read 57 = .ok (.aload_n 0, 1) := by decide +kernel
theorem dX10_read_58 : decode cX10_read 58 = .ok (.getfield 10, 3) := by decide +kernel
theorem dX10_read_61 : decode cX10_read 61 = .ok (.invokevirtual 229, 3) := by decide +kernel
theorem dX10_read_64 : decode cX10_read 64 = .ok (.ireturn, 1) := by decide +kernel
set_option maxRecDepth 20000 in
theorem ggX10_drift_X10_isIn : GoodIn wsX10_drift wsX10_isIn := goodIn_r _ [6] (by decide +kernel) (by decide +kernel)
set_option maxRecDepth 20000 in
theorem gX10_drift_X10_isIn : GoodIn wsX10_drift (va_wsS RX10 77 yX10_isIn wsX10_isIn) := goodIn_app (goodIn_of _ (by decide +kernel)) ggX10_drift_X10_isIn
set_option maxRecDepth 20000 in
theorem ggX10_drift_X4_keep : GoodIn wsX10_drift wsX4_keep := goodIn_r _ [11, 12, 13, 14, 15, 16, 17, 18, 19, 20, 21, 22, 23, 24, 25, 26, 27, 28, 29, 30, 64, 65, 66, 67, 68, 69, 70, 71, 72, 73] (by decide +kernel) (by decide +kernel)
set_option maxRecDepth 20000 in
theorem gX10_drift_X4_keep : GoodIn wsX10_drift (wsV RX10 238 RX4 yX4_keep wsX4_keep) := goodIn_app (goodIn_of _ (by decide +kernel)) ggX10_drift_X4_keep
set_option maxRecDepth 20000 in
theorem ggX10_drift_X0_driftOnce : GoodIn wsX10_drift wsX0_driftOnce := goodIn_r _ [34, 30, 35, 36, 37, 38, 39, 40, 18, 41, 20, 67, 68, 69, 70, 71, 72, 73] (by decide +kernel) (by decide +kernel)
set_option maxRecDepth 20000 in
theorem gX10_drift_X0_driftOnce : GoodIn wsX10_drift (wsV RX10 277 RX0 yX0_driftOnce wsX0_driftOnce) := goodIn_app (goodIn_of _ (by decide +kernel)) ggX10_drift_X0_driftOnce
set_option maxRecDepth 20000 in
theorem ggX10_drift_X0_landNumber : GoodIn wsX10_drift wsX0_landNumber := goodIn_r _ [45, 20, 46, 47, 48, 49, 50, 51, 52, 67, 68, 69, 70, 71, 72, 73] (by decide +kernel) (by decide +kernel)
set_option maxRecDepth 20000 in
theorem gX10_drift_X0_landNumber : GoodIn wsX10_drift (wsV RX10 229 RX0 yX0_landNumber wsX0_landNumber) := goodIn_app (goodIn_of _ (by decide +kernel)) ggX10_drift_X0_landNumber
theorem dX10_drift_0 : decode cX10_drift 0 = .ok (.iload_n 1, 1) := by decide +kernel
theorem dX10_drift_1 : decode cX10_drift 1 = .ok (.iconst 1, 1) := by decide +kernel
theorem dX10_drift_2 : decode cX10_drift 2 = .ok (.bipush 40, 2) := by decide +kernel
theorem dX10_drift_4 : decode cX10_drift 4 = .ok (.invokestatic 77, 3) := by decide +kernel
theorem dX10_drift_7 : decode cX10_drift 7 = .ok (.ifCond .ne 5, 3) := by decide +kernel
theorem dX10_drift_10 : decode cX10_drift 10 = .ok (.iconst (-1), 1) := by decide +kernel
theorem dX10_drift_11 : decode cX10_drift 11 = .ok (.ireturn, 1) := by decide +kernel
theorem dX10_drift_12 : decode cX10_drift 12 = .ok (.iconst 0, 1) := by decide +kernel
theorem dX10_drift_13 : decode cX10_drift 13 = .ok (.istore_n 2, 1) := by decide +kernel
theorem dX10_drift_14 : decode cX10_drift 14 = .ok (.iload_n 2, 1) := by decide +kernel
theorem dX10_drift_15 : decode cX10_drift 15 = .ok (.iload_n 1, 1) := by decide +kernel
theorem dX10_drift_16 : decode cX10_drift 16 = .ok (.if_icmp .ge 27, 3) := by decide +kernel
theorem dX10_drift_19 : decode cX10_drift 19 = .ok (.aload_n 0, 1) := by decide +kernel
theorem dX10_drift_20 : decode cX10_drift 20 = .ok (.getfield 19, 3) := by decide +kernel
theorem dX10_drift_23 : decode cX10_drift 23 = .ok (.aload_n 0, 1) := by decide +kernel
theorem dX10_drift_24 : decode cX10_drift 24 = .ok (.getfield 10, 3) := by decide +kernel
theorem dX10_drift_27 : decode cX10_drift 27 = .ok (.invokevirtual 238, 3) := by decide +kernel
theorem dX10_drift_30 : decode cX10_drift 30 = .ok (.aload_n 0, 1) := by decide +kernel
theorem dX10_drift_31 : decode cX10_drift 31 = .ok (.getfield 10, 3) := by decide +kernel
theorem dX10_drift_34 : decode cX10_drift 34 = .ok (.invokevirtual 277, 3) := by decide +kernel
theorem dX10_drift_37 : decode cX10_drift 37 = .ok (.iinc 2 1, 3) := by decide +kernel
theorem dX10_drift_40 : decode cX10_drift 40 = .ok (.goto (-26), 3) := by decide +kernel
theorem dX10_drift_43 : decode cX10_drift 43 = .ok (.aload_n 0, 1) := by decide +kernel
theorem dX10_drift_44 : decode cX10_drift 44 = .ok (.getfield 10, 3) := by decide +kernel
theorem dX10_drift_47 : decode cX10_drift 47 = .ok (.invokevirtual 229, 3) := by decide +kernel
theorem dX10_drift_50 : decode cX10_drift 50 = .ok (.ireturn, 1) := by decide +kernel
set_option maxRecDepth 20000 in
theorem ggX10_undo_X4_takeBack : GoodIn wsX10_undo wsX4_takeBack := goodIn_r _ [8, 9, 10, 11, 12, 13, 14, 15, 16, 17, 18, 19, 20, 21, 22, 23, 24, 25, 26, 27, 39, 40, 41, 42, 43, 44, 45, 46, 47, 48] (by decide +kernel) (by decide +kernel)
set_option maxRecDepth 20000 in
theorem gX10_undo_X4_takeBack : GoodIn wsX10_undo (wsV RX10 280 RX4 yX4_takeBack wsX4_takeBack) := goodIn_app (goodIn_of _ (by decide +kernel)) ggX10_undo_X4_takeBack
theorem dX10_undo_0 : decode cX10_undo 0 = .ok (.aload_n 0, 1) := by decide +kernel
theorem dX10_undo_1 : decode cX10_undo 1 = .ok (.getfield 19, 3) := by decide +kernel
theorem dX10_undo_4 : decode cX10_undo 4 = .ok (.getfield 235, 3) := by decide +kernel
theorem dX10_undo_7 : decode cX10_undo 7 = .ok (.ifCond .ne 6, 3) := by decide +kernel
theorem dX10_undo_10 : decode cX10_undo 10 = .ok (.bipush (-4), 2) := by decide +kernel
theorem dX10_undo_12 : decode cX10_undo 12 = .ok (.ireturn, 1) := by decide +kernel
theorem dX10_undo_13 : decode cX10_undo 13 = .ok (.aload_n 0, 1) := by decide +kernel
theorem dX10_undo_14 : decode cX10_undo 14 = .ok (.getfield 19, 3) := by decide +kernel
theorem dX10_undo_17 : decode cX10_undo 17 = .ok (.aload_n 0, 1) := by decide +kernel
theorem dX10_undo_18 : decode cX10_undo 18 = .ok (.getfield 10, 3) := by decide +kernel
theorem dX10_undo_21 : decode cX10_undo 21 = .ok (.invokevirtual 280, 3) := by decide +kernel
theorem dX10_undo_24 : decode cX10_undo 24 = .ok (.aload_n 0, 1) := by decide +kernel
theorem dX10_undo_25 : decode cX10_undo 25 = .ok (.getfield 19, 3) := by decide +kernel
theorem dX10_undo_28 : decode cX10_undo 28 = .ok (.getfield 235, 3) := by decide +kernel
theorem dX10_undo_31 : decode cX10_undo 31 = .ok (.ireturn, 1) := by decide +kernel
theorem dX10_seed_0 : decode cX10_seed 0 = .ok (.iload_n 1, 1) := by decide +kernel
theorem dX10_seed_1 : decode cX10_seed 1 = .ok (.ifCond .ge 5, 3) := by decide +kernel
theorem dX10_seed_4 : decode cX10_seed 4 = .ok (.iconst (-1), 1) := by decide +kernel
theorem dX10_seed_5 : decode cX10_seed 5 = .ok (.ireturn, 1) := by decide +kernel
theorem dX10_seed_6 : decode cX10_seed 6 = .ok (.aload_n 0, 1) := by decide +kernel
theorem dX10_seed_7 : decode cX10_seed 7 = .ok (.getfield 10, 3) := by decide +kernel
theorem dX10_seed_10 : decode cX10_seed 10 = .ok (.getfield 283, 3) := by decide +kernel
theorem dX10_seed_13 : decode cX10_seed 13 = .ok (.istore_n 2, 1) := by decide +kernel
theorem dX10_seed_14 : decode cX10_seed 14 = .ok (.aload_n 0, 1) := by decide +kernel
theorem dX10_seed_15 : decode cX10_seed 15 = .ok (.getfield 10, 3) := by decide +kernel
theorem dX10_seed_18 : decode cX10_seed 18 = .ok (.iload_n 1, 1) := by decide +kernel
theorem dX10_seed_19 : decode cX10_seed 19 = .ok (.putfield 283, 3) := by decide +kernel
theorem dX10_seed_22 : decode cX10_seed 22 = .ok (.iload_n 2, 1) := by decide +kernel
theorem dX10_seed_23 : decode cX10_seed 23 = .ok (.ireturn, 1) := by decide +kernel
set_option maxRecDepth 20000 in
theorem ggX10_image_X0_become : GoodIn wsX10_image wsX0_become := goodIn_r _ [10, 11, 12, 13, 14, 15, 16, 17, 18, 19, 20, 21, 42, 43, 44, 45, 46, 47, 48] (by decide +kernel) (by decide +kernel)
set_option maxRecDepth 20000 in
theorem gX10_image_X0_become : GoodIn wsX10_image (wsV RX10 286 RX0 yX0_become wsX0_become) := goodIn_app (goodIn_of _ (by decide +kernel)) ggX10_image_X0_become
set_option maxRecDepth 20000 in
theorem ggX10_image_X4_become : GoodIn wsX10_image wsX4_become := goodIn_r _ [26, 27, 28, 29, 30, 7, 8, 9, 10, 11, 12, 13, 14, 15, 16, 17, 18, 19, 20, 21, 49, 50, 51, 42, 43, 44, 45, 46, 47, 48] (by decide +kernel) (by decide +kernel)
set_option maxRecDepth 20000 in
theorem gX10_image_X4_become : GoodIn wsX10_image (wsV RX10 289 RX4 yX4_become wsX4_become) := goodIn_app (goodIn_of _ (by decide +kernel)) ggX10_image_X4_become
theorem dX10_image_0 : decode cX10_image 0 = .ok (.aload_n 0, 1) := by decide +kernel
theorem dX10_image_1 : decode cX10_image 1 = .ok (.getfield 23, 3) := by decide +kernel
theorem dX10_image_4 : decode cX10_image 4 = .ok (.aload_n 0, 1) := by decide +kernel
theorem dX10_image_5 : decode cX10_image 5 = .ok (.getfield 10, 3) := by decide +kernel
theorem dX10_image_8 : decode cX10_image 8 = .ok (.invokevirtual 286, 3) := by decide +kernel
theorem dX10_image_11 : decode cX10_image 11 = .ok (.aload_n 0, 1) := by decide +kernel
theorem dX10_image_12 : decode cX10_image 12 = .ok (.getfield 26, 3) := by decide +kernel
theorem dX10_image_15 : decode cX10_image 15 = .ok (.aload_n 0, 1) := by decide +kernel
theorem dX10_image_16 : decode cX10_image 16 = .ok (.getfield 19, 3) := by decide +kernel
theorem dX10_image_19 : decode cX10_image 19 = .ok (.invokevirtual 289, 3) := by decide +kernel
theorem dX10_image_22 : decode cX10_image 22 = .ok (.aload_n 0, 1) := by decide +kernel
theorem dX10_image_23 : decode cX10_image 23 = .ok (.iconst 1, 1) := by decide +kernel
theorem dX10_image_24 : decode cX10_image 24 = .ok (.putfield 292, 3) := by decide +kernel
theorem dX10_image_27 : decode cX10_image 27 = .ok (.iconst 1, 1) := by decide +kernel
theorem dX10_image_28 : decode cX10_image 28 = .ok (.ireturn, 1) := by decide +kernel
set_option maxRecDepth 20000 in
theorem ggX10_restore_X0_become : GoodIn wsX10_restore wsX0_become := goodIn_r _ [10, 11, 12, 13, 14, 15, 16, 17, 18, 19, 20, 21, 42, 43, 44, 45, 46, 47, 48] (by decide +kernel) (by decide +kernel)
set_option maxRecDepth 20000 in
theorem gX10_restore_X0_become : GoodIn wsX10_restore (wsV RX10 286 RX0 yX0_become wsX0_become) := goodIn_app (goodIn_of _ (by decide +kernel)) ggX10_restore_X0_become
set_option maxRecDepth 20000 in
theorem ggX10_restore_X4_become : GoodIn wsX10_restore wsX4_become := goodIn_r _ [26, 27, 28, 29, 30, 7, 8, 9, 10, 11, 12, 13, 14, 15, 16, 17, 18, 19, 20, 21, 49, 50, 51, 42, 43, 44, 45, 46, 47, 48] (by decide +kernel) (by decide +kernel)
set_option maxRecDepth 20000 in
theorem gX10_restore_X4_become : GoodIn wsX10_restore (wsV RX10 289 RX4 yX4_become wsX4_become) := goodIn_app (goodIn_of _ (by decide +kernel)) ggX10_restore_X4_become
theorem dX10_restore_0 : decode cX10_restore 0 = .ok (.aload_n 0, 1) := by decide +kernel
theorem dX10_restore_1 : decode cX10_restore 1 = .ok (.getfield 292, 3) := by decide +kernel
theorem dX10_restore_4 : decode cX10_restore 4 = .ok (.ifCond .ne 6, 3) := by decide +kernel
theorem dX10_restore_7 : decode cX10_restore 7 = .ok (.bipush (-4), 2) := by decide +kernel
theorem dX10_restore_9 : decode cX10_restore 9 = .ok (.ireturn, 1) := by decide +kernel
theorem dX10_restore_10 : decode cX10_restore 10 = .ok (.aload_n 0, 1) := by decide +kernel
theorem dX10_restore_11 : decode cX10_restore 11 = .ok (.getfield 10, 3) := by decide +kernel
theorem dX10_restore_14 : decode cX10_restore 14 = .ok (.aload_n 0, 1) := by decide +kernel
theorem dX10_restore_15 : decode cX10_restore 15 = .ok (.getfield 23, 3) := by decide +kernel
theorem dX10_restore_18 : decode cX10_restore 18 = .ok (.invokevirtual 286, 3) := by decide +kernel
theorem dX10_restore_21 : decode cX10_restore 21 = .ok (.aload_n 0, 1) := by decide +kernel
theorem dX10_restore_22 : decode cX10_restore 22 = .ok (.getfield 19, 3) := by decide +kernel
theorem dX10_restore_25 : decode cX10_restore 25 = .ok (.aload_n 0, 1) := by decide +kernel
theorem dX10_restore_26 : decode cX10_restore 26 = .ok (.getfield 26, 3) := by decide +kernel
theorem dX10_restore_29 : decode cX10_restore 29 = .ok (.invokevirtual 289, 3) := by decide +kernel
theorem dX10_restore_32 : decode cX10_restore 32 = .ok (.iconst 1, 1) := by decide +kernel
theorem dX10_restore_33 : decode cX10_restore 33 = .ok (.ireturn, 1) := by decide +kernel
set_option maxRecDepth 20000 in
theorem ggX10_seen_X10_isSheetOfLane : GoodIn wsX10_seen wsX10_isSheetOfLane := goodIn_r _ [8, 9, 10, 7, 11] (by decide +kernel) (by decide +kernel)
set_option maxRecDepth 20000 in
theorem gX10_seen_X10_isSheetOfLane : GoodIn wsX10_seen (va_wsS RX10 296 yX10_isSheetOfLane wsX10_isSheetOfLane) := goodIn_app (goodIn_of _ (by decide +kernel)) ggX10_seen_X10_isSheetOfLane
set_option maxRecDepth 20000 in
theorem ggX10_seen_X10_isIn : GoodIn wsX10_seen wsX10_isIn := goodIn_r _ [11] (by decide +kernel) (by decide +kernel)
set_option maxRecDepth 20000 in
theorem gX10_seen_X10_isIn : GoodIn wsX10_seen (va_wsS RX10 77 yX10_isIn wsX10_isIn) := goodIn_app (goodIn_of _ (by decide +kernel)) ggX10_seen_X10_isIn
set_option maxRecDepth 20000 in
theorem ggX10_seen_X6_refusal : GoodIn wsX10_seen wsX6_refusal := goodIn_r _ [16, 17, 18, 19, 20, 21, 15, 22, 23, 75, 76, 77, 78] (by decide +kernel) (by decide +kernel)
set_option maxRecDepth 20000 in
theorem gX10_seen_X6_refusal : GoodIn wsX10_seen (wsV RX10 299 RX6 yX6_refusal wsX6_refusal) := goodIn_app (goodIn_of _ (by decide +kernel)) ggX10_seen_X6_refusal
set_option maxRecDepth 20000 in
theorem ggX10_seen_X6_tellsPlaceAt : GoodIn wsX10_seen wsX6_tellsPlaceAt := goodIn_r _ [27, 28, 29, 30, 31, 75, 76, 77, 78] (by decide +kernel) (by decide +kernel)
set_option maxRecDepth 20000 in
theorem gX10_seen_X6_tellsPlaceAt : GoodIn wsX10_seen (wsV RX10 303 RX6 yX6_tellsPlaceAt wsX6_tellsPlaceAt) := goodIn_app (goodIn_of _ (by decide +kernel)) ggX10_seen_X6_tellsPlaceAt
set_option maxRecDepth 20000 in
theorem ggX10_seen_X6_agreesWith : GoodIn wsX10_seen wsX6_agreesWith := goodIn_r _ [35, 28, 36, 37, 38, 39, 40, 41, 42, 43, 44, 45, 46, 47, 48, 49, 50, 51, 52, 53, 54, 55, 56, 75, 76, 77, 78] (by decide +kernel) (by decide +kernel)
set_option maxRecDepth 20000 in
theorem gX10_seen_X6_agreesWith : GoodIn wsX10_seen (wsV RX10 309 RX6 yX6_agreesWith wsX6_agreesWith) := goodIn_app (goodIn_of _ (by decide +kernel)) ggX10_seen_X6_agreesWith
theorem dX10_seen_0 : decode cX10_seen 0 = .ok (.iload_n 1, 1) := by decide +kernel
theorem dX10_seen_1 : decode cX10_seen 1 = .ok (.iload_n 2, 1) := by decide +kernel
theorem dX10_seen_2 : decode cX10_seen 2 = .ok (.invokestatic 296, 3) := by decide +kernel
theorem dX10_seen_5 : decode cX10_seen 5 = .ok (.ifCond .eq 14, 3) := by decide +kernel
theorem dX10_seen_8 : decode cX10_seen 8 = .ok (.iload 4, 2) := by decide +kernel
theorem dX10_seen_10 : decode cX10_seen 10 = .ok (.iconst 1, 1) := by decide +kernel
theorem dX10_seen_11 : decode cX10_seen 11 = .ok (.bipush 8, 2) := by decide +kernel
theorem dX10_seen_13 : decode cX10_seen 13 = .ok (.invokestatic 77, 3) := by decide +kernel
theorem dX10_seen_16 : decode cX10_seen 16 = .ok (.ifCond .ne 5, 3) := by decide +kernel
theorem dX10_seen_19 : decode cX10_seen 19 = .ok (.iconst (-1), 1) := by decide +kernel
theorem dX10_seen_20 : decode cX10_seen 20 = .ok (.ireturn, 1) := by decide +kernel
theorem dX10_seen_21 : decode cX10_seen 21 = .ok (.aload_n 0, 1) := by decide +kernel
theorem dX10_seen_22 : decode cX10_seen 22 = .ok (.getfield 38, 3) := by decide +kernel
theorem dX10_seen_25 : decode cX10_seen 25 = .ok (.iload_n 1, 1) := by decide +kernel
theorem dX10_seen_26 : decode cX10_seen 26 = .ok (.aaload, 1) := by decide +kernel
theorem dX10_seen_27 : decode cX10_seen 27 = .ok (.astore 5, 2) := by decide +kernel
theorem dX10_seen_29 : decode cX10_seen 29 = .ok (.aload 5, 2) := by decide +kernel
theorem dX10_seen_31 : decode cX10_seen 31 = .ok (.iload_n 2, 1) := by decide +kernel
theorem dX10_seen_32 : decode cX10_seen 32 = .ok (.iload_n 3, 1) := by decide +kernel
theorem dX10_seen_33 : decode cX10_seen 33 = .ok (.iconst 3, 1) := by decide +kernel
theorem dX10_seen_34 : decode cX10_seen 34 = .ok (.iload 4, 2) := by decide +kernel
theorem dX10_seen_36 : decode cX10_seen 36 = .ok (.imul, 1) := by decide +kernel
theorem dX10_seen_37 : decode cX10_seen 37 = .ok (.invokevirtual 299, 3) := by decide +kernel
theorem dX10_seen_40 : decode cX10_seen 40 = .ok (.istore 6, 2) := by decide +kernel
theorem dX10_seen_42 : decode cX10_seen 42 = .ok (.iload 6, 2) := by decide +kernel
theorem dX10_seen_44 : decode cX10_seen 44 = .ok (.ifCond .eq 6, 3) := by decide +kernel
theorem dX10_seen_47 : decode cX10_seen 47 = .ok (.iload 6, 2) := by decide +kernel
theorem dX10_seen_49 : decode cX10_seen 49 = .ok (.ireturn, 1) := by decide +kernel
theorem dX10_seen_50 : decode cX10_seen 50 = .ok (.iload_n 3, 1) := by decide +kernel
theorem dX10_seen_51 : decode cX10_seen 51 = .ok (.istore 7, 2) := by decide +kernel
theorem dX10_seen_53 : decode cX10_seen 53 = .ok (.iload 7, 2) := by decide +kernel
theorem dX10_seen_55 : decode cX10_seen 55 = .ok (.iload_n 3, 1) := by decide +kernel
theorem dX10_seen_56 : decode cX10_seen 56 = .ok (.iconst 3, 1) := by decide +kernel
theorem dX10_seen_57 : decode cX10_seen 57 = .ok (.iload 4, 2) := by decide +kernel
theorem dX10_seen_59 : decode cX10_seen 59 = .ok (.imul, 1) := by decide +kernel
theorem dX10_seen_60 : decode cX10_seen 60 = .ok (.iadd, 1) := by decide +kernel
theorem dX10_seen_61 : decode cX10_seen 61 = .ok (.if_icmp .ge 22, 3) := by decide +kernel
theorem dX10_seen_64 : decode cX10_seen 64 = .ok (.aload 5, 2) := by decide +kernel
theorem dX10_seen_66 : decode cX10_seen 66 = .ok (.iload 7, 2) := by decide +kernel
theorem dX10_seen_68 : decode cX10_seen 68 = .ok (.invokevirtual 303, 3) := by decide +kernel
theorem dX10_seen_71 : decode cX10_seen 71 = .ok (.ifCond .ne 6, 3) := by decide +kernel
theorem dX10_seen_74 : decode cX10_seen 74 = .ok (.bipush (-2), 2) := by decide +kernel
theorem dX10_seen_76 : decode cX10_seen 76 = .ok (.ireturn, 1) := by decide +kernel
theorem dX10_seen_77 : decode cX10_seen 77 = .ok (.iinc 7 3, 3) := by decide +kernel
theorem dX10_seen_80 : decode cX10_seen 80 = .ok (.goto (-27), 3) := by decide +kernel
theorem dX10_seen_83 : decode cX10_seen 83 = .ok (.iconst 0, 1) := by decide +kernel
theorem dX10_seen_84 : decode cX10_seen 84 = .ok (.istore 7, 2) := by decide +kernel
theorem dX10_seen_86 : decode cX10_seen 86 = .ok (.iconst 0, 1) := by decide +kernel
theorem dX10_seen_87 : decode cX10_seen 87 = .ok (.istore 8, 2) := by decide +kernel
theorem dX10_seen_89 : decode cX10_seen 89 = .ok (.iload 8, 2) := by decide +kernel
theorem dX10_seen_91 : decode cX10_seen 91 = .ok (.getstatic 306, 3) := by decide +kernel
theorem dX10_seen_94 : decode cX10_seen 94 = .ok (.arraylength, 1) := by decide +kernel
theorem dX10_seen_95 : decode cX10_seen 95 = .ok (.if_icmp .ge 45, 3) := by decide +kernel
theorem dX10_seen_98 : decode cX10_seen 98 = .ok (.aload 5, 2) := by decide +kernel
theorem dX10_seen_100 : decode cX10_seen 100 = .ok (.aload_n 0, 1) := by decide +kernel
theorem dX10_seen_101 : decode cX10_seen 101 = .ok (.getfield 10, 3) := by decide +kernel
theorem dX10_seen_104 : decode cX10_seen 104 = .ok (.getfield 111, 3) := by decide +kernel
theorem dX10_seen_107 : decode cX10_seen 107 = .ok (.bipush 24, 2) := by decide +kernel
theorem dX10_seen_109 : decode cX10_seen 109 = .ok (.getstatic 306, 3) := by decide +kernel
theorem dX10_seen_112 : decode cX10_seen 112 = .ok (.iload 8, 2) := by decide +kernel
theorem dX10_seen_114 : decode cX10_seen 114 = .ok (.iaload, 1) := by decide +kernel
theorem dX10_seen_115 : decode cX10_seen 115 = .ok (.idiv, 1) := by decide +kernel
theorem dX10_seen_116 : decode cX10_seen 116 = .ok (.iload_n 3, 1) := by decide +kernel
theorem dX10_seen_117 : decode cX10_seen 117 = .ok (.iload 4, 2) := by decide +kernel
theorem dX10_seen_119 : decode cX10_seen 119 = .ok (.invokevirtual 309, 3) := by decide +kernel
theorem dX10_seen_122 : decode cX10_seen 122 = .ok (.ifCond .eq 12, 3) := by decide +kernel
theorem dX10_seen_125 : decode cX10_seen 125 = .ok (.iload 7, 2) := by decide +kernel
theorem dX10_seen_127 : decode cX10_seen 127 = .ok (.iconst 1, 1) := by decide +kernel
theorem dX10_seen_128 : decode cX10_seen 128 = .ok (.iload 8, 2) := by decide +kernel
theorem dX10_seen_130 : decode cX10_seen 130 = .ok (.ishl, 1) := by decide +kernel
theorem dX10_seen_131 : decode cX10_seen 131 = .ok (.ior, 1) := by decide +kernel
theorem dX10_seen_132 : decode cX10_seen 132 = .ok (.istore 7, 2) := by decide +kernel
theorem dX10_seen_134 : decode cX10_seen 134 = .ok (.iinc 8 1, 3) := by decide +kernel
theorem dX10_seen_137 : decode cX10_seen 137 = .ok (.goto (-48), 3) := by decide +kernel
theorem dX10_seen_140 : decode cX10_seen 140 = .ok (.iload 7, 2) := by decide +kernel
theorem dX10_seen_142 : decode cX10_seen 142 = .ok (.ireturn, 1) := by decide +kernel
set_option maxRecDepth 20000 in
theorem ggX10_film_X1_isPlace : GoodIn wsX10_film wsX1_isPlace := goodIn_r _ [7] (by decide +kernel) (by decide +kernel)
set_option maxRecDepth 20000 in
theorem gX10_film_X1_isPlace : GoodIn wsX10_film (va_wsS RX10 71 yX1_isPlace wsX1_isPlace) := goodIn_app (goodIn_of _ (by decide +kernel)) ggX10_film_X1_isPlace
set_option maxRecDepth 20000 in
theorem ggX10_film_X10_isSheetOfLane : GoodIn wsX10_film wsX10_isSheetOfLane := goodIn_r _ [11, 12, 13, 10, 14] (by decide +kernel) (by decide +kernel)
set_option maxRecDepth 20000 in
theorem gX10_film_X10_isSheetOfLane : GoodIn wsX10_film (va_wsS RX10 296 yX10_isSheetOfLane wsX10_isSheetOfLane) := goodIn_app (goodIn_of _ (by decide +kernel)) ggX10_film_X10_isSheetOfLane
set_option maxRecDepth 20000 in
theorem ggX10_film_X0_isOnStrips : GoodIn wsX10_film wsX0_isOnStrips := goodIn_r _ [19, 20, 21, 22, 23, 24, 78, 79, 80, 81, 82, 83, 84] (by decide +kernel) (by decide +kernel)
set_option maxRecDepth 20000 in
theorem gX10_film_X0_isOnStrips : GoodIn wsX10_film (wsV RX10 97 RX0 yX0_isOnStrips wsX0_isOnStrips) := goodIn_app (goodIn_of _ (by decide +kernel)) ggX10_film_X0_isOnStrips
set_option maxRecDepth 20000 in
theorem ggX10_film_X6_refusal : GoodIn wsX10_film wsX6_refusal := goodIn_r _ [29, 30, 31, 32, 33, 34, 28, 35, 36, 85, 86, 87, 88] (by decide +kernel) (by decide +kernel)
set_option maxRecDepth 20000 in
theorem gX10_film_X6_refusal : GoodIn wsX10_film (wsV RX10 299 RX6 yX6_refusal wsX6_refusal) := goodIn_app (goodIn_of _ (by decide +kernel)) ggX10_film_X6_refusal
set_option maxRecDepth 20000 in
theorem ggX10_film_X1_numberOf : GoodIn wsX10_film wsX1_numberOf := goodIn_r _ [39] (by decide +kernel) (by decide +kernel)
set_option maxRecDepth 20000 in
theorem gX10_film_X1_numberOf : GoodIn wsX10_film (va_wsS RX10 81 yX1_numberOf wsX1_numberOf) := goodIn_app (goodIn_of _ (by decide +kernel)) ggX10_film_X1_numberOf
set_option maxRecDepth 20000 in
theorem ggX10_film_X1_stepOf : GoodIn wsX10_film wsX1_stepOf := goodIn_r _ [42, 43, 44, 6, 45] (by decide +kernel) (by decide +kernel)
set_option maxRecDepth 20000 in
theorem gX10_film_X1_stepOf : GoodIn wsX10_film (va_wsS RX10 100 yX1_stepOf wsX1_stepOf) := goodIn_app (goodIn_of _ (by decide +kernel)) ggX10_film_X1_stepOf
set_option maxRecDepth 20000 in
theorem ggX10_film_X0_width : GoodIn wsX10_film wsX0_width := goodIn_r _ [49, 50, 78, 79, 80, 81, 82, 83, 84] (by decide +kernel) (by decide +kernel)
set_option maxRecDepth 20000 in
theorem gX10_film_X0_width : GoodIn wsX10_film (wsV RX10 104 RX0 yX0_width wsX0_width) := goodIn_app (goodIn_of _ (by decide +kernel)) ggX10_film_X0_width
set_option maxRecDepth 20000 in
theorem ggX10_film_X3_stripX : GoodIn wsX10_film wsX3_stripX := goodIn_r _ [54, 55, 56, 53, 57, 58, 59, 6, 60, 61] (by decide +kernel) (by decide +kernel)
set_option maxRecDepth 20000 in
theorem gX10_film_X3_stripX : GoodIn wsX10_film (va_wsS RX10 115 yX3_stripX wsX3_stripX) := goodIn_app (goodIn_of _ (by decide +kernel)) ggX10_film_X3_stripX
set_option maxRecDepth 20000 in
theorem ggX10_film_X6_put : GoodIn wsX10_film wsX6_put := goodIn_r _ [65, 31, 66, 85, 86, 87, 88] (by decide +kernel) (by decide +kernel)
set_option maxRecDepth 20000 in
theorem gX10_film_X6_put : GoodIn wsX10_film (wsV RX10 313 RX6 yX6_put wsX6_put) := goodIn_app (goodIn_of _ (by decide +kernel)) ggX10_film_X6_put
theorem dX10_film_0 : decode cX10_film 0 = .ok (.iload_n 1, 1) := by decide +kernel
theorem dX10_film_1 : decode cX10_film 1 = .ok (.iconst 0, 1) := by decide +kernel
theorem dX10_film_2 : decode cX10_film 2 = .ok (.invokestatic 71, 3) := by decide +kernel
theorem dX10_film_5 : decode cX10_film 5 = .ok (.ifCond .eq 11, 3) := by decide +kernel
theorem dX10_film_8 : decode cX10_film 8 = .ok (.iload_n 2, 1) := by decide +kernel
theorem dX10_film_9 : decode cX10_film 9 = .ok (.iload_n 3, 1) := by decide +kernel
theorem dX10_film_10 : decode cX10_film 10 = .ok (.invokestatic 296, 3) := by decide +kernel
theorem dX10_film_13 : decode cX10_film 13 = .ok (.ifCond .ne 5, 3) := by decide +kernel
theorem dX10_film_16 : decode cX10_film 16 = .ok (.iconst (-1), 1) := by decide +kernel
theorem dX10_film_17 : decode cX10_film 17 = .ok (.ireturn, 1) := by decide +kernel
theorem dX10_film_18 : decode cX10_film 18 = .ok (.aload_n 0, 1) := by decide +kernel
theorem dX10_film_19 : decode cX10_film 19 = .ok (.getfield 10, 3) := by decide +kernel
theorem dX10_film_22 : decode cX10_film 22 = .ok (.iload_n 1, 1) := by decide +kernel
theorem dX10_film_23 : decode cX10_film 23 = .ok (.invokevirtual 97, 3) := by decide +kernel
theorem dX10_film_26 : decode cX10_film 26 = .ok (.ifCond .ne 6, 3) := by decide +kernel
theorem dX10_film_29 : decode cX10_film 29 = .ok (.bipush (-2), 2) := by decide +kernel
theorem dX10_film_31 : decode cX10_film 31 = .ok (.ireturn, 1) := by decide +kernel
theorem dX10_film_32 : decode cX10_film 32 = .ok (.aload_n 0, 1) := by decide +kernel
theorem dX10_film_33 : decode cX10_film 33 = .ok (.getfield 38, 3) := by decide +kernel
theorem dX10_film_36 : decode cX10_film 36 = .ok (.iload_n 2, 1) := by decide +kernel
theorem dX10_film_37 : decode cX10_film 37 = .ok (.aaload, 1) := by decide +kernel
theorem dX10_film_38 : decode cX10_film 38 = .ok (.astore 5, 2) := by decide +kernel
theorem dX10_film_40 : decode cX10_film 40 = .ok (.aload 5, 2) := by decide +kernel
theorem dX10_film_42 : decode cX10_film 42 = .ok (.iload_n 3, 1) := by decide +kernel
theorem dX10_film_43 : decode cX10_film 43 = .ok (.iload 4, 2) := by decide +kernel
theorem dX10_film_45 : decode cX10_film 45 = .ok (.bipush 24, 2) := by decide +kernel
theorem dX10_film_47 : decode cX10_film 47 = .ok (.invokevirtual 299, 3) := by decide +kernel
theorem dX10_film_50 : decode cX10_film 50 = .ok (.istore 6, 2) := by decide +kernel
theorem dX10_film_52 : decode cX10_film 52 = .ok (.iload 6, 2) := by decide +kernel
theorem dX10_film_54 : decode cX10_film 54 = .ok (.ifCond .eq 6, 3) := by decide +kernel
theorem dX10_film_57 : decode cX10_film 57 = .ok (.iload 6, 2) := by decide +kernel
theorem dX10_film_59 : decode cX10_film 59 = .ok (.ireturn, 1) := by decide +kernel
theorem dX10_film_60 : decode cX10_film 60 = .ok (.iconst 0, 1) := by decide +kernel
theorem dX10_film_61 : decode cX10_film 61 = .ok (.istore 7, 2) := by decide +kernel
theorem dX10_film_63 : decode cX10_film 63 = .ok (.iload 7, 2) := by decide +kernel
theorem dX10_film_65 : decode cX10_film 65 = .ok (.bipush 24, 2) := by decide +kernel
theorem dX10_film_67 : decode cX10_film 67 = .ok (.if_icmp .ge 51, 3) := by decide +kernel
theorem dX10_film_70 : decode cX10_film 70 = .ok (.iload_n 1, 1) := by decide +kernel
theorem dX10_film_71 : decode cX10_film 71 = .ok (.iload 7, 2) := by decide +kernel
theorem dX10_film_73 : decode cX10_film 73 = .ok (.invokestatic 81, 3) := by decide +kernel
theorem dX10_film_76 : decode cX10_film 76 = .ok (.invokestatic 100, 3) := by decide +kernel
theorem dX10_film_79 : decode cX10_film 79 = .ok (.istore 8, 2) := by decide +kernel
theorem dX10_film_81 : decode cX10_film 81 = .ok (.aload 5, 2) := by decide +kernel
theorem dX10_film_83 : decode cX10_film 83 = .ok (.iload 4, 2) := by decide +kernel
theorem dX10_film_85 : decode cX10_film 85 = .ok (.iload 7, 2) := by decide +kernel
theorem dX10_film_87 : decode cX10_film 87 = .ok (.iadd, 1) := by decide +kernel
theorem dX10_film_88 : decode cX10_film 88 = .ok (.aload_n 0, 1) := by decide +kernel
theorem dX10_film_89 : decode cX10_film 89 = .ok (.getfield 10, 3) := by decide +kernel
theorem dX10_film_92 : decode cX10_film 92 = .ok (.getfield 111, 3) := by decide +kernel
theorem dX10_film_95 : decode cX10_film 95 = .ok (.aload_n 0, 1) := by decide +kernel
theorem dX10_film_96 : decode cX10_film 96 = .ok (.getfield 10, 3) := by decide +kernel
theorem dX10_film_99 : decode cX10_film 99 = .ok (.invokevirtual 104, 3) := by decide +kernel
theorem dX10_film_102 : decode cX10_film 102 = .ok (.iload_n 1, 1) := by decide +kernel
theorem dX10_film_103 : decode cX10_film 103 = .ok (.iload 8, 2) := by decide +kernel
theorem dX10_film_105 : decode cX10_film 105 = .ok (.invokestatic 115, 3) := by decide +kernel
theorem dX10_film_108 : decode cX10_film 108 = .ok (.i2l, 1) := by decide +kernel
theorem dX10_film_109 : decode cX10_film 109 = .ok (.invokevirtual 313, 3) := by decide +kernel
theorem dX10_film_112 : decode cX10_film 112 = .ok (.iinc 7 1, 3) := by decide +kernel
theorem dX10_film_115 : decode cX10_film 115 = .ok (.goto (-52), 3) := by decide +kernel
theorem dX10_film_118 : decode cX10_film 118 = .ok (.bipush 24, 2) := by decide +kernel
theorem dX10_film_120 : decode cX10_film 120 = .ok (.ireturn, 1) := by decide +kernel
set_option maxRecDepth 20000 in
theorem ggX10_sheet_X10_isSheetOfLane : GoodIn wsX10_sheet wsX10_isSheetOfLane := goodIn_r _ [5, 6, 7, 4, 8] (by decide +kernel) (by decide +kernel)
set_option maxRecDepth 20000 in
theorem gX10_sheet_X10_isSheetOfLane : GoodIn wsX10_sheet (va_wsS RX10 296 yX10_isSheetOfLane wsX10_isSheetOfLane) := goodIn_app (goodIn_of _ (by decide +kernel)) ggX10_sheet_X10_isSheetOfLane
set_option maxRecDepth 20000 in
theorem ggX10_sheet_X6_renew : GoodIn wsX10_sheet wsX6_renew := goodIn_r _ [13, 14, 15, 16, 17, 18, 19, 20, 21, 33, 34, 35, 36] (by decide +kernel) (by decide +kernel)
set_option maxRecDepth 20000 in
theorem gX10_sheet_X6_renew : GoodIn wsX10_sheet (wsV RX10 317 RX6 yX6_renew wsX6_renew) := goodIn_app (goodIn_of _ (by decide +kernel)) ggX10_sheet_X6_renew
theorem dX10_sheet_0 : decode cX10_sheet 0 = .ok (.iload_n 1, 1) := by decide +kernel
theorem dX10_sheet_1 : decode cX10_sheet 1 = .ok (.iload_n 2, 1) := by decide +kernel
theorem dX10_sheet_2 : decode cX10_sheet 2 = .ok (.invokestatic 296, 3) := by decide +kernel
theorem dX10_sheet_5 : decode cX10_sheet 5 = .ok (.ifCond .eq 9, 3) := by decide +kernel
theorem dX10_sheet_8 : decode cX10_sheet 8 = .ok (.iload_n 3, 1) := by decide +kernel
theorem dX10_sheet_9 : decode cX10_sheet 9 = .ok (.bipush 30, 2) := by decide +kernel
theorem dX10_sheet_11 : decode cX10_sheet 11 = .ok (.if_icmp .le 5, 3) := by decide +kernel
theorem dX10_sheet_14 : decode cX10_sheet 14 = .ok (.iconst (-1), 1) := by decide +kernel
theorem dX10_sheet_15 : decode cX10_sheet 15 = .ok (.ireturn, 1) := by decide +kernel
theorem dX10_sheet_16 : decode cX10_sheet 16 = .ok (.iload_n 3, 1) := by decide +kernel
theorem dX10_sheet_17 : decode cX10_sheet 17 = .ok (.ifCond .ge 6, 3) := by decide +kernel
theorem dX10_sheet_20 : decode cX10_sheet 20 = .ok (.bipush (-14), 2) := by decide +kernel
theorem dX10_sheet_22 : decode cX10_sheet 22 = .ok (.ireturn, 1) := by decide +kernel
theorem dX10_sheet_23 : decode cX10_sheet 23 = .ok (.aload_n 0, 1) := by decide +kernel
theorem dX10_sheet_24 : decode cX10_sheet 24 = .ok (.getfield 38, 3) := by decide +kernel
theorem dX10_sheet_27 : decode cX10_sheet 27 = .ok (.iload_n 1, 1) := by decide +kernel
theorem dX10_sheet_28 : decode cX10_sheet 28 = .ok (.aaload, 1) := by decide +kernel
theorem dX10_sheet_29 : decode cX10_sheet 29 = .ok (.iload_n 2, 1) := by decide +kernel
theorem dX10_sheet_30 : decode cX10_sheet 30 = .ok (.iload_n 3, 1) := by decide +kernel
theorem dX10_sheet_31 : decode cX10_sheet 31 = .ok (.invokevirtual 317, 3) := by decide +kernel
theorem dX10_sheet_34 : decode cX10_sheet 34 = .ok (.iload_n 3, 1) := by decide +kernel
theorem dX10_sheet_35 : decode cX10_sheet 35 = .ok (.ireturn, 1) := by decide +kernel
set_option maxRecDepth 20000 in
theorem ggX10_drop_X10_isIn : GoodIn wsX10_drop wsX10_isIn := goodIn_r _ [7] (by decide +kernel) (by decide +kernel)
set_option maxRecDepth 20000 in
theorem gX10_drop_X10_isIn : GoodIn wsX10_drop (va_wsS RX10 77 yX10_isIn wsX10_isIn) := goodIn_app (goodIn_of _ (by decide +kernel)) ggX10_drop_X10_isIn
theorem dX10_drop_0 : decode cX10_drop 0 = .ok (.iload_n 1, 1) := by decide +kernel
theorem dX10_drop_1 : decode cX10_drop 1 = .ok (.iconst 0, 1) := by decide +kernel
theorem dX10_drop_2 : decode cX10_drop 2 = .ok (.iconst 3, 1) := by decide +kernel
theorem dX10_drop_3 : decode cX10_drop 3 = .ok (.invokestatic 77, 3) := by decide +kernel
theorem dX10_drop_6 : decode cX10_drop 6 = .ok (.ifCond .ne 5, 3) := by decide +kernel
theorem dX10_drop_9 : decode cX10_drop 9 = .ok (.iconst (-1), 1) := by decide +kernel
theorem dX10_drop_10 : decode cX10_drop 10 = .ok (.ireturn, 1) := by decide +kernel
theorem dX10_drop_11 : decode cX10_drop 11 = .ok (.aload_n 0, 1) := by decide +kernel
theorem dX10_drop_12 : decode cX10_drop 12 = .ok (.getfield 38, 3) := by decide +kernel
theorem dX10_drop_15 : decode cX10_drop 15 = .ok (.iload_n 1, 1) := by decide +kernel
theorem dX10_drop_16 : decode cX10_drop 16 = .ok (.aaload, 1) := by decide +kernel
theorem dX10_drop_17 : decode cX10_drop 17 = .ok (.astore_n 2, 1) := by decide +kernel
theorem dX10_drop_18 : decode cX10_drop 18 = .ok (.aload_n 2, 1) := by decide +kernel
theorem dX10_drop_19 : decode cX10_drop 19 = .ok (.getfield 321, 3) := by decide +kernel
theorem dX10_drop_22 : decode cX10_drop 22 = .ok (.ifCond .ne 6, 3) := by decide +kernel
theorem dX10_drop_25 : decode cX10_drop 25 = .ok (.bipush (-11), 2) := by decide +kernel
theorem dX10_drop_27 : decode cX10_drop 27 = .ok (.ireturn, 1) := by decide +kernel
theorem dX10_drop_28 : decode cX10_drop 28 = .ok (.aload_n 2, 1) := by decide +kernel
theorem dX10_drop_29 : decode cX10_drop 29 = .ok (.iconst 0, 1) := by decide +kernel
theorem dX10_drop_30 : decode cX10_drop 30 = .ok (.putfield 321, 3) := by decide +kernel
theorem dX10_drop_33 : decode cX10_drop 33 = .ok (.aload_n 2, 1) := by decide +kernel
theorem dX10_drop_34 : decode cX10_drop 34 = .ok (.getfield 324, 3) := by decide +kernel
theorem dX10_drop_37 : decode cX10_drop 37 = .ok (.ireturn, 1) := by decide +kernel
set_option maxRecDepth 20000 in
theorem ggX10_item_X10_isSheetOfLane : GoodIn wsX10_item wsX10_isSheetOfLane := goodIn_r _ [5, 6, 7, 4, 8] (by decide +kernel) (by decide +kernel)
set_option maxRecDepth 20000 in
theorem gX10_item_X10_isSheetOfLane : GoodIn wsX10_item (va_wsS RX10 296 yX10_isSheetOfLane wsX10_isSheetOfLane) := goodIn_app (goodIn_of _ (by decide +kernel)) ggX10_item_X10_isSheetOfLane
set_option maxRecDepth 20000 in
theorem ggX10_item_X6_refusal : GoodIn wsX10_item wsX6_refusal := goodIn_r _ [13, 14, 15, 16, 17, 18, 12, 19, 20, 37, 38, 39, 40] (by decide +kernel) (by decide +kernel)
set_option maxRecDepth 20000 in
theorem gX10_item_X6_refusal : GoodIn wsX10_item (wsV RX10 299 RX6 yX6_refusal wsX6_refusal) := goodIn_app (goodIn_of _ (by decide +kernel)) ggX10_item_X6_refusal
set_option maxRecDepth 20000 in
theorem ggX10_item_X6_put : GoodIn wsX10_item wsX6_put := goodIn_r _ [24, 15, 25, 37, 38, 39, 40] (by decide +kernel) (by decide +kernel)
set_option maxRecDepth 20000 in
theorem gX10_item_X6_put : GoodIn wsX10_item (wsV RX10 313 RX6 yX6_put wsX6_put) := goodIn_app (goodIn_of _ (by decide +kernel)) ggX10_item_X6_put
theorem dX10_item_0 : decode cX10_item 0 = .ok (.iload_n 1, 1) := by decide +kernel
theorem dX10_item_1 : decode cX10_item 1 = .ok (.iload_n 2, 1) := by decide +kernel
theorem dX10_item_2 : decode cX10_item 2 = .ok (.invokestatic 296, 3) := by decide +kernel
theorem dX10_item_5 : decode cX10_item 5 = .ok (.ifCond .ne 5, 3) := by decide +kernel
theorem dX10_item_8 : decode cX10_item 8 = .ok (.iconst (-1), 1) := by decide +kernel
theorem dX10_item_9 : decode cX10_item 9 = .ok (.ireturn, 1) := by decide +kernel
theorem dX10_item_10 : decode cX10_item 10 = .ok (.aload_n 0, 1) := by decide +kernel
theorem dX10_item_11 : decode cX10_item 11 = .ok (.getfield 38, 3) := by decide +kernel
theorem dX10_item_14 : decode cX10_item 14 = .ok (.iload_n 1, 1) := by decide +kernel
theorem dX10_item_15 : decode cX10_item 15 = .ok (.aaload, 1) := by decide +kernel
theorem dX10_item_16 : decode cX10_item 16 = .ok (.iload_n 2, 1) := by decide +kernel
theorem dX10_item_17 : decode cX10_item 17 = .ok (.iload_n 3, 1) := by decide +kernel
theorem dX10_item_18 : decode cX10_item 18 = .ok (.iconst 1, 1) := by decide +kernel
theorem dX10_item_19 : decode cX10_item 19 = .ok (.invokevirtual 299, 3) := by decide +kernel
theorem dX10_item_22 : decode cX10_item 22 = .ok (.istore 6, 2) := by decide +kernel
theorem dX10_item_24 : decode cX10_item 24 = .ok (.iload 6, 2) := by decide +kernel
theorem dX10_item_26 : decode cX10_item 26 = .ok (.ifCond .eq 6, 3) := by decide +kernel
theorem dX10_item_29 : decode cX10_item 29 = .ok (.iload 6, 2) := by decide +kernel
theorem dX10_item_31 : decode cX10_item 31 = .ok (.ireturn, 1) := by decide +kernel
theorem dX10_item_32 : decode cX10_item 32 = .ok (.aload_n 0, 1) := by decide +kernel
theorem dX10_item_33 : decode cX10_item 33 = .ok (.getfield 38, 3) := by decide +kernel
theorem dX10_item_36 : decode cX10_item 36 = .ok (.iload_n 1, 1) := by decide +kernel
theorem dX10_item_37 : decode cX10_item 37 = .ok (.aaload, 1) := by decide +kernel
theorem dX10_item_38 : decode cX10_item 38 = .ok (.iload_n 3, 1) := by decide +kernel
theorem dX10_item_39 : decode cX10_item 39 = .ok (.lload 4, 2) := by decide +kernel
theorem dX10_item_41 : decode cX10_item 41 = .ok (.invokevirtual 313, 3) := by decide +kernel
theorem dX10_item_44 : decode cX10_item 44 = .ok (.iconst 1, 1) := by decide +kernel
theorem dX10_item_45 : decode cX10_item 45 = .ok (.ireturn, 1) := by decide +kernel
set_option maxRecDepth 20000 in
theorem ggX10_copy_X10_isIn : GoodIn wsX10_copy wsX10_isIn := goodIn_r _ [12] (by decide +kernel) (by decide +kernel)
set_option maxRecDepth 20000 in
theorem gX10_copy_X10_isIn : GoodIn wsX10_copy (va_wsS RX10 77 yX10_isIn wsX10_isIn) := goodIn_app (goodIn_of _ (by decide +kernel)) ggX10_copy_X10_isIn
set_option maxRecDepth 20000 in
theorem ggX10_copy_X6_hasItems : GoodIn wsX10_copy wsX6_hasItems := goodIn_r _ [17, 18, 30, 31, 32, 33] (by decide +kernel) (by decide +kernel)
set_option maxRecDepth 20000 in
theorem gX10_copy_X6_hasItems : GoodIn wsX10_copy (wsV RX10 330 RX6 yX6_hasItems wsX6_hasItems) := goodIn_app (goodIn_of _ (by decide +kernel)) ggX10_copy_X6_hasItems
theorem dX10_copy_0 : decode cX10_copy 0 = .ok (.iload_n 1, 1) := by decide +kernel
theorem dX10_copy_1 : decode cX10_copy 1 = .ok (.iconst 0, 1) := by decide +kernel
theorem dX10_copy_2 : decode cX10_copy 2 = .ok (.iconst 3, 1) := by decide +kernel
theorem dX10_copy_3 : decode cX10_copy 3 = .ok (.invokestatic 77, 3) := by decide +kernel
theorem dX10_copy_6 : decode cX10_copy 6 = .ok (.ifCond .eq 12, 3) := by decide +kernel
theorem dX10_copy_9 : decode cX10_copy 9 = .ok (.iload_n 3, 1) := by decide +kernel
theorem dX10_copy_10 : decode cX10_copy 10 = .ok (.iconst 0, 1) := by decide +kernel
theorem dX10_copy_11 : decode cX10_copy 11 = .ok (.iconst 3, 1) := by decide +kernel
theorem dX10_copy_12 : decode cX10_copy 12 = .ok (.invokestatic 77, 3) := by decide +kernel
theorem dX10_copy_15 : decode cX10_copy 15 = .ok (.ifCond .ne 5, 3) := by decide +kernel
theorem dX10_copy_18 : decode cX10_copy 18 = .ok (.iconst (-1), 1) := by decide +kernel
theorem dX10_copy_19 : decode cX10_copy 19 = .ok (.ireturn, 1) := by decide +kernel
theorem dX10_copy_20 : decode cX10_copy 20 = .ok (.aload_n 0, 1) := by decide +kernel
theorem dX10_copy_21 : decode cX10_copy 21 = .ok (.getfield 38, 3) := by decide +kernel
theorem dX10_copy_24 : decode cX10_copy 24 = .ok (.iload_n 1, 1) := by decide +kernel
theorem dX10_copy_25 : decode cX10_copy 25 = .ok (.aaload, 1) := by decide +kernel
theorem dX10_copy_26 : decode cX10_copy 26 = .ok (.astore 6, 2) := by decide +kernel
theorem dX10_copy_28 : decode cX10_copy 28 = .ok (.aload_n 0, 1) := by decide +kernel
theorem dX10_copy_29 : decode cX10_copy 29 = .ok (.getfield 38, 3) := by decide +kernel
theorem dX10_copy_32 : decode cX10_copy 32 = .ok (.iload_n 3, 1) := by decide +kernel
theorem dX10_copy_33 : decode cX10_copy 33 = .ok (.aaload, 1) := by decide +kernel
theorem dX10_copy_34 : decode cX10_copy 34 = .ok (.astore 7, 2) := by decide +kernel
theorem dX10_copy_36 : decode cX10_copy 36 = .ok (.aload 6, 2) := by decide +kernel
theorem dX10_copy_38 : decode cX10_copy 38 = .ok (.getfield 321, 3) := by decide +kernel
theorem dX10_copy_41 : decode cX10_copy 41 = .ok (.ifCond .eq 11, 3) := by decide +kernel
theorem dX10_copy_44 : decode cX10_copy 44 = .ok (.aload 7, 2) := by decide +kernel
theorem dX10_copy_46 : decode cX10_copy 46 = .ok (.getfield 321, 3) := by decide +kernel
theorem dX10_copy_49 : decode cX10_copy 49 = .ok (.ifCond .ne 6, 3) := by decide +kernel
theorem dX10_copy_52 : decode cX10_copy 52 = .ok (.bipush (-11), 2) := by decide +kernel
theorem dX10_copy_54 : decode cX10_copy 54 = .ok (.ireturn, 1) := by decide +kernel
theorem dX10_copy_55 : decode cX10_copy 55 = .ok (.aload 6, 2) := by decide +kernel
theorem dX10_copy_57 : decode cX10_copy 57 = .ok (.getfield 327, 3) := by decide +kernel
theorem dX10_copy_60 : decode cX10_copy 60 = .ok (.aload 7, 2) := by decide +kernel
theorem dX10_copy_62 : decode cX10_copy 62 = .ok (.getfield 327, 3) := by decide +kernel
theorem dX10_copy_65 : decode cX10_copy 65 = .ok (.if_icmp .eq 6, 3) := by decide +kernel
theorem dX10_copy_68 : decode cX10_copy 68 = .ok (.bipush (-12), 2) := by decide +kernel
theorem dX10_copy_70 : decode cX10_copy 70 = .ok (.ireturn, 1) := by decide +kernel
theorem dX10_copy_71 : decode cX10_copy 71 = .ok (.aload 6, 2) := by decide +kernel
theorem dX10_copy_73 : decode cX10_copy 73 = .ok (.iload_n 2, 1) := by decide +kernel
theorem dX10_copy_74 : decode cX10_copy 74 = .ok (.iload 5, 2) := by decide +kernel
theorem dX10_copy_76 : decode cX10_copy 76 = .ok (.invokevirtual 330, 3) := by decide +kernel
theorem dX10_copy_79 : decode cX10_copy 79 = .ok (.ifCond .eq 15, 3) := by decide +kernel
theorem dX10_copy_82 : decode cX10_copy 82 = .ok (.aload 7, 2) := by decide +kernel
theorem dX10_copy_84 : decode cX10_copy 84 = .ok (.iload 4, 2) := by decide +kernel
theorem dX10_copy_86 : decode cX10_copy 86 = .ok (.iload 5, 2) := by decide +kernel
theorem dX10_copy_88 : decode cX10_copy 88 = .ok (.invokevirtual 330, 3) := by decide +kernel
theorem dX10_copy_91 : decode cX10_copy 91 = .ok (.ifCond .ne 6, 3) := by decide +kernel
theorem dX10_copy_94 : decode cX10_copy 94 = .ok (.bipush (-13), 2) := by decide +kernel
theorem dX10_copy_96 : decode cX10_copy 96 = .ok (.ireturn, 1) := by decide +kernel
theorem dX10_copy_97 : decode cX10_copy 97 = .ok (.aload 6, 2) := by decide +kernel
theorem dX10_copy_99 : decode cX10_copy 99 = .ok (.getfield 333, 3) := by decide +kernel
theorem dX10_copy_102 : decode cX10_copy 102 = .ok (.iload_n 2, 1) := by decide +kernel
theorem dX10_copy_103 : decode cX10_copy 103 = .ok (.aload 7, 2) := by decide +kernel
theorem dX10_copy_105 : decode cX10_copy 105 = .ok (.getfield 333, 3) := by decide +kernel
theorem dX10_copy_108 : decode cX10_copy 108 = .ok (.iload 4, 2) := by decide +kernel
theorem dX10_copy_110 : decode cX10_copy 110 = .ok (.iload 5, 2) := by decide +kernel
theorem dX10_copy_112 : decode cX10_copy 112 = .ok (.invokestatic 271, 3) := by decide +kernel
theorem dX10_copy_115 : decode cX10_copy 115 = .ok (.iload 5, 2) := by decide +kernel
theorem dX10_copy_117 : decode cX10_copy 117 = .ok (.ireturn, 1) := by decide +kernel
theorem dX10_isIn_0 : decode cX10_isIn 0 = .ok (.iload_n 0, 1) := by decide +kernel
theorem dX10_isIn_1 : decode cX10_isIn 1 = .ok (.iload_n 1, 1) := by decide +kernel
theorem dX10_isIn_2 : decode cX10_isIn 2 = .ok (.if_icmp .lt 12, 3) := by decide +kernel
theorem dX10_isIn_5 : decode cX10_isIn 5 = .ok (.iload_n 0, 1) := by decide +kernel
theorem dX10_isIn_6 : decode cX10_isIn 6 = .ok (.iload_n 2, 1) := by decide +kernel
theorem dX10_isIn_7 : decode cX10_isIn 7 = .ok (.if_icmp .gt 7, 3) := by decide +kernel
theorem dX10_isIn_10 : decode cX10_isIn 10 = .ok (.iconst 1, 1) := by decide +kernel
theorem dX10_isIn_11 : decode cX10_isIn 11 = .ok (.goto 4, 3) := by decide +kernel
theorem dX10_isIn_14 : decode cX10_isIn 14 = .ok (.iconst 0, 1) := by decide +kernel
theorem dX10_isIn_15 : decode cX10_isIn 15 = .ok (.ireturn, 1) := by decide +kernel
set_option maxRecDepth 20000 in
theorem ggX10_isSheetOfLane_X10_isIn : GoodIn wsX10_isSheetOfLane wsX10_isIn := goodIn_r _ [4] (by decide +kernel) (by decide +kernel)
set_option maxRecDepth 20000 in
theorem gX10_isSheetOfLane_X10_isIn : GoodIn wsX10_isSheetOfLane (va_wsS RX10 77 yX10_isIn wsX10_isIn) := goodIn_app (goodIn_of _ (by decide +kernel)) ggX10_isSheetOfLane_X10_isIn
theorem dX10_isSheetOfLane_0 : decode cX10_isSheetOfLane 0 = .ok (.iload_n 0, 1) := by decide +kernel
theorem dX10_isSheetOfLane_1 : decode cX10_isSheetOfLane 1 = .ok (.iconst 0, 1) := by decide +kernel
theorem dX10_isSheetOfLane_2 : decode cX10_isSheetOfLane 2 = .ok (.iconst 3, 1) := by decide +kernel
theorem dX10_isSheetOfLane_3 : decode cX10_isSheetOfLane 3 = .ok (.invokestatic 77, 3) := by decide +kernel
theorem dX10_isSheetOfLane_6 : decode cX10_isSheetOfLane 6 = .ok (.ifCond .eq 16, 3) := by decide +kernel
theorem dX10_isSheetOfLane_9 : decode cX10_isSheetOfLane 9 = .ok (.iload_n 1, 1) := by decide +kernel
theorem dX10_isSheetOfLane_10 : decode cX10_isSheetOfLane 10 = .ok (.iconst 0, 1) := by decide +kernel
theorem dX10_isSheetOfLane_11 : decode cX10_isSheetOfLane 11 = .ok (.iconst 3, 1) := by decide +kernel
theorem dX10_isSheetOfLane_12 : decode cX10_isSheetOfLane 12 = .ok (.invokestatic 77, 3) := by decide +kernel
theorem dX10_isSheetOfLane_15 : decode cX10_isSheetOfLane 15 = .ok (.ifCond .eq 7, 3) := by decide +kernel
theorem dX10_isSheetOfLane_18 : decode cX10_isSheetOfLane 18 = .ok (.iconst 1, 1) := by decide +kernel
theorem dX10_isSheetOfLane_19 : decode cX10_isSheetOfLane 19 = .ok (.goto 4, 3) := by decide +kernel
theorem dX10_isSheetOfLane_22 : decode cX10_isSheetOfLane 22 = .ok (.iconst 0, 1) := by decide +kernel
theorem dX10_isSheetOfLane_23 : decode cX10_isSheetOfLane 23 = .ok (.ireturn, 1) := by decide +kernel
set_option maxRecDepth 20000 in
theorem ggX10_mayBeTold_X10_isIn : GoodIn wsX10_mayBeTold wsX10_isIn := goodIn_r _ [4] (by decide +kernel) (by decide +kernel)
set_option maxRecDepth 20000 in
theorem gX10_mayBeTold_X10_isIn : GoodIn wsX10_mayBeTold (va_wsS RX10 77 yX10_isIn wsX10_isIn) := goodIn_app (goodIn_of _ (by decide +kernel)) ggX10_mayBeTold_X10_isIn
set_option maxRecDepth 20000 in
theorem ggX10_mayBeTold_X10_isStripNumber : GoodIn wsX10_mayBeTold wsX10_isStripNumber := goodIn_r _ [7, 8] (by decide +kernel) (by decide +kernel)
set_option maxRecDepth 20000 in
theorem gX10_mayBeTold_X10_isStripNumber : GoodIn wsX10_mayBeTold (va_wsS RX10 336 yX10_isStripNumber wsX10_isStripNumber) := goodIn_app (goodIn_of _ (by decide +kernel)) ggX10_mayBeTold_X10_isStripNumber
theorem dX10_mayBeTold_0 : decode cX10_mayBeTold 0 = .ok (.iload_n 0, 1) := by decide +kernel
theorem dX10_mayBeTold_1 : decode cX10_mayBeTold 1 = .ok (.tableswitch 49 0 2 #[27, 37, 42], 27) := by decide +kernel
theorem dX10_mayBeTold_28 : decode cX10_mayBeTold 28 = .ok (.iload_n 1, 1) := by decide +kernel
theorem dX10_mayBeTold_29 : decode cX10_mayBeTold 29 = .ok (.bipush 10, 2) := by decide +kernel
theorem dX10_mayBeTold_31 : decode cX10_mayBeTold 31 = .ok (.sipush 200, 3) := by decide +kernel
theorem dX10_mayBeTold_34 : decode cX10_mayBeTold 34 = .ok (.invokestatic 77, 3) := by decide +kernel
theorem dX10_mayBeTold_37 : decode cX10_mayBeTold 37 = .ok (.ireturn, 1) := by decide +kernel
theorem dX10_mayBeTold_38 : decode cX10_mayBeTold 38 = .ok (.iload_n 1, 1) := by decide +kernel
theorem dX10_mayBeTold_39 : decode cX10_mayBeTold 39 = .ok (.invokestatic 336, 3) := by decide +kernel
theorem dX10_mayBeTold_42 : decode cX10_mayBeTold 42 = .ok (.ireturn, 1) := by decide +kernel
theorem dX10_mayBeTold_43 : decode cX10_mayBeTold 43 = .ok (.iload_n 1, 1) := by decide +kernel
theorem dX10_mayBeTold_44 : decode cX10_mayBeTold 44 = .ok (.iconst 0, 1) := by decide +kernel
theorem dX10_mayBeTold_45 : decode cX10_mayBeTold 45 = .ok (.iconst 3, 1) := by decide +kernel
theorem dX10_mayBeTold_46 : decode cX10_mayBeTold 46 = .ok (.invokestatic 77, 3) := by decide +kernel
theorem dX10_mayBeTold_49 : decode cX10_mayBeTold 49 = .ok (.ireturn, 1) := by decide +kernel
theorem dX10_mayBeTold_50 : decode cX10_mayBeTold 50 = .ok (.iconst 0, 1) := by decide +kernel
theorem dX10_mayBeTold_51 : decode cX10_mayBeTold 51 = .ok (.ireturn, 1) := by decide +kernel
theorem dX10_isStripNumber_0 : decode cX10_isStripNumber 0 = .ok (.getstatic 306, 3) := by decide +kernel
theorem dX10_isStripNumber_3 : decode cX10_isStripNumber 3 = .ok (.astore_n 1, 1) := by decide +kernel
theorem dX10_isStripNumber_4 : decode cX10_isStripNumber 4 = .ok (.aload_n 1, 1) := by decide +kernel
theorem dX10_isStripNumber_5 : decode cX10_isStripNumber 5 = .ok (.arraylength, 1) := by decide +kernel
theorem dX10_isStripNumber_6 : decode cX10_isStripNumber 6 = .ok (.istore_n 2, 1) := by decide +kernel
theorem dX10_isStripNumber_7 : decode cX10_isStripNumber 7 = .ok (.iconst 0, 1) := by decide +kernel
theorem dX10_isStripNumber_8 : decode cX10_isStripNumber 8 = .ok (.istore_n 3, 1) := by decide +kernel
theorem dX10_isStripNumber_9 : decode cX10_isStripNumber 9 = .ok (.iload_n 3, 1) := by decide +kernel
theorem dX10_isStripNumber_10 : decode cX10_isStripNumber 10 = .ok (.iload_n 2, 1) := by decide +kernel
theorem dX10_isStripNumber_11 : decode cX10_isStripNumber 11 = .ok (.if_icmp .ge 22, 3) := by decide +kernel
theorem dX10_isStripNumber_14 : decode cX10_isStripNumber 14 = .ok (.aload_n 1, 1) := by decide +kernel
theorem dX10_isStripNumber_15 : decode cX10_isStripNumber 15 = .ok (.iload_n 3, 1) := by decide +kernel
theorem dX10_isStripNumber_16 : decode cX10_isStripNumber 16 = .ok (.iaload, 1) := by decide +kernel
theorem dX10_isStripNumber_17 : decode cX10_isStripNumber 17 = .ok (.istore 4, 2) := by decide +kernel
theorem dX10_isStripNumber_19 : decode cX10_isStripNumber 19 = .ok (.iload 4, 2) := by decide +kernel
theorem dX10_isStripNumber_21 : decode cX10_isStripNumber 21 = .ok (.iload_n 0, 1) := by decide +kernel
theorem dX10_isStripNumber_22 : decode cX10_isStripNumber 22 = .ok (.if_icmp .ne 5, 3) := by decide +kernel
theorem dX10_isStripNumber_25 : decode cX10_isStripNumber 25 = .ok (.iconst 1, 1) := by decide +kernel
theorem dX10_isStripNumber_26 : decode cX10_isStripNumber 26 = .ok (.ireturn, 1) := by decide +kernel
theorem dX10_isStripNumber_27 : decode cX10_isStripNumber 27 = .ok (.iinc 3 1, 3) := by decide +kernel
theorem dX10_isStripNumber_30 : decode cX10_isStripNumber 30 = .ok (.goto (-21), 3) := by decide +kernel
theorem dX10_isStripNumber_33 : decode cX10_isStripNumber 33 = .ok (.iconst 0, 1) := by decide +kernel
theorem dX10_isStripNumber_34 : decode cX10_isStripNumber 34 = .ok (.ireturn, 1) := by decide +kernel
set_option maxRecDepth 20000 in
theorem ggX10_routeLength_X8_spread : GoodIn wsX10_routeLength wsX8_spread := goodIn_r _ [11, 12, 13, 14, 15, 16, 17, 18, 19, 20, 21, 22, 23, 24, 25, 26, 27, 28, 10, 29, 30, 31, 32, 33, 34, 35, 36, 37, 38, 39, 40, 41, 42, 43, 44, 45, 46, 47, 48, 49, 50, 51, 52, 53, 54, 55, 56, 57, 58, 59, 60, 61, 62, 63, 64, 65, 66, 67, 68, 69, 70, 71, 72, 73, 95, 96, 97, 88, 89, 90, 91, 92, 93, 94] (by decide +kernel) (by decide +kernel)
set_option maxRecDepth 20000 in
theorem gX10_routeLength_X8_spread : GoodIn wsX10_routeLength (wsV RX10 174 RX8 yX8_spread wsX8_spread) := goodIn_app (goodIn_of _ (by decide +kernel)) ggX10_routeLength_X8_spread
set_option maxRecDepth 20000 in
theorem ggX10_routeLength_X8_farOf : GoodIn wsX10_routeLength wsX8_farOf := goodIn_r _ [76] (by decide +kernel) (by decide +kernel)
set_option maxRecDepth 20000 in
theorem gX10_routeLength_X8_farOf : GoodIn wsX10_routeLength (va_wsS RX10 182 yX8_farOf wsX8_farOf) := goodIn_app (goodIn_of _ (by decide +kernel)) ggX10_routeLength_X8_farOf
theorem dX10_routeLength_0 : decode cX10_routeLength 0 = .ok (.iconst 0, 1) := by decide +kernel
theorem dX10_routeLength_1 : decode cX10_routeLength 1 = .ok (.istore_n 1, 1) := by decide +kernel
theorem dX10_routeLength_2 : decode cX10_routeLength 2 = .ok (.iconst 1, 1) := by decide +kernel
theorem dX10_routeLength_3 : decode cX10_routeLength 3 = .ok (.istore_n 2, 1) := by decide +kernel
theorem dX10_routeLength_4 : decode cX10_routeLength 4 = .ok (.iload_n 2, 1) := by decide +kernel
theorem dX10_routeLength_5 : decode cX10_routeLength 5 = .ok (.aload_n 0, 1) := by decide +kernel
theorem dX10_routeLength_6 : decode cX10_routeLength 6 = .ok (.getfield 10, 3) := by decide +kernel
theorem dX10_routeLength_9 : decode cX10_routeLength 9 = .ok (.getfield 204, 3) := by decide +kernel
theorem dX10_routeLength_12 : decode cX10_routeLength 12 = .ok (.if_icmp .ge 76, 3) := by decide +kernel
theorem dX10_routeLength_15 : decode cX10_routeLength 15 = .ok (.aload_n 0, 1) := by decide +kernel
theorem dX10_routeLength_16 : decode cX10_routeLength 16 = .ok (.getfield 10, 3) := by decide +kernel
theorem dX10_routeLength_19 : decode cX10_routeLength 19 = .ok (.getfield 207, 3) := by decide +kernel
theorem dX10_routeLength_22 : decode cX10_routeLength 22 = .ok (.iload_n 2, 1) := by decide +kernel
theorem dX10_routeLength_23 : decode cX10_routeLength 23 = .ok (.iconst 1, 1) := by decide +kernel
theorem dX10_routeLength_24 : decode cX10_routeLength 24 = .ok (.isub, 1) := by decide +kernel
theorem dX10_routeLength_25 : decode cX10_routeLength 25 = .ok (.iaload, 1) := by decide +kernel
theorem dX10_routeLength_26 : decode cX10_routeLength 26 = .ok (.istore_n 3, 1) := by decide +kernel
theorem dX10_routeLength_27 : decode cX10_routeLength 27 = .ok (.aload_n 0, 1) := by decide +kernel
theorem dX10_routeLength_28 : decode cX10_routeLength 28 = .ok (.getfield 10, 3) := by decide +kernel
theorem dX10_routeLength_31 : decode cX10_routeLength 31 = .ok (.getfield 207, 3) := by decide +kernel
theorem dX10_routeLength_34 : decode cX10_routeLength 34 = .ok (.iload_n 2, 1) := by decide +kernel
theorem dX10_routeLength_35 : decode cX10_routeLength 35 = .ok (.iaload, 1) := by decide +kernel
theorem dX10_routeLength_36 : decode cX10_routeLength 36 = .ok (.istore 4, 2) := by decide +kernel
theorem dX10_routeLength_38 : decode cX10_routeLength 38 = .ok (.aload_n 0, 1) := by decide +kernel
theorem dX10_routeLength_39 : decode cX10_routeLength 39 = .ok (.getfield 52, 3) := by decide +kernel
theorem dX10_routeLength_42 : decode cX10_routeLength 42 = .ok (.aload_n 0, 1) := by decide +kernel
theorem dX10_routeLength_43 : decode cX10_routeLength 43 = .ok (.getfield 10, 3) := by decide +kernel
theorem dX10_routeLength_46 : decode cX10_routeLength 46 = .ok (.iload_n 3, 1) := by decide +kernel
theorem dX10_routeLength_47 : decode cX10_routeLength 47 = .ok (.iload 4, 2) := by decide +kernel
theorem dX10_routeLength_49 : decode cX10_routeLength 49 = .ok (.invokevirtual 174, 3) := by decide +kernel
theorem dX10_routeLength_52 : decode cX10_routeLength 52 = .ok (.aload_n 0, 1) := by decide +kernel
theorem dX10_routeLength_53 : decode cX10_routeLength 53 = .ok (.getfield 52, 3) := by decide +kernel
theorem dX10_routeLength_56 : decode cX10_routeLength 56 = .ok (.getfield 178, 3) := by decide +kernel
theorem dX10_routeLength_59 : decode cX10_routeLength 59 = .ok (.iload 4, 2) := by decide +kernel
theorem dX10_routeLength_61 : decode cX10_routeLength 61 = .ok (.iaload, 1) := by decide +kernel
theorem dX10_routeLength_62 : decode cX10_routeLength 62 = .ok (.istore 5, 2) := by decide +kernel
theorem dX10_routeLength_64 : decode cX10_routeLength 64 = .ok (.iload 5, 2) := by decide +kernel
theorem dX10_routeLength_66 : decode cX10_routeLength 66 = .ok (.ldc 181, 2) := by decide +kernel
theorem dX10_routeLength_68 : decode cX10_routeLength 68 = .ok (.if_icmp .ne 6, 3) := by decide +kernel
theorem dX10_routeLength_71 : decode cX10_routeLength 71 = .ok (.bipush (-4), 2) := by decide +kernel
theorem dX10_routeLength_73 : decode cX10_routeLength 73 = .ok (.ireturn, 1) := by decide +kernel
theorem dX10_routeLength_74 : decode cX10_routeLength 74 = .ok (.iload_n 1, 1) := by decide +kernel
theorem dX10_routeLength_75 : decode cX10_routeLength 75 = .ok (.iload 5, 2) := by decide +kernel
theorem dX10_routeLength_77 : decode cX10_routeLength 77 = .ok (.invokestatic 182, 3) := by decide +kernel
theorem dX10_routeLength_80 : decode cX10_routeLength 80 = .ok (.iadd, 1) := by decide +kernel
theorem dX10_routeLength_81 : decode cX10_routeLength 81 = .ok (.istore_n 1, 1) := by decide +kernel
theorem dX10_routeLength_82 : decode cX10_routeLength 82 = .ok (.iinc 2 1, 3) := by decide +kernel
theorem dX10_routeLength_85 : decode cX10_routeLength 85 = .ok (.goto (-81), 3) := by decide +kernel
theorem dX10_routeLength_88 : decode cX10_routeLength 88 = .ok (.iload_n 1, 1) := by decide +kernel
theorem dX10_routeLength_89 : decode cX10_routeLength 89 = .ok (.ireturn, 1) := by decide +kernel
