theorem dX11_init_0 : decode cX11_init 0 = .ok (.aload_n 0, 1) := by decide +kernel
theorem dX11_init_1 : decode cX11_init 1 = .ok (.invokespecial 1, 3) := by decide +kernel
theorem dX11_init_4 : decode cX11_init 4 = .ok (.aload_n 0, 1) := by decide +kernel
theorem dX11_init_5 : decode cX11_init 5 = .ok (.sipush 279, 3) := by decide +kernel
theorem dX11_init_8 : decode cX11_init 8 = .ok (.newarray .int, 2) := by decide +kernel
theorem dX11_init_10 : decode cX11_init 10 = .ok (.putfield 7, 3) := by decide +kernel
theorem dX11_init_13 : decode cX11_init 13 = .ok (.aload_n 0, 1) := by decide +kernel
theorem dX11_init_14 : decode cX11_init 14 = .ok (.sipush 1674, 3) := by decide +kernel
theorem dX11_init_17 : decode cX11_init 17 = .ok (.newarray .int, 2) := by decide +kernel
theorem dX11_init_19 : decode cX11_init 19 = .ok (.putfield 13, 3) := by decide +kernel
theorem dX11_init_22 : decode cX11_init 22 = .ok (.aload_n 0, 1) := by decide +kernel
theorem dX11_init_23 : decode cX11_init 23 = .ok (.sipush 279, 3) := by decide +kernel
theorem dX11_init_26 : decode cX11_init 26 = .ok (.newarray .int, 2) := by decide +kernel
theorem dX11_init_28 : decode cX11_init 28 = .ok (.putfield 16, 3) := by decide +kernel
theorem dX11_init_31 : decode cX11_init 31 = .ok (.aload_n 0, 1) := by decide +kernel
theorem dX11_init_32 : decode cX11_init 32 = .ok (.sipush 1674, 3) := by decide +kernel
theorem dX11_init_35 : decode cX11_init 35 = .ok (.newarray .int, 2) := by decide +kernel
theorem dX11_init_37 : decode cX11_init 37 = .ok (.putfield 19, 3) := by decide +kernel
theorem dX11_init_40 : decode cX11_init 40 = .ok (.aload_n 0, 1) := by decide +kernel
theorem dX11_init_41 : decode cX11_init 41 = .ok (.iconst (-1), 1) := by decide +kernel
theorem dX11_init_42 : decode cX11_init 42 = .ok (.putfield 22, 3) := by decide +kernel
theorem dX11_init_45 : decode cX11_init 45 = .ok (.aload_n 0, 1) := by decide +kernel
theorem dX11_init_46 : decode cX11_init 46 = .ok (.bipush 90, 2) := by decide +kernel
theorem dX11_init_48 : decode cX11_init 48 = .ok (.newarray .int, 2) := by decide +kernel
theorem dX11_init_50 : decode cX11_init 50 = .ok (.putfield 26, 3) := by decide +kernel
theorem dX11_init_53 : decode cX11_init 53 = .ok (.aload_n 0, 1) := by decide +kernel
theorem dX11_init_54 : decode cX11_init 54 = .ok (.iconst 4, 1) := by decide +kernel
theorem dX11_init_55 : decode cX11_init 55 = .ok (.newarray .int, 2) := by decide +kernel
theorem dX11_init_57 : decode cX11_init 57 = .ok (.putfield 29, 3) := by decide +kernel
theorem dX11_init_60 : decode cX11_init 60 = .ok (.aload_n 0, 1) := by decide +kernel
theorem dX11_init_61 : decode cX11_init 61 = .ok (.iconst 4, 1) := by decide +kernel
theorem dX11_init_62 : decode cX11_init 62 = .ok (.newarray .int, 2) := by decide +kernel
theorem dX11_init_64 : decode cX11_init 64 = .ok (.putfield 32, 3) := by decide +kernel
theorem dX11_init_67 : decode cX11_init 67 = .ok (.aload_n 0, 1) := by decide +kernel
theorem dX11_init_68 : decode cX11_init 68 = .ok (.bipush 120, 2) := by decide +kernel
theorem dX11_init_70 : decode cX11_init 70 = .ok (.newarray .long, 2) := by decide +kernel
theorem dX11_init_72 : decode cX11_init 72 = .ok (.putfield 35, 3) := by decide +kernel
theorem dX11_init_75 : decode cX11_init 75 = .ok (.aload_n 0, 1) := by decide +kernel
theorem dX11_init_76 : decode cX11_init 76 = .ok (.sipush 266, 3) := by decide +kernel
theorem dX11_init_79 : decode cX11_init 79 = .ok (.newarray .int, 2) := by decide +kernel
theorem dX11_init_81 : decode cX11_init 81 = .ok (.putfield 39, 3) := by decide +kernel
theorem dX11_init_84 : decode cX11_init 84 = .ok (.aload_n 0, 1) := by decide +kernel
theorem dX11_init_85 : decode cX11_init 85 = .ok (.iconst 3, 1) := by decide +kernel
theorem dX11_init_86 : decode cX11_init 86 = .ok (.newarray .int, 2) := by decide +kernel
theorem dX11_init_88 : decode cX11_init 88 = .ok (.putfield 42, 3) := by decide +kernel
theorem dX11_init_91 : decode cX11_init 91 = .ok (.aload_n 0, 1) := by decide +kernel
theorem dX11_init_92 : decode cX11_init 92 = .ok (.sipush 266, 3) := by decide +kernel
theorem dX11_init_95 : decode cX11_init 95 = .ok (.newarray .int, 2) := by decide +kernel
theorem dX11_init_97 : decode cX11_init 97 = .ok (.putfield 45, 3) := by decide +kernel
theorem dX11_init_100 : decode cX11_init 100 = .ok (.aload_n 0, 1) := by decide +kernel
theorem dX11_init_101 : decode cX11_init 101 = .ok (.sipush 266, 3) := by decide +kernel
theorem dX11_init_104 : decode cX11_init 104 = .ok (.newarray .int, 2) := by decide +kernel
theorem dX11_init_106 : decode cX11_init 106 = .ok (.putfield 48, 3) := by decide +kernel
theorem dX11_init_109 : decode cX11_init 109 = .ok (.aload_n 0, 1) := by decide +kernel
theorem dX11_init_110 : decode cX11_init 110 = .ok (.bipush 26, 2) := by decide +kernel
theorem dX11_init_112 : decode cX11_init 112 = .ok (.newarray .int, 2) := by decide +kernel
theorem dX11_init_114 : decode cX11_init 114 = .ok (.putfield 51, 3) := by decide +kernel
theorem dX11_init_117 : decode cX11_init 117 = .ok (.aload_n 0, 1) := by decide +kernel
theorem dX11_init_118 : decode cX11_init 118 = .ok (.sipush 266, 3) := by decide +kernel
theorem dX11_init_121 : decode cX11_init 121 = .ok (.newarray .int, 2) := by decide +kernel
theorem dX11_init_123 : decode cX11_init 123 = .ok (.putfield 54, 3) := by decide +kernel
theorem dX11_init_126 : decode cX11_init 126 = .ok (.aload_n 0, 1) := by decide +kernel
theorem dX11_init_127 : decode cX11_init 127 = .ok (.getfield 7, 3) := by decide +kernel
theorem dX11_init_130 : decode cX11_init 130 = .ok (.sipush 266, 3) := by decide +kernel
theorem dX11_init_133 : decode cX11_init 133 = .ok (.bipush 60, 2) := by decide +kernel
theorem dX11_init_135 : decode cX11_init 135 = .ok (.iastore, 1) := by decide +kernel
theorem dX11_init_136 : decode cX11_init 136 = .ok (.aload_n 0, 1) := by decide +kernel
theorem dX11_init_137 : decode cX11_init 137 = .ok (.getfield 7, 3) := by decide +kernel
theorem dX11_init_140 : decode cX11_init 140 = .ok (.sipush 267, 3) := by decide +kernel
theorem dX11_init_143 : decode cX11_init 143 = .ok (.bipush 12, 2) := by decide +kernel
theorem dX11_init_145 : decode cX11_init 145 = .ok (.iastore, 1) := by decide +kernel
theorem dX11_init_146 : decode cX11_init 146 = .ok (.aload_n 0, 1) := by decide +kernel
theorem dX11_init_147 : decode cX11_init 147 = .ok (.getfield 7, 3) := by decide +kernel
theorem dX11_init_150 : decode cX11_init 150 = .ok (.sipush 268, 3) := by decide +kernel
theorem dX11_init_153 : decode cX11_init 153 = .ok (.iconst 1, 1) := by decide +kernel
theorem dX11_init_154 : decode cX11_init 154 = .ok (.iastore, 1) := by decide +kernel
theorem dX11_init_155 : decode cX11_init 155 = .ok (.aload_n 0, 1) := by decide +kernel
theorem dX11_init_156 : decode cX11_init 156 = .ok (.getfield 7, 3) := by decide +kernel
theorem dX11_init_159 : decode cX11_init 159 = .ok (.sipush 278, 3) := by decide +kernel
theorem dX11_init_162 : decode cX11_init 162 = .ok (.iconst 1, 1) := by decide +kernel
theorem dX11_init_163 : decode cX11_init 163 = .ok (.iastore, 1) := by decide +kernel
theorem dX11_init_164 : decode cX11_init 164 = .ok (.iconst 0, 1) := by decide +kernel
theorem dX11_init_165 : decode cX11_init 165 = .ok (.istore_n 1, 1) := by decide +kernel
theorem dX11_init_166 : decode cX11_init 166 = .ok (.iload_n 1, 1) := by decide +kernel
theorem dX11_init_167 : decode cX11_init 167 = .ok (.iconst 4, 1) := by decide +kernel
theorem dX11_init_168 : decode cX11_init 168 = .ok (.if_icmp .ge 17, 3) := by decide +kernel
theorem dX11_init_171 : decode cX11_init 171 = .ok (.aload_n 0, 1) := by decide +kernel
theorem dX11_init_172 : decode cX11_init 172 = .ok (.getfield 29, 3) := by decide +kernel
theorem dX11_init_175 : decode cX11_init 175 = .ok (.iload_n 1, 1) := by decide +kernel
theorem dX11_init_176 : decode cX11_init 176 = .ok (.bipush (-4), 2) := by decide +kernel
theorem dX11_init_178 : decode cX11_init 178 = .ok (.iastore, 1) := by decide +kernel
theorem dX11_init_179 : decode cX11_init 179 = .ok (.iinc 1 1, 3) := by decide +kernel
theorem dX11_init_182 : decode cX11_init 182 = .ok (.goto (-16), 3) := by decide +kernel
theorem dX11_init_185 : decode cX11_init 185 = .ok (.return_, 1) := by decide +kernel
theorem dX11_in_0 : decode cX11_in 0 = .ok (.iload_n 0, 1) := by decide +kernel
theorem dX11_in_1 : decode cX11_in 1 = .ok (.iload_n 1, 1) := by decide +kernel
theorem dX11_in_2 : decode cX11_in 2 = .ok (.if_icmp .lt 12, 3) := by decide +kernel
theorem dX11_in_5 : decode cX11_in 5 = .ok (.iload_n 0, 1) := by decide +kernel
theorem dX11_in_6 : decode cX11_in 6 = .ok (.iload_n 2, 1) := by decide +kernel
theorem dX11_in_7 : decode cX11_in 7 = .ok (.if_icmp .gt 7, 3) := by decide +kernel
theorem dX11_in_10 : decode cX11_in 10 = .ok (.iconst 1, 1) := by decide +kernel
theorem dX11_in_11 : decode cX11_in 11 = .ok (.goto 4, 3) := by decide +kernel
theorem dX11_in_14 : decode cX11_in 14 = .ok (.iconst 0, 1) := by decide +kernel
theorem dX11_in_15 : decode cX11_in 15 = .ok (.ireturn, 1) := by decide +kernel
theorem dX11_bring_0 : decode cX11_bring 0 = .ok (.iconst 0, 1) := by decide +kernel
theorem dX11_bring_1 : decode cX11_bring 1 = .ok (.istore 5, 2) := by decide +kernel
theorem dX11_bring_3 : decode cX11_bring 3 = .ok (.iload 5, 2) := by decide +kernel
theorem dX11_bring_5 : decode cX11_bring 5 = .ok (.iload 4, 2) := by decide +kernel
theorem dX11_bring_7 : decode cX11_bring 7 = .ok (.if_icmp .ge 21, 3) := by decide +kernel
theorem dX11_bring_10 : decode cX11_bring 10 = .ok (.aload_n 2, 1) := by decide +kernel
theorem dX11_bring_11 : decode cX11_bring 11 = .ok (.iload_n 3, 1) := by decide +kernel
theorem dX11_bring_12 : decode cX11_bring 12 = .ok (.iload 5, 2) := by decide +kernel
theorem dX11_bring_14 : decode cX11_bring 14 = .ok (.iadd, 1) := by decide +kernel
theorem dX11_bring_15 : decode cX11_bring 15 = .ok (.aload_n 0, 1) := by decide +kernel
theorem dX11_bring_16 : decode cX11_bring 16 = .ok (.iload_n 1, 1) := by decide +kernel
theorem dX11_bring_17 : decode cX11_bring 17 = .ok (.iload 5, 2) := by decide +kernel
theorem dX11_bring_19 : decode cX11_bring 19 = .ok (.iadd, 1) := by decide +kernel
theorem dX11_bring_20 : decode cX11_bring 20 = .ok (.iaload, 1) := by decide +kernel
theorem dX11_bring_21 : decode cX11_bring 21 = .ok (.iastore, 1) := by decide +kernel
theorem dX11_bring_22 : decode cX11_bring 22 = .ok (.iinc 5 1, 3) := by decide +kernel
theorem dX11_bring_25 : decode cX11_bring 25 = .ok (.goto (-22), 3) := by decide +kernel
theorem dX11_bring_28 : decode cX11_bring 28 = .ok (.return_, 1) := by decide +kernel
theorem dX11_size_0 : decode cX11_size 0 = .ok (.iload_n 0, 1) := by decide +kernel
theorem dX11_size_1 : decode cX11_size 1 = .ok (.ifCond .ge 8, 3) := by decide +kernel
theorem dX11_size_4 : decode cX11_size 4 = .ok (.iload_n 0, 1) := by decide +kernel
theorem dX11_size_5 : decode cX11_size 5 = .ok (.ineg, 1) := by decide +kernel
theorem dX11_size_6 : decode cX11_size 6 = .ok (.goto 4, 3) := by decide +kernel
theorem dX11_size_9 : decode cX11_size 9 = .ok (.iload_n 0, 1) := by decide +kernel
theorem dX11_size_10 : decode cX11_size 10 = .ok (.ireturn, 1) := by decide +kernel
theorem dX11_quarter_0 : decode cX11_quarter 0 = .ok (.iload_n 0, 1) := by decide +kernel
theorem dX11_quarter_1 : decode cX11_quarter 1 = .ok (.tableswitch 61 0 5 #[39, 41, 45, 49, 53, 57], 39) := by decide +kernel
theorem dX11_quarter_40 : decode cX11_quarter 40 = .ok (.iconst 0, 1) := by decide +kernel
theorem dX11_quarter_41 : decode cX11_quarter 41 = .ok (.ireturn, 1) := by decide +kernel
theorem dX11_quarter_42 : decode cX11_quarter 42 = .ok (.sipush 2588, 3) := by decide +kernel
theorem dX11_quarter_45 : decode cX11_quarter 45 = .ok (.ireturn, 1) := by decide +kernel
theorem dX11_quarter_46 : decode cX11_quarter 46 = .ok (.sipush 5000, 3) := by decide +kernel
theorem dX11_quarter_49 : decode cX11_quarter 49 = .ok (.ireturn, 1) := by decide +kernel
theorem dX11_quarter_50 : decode cX11_quarter 50 = .ok (.sipush 7071, 3) := by decide +kernel
theorem dX11_quarter_53 : decode cX11_quarter 53 = .ok (.ireturn, 1) := by decide +kernel
theorem dX11_quarter_54 : decode cX11_quarter 54 = .ok (.sipush 8660, 3) := by decide +kernel
theorem dX11_quarter_57 : decode cX11_quarter 57 = .ok (.ireturn, 1) := by decide +kernel
theorem dX11_quarter_58 : decode cX11_quarter 58 = .ok (.sipush 9659, 3) := by decide +kernel
theorem dX11_quarter_61 : decode cX11_quarter 61 = .ok (.ireturn, 1) := by decide +kernel
theorem dX11_quarter_62 : decode cX11_quarter 62 = .ok (.sipush 10000, 3) := by decide +kernel
theorem dX11_quarter_65 : decode cX11_quarter 65 = .ok (.ireturn, 1) := by decide +kernel
set_option maxRecDepth 20000 in
theorem ggX11_sine_X11_quarter : GoodIn wsX11_sine wsX11_quarter := goodIn_r _ [4] (by decide +kernel) (by decide +kernel)
set_option maxRecDepth 20000 in
theorem gX11_sine_X11_quarter : GoodIn wsX11_sine (va_wsS RX11 57 yX11_quarter wsX11_quarter) := goodIn_app (goodIn_of _ (by decide +kernel)) ggX11_sine_X11_quarter
theorem dX11_sine_0 : decode cX11_sine 0 = .ok (.iload_n 0, 1) := by decide +kernel
theorem dX11_sine_1 : decode cX11_sine 1 = .ok (.bipush 12, 2) := by decide +kernel
theorem dX11_sine_3 : decode cX11_sine 3 = .ok (.irem, 1) := by decide +kernel
theorem dX11_sine_4 : decode cX11_sine 4 = .ok (.istore_n 1, 1) := by decide +kernel
theorem dX11_sine_5 : decode cX11_sine 5 = .ok (.iload_n 1, 1) := by decide +kernel
theorem dX11_sine_6 : decode cX11_sine 6 = .ok (.bipush 6, 2) := by decide +kernel
theorem dX11_sine_8 : decode cX11_sine 8 = .ok (.if_icmp .le 10, 3) := by decide +kernel
theorem dX11_sine_11 : decode cX11_sine 11 = .ok (.bipush 12, 2) := by decide +kernel
theorem dX11_sine_13 : decode cX11_sine 13 = .ok (.iload_n 1, 1) := by decide +kernel
theorem dX11_sine_14 : decode cX11_sine 14 = .ok (.isub, 1) := by decide +kernel
theorem dX11_sine_15 : decode cX11_sine 15 = .ok (.goto 4, 3) := by decide +kernel
theorem dX11_sine_18 : decode cX11_sine 18 = .ok (.iload_n 1, 1) := by decide +kernel
theorem dX11_sine_19 : decode cX11_sine 19 = .ok (.invokestatic 57, 3) := by decide +kernel
theorem dX11_sine_22 : decode cX11_sine 22 = .ok (.istore_n 2, 1) := by decide +kernel
theorem dX11_sine_23 : decode cX11_sine 23 = .ok (.iload_n 0, 1) := by decide +kernel
theorem dX11_sine_24 : decode cX11_sine 24 = .ok (.bipush 12, 2) := by decide +kernel
theorem dX11_sine_26 : decode cX11_sine 26 = .ok (.if_icmp .ge 7, 3) := by decide +kernel
theorem dX11_sine_29 : decode cX11_sine 29 = .ok (.iload_n 2, 1) := by decide +kernel
theorem dX11_sine_30 : decode cX11_sine 30 = .ok (.goto 5, 3) := by decide +kernel
theorem dX11_sine_33 : decode cX11_sine 33 = .ok (.iload_n 2, 1) := by decide +kernel
theorem dX11_sine_34 : decode cX11_sine 34 = .ok (.ineg, 1) := by decide +kernel
theorem dX11_sine_35 : decode cX11_sine 35 = .ok (.ireturn, 1) := by decide +kernel
set_option maxRecDepth 20000 in
theorem ggX11_cosine_X11_sine : GoodIn wsX11_cosine wsX11_sine := goodIn_r _ [4, 5, 6, 3, 7] (by decide +kernel) (by decide +kernel)
set_option maxRecDepth 20000 in
theorem gX11_cosine_X11_sine : GoodIn wsX11_cosine (va_wsS RX11 61 yX11_sine wsX11_sine) := goodIn_app (goodIn_of _ (by decide +kernel)) ggX11_cosine_X11_sine
theorem dX11_cosine_0 : decode cX11_cosine 0 = .ok (.iload_n 0, 1) := by decide +kernel
theorem dX11_cosine_1 : decode cX11_cosine 1 = .ok (.bipush 6, 2) := by decide +kernel
theorem dX11_cosine_3 : decode cX11_cosine 3 = .ok (.iadd, 1) := by decide +kernel
theorem dX11_cosine_4 : decode cX11_cosine 4 = .ok (.bipush 24, 2) := by decide +kernel
theorem dX11_cosine_6 : decode cX11_cosine 6 = .ok (.irem, 1) := by decide +kernel
theorem dX11_cosine_7 : decode cX11_cosine 7 = .ok (.invokestatic 61, 3) := by decide +kernel
theorem dX11_cosine_10 : decode cX11_cosine 10 = .ok (.ireturn, 1) := by decide +kernel
set_option maxRecDepth 20000 in
theorem ggX11_wideOf_X11_size : GoodIn wsX11_wideOf wsX11_size := goodIn_r _ [4] (by decide +kernel) (by decide +kernel)
set_option maxRecDepth 20000 in
theorem gX11_wideOf_X11_size : GoodIn wsX11_wideOf (va_wsS RX11 64 yX11_size wsX11_size) := goodIn_app (goodIn_of _ (by decide +kernel)) ggX11_wideOf_X11_size
set_option maxRecDepth 20000 in
theorem ggX11_wideOf_X11_cosine : GoodIn wsX11_wideOf wsX11_cosine := goodIn_r _ [7, 8, 9, 3, 10, 11, 12, 13] (by decide +kernel) (by decide +kernel)
set_option maxRecDepth 20000 in
theorem gX11_wideOf_X11_cosine : GoodIn wsX11_wideOf (va_wsS RX11 67 yX11_cosine wsX11_cosine) := goodIn_app (goodIn_of _ (by decide +kernel)) ggX11_wideOf_X11_cosine
theorem dX11_wideOf_0 : decode cX11_wideOf 0 = .ok (.iload_n 0, 1) := by decide +kernel
theorem dX11_wideOf_1 : decode cX11_wideOf 1 = .ok (.invokestatic 64, 3) := by decide +kernel
theorem dX11_wideOf_4 : decode cX11_wideOf 4 = .ok (.invokestatic 67, 3) := by decide +kernel
theorem dX11_wideOf_7 : decode cX11_wideOf 7 = .ok (.ireturn, 1) := by decide +kernel
set_option maxRecDepth 20000 in
theorem ggX11_isPlace_X11_in : GoodIn wsX11_isPlace wsX11_in := goodIn_r _ [4] (by decide +kernel) (by decide +kernel)
set_option maxRecDepth 20000 in
theorem gX11_isPlace_X11_in : GoodIn wsX11_isPlace (va_wsS RX11 70 yX11_in wsX11_in) := goodIn_app (goodIn_of _ (by decide +kernel)) ggX11_isPlace_X11_in
theorem dX11_isPlace_0 : decode cX11_isPlace 0 = .ok (.iload_n 0, 1) := by decide +kernel
theorem dX11_isPlace_1 : decode cX11_isPlace 1 = .ok (.bipush (-6), 2) := by decide +kernel
theorem dX11_isPlace_3 : decode cX11_isPlace 3 = .ok (.bipush 6, 2) := by decide +kernel
theorem dX11_isPlace_5 : decode cX11_isPlace 5 = .ok (.invokestatic 70, 3) := by decide +kernel
theorem dX11_isPlace_8 : decode cX11_isPlace 8 = .ok (.ifCond .eq 17, 3) := by decide +kernel
theorem dX11_isPlace_11 : decode cX11_isPlace 11 = .ok (.iload_n 1, 1) := by decide +kernel
theorem dX11_isPlace_12 : decode cX11_isPlace 12 = .ok (.iconst 0, 1) := by decide +kernel
theorem dX11_isPlace_13 : decode cX11_isPlace 13 = .ok (.bipush 23, 2) := by decide +kernel
theorem dX11_isPlace_15 : decode cX11_isPlace 15 = .ok (.invokestatic 70, 3) := by decide +kernel
theorem dX11_isPlace_18 : decode cX11_isPlace 18 = .ok (.ifCond .eq 7, 3) := by decide +kernel
theorem dX11_isPlace_21 : decode cX11_isPlace 21 = .ok (.iconst 1, 1) := by decide +kernel
theorem dX11_isPlace_22 : decode cX11_isPlace 22 = .ok (.goto 4, 3) := by decide +kernel
theorem dX11_isPlace_25 : decode cX11_isPlace 25 = .ok (.iconst 0, 1) := by decide +kernel
theorem dX11_isPlace_26 : decode cX11_isPlace 26 = .ok (.ireturn, 1) := by decide +kernel
set_option maxRecDepth 20000 in
theorem ggX11_isNumber_X11_in : GoodIn wsX11_isNumber wsX11_in := goodIn_r _ [4] (by decide +kernel) (by decide +kernel)
set_option maxRecDepth 20000 in
theorem gX11_isNumber_X11_in : GoodIn wsX11_isNumber (va_wsS RX11 70 yX11_in wsX11_in) := goodIn_app (goodIn_of _ (by decide +kernel)) ggX11_isNumber_X11_in
theorem dX11_isNumber_0 : decode cX11_isNumber 0 = .ok (.iload_n 0, 1) := by decide +kernel
theorem dX11_isNumber_1 : decode cX11_isNumber 1 = .ok (.iconst 0, 1) := by decide +kernel
theorem dX11_isNumber_2 : decode cX11_isNumber 2 = .ok (.sipush 265, 3) := by decide +kernel
theorem dX11_isNumber_5 : decode cX11_isNumber 5 = .ok (.invokestatic 70, 3) := by decide +kernel
theorem dX11_isNumber_8 : decode cX11_isNumber 8 = .ok (.ireturn, 1) := by decide +kernel
theorem dX11_numberOf_0 : decode cX11_numberOf 0 = .ok (.iload_n 0, 1) := by decide +kernel
theorem dX11_numberOf_1 : decode cX11_numberOf 1 = .ok (.bipush (-6), 2) := by decide +kernel
theorem dX11_numberOf_3 : decode cX11_numberOf 3 = .ok (.if_icmp .ne 7, 3) := by decide +kernel
theorem dX11_numberOf_6 : decode cX11_numberOf 6 = .ok (.iconst 0, 1) := by decide +kernel
theorem dX11_numberOf_7 : decode cX11_numberOf 7 = .ok (.goto 25, 3) := by decide +kernel
theorem dX11_numberOf_10 : decode cX11_numberOf 10 = .ok (.iload_n 0, 1) := by decide +kernel
theorem dX11_numberOf_11 : decode cX11_numberOf 11 = .ok (.bipush 6, 2) := by decide +kernel
theorem dX11_numberOf_13 : decode cX11_numberOf 13 = .ok (.if_icmp .ne 9, 3) := by decide +kernel
theorem dX11_numberOf_16 : decode cX11_numberOf 16 = .ok (.sipush 265, 3) := by decide +kernel
theorem dX11_numberOf_19 : decode cX11_numberOf 19 = .ok (.goto 13, 3) := by decide +kernel
theorem dX11_numberOf_22 : decode cX11_numberOf 22 = .ok (.iconst 1, 1) := by decide +kernel
theorem dX11_numberOf_23 : decode cX11_numberOf 23 = .ok (.bipush 24, 2) := by decide +kernel
theorem dX11_numberOf_25 : decode cX11_numberOf 25 = .ok (.iload_n 0, 1) := by decide +kernel
theorem dX11_numberOf_26 : decode cX11_numberOf 26 = .ok (.iconst 5, 1) := by decide +kernel
theorem dX11_numberOf_27 : decode cX11_numberOf 27 = .ok (.iadd, 1) := by decide +kernel
theorem dX11_numberOf_28 : decode cX11_numberOf 28 = .ok (.imul, 1) := by decide +kernel
theorem dX11_numberOf_29 : decode cX11_numberOf 29 = .ok (.iadd, 1) := by decide +kernel
theorem dX11_numberOf_30 : decode cX11_numberOf 30 = .ok (.iload_n 1, 1) := by decide +kernel
theorem dX11_numberOf_31 : decode cX11_numberOf 31 = .ok (.iadd, 1) := by decide +kernel
theorem dX11_numberOf_32 : decode cX11_numberOf 32 = .ok (.ireturn, 1) := by decide +kernel
theorem dX11_isPole_0 : decode cX11_isPole 0 = .ok (.iload_n 0, 1) := by decide +kernel
theorem dX11_isPole_1 : decode cX11_isPole 1 = .ok (.ifCond .eq 10, 3) := by decide +kernel
theorem dX11_isPole_4 : decode cX11_isPole 4 = .ok (.iload_n 0, 1) := by decide +kernel
theorem dX11_isPole_5 : decode cX11_isPole 5 = .ok (.sipush 265, 3) := by decide +kernel
theorem dX11_isPole_8 : decode cX11_isPole 8 = .ok (.if_icmp .ne 7, 3) := by decide +kernel
theorem dX11_isPole_11 : decode cX11_isPole 11 = .ok (.iconst 1, 1) := by decide +kernel
theorem dX11_isPole_12 : decode cX11_isPole 12 = .ok (.goto 4, 3) := by decide +kernel
theorem dX11_isPole_15 : decode cX11_isPole 15 = .ok (.iconst 0, 1) := by decide +kernel
theorem dX11_isPole_16 : decode cX11_isPole 16 = .ok (.ireturn, 1) := by decide +kernel
theorem dX11_rowOf_0 : decode cX11_rowOf 0 = .ok (.iload_n 0, 1) := by decide +kernel
theorem dX11_rowOf_1 : decode cX11_rowOf 1 = .ok (.ifCond .ne 8, 3) := by decide +kernel
theorem dX11_rowOf_4 : decode cX11_rowOf 4 = .ok (.bipush (-6), 2) := by decide +kernel
theorem dX11_rowOf_6 : decode cX11_rowOf 6 = .ok (.goto 23, 3) := by decide +kernel
theorem dX11_rowOf_9 : decode cX11_rowOf 9 = .ok (.iload_n 0, 1) := by decide +kernel
theorem dX11_rowOf_10 : decode cX11_rowOf 10 = .ok (.sipush 265, 3) := by decide +kernel
theorem dX11_rowOf_13 : decode cX11_rowOf 13 = .ok (.if_icmp .ne 8, 3) := by decide +kernel
theorem dX11_rowOf_16 : decode cX11_rowOf 16 = .ok (.bipush 6, 2) := by decide +kernel
theorem dX11_rowOf_18 : decode cX11_rowOf 18 = .ok (.goto 11, 3) := by decide +kernel
theorem dX11_rowOf_21 : decode cX11_rowOf 21 = .ok (.iload_n 0, 1) := by decide +kernel
theorem dX11_rowOf_22 : decode cX11_rowOf 22 = .ok (.iconst 1, 1) := by decide +kernel
theorem dX11_rowOf_23 : decode cX11_rowOf 23 = .ok (.isub, 1) := by decide +kernel
theorem dX11_rowOf_24 : decode cX11_rowOf 24 = .ok (.bipush 24, 2) := by decide +kernel
theorem dX11_rowOf_26 : decode cX11_rowOf 26 = .ok (.idiv, 1) := by decide +kernel
theorem dX11_rowOf_27 : decode cX11_rowOf 27 = .ok (.iconst 5, 1) := by decide +kernel
theorem dX11_rowOf_28 : decode cX11_rowOf 28 = .ok (.isub, 1) := by decide +kernel
theorem dX11_rowOf_29 : decode cX11_rowOf 29 = .ok (.ireturn, 1) := by decide +kernel
set_option maxRecDepth 20000 in
theorem ggX11_stepOf_X11_isPole : GoodIn wsX11_stepOf wsX11_isPole := goodIn_r _ [4] (by decide +kernel) (by decide +kernel)
set_option maxRecDepth 20000 in
theorem gX11_stepOf_X11_isPole : GoodIn wsX11_stepOf (va_wsS RX11 74 yX11_isPole wsX11_isPole) := goodIn_app (goodIn_of _ (by decide +kernel)) ggX11_stepOf_X11_isPole
theorem dX11_stepOf_0 : decode cX11_stepOf 0 = .ok (.iload_n 0, 1) := by decide +kernel
theorem dX11_stepOf_1 : decode cX11_stepOf 1 = .ok (.invokestatic 74, 3) := by decide +kernel
theorem dX11_stepOf_4 : decode cX11_stepOf 4 = .ok (.ifCond .eq 7, 3) := by decide +kernel
theorem dX11_stepOf_7 : decode cX11_stepOf 7 = .ok (.iconst 0, 1) := by decide +kernel
theorem dX11_stepOf_8 : decode cX11_stepOf 8 = .ok (.goto 9, 3) := by decide +kernel
theorem dX11_stepOf_11 : decode cX11_stepOf 11 = .ok (.iload_n 0, 1) := by decide +kernel
theorem dX11_stepOf_12 : decode cX11_stepOf 12 = .ok (.iconst 1, 1) := by decide +kernel
theorem dX11_stepOf_13 : decode cX11_stepOf 13 = .ok (.isub, 1) := by decide +kernel
theorem dX11_stepOf_14 : decode cX11_stepOf 14 = .ok (.bipush 24, 2) := by decide +kernel
theorem dX11_stepOf_16 : decode cX11_stepOf 16 = .ok (.irem, 1) := by decide +kernel
theorem dX11_stepOf_17 : decode cX11_stepOf 17 = .ok (.ireturn, 1) := by decide +kernel
set_option maxRecDepth 20000 in
theorem ggX11_isOnStrips_X11_size : GoodIn wsX11_isOnStrips wsX11_size := goodIn_r _ [5] (by decide +kernel) (by decide +kernel)
set_option maxRecDepth 20000 in
theorem gX11_isOnStrips_X11_size : GoodIn wsX11_isOnStrips (va_wsS RX11 64 yX11_size wsX11_size) := goodIn_app (goodIn_of _ (by decide +kernel)) ggX11_isOnStrips_X11_size
theorem dX11_isOnStrips_0 : decode cX11_isOnStrips 0 = .ok (.iload_n 1, 1) := by decide +kernel
theorem dX11_isOnStrips_1 : decode cX11_isOnStrips 1 = .ok (.invokestatic 64, 3) := by decide +kernel
theorem dX11_isOnStrips_4 : decode cX11_isOnStrips 4 = .ok (.bipush 6, 2) := by decide +kernel
theorem dX11_isOnStrips_6 : decode cX11_isOnStrips 6 = .ok (.aload_n 0, 1) := by decide +kernel
theorem dX11_isOnStrips_7 : decode cX11_isOnStrips 7 = .ok (.getfield 7, 3) := by decide +kernel
theorem dX11_isOnStrips_10 : decode cX11_isOnStrips 10 = .ok (.sipush 268, 3) := by decide +kernel
theorem dX11_isOnStrips_13 : decode cX11_isOnStrips 13 = .ok (.iaload, 1) := by decide +kernel
theorem dX11_isOnStrips_14 : decode cX11_isOnStrips 14 = .ok (.isub, 1) := by decide +kernel
theorem dX11_isOnStrips_15 : decode cX11_isOnStrips 15 = .ok (.if_icmp .gt 7, 3) := by decide +kernel
theorem dX11_isOnStrips_18 : decode cX11_isOnStrips 18 = .ok (.iconst 1, 1) := by decide +kernel
theorem dX11_isOnStrips_19 : decode cX11_isOnStrips 19 = .ok (.goto 4, 3) := by decide +kernel
theorem dX11_isOnStrips_22 : decode cX11_isOnStrips 22 = .ok (.iconst 0, 1) := by decide +kernel
theorem dX11_isOnStrips_23 : decode cX11_isOnStrips 23 = .ok (.ireturn, 1) := by decide +kernel
set_option maxRecDepth 20000 in
theorem ggX11_isOnCap_X11_size : GoodIn wsX11_isOnCap wsX11_size := goodIn_r _ [5] (by decide +kernel) (by decide +kernel)
set_option maxRecDepth 20000 in
theorem gX11_isOnCap_X11_size : GoodIn wsX11_isOnCap (va_wsS RX11 64 yX11_size wsX11_size) := goodIn_app (goodIn_of _ (by decide +kernel)) ggX11_isOnCap_X11_size
theorem dX11_isOnCap_0 : decode cX11_isOnCap 0 = .ok (.aload_n 0, 1) := by decide +kernel
theorem dX11_isOnCap_1 : decode cX11_isOnCap 1 = .ok (.getfield 7, 3) := by decide +kernel
theorem dX11_isOnCap_4 : decode cX11_isOnCap 4 = .ok (.sipush 268, 3) := by decide +kernel
theorem dX11_isOnCap_7 : decode cX11_isOnCap 7 = .ok (.iaload, 1) := by decide +kernel
theorem dX11_isOnCap_8 : decode cX11_isOnCap 8 = .ok (.ifCond .le 25, 3) := by decide +kernel
theorem dX11_isOnCap_11 : decode cX11_isOnCap 11 = .ok (.iload_n 1, 1) := by decide +kernel
theorem dX11_isOnCap_12 : decode cX11_isOnCap 12 = .ok (.invokestatic 64, 3) := by decide +kernel
theorem dX11_isOnCap_15 : decode cX11_isOnCap 15 = .ok (.bipush 6, 2) := by decide +kernel
theorem dX11_isOnCap_17 : decode cX11_isOnCap 17 = .ok (.aload_n 0, 1) := by decide +kernel
theorem dX11_isOnCap_18 : decode cX11_isOnCap 18 = .ok (.getfield 7, 3) := by decide +kernel
theorem dX11_isOnCap_21 : decode cX11_isOnCap 21 = .ok (.sipush 268, 3) := by decide +kernel
theorem dX11_isOnCap_24 : decode cX11_isOnCap 24 = .ok (.iaload, 1) := by decide +kernel
theorem dX11_isOnCap_25 : decode cX11_isOnCap 25 = .ok (.isub, 1) := by decide +kernel
theorem dX11_isOnCap_26 : decode cX11_isOnCap 26 = .ok (.if_icmp .lt 7, 3) := by decide +kernel
theorem dX11_isOnCap_29 : decode cX11_isOnCap 29 = .ok (.iconst 1, 1) := by decide +kernel
theorem dX11_isOnCap_30 : decode cX11_isOnCap 30 = .ok (.goto 4, 3) := by decide +kernel
theorem dX11_isOnCap_33 : decode cX11_isOnCap 33 = .ok (.iconst 0, 1) := by decide +kernel
theorem dX11_isOnCap_34 : decode cX11_isOnCap 34 = .ok (.ireturn, 1) := by decide +kernel
set_option maxRecDepth 20000 in
theorem ggX11_acrossBy_X11_wideOf : GoodIn wsX11_acrossBy wsX11_wideOf := goodIn_r _ [5, 6, 7, 4, 8, 9, 10, 11, 12, 13, 14, 15, 16, 17] (by decide +kernel) (by decide +kernel)
set_option maxRecDepth 20000 in
theorem gX11_acrossBy_X11_wideOf : GoodIn wsX11_acrossBy (va_wsS RX11 78 yX11_wideOf wsX11_wideOf) := goodIn_app (goodIn_of _ (by decide +kernel)) ggX11_acrossBy_X11_wideOf
theorem dX11_acrossBy_0 : decode cX11_acrossBy 0 = .ok (.iconst 2, 1) := by decide +kernel
theorem dX11_acrossBy_1 : decode cX11_acrossBy 1 = .ok (.iload_n 2, 1) := by decide +kernel
theorem dX11_acrossBy_2 : decode cX11_acrossBy 2 = .ok (.imul, 1) := by decide +kernel
theorem dX11_acrossBy_3 : decode cX11_acrossBy 3 = .ok (.iconst 1, 1) := by decide +kernel
theorem dX11_acrossBy_4 : decode cX11_acrossBy 4 = .ok (.iadd, 1) := by decide +kernel
theorem dX11_acrossBy_5 : decode cX11_acrossBy 5 = .ok (.iload_n 1, 1) := by decide +kernel
theorem dX11_acrossBy_6 : decode cX11_acrossBy 6 = .ok (.imul, 1) := by decide +kernel
theorem dX11_acrossBy_7 : decode cX11_acrossBy 7 = .ok (.aload_n 0, 1) := by decide +kernel
theorem dX11_acrossBy_8 : decode cX11_acrossBy 8 = .ok (.getfield 7, 3) := by decide +kernel
theorem dX11_acrossBy_11 : decode cX11_acrossBy 11 = .ok (.sipush 266, 3) := by decide +kernel
theorem dX11_acrossBy_14 : decode cX11_acrossBy 14 = .ok (.iaload, 1) := by decide +kernel
theorem dX11_acrossBy_15 : decode cX11_acrossBy 15 = .ok (.imul, 1) := by decide +kernel
theorem dX11_acrossBy_16 : decode cX11_acrossBy 16 = .ok (.iconst 2, 1) := by decide +kernel
theorem dX11_acrossBy_17 : decode cX11_acrossBy 17 = .ok (.iload_n 3, 1) := by decide +kernel
theorem dX11_acrossBy_18 : decode cX11_acrossBy 18 = .ok (.imul, 1) := by decide +kernel
theorem dX11_acrossBy_19 : decode cX11_acrossBy 19 = .ok (.iload_n 1, 1) := by decide +kernel
theorem dX11_acrossBy_20 : decode cX11_acrossBy 20 = .ok (.isub, 1) := by decide +kernel
theorem dX11_acrossBy_21 : decode cX11_acrossBy 21 = .ok (.aload_n 0, 1) := by decide +kernel
theorem dX11_acrossBy_22 : decode cX11_acrossBy 22 = .ok (.getfield 7, 3) := by decide +kernel
theorem dX11_acrossBy_25 : decode cX11_acrossBy 25 = .ok (.sipush 266, 3) := by decide +kernel
theorem dX11_acrossBy_28 : decode cX11_acrossBy 28 = .ok (.iaload, 1) := by decide +kernel
theorem dX11_acrossBy_29 : decode cX11_acrossBy 29 = .ok (.imul, 1) := by decide +kernel
theorem dX11_acrossBy_30 : decode cX11_acrossBy 30 = .ok (.iload 4, 2) := by decide +kernel
theorem dX11_acrossBy_32 : decode cX11_acrossBy 32 = .ok (.invokestatic 78, 3) := by decide +kernel
theorem dX11_acrossBy_35 : decode cX11_acrossBy 35 = .ok (.imul, 1) := by decide +kernel
theorem dX11_acrossBy_36 : decode cX11_acrossBy 36 = .ok (.sipush 10000, 3) := by decide +kernel
theorem dX11_acrossBy_39 : decode cX11_acrossBy 39 = .ok (.idiv, 1) := by decide +kernel
theorem dX11_acrossBy_40 : decode cX11_acrossBy 40 = .ok (.iadd, 1) := by decide +kernel
theorem dX11_acrossBy_41 : decode cX11_acrossBy 41 = .ok (.ireturn, 1) := by decide +kernel
theorem dX11_wide_0 : decode cX11_wide 0 = .ok (.bipush 24, 2) := by decide +kernel
theorem dX11_wide_2 : decode cX11_wide 2 = .ok (.aload_n 0, 1) := by decide +kernel
theorem dX11_wide_3 : decode cX11_wide 3 = .ok (.getfield 7, 3) := by decide +kernel
theorem dX11_wide_6 : decode cX11_wide 6 = .ok (.sipush 267, 3) := by decide +kernel
theorem dX11_wide_9 : decode cX11_wide 9 = .ok (.iaload, 1) := by decide +kernel
theorem dX11_wide_10 : decode cX11_wide 10 = .ok (.idiv, 1) := by decide +kernel
theorem dX11_wide_11 : decode cX11_wide 11 = .ok (.ireturn, 1) := by decide +kernel
set_option maxRecDepth 20000 in
theorem ggX11_across_X11_wide : GoodIn wsX11_across wsX11_wide := goodIn_r _ [5, 6, 26, 27, 28, 29, 30, 31, 32, 33, 34, 35, 36, 37, 38, 39, 40, 41, 42, 43, 44] (by decide +kernel) (by decide +kernel)
set_option maxRecDepth 20000 in
theorem gX11_across_X11_wide : GoodIn wsX11_across (wsV RX11 81 RX11 yX11_wide wsX11_wide) := goodIn_app (goodIn_of _ (by decide +kernel)) ggX11_across_X11_wide
set_option maxRecDepth 20000 in
theorem ggX11_across_X11_acrossBy : GoodIn wsX11_across wsX11_acrossBy := goodIn_r _ [10, 6, 11, 12, 4, 13, 14, 15, 16, 17, 18, 19, 20, 21, 22, 23, 24, 25, 26, 27, 28, 29, 30, 31, 32, 33, 34, 35, 36, 37, 38, 39, 40, 41, 42, 43, 44] (by decide +kernel) (by decide +kernel)
set_option maxRecDepth 20000 in
theorem gX11_across_X11_acrossBy : GoodIn wsX11_across (wsV RX11 85 RX11 yX11_acrossBy wsX11_acrossBy) := goodIn_app (goodIn_of _ (by decide +kernel)) ggX11_across_X11_acrossBy
theorem dX11_across_0 : decode cX11_across 0 = .ok (.aload_n 0, 1) := by decide +kernel
theorem dX11_across_1 : decode cX11_across 1 = .ok (.aload_n 0, 1) := by decide +kernel
theorem dX11_across_2 : decode cX11_across 2 = .ok (.invokevirtual 81, 3) := by decide +kernel
theorem dX11_across_5 : decode cX11_across 5 = .ok (.iload_n 1, 1) := by decide +kernel
theorem dX11_across_6 : decode cX11_across 6 = .ok (.iload_n 2, 1) := by decide +kernel
theorem dX11_across_7 : decode cX11_across 7 = .ok (.iload_n 3, 1) := by decide +kernel
theorem dX11_across_8 : decode cX11_across 8 = .ok (.invokevirtual 85, 3) := by decide +kernel
theorem dX11_across_11 : decode cX11_across 11 = .ok (.ireturn, 1) := by decide +kernel
set_option maxRecDepth 20000 in
theorem ggX11_xOf_X11_stepOf : GoodIn wsX11_xOf wsX11_stepOf := goodIn_r _ [4, 5, 6, 3, 7] (by decide +kernel) (by decide +kernel)
set_option maxRecDepth 20000 in
theorem gX11_xOf_X11_stepOf : GoodIn wsX11_xOf (va_wsS RX11 89 yX11_stepOf wsX11_stepOf) := goodIn_app (goodIn_of _ (by decide +kernel)) ggX11_xOf_X11_stepOf
set_option maxRecDepth 20000 in
theorem ggX11_xOf_X11_wide : GoodIn wsX11_xOf wsX11_wide := goodIn_r _ [11, 12, 39, 40, 41, 42, 43, 44, 45, 46, 47, 48, 49, 50, 51, 52, 53, 54, 55, 56, 57] (by decide +kernel) (by decide +kernel)
set_option maxRecDepth 20000 in
theorem gX11_xOf_X11_wide : GoodIn wsX11_xOf (wsV RX11 81 RX11 yX11_wide wsX11_wide) := goodIn_app (goodIn_of _ (by decide +kernel)) ggX11_xOf_X11_wide
set_option maxRecDepth 20000 in
theorem ggX11_xOf_X11_rowOf : GoodIn wsX11_xOf wsX11_rowOf := goodIn_r _ [15] (by decide +kernel) (by decide +kernel)
set_option maxRecDepth 20000 in
theorem gX11_xOf_X11_rowOf : GoodIn wsX11_xOf (va_wsS RX11 92 yX11_rowOf wsX11_rowOf) := goodIn_app (goodIn_of _ (by decide +kernel)) ggX11_xOf_X11_rowOf
set_option maxRecDepth 20000 in
theorem ggX11_xOf_X11_across : GoodIn wsX11_xOf wsX11_across := goodIn_r _ [19, 8, 9, 10, 3, 11, 12, 20, 21, 22, 23, 24, 25, 26, 27, 28, 29, 30, 31, 32, 33, 34, 35, 36, 37, 38, 39, 40, 41, 42, 43, 44, 45, 46, 47, 48, 49, 50, 51, 52, 53, 54, 55, 56, 57] (by decide +kernel) (by decide +kernel)
set_option maxRecDepth 20000 in
theorem gX11_xOf_X11_across : GoodIn wsX11_xOf (wsV RX11 95 RX11 yX11_across wsX11_across) := goodIn_app (goodIn_of _ (by decide +kernel)) ggX11_xOf_X11_across
theorem dX11_xOf_0 : decode cX11_xOf 0 = .ok (.iload_n 1, 1) := by decide +kernel
theorem dX11_xOf_1 : decode cX11_xOf 1 = .ok (.invokestatic 89, 3) := by decide +kernel
theorem dX11_xOf_4 : decode cX11_xOf 4 = .ok (.istore_n 2, 1) := by decide +kernel
theorem dX11_xOf_5 : decode cX11_xOf 5 = .ok (.aload_n 0, 1) := by decide +kernel
theorem dX11_xOf_6 : decode cX11_xOf 6 = .ok (.iload_n 2, 1) := by decide +kernel
theorem dX11_xOf_7 : decode cX11_xOf 7 = .ok (.aload_n 0, 1) := by decide +kernel
theorem dX11_xOf_8 : decode cX11_xOf 8 = .ok (.invokevirtual 81, 3) := by decide +kernel
theorem dX11_xOf_11 : decode cX11_xOf 11 = .ok (.idiv, 1) := by decide +kernel
theorem dX11_xOf_12 : decode cX11_xOf 12 = .ok (.iload_n 2, 1) := by decide +kernel
theorem dX11_xOf_13 : decode cX11_xOf 13 = .ok (.aload_n 0, 1) := by decide +kernel
theorem dX11_xOf_14 : decode cX11_xOf 14 = .ok (.invokevirtual 81, 3) := by decide +kernel
theorem dX11_xOf_17 : decode cX11_xOf 17 = .ok (.irem, 1) := by decide +kernel
theorem dX11_xOf_18 : decode cX11_xOf 18 = .ok (.iload_n 1, 1) := by decide +kernel
theorem dX11_xOf_19 : decode cX11_xOf 19 = .ok (.invokestatic 92, 3) := by decide +kernel
theorem dX11_xOf_22 : decode cX11_xOf 22 = .ok (.invokevirtual 95, 3) := by decide +kernel
theorem dX11_xOf_25 : decode cX11_xOf 25 = .ok (.ireturn, 1) := by decide +kernel
set_option maxRecDepth 20000 in
theorem ggX11_isCut_X11_stepOf : GoodIn wsX11_isCut wsX11_stepOf := goodIn_r _ [4, 5, 6, 3, 7] (by decide +kernel) (by decide +kernel)
set_option maxRecDepth 20000 in
theorem gX11_isCut_X11_stepOf : GoodIn wsX11_isCut (va_wsS RX11 89 yX11_stepOf wsX11_stepOf) := goodIn_app (goodIn_of _ (by decide +kernel)) ggX11_isCut_X11_stepOf
set_option maxRecDepth 20000 in
theorem ggX11_isCut_X11_wide : GoodIn wsX11_isCut wsX11_wide := goodIn_r _ [11, 12, 13, 14, 15, 16, 17, 18, 19, 20, 21, 22, 23, 24, 25, 26, 27, 28, 29, 30, 31] (by decide +kernel) (by decide +kernel)
set_option maxRecDepth 20000 in
theorem gX11_isCut_X11_wide : GoodIn wsX11_isCut (wsV RX11 81 RX11 yX11_wide wsX11_wide) := goodIn_app (goodIn_of _ (by decide +kernel)) ggX11_isCut_X11_wide
theorem dX11_isCut_0 : decode cX11_isCut 0 = .ok (.iload_n 1, 1) := by decide +kernel
theorem dX11_isCut_1 : decode cX11_isCut 1 = .ok (.invokestatic 89, 3) := by decide +kernel
theorem dX11_isCut_4 : decode cX11_isCut 4 = .ok (.aload_n 0, 1) := by decide +kernel
theorem dX11_isCut_5 : decode cX11_isCut 5 = .ok (.invokevirtual 81, 3) := by decide +kernel
theorem dX11_isCut_8 : decode cX11_isCut 8 = .ok (.irem, 1) := by decide +kernel
theorem dX11_isCut_9 : decode cX11_isCut 9 = .ok (.ifCond .ne 7, 3) := by decide +kernel
theorem dX11_isCut_12 : decode cX11_isCut 12 = .ok (.iconst 1, 1) := by decide +kernel
theorem dX11_isCut_13 : decode cX11_isCut 13 = .ok (.goto 4, 3) := by decide +kernel
theorem dX11_isCut_16 : decode cX11_isCut 16 = .ok (.iconst 0, 1) := by decide +kernel
theorem dX11_isCut_17 : decode cX11_isCut 17 = .ok (.ireturn, 1) := by decide +kernel
theorem dX11_stripAhead_0 : decode cX11_stripAhead 0 = .ok (.iload_n 1, 1) := by decide +kernel
theorem dX11_stripAhead_1 : decode cX11_stripAhead 1 = .ok (.ifCond .ne 16, 3) := by decide +kernel
theorem dX11_stripAhead_4 : decode cX11_stripAhead 4 = .ok (.aload_n 0, 1) := by decide +kernel
theorem dX11_stripAhead_5 : decode cX11_stripAhead 5 = .ok (.getfield 7, 3) := by decide +kernel
theorem dX11_stripAhead_8 : decode cX11_stripAhead 8 = .ok (.sipush 267, 3) := by decide +kernel
theorem dX11_stripAhead_11 : decode cX11_stripAhead 11 = .ok (.iaload, 1) := by decide +kernel
theorem dX11_stripAhead_12 : decode cX11_stripAhead 12 = .ok (.iconst 1, 1) := by decide +kernel
theorem dX11_stripAhead_13 : decode cX11_stripAhead 13 = .ok (.isub, 1) := by decide +kernel
theorem dX11_stripAhead_14 : decode cX11_stripAhead 14 = .ok (.goto 6, 3) := by decide +kernel
theorem dX11_stripAhead_17 : decode cX11_stripAhead 17 = .ok (.iload_n 1, 1) := by decide +kernel
theorem dX11_stripAhead_18 : decode cX11_stripAhead 18 = .ok (.iconst 1, 1) := by decide +kernel
theorem dX11_stripAhead_19 : decode cX11_stripAhead 19 = .ok (.isub, 1) := by decide +kernel
theorem dX11_stripAhead_20 : decode cX11_stripAhead 20 = .ok (.ireturn, 1) := by decide +kernel
set_option maxRecDepth 20000 in
theorem ggX11_twinX_X11_stepOf : GoodIn wsX11_twinX wsX11_stepOf := goodIn_r _ [4, 5, 6, 3, 7] (by decide +kernel) (by decide +kernel)
set_option maxRecDepth 20000 in
theorem gX11_twinX_X11_stepOf : GoodIn wsX11_twinX (va_wsS RX11 89 yX11_stepOf wsX11_stepOf) := goodIn_app (goodIn_of _ (by decide +kernel)) ggX11_twinX_X11_stepOf
set_option maxRecDepth 20000 in
theorem ggX11_twinX_X11_wide : GoodIn wsX11_twinX wsX11_wide := goodIn_r _ [11, 12, 43, 44, 45, 46, 47, 48, 49, 50, 51, 52, 53, 54, 55, 56, 57, 58, 59, 60, 61] (by decide +kernel) (by decide +kernel)
set_option maxRecDepth 20000 in
theorem gX11_twinX_X11_wide : GoodIn wsX11_twinX (wsV RX11 81 RX11 yX11_wide wsX11_wide) := goodIn_app (goodIn_of _ (by decide +kernel)) ggX11_twinX_X11_wide
set_option maxRecDepth 20000 in
theorem ggX11_twinX_X11_stripAhead : GoodIn wsX11_twinX wsX11_stripAhead := goodIn_r _ [16, 12, 43, 44, 45, 46, 47, 48, 49, 50, 51, 52, 53, 54, 55, 56, 57, 58, 59, 60, 61] (by decide +kernel) (by decide +kernel)
set_option maxRecDepth 20000 in
theorem gX11_twinX_X11_stripAhead : GoodIn wsX11_twinX (wsV RX11 99 RX11 yX11_stripAhead wsX11_stripAhead) := goodIn_app (goodIn_of _ (by decide +kernel)) ggX11_twinX_X11_stripAhead
set_option maxRecDepth 20000 in
theorem ggX11_twinX_X11_rowOf : GoodIn wsX11_twinX wsX11_rowOf := goodIn_r _ [19] (by decide +kernel) (by decide +kernel)
set_option maxRecDepth 20000 in
theorem gX11_twinX_X11_rowOf : GoodIn wsX11_twinX (va_wsS RX11 92 yX11_rowOf wsX11_rowOf) := goodIn_app (goodIn_of _ (by decide +kernel)) ggX11_twinX_X11_rowOf
set_option maxRecDepth 20000 in
theorem ggX11_twinX_X11_across : GoodIn wsX11_twinX wsX11_across := goodIn_r _ [23, 8, 9, 10, 3, 11, 12, 24, 25, 26, 27, 28, 29, 30, 31, 32, 33, 34, 35, 36, 37, 38, 39, 40, 41, 42, 43, 44, 45, 46, 47, 48, 49, 50, 51, 52, 53, 54, 55, 56, 57, 58, 59, 60, 61] (by decide +kernel) (by decide +kernel)
set_option maxRecDepth 20000 in
theorem gX11_twinX_X11_across : GoodIn wsX11_twinX (wsV RX11 95 RX11 yX11_across wsX11_across) := goodIn_app (goodIn_of _ (by decide +kernel)) ggX11_twinX_X11_across
theorem dX11_twinX_0 : decode cX11_twinX 0 = .ok (.aload_n 0, 1) := by decide +kernel
theorem dX11_twinX_1 : decode cX11_twinX 1 = .ok (.aload_n 0, 1) := by decide +kernel
theorem dX11_twinX_2 : decode cX11_twinX 2 = .ok (.iload_n 1, 1) := by decide +kernel
theorem dX11_twinX_3 : decode cX11_twinX 3 = .ok (.invokestatic 89, 3) := by decide +kernel
theorem dX11_twinX_6 : decode cX11_twinX 6 = .ok (.aload_n 0, 1) := by decide +kernel
theorem dX11_twinX_7 : decode cX11_twinX 7 = .ok (.invokevirtual 81, 3) := by decide +kernel
theorem dX11_twinX_10 : decode cX11_twinX 10 = .ok (.idiv, 1) := by decide +kernel
theorem dX11_twinX_11 : decode cX11_twinX 11 = .ok (.invokevirtual 99, 3) := by decide +kernel
theorem dX11_twinX_14 : decode cX11_twinX 14 = .ok (.aload_n 0, 1) := by decide +kernel
theorem dX11_twinX_15 : decode cX11_twinX 15 = .ok (.invokevirtual 81, 3) := by decide +kernel
theorem dX11_twinX_18 : decode cX11_twinX 18 = .ok (.iload_n 1, 1) := by decide +kernel
theorem dX11_twinX_19 : decode cX11_twinX 19 = .ok (.invokestatic 92, 3) := by decide +kernel
theorem dX11_twinX_22 : decode cX11_twinX 22 = .ok (.invokevirtual 95, 3) := by decide +kernel
theorem dX11_twinX_25 : decode cX11_twinX 25 = .ok (.ireturn, 1) := by decide +kernel
theorem dX11_yOf_0 : decode cX11_yOf 0 = .ok (.iconst 2, 1) := by decide +kernel
theorem dX11_yOf_1 : decode cX11_yOf 1 = .ok (.aload_n 0, 1) := by decide +kernel
theorem dX11_yOf_2 : decode cX11_yOf 2 = .ok (.getfield 7, 3) := by decide +kernel
theorem dX11_yOf_5 : decode cX11_yOf 5 = .ok (.sipush 266, 3) := by decide +kernel
theorem dX11_yOf_8 : decode cX11_yOf 8 = .ok (.iaload, 1) := by decide +kernel
theorem dX11_yOf_9 : decode cX11_yOf 9 = .ok (.imul, 1) := by decide +kernel
theorem dX11_yOf_10 : decode cX11_yOf 10 = .ok (.iload_n 1, 1) := by decide +kernel
theorem dX11_yOf_11 : decode cX11_yOf 11 = .ok (.bipush 6, 2) := by decide +kernel
theorem dX11_yOf_13 : decode cX11_yOf 13 = .ok (.iadd, 1) := by decide +kernel
theorem dX11_yOf_14 : decode cX11_yOf 14 = .ok (.imul, 1) := by decide +kernel
theorem dX11_yOf_15 : decode cX11_yOf 15 = .ok (.ireturn, 1) := by decide +kernel
set_option maxRecDepth 20000 in
theorem ggX11_capX_X11_rowOf : GoodIn wsX11_capX wsX11_rowOf := goodIn_r _ [5] (by decide +kernel) (by decide +kernel)
set_option maxRecDepth 20000 in
theorem gX11_capX_X11_rowOf : GoodIn wsX11_capX (va_wsS RX11 92 yX11_rowOf wsX11_rowOf) := goodIn_app (goodIn_of _ (by decide +kernel)) ggX11_capX_X11_rowOf
set_option maxRecDepth 20000 in
theorem ggX11_capX_X11_size : GoodIn wsX11_capX wsX11_size := goodIn_r _ [8] (by decide +kernel) (by decide +kernel)
set_option maxRecDepth 20000 in
theorem gX11_capX_X11_size : GoodIn wsX11_capX (va_wsS RX11 64 yX11_size wsX11_size) := goodIn_app (goodIn_of _ (by decide +kernel)) ggX11_capX_X11_size
set_option maxRecDepth 20000 in
theorem ggX11_capX_X11_stepOf : GoodIn wsX11_capX wsX11_stepOf := goodIn_r _ [11, 12, 13, 4, 14] (by decide +kernel) (by decide +kernel)
set_option maxRecDepth 20000 in
theorem gX11_capX_X11_stepOf : GoodIn wsX11_capX (va_wsS RX11 89 yX11_stepOf wsX11_stepOf) := goodIn_app (goodIn_of _ (by decide +kernel)) ggX11_capX_X11_stepOf
set_option maxRecDepth 20000 in
theorem ggX11_capX_X11_sine : GoodIn wsX11_capX wsX11_sine := goodIn_r _ [17, 18, 19, 4, 20] (by decide +kernel) (by decide +kernel)
set_option maxRecDepth 20000 in
theorem gX11_capX_X11_sine : GoodIn wsX11_capX (va_wsS RX11 61 yX11_sine wsX11_sine) := goodIn_app (goodIn_of _ (by decide +kernel)) ggX11_capX_X11_sine
theorem dX11_capX_0 : decode cX11_capX 0 = .ok (.iload_n 1, 1) := by decide +kernel
theorem dX11_capX_1 : decode cX11_capX 1 = .ok (.invokestatic 92, 3) := by decide +kernel
theorem dX11_capX_4 : decode cX11_capX 4 = .ok (.istore_n 2, 1) := by decide +kernel
theorem dX11_capX_5 : decode cX11_capX 5 = .ok (.iconst 2, 1) := by decide +kernel
theorem dX11_capX_6 : decode cX11_capX 6 = .ok (.aload_n 0, 1) := by decide +kernel
theorem dX11_capX_7 : decode cX11_capX 7 = .ok (.getfield 7, 3) := by decide +kernel
theorem dX11_capX_10 : decode cX11_capX 10 = .ok (.sipush 266, 3) := by decide +kernel
theorem dX11_capX_13 : decode cX11_capX 13 = .ok (.iaload, 1) := by decide +kernel
theorem dX11_capX_14 : decode cX11_capX 14 = .ok (.imul, 1) := by decide +kernel
theorem dX11_capX_15 : decode cX11_capX 15 = .ok (.bipush 6, 2) := by decide +kernel
theorem dX11_capX_17 : decode cX11_capX 17 = .ok (.iload_n 2, 1) := by decide +kernel
theorem dX11_capX_18 : decode cX11_capX 18 = .ok (.invokestatic 64, 3) := by decide +kernel
theorem dX11_capX_21 : decode cX11_capX 21 = .ok (.isub, 1) := by decide +kernel
theorem dX11_capX_22 : decode cX11_capX 22 = .ok (.imul, 1) := by decide +kernel
theorem dX11_capX_23 : decode cX11_capX 23 = .ok (.iload_n 1, 1) := by decide +kernel
theorem dX11_capX_24 : decode cX11_capX 24 = .ok (.invokestatic 89, 3) := by decide +kernel
theorem dX11_capX_27 : decode cX11_capX 27 = .ok (.invokestatic 61, 3) := by decide +kernel
theorem dX11_capX_30 : decode cX11_capX 30 = .ok (.imul, 1) := by decide +kernel
theorem dX11_capX_31 : decode cX11_capX 31 = .ok (.sipush 10000, 3) := by decide +kernel
theorem dX11_capX_34 : decode cX11_capX 34 = .ok (.idiv, 1) := by decide +kernel
theorem dX11_capX_35 : decode cX11_capX 35 = .ok (.istore_n 3, 1) := by decide +kernel
theorem dX11_capX_36 : decode cX11_capX 36 = .ok (.iconst 2, 1) := by decide +kernel
theorem dX11_capX_37 : decode cX11_capX 37 = .ok (.aload_n 0, 1) := by decide +kernel
theorem dX11_capX_38 : decode cX11_capX 38 = .ok (.getfield 7, 3) := by decide +kernel
theorem dX11_capX_41 : decode cX11_capX 41 = .ok (.sipush 266, 3) := by decide +kernel
theorem dX11_capX_44 : decode cX11_capX 44 = .ok (.iaload, 1) := by decide +kernel
theorem dX11_capX_45 : decode cX11_capX 45 = .ok (.imul, 1) := by decide +kernel
theorem dX11_capX_46 : decode cX11_capX 46 = .ok (.aload_n 0, 1) := by decide +kernel
theorem dX11_capX_47 : decode cX11_capX 47 = .ok (.getfield 7, 3) := by decide +kernel
theorem dX11_capX_50 : decode cX11_capX 50 = .ok (.sipush 268, 3) := by decide +kernel
theorem dX11_capX_53 : decode cX11_capX 53 = .ok (.iaload, 1) := by decide +kernel
theorem dX11_capX_54 : decode cX11_capX 54 = .ok (.imul, 1) := by decide +kernel
theorem dX11_capX_55 : decode cX11_capX 55 = .ok (.iload_n 2, 1) := by decide +kernel
theorem dX11_capX_56 : decode cX11_capX 56 = .ok (.ifCond .le 7, 3) := by decide +kernel
theorem dX11_capX_59 : decode cX11_capX 59 = .ok (.iload_n 3, 1) := by decide +kernel
theorem dX11_capX_60 : decode cX11_capX 60 = .ok (.goto 5, 3) := by decide +kernel
theorem dX11_capX_63 : decode cX11_capX 63 = .ok (.iload_n 3, 1) := by decide +kernel
theorem dX11_capX_64 : decode cX11_capX 64 = .ok (.ineg, 1) := by decide +kernel
theorem dX11_capX_65 : decode cX11_capX 65 = .ok (.iadd, 1) := by decide +kernel
theorem dX11_capX_66 : decode cX11_capX 66 = .ok (.ireturn, 1) := by decide +kernel
set_option maxRecDepth 20000 in
theorem ggX11_capY_X11_rowOf : GoodIn wsX11_capY wsX11_rowOf := goodIn_r _ [5] (by decide +kernel) (by decide +kernel)
set_option maxRecDepth 20000 in
theorem gX11_capY_X11_rowOf : GoodIn wsX11_capY (va_wsS RX11 92 yX11_rowOf wsX11_rowOf) := goodIn_app (goodIn_of _ (by decide +kernel)) ggX11_capY_X11_rowOf
set_option maxRecDepth 20000 in
theorem ggX11_capY_X11_size : GoodIn wsX11_capY wsX11_size := goodIn_r _ [8] (by decide +kernel) (by decide +kernel)
set_option maxRecDepth 20000 in
theorem gX11_capY_X11_size : GoodIn wsX11_capY (va_wsS RX11 64 yX11_size wsX11_size) := goodIn_app (goodIn_of _ (by decide +kernel)) ggX11_capY_X11_size
set_option maxRecDepth 20000 in
theorem ggX11_capY_X11_stepOf : GoodIn wsX11_capY wsX11_stepOf := goodIn_r _ [11, 12, 13, 4, 14] (by decide +kernel) (by decide +kernel)
set_option maxRecDepth 20000 in
theorem gX11_capY_X11_stepOf : GoodIn wsX11_capY (va_wsS RX11 89 yX11_stepOf wsX11_stepOf) := goodIn_app (goodIn_of _ (by decide +kernel)) ggX11_capY_X11_stepOf
set_option maxRecDepth 20000 in
theorem ggX11_capY_X11_cosine : GoodIn wsX11_capY wsX11_cosine := goodIn_r _ [17, 18, 19, 4, 20, 21, 22, 23] (by decide +kernel) (by decide +kernel)
set_option maxRecDepth 20000 in
theorem gX11_capY_X11_cosine : GoodIn wsX11_capY (va_wsS RX11 67 yX11_cosine wsX11_cosine) := goodIn_app (goodIn_of _ (by decide +kernel)) ggX11_capY_X11_cosine
theorem dX11_capY_0 : decode cX11_capY 0 = .ok (.iconst 2, 1) := by decide +kernel
theorem dX11_capY_1 : decode cX11_capY 1 = .ok (.aload_n 0, 1) := by decide +kernel
theorem dX11_capY_2 : decode cX11_capY 2 = .ok (.getfield 7, 3) := by decide +kernel
theorem dX11_capY_5 : decode cX11_capY 5 = .ok (.sipush 266, 3) := by decide +kernel
theorem dX11_capY_8 : decode cX11_capY 8 = .ok (.iaload, 1) := by decide +kernel
theorem dX11_capY_9 : decode cX11_capY 9 = .ok (.imul, 1) := by decide +kernel
theorem dX11_capY_10 : decode cX11_capY 10 = .ok (.bipush 6, 2) := by decide +kernel
theorem dX11_capY_12 : decode cX11_capY 12 = .ok (.iload_n 1, 1) := by decide +kernel
theorem dX11_capY_13 : decode cX11_capY 13 = .ok (.invokestatic 92, 3) := by decide +kernel
theorem dX11_capY_16 : decode cX11_capY 16 = .ok (.invokestatic 64, 3) := by decide +kernel
theorem dX11_capY_19 : decode cX11_capY 19 = .ok (.isub, 1) := by decide +kernel
theorem dX11_capY_20 : decode cX11_capY 20 = .ok (.imul, 1) := by decide +kernel
theorem dX11_capY_21 : decode cX11_capY 21 = .ok (.iload_n 1, 1) := by decide +kernel
theorem dX11_capY_22 : decode cX11_capY 22 = .ok (.invokestatic 89, 3) := by decide +kernel
theorem dX11_capY_25 : decode cX11_capY 25 = .ok (.invokestatic 67, 3) := by decide +kernel
theorem dX11_capY_28 : decode cX11_capY 28 = .ok (.imul, 1) := by decide +kernel
theorem dX11_capY_29 : decode cX11_capY 29 = .ok (.sipush 10000, 3) := by decide +kernel
theorem dX11_capY_32 : decode cX11_capY 32 = .ok (.idiv, 1) := by decide +kernel
theorem dX11_capY_33 : decode cX11_capY 33 = .ok (.istore_n 2, 1) := by decide +kernel
theorem dX11_capY_34 : decode cX11_capY 34 = .ok (.iconst 2, 1) := by decide +kernel
theorem dX11_capY_35 : decode cX11_capY 35 = .ok (.aload_n 0, 1) := by decide +kernel
theorem dX11_capY_36 : decode cX11_capY 36 = .ok (.getfield 7, 3) := by decide +kernel
theorem dX11_capY_39 : decode cX11_capY 39 = .ok (.sipush 266, 3) := by decide +kernel
theorem dX11_capY_42 : decode cX11_capY 42 = .ok (.iaload, 1) := by decide +kernel
theorem dX11_capY_43 : decode cX11_capY 43 = .ok (.imul, 1) := by decide +kernel
theorem dX11_capY_44 : decode cX11_capY 44 = .ok (.aload_n 0, 1) := by decide +kernel
theorem dX11_capY_45 : decode cX11_capY 45 = .ok (.getfield 7, 3) := by decide +kernel
theorem dX11_capY_48 : decode cX11_capY 48 = .ok (.sipush 268, 3) := by decide +kernel
theorem dX11_capY_51 : decode cX11_capY 51 = .ok (.iaload, 1) := by decide +kernel
theorem dX11_capY_52 : decode cX11_capY 52 = .ok (.imul, 1) := by decide +kernel
theorem dX11_capY_53 : decode cX11_capY 53 = .ok (.iload_n 2, 1) := by decide +kernel
theorem dX11_capY_54 : decode cX11_capY 54 = .ok (.iadd, 1) := by decide +kernel
theorem dX11_capY_55 : decode cX11_capY 55 = .ok (.ireturn, 1) := by decide +kernel
theorem dX11_isLand_0 : decode cX11_isLand 0 = .ok (.aload_n 0, 1) := by decide +kernel
theorem dX11_isLand_1 : decode cX11_isLand 1 = .ok (.getfield 7, 3) := by decide +kernel
theorem dX11_isLand_4 : decode cX11_isLand 4 = .ok (.iload_n 1, 1) := by decide +kernel
theorem dX11_isLand_5 : decode cX11_isLand 5 = .ok (.iaload, 1) := by decide +kernel
theorem dX11_isLand_6 : decode cX11_isLand 6 = .ok (.iconst 1, 1) := by decide +kernel
theorem dX11_isLand_7 : decode cX11_isLand 7 = .ok (.if_icmp .ne 7, 3) := by decide +kernel
theorem dX11_isLand_10 : decode cX11_isLand 10 = .ok (.iconst 1, 1) := by decide +kernel
theorem dX11_isLand_11 : decode cX11_isLand 11 = .ok (.goto 4, 3) := by decide +kernel
theorem dX11_isLand_14 : decode cX11_isLand 14 = .ok (.iconst 0, 1) := by decide +kernel
theorem dX11_isLand_15 : decode cX11_isLand 15 = .ok (.ireturn, 1) := by decide +kernel
set_option maxRecDepth 20000 in
theorem ggX11_neighbours_X11_isPole : GoodIn wsX11_neighbours wsX11_isPole := goodIn_r _ [4] (by decide +kernel) (by decide +kernel)
set_option maxRecDepth 20000 in
theorem gX11_neighbours_X11_isPole : GoodIn wsX11_neighbours (va_wsS RX11 74 yX11_isPole wsX11_isPole) := goodIn_app (goodIn_of _ (by decide +kernel)) ggX11_neighbours_X11_isPole
theorem dX11_neighbours_0 : decode cX11_neighbours 0 = .ok (.iload_n 0, 1) := by decide +kernel
theorem dX11_neighbours_1 : decode cX11_neighbours 1 = .ok (.invokestatic 74, 3) := by decide +kernel
theorem dX11_neighbours_4 : decode cX11_neighbours 4 = .ok (.ifCond .eq 8, 3) := by decide +kernel
theorem dX11_neighbours_7 : decode cX11_neighbours 7 = .ok (.bipush 24, 2) := by decide +kernel
theorem dX11_neighbours_9 : decode cX11_neighbours 9 = .ok (.goto 4, 3) := by decide +kernel
theorem dX11_neighbours_12 : decode cX11_neighbours 12 = .ok (.iconst 4, 1) := by decide +kernel
theorem dX11_neighbours_13 : decode cX11_neighbours 13 = .ok (.ireturn, 1) := by decide +kernel
set_option maxRecDepth 20000 in
theorem ggX11_neighbour_X11_isPole : GoodIn wsX11_neighbour wsX11_isPole := goodIn_r _ [4] (by decide +kernel) (by decide +kernel)
set_option maxRecDepth 20000 in
theorem gX11_neighbour_X11_isPole : GoodIn wsX11_neighbour (va_wsS RX11 74 yX11_isPole wsX11_isPole) := goodIn_app (goodIn_of _ (by decide +kernel)) ggX11_neighbour_X11_isPole
set_option maxRecDepth 20000 in
theorem ggX11_neighbour_X11_rowOf : GoodIn wsX11_neighbour wsX11_rowOf := goodIn_r _ [7] (by decide +kernel) (by decide +kernel)
set_option maxRecDepth 20000 in
theorem gX11_neighbour_X11_rowOf : GoodIn wsX11_neighbour (va_wsS RX11 92 yX11_rowOf wsX11_rowOf) := goodIn_app (goodIn_of _ (by decide +kernel)) ggX11_neighbour_X11_rowOf
set_option maxRecDepth 20000 in
theorem ggX11_neighbour_X11_stepOf : GoodIn wsX11_neighbour wsX11_stepOf := goodIn_r _ [10, 1, 2, 3, 4] (by decide +kernel) (by decide +kernel)
set_option maxRecDepth 20000 in
theorem gX11_neighbour_X11_stepOf : GoodIn wsX11_neighbour (va_wsS RX11 89 yX11_stepOf wsX11_stepOf) := goodIn_app (goodIn_of _ (by decide +kernel)) ggX11_neighbour_X11_stepOf
set_option maxRecDepth 20000 in
theorem ggX11_neighbour_X11_numberOf : GoodIn wsX11_neighbour wsX11_numberOf := goodIn_r _ [13] (by decide +kernel) (by decide +kernel)
set_option maxRecDepth 20000 in
theorem gX11_neighbour_X11_numberOf : GoodIn wsX11_neighbour (va_wsS RX11 102 yX11_numberOf wsX11_numberOf) := goodIn_app (goodIn_of _ (by decide +kernel)) ggX11_neighbour_X11_numberOf
theorem dX11_neighbour_0 : decode cX11_neighbour 0 = .ok (.iload_n 0, 1) := by decide +kernel
theorem dX11_neighbour_1 : decode cX11_neighbour 1 = .ok (.invokestatic 74, 3) := by decide +kernel
theorem dX11_neighbour_4 : decode cX11_neighbour 4 = .ok (.ifCond .eq 19, 3) := by decide +kernel
theorem dX11_neighbour_7 : decode cX11_neighbour 7 = .ok (.iload_n 0, 1) := by decide +kernel
theorem dX11_neighbour_8 : decode cX11_neighbour 8 = .ok (.ifCond .ne 9, 3) := by decide +kernel
theorem dX11_neighbour_11 : decode cX11_neighbour 11 = .ok (.iconst 1, 1) := by decide +kernel
theorem dX11_neighbour_12 : decode cX11_neighbour 12 = .ok (.iload_n 1, 1) := by decide +kernel
theorem dX11_neighbour_13 : decode cX11_neighbour 13 = .ok (.iadd, 1) := by decide +kernel
theorem dX11_neighbour_14 : decode cX11_neighbour 14 = .ok (.goto 8, 3) := by decide +kernel
theorem dX11_neighbour_17 : decode cX11_neighbour 17 = .ok (.sipush 241, 3) := by decide +kernel
theorem dX11_neighbour_20 : decode cX11_neighbour 20 = .ok (.iload_n 1, 1) := by decide +kernel
theorem dX11_neighbour_21 : decode cX11_neighbour 21 = .ok (.iadd, 1) := by decide +kernel
theorem dX11_neighbour_22 : decode cX11_neighbour 22 = .ok (.ireturn, 1) := by decide +kernel
theorem dX11_neighbour_23 : decode cX11_neighbour 23 = .ok (.iload_n 0, 1) := by decide +kernel
theorem dX11_neighbour_24 : decode cX11_neighbour 24 = .ok (.invokestatic 92, 3) := by decide +kernel
theorem dX11_neighbour_27 : decode cX11_neighbour 27 = .ok (.istore_n 2, 1) := by decide +kernel
theorem dX11_neighbour_28 : decode cX11_neighbour 28 = .ok (.iload_n 0, 1) := by decide +kernel
theorem dX11_neighbour_29 : decode cX11_neighbour 29 = .ok (.invokestatic 89, 3) := by decide +kernel
theorem dX11_neighbour_32 : decode cX11_neighbour 32 = .ok (.istore_n 3, 1) := by decide +kernel
theorem dX11_neighbour_33 : decode cX11_neighbour 33 = .ok (.iload_n 1, 1) := by decide +kernel
theorem dX11_neighbour_34 : decode cX11_neighbour 34 = .ok (.tableswitch 57 0 2 #[26, 38, 49], 26) := by decide +kernel
theorem dX11_neighbour_60 : decode cX11_neighbour 60 = .ok (.iload_n 2, 1) := by decide +kernel
theorem dX11_neighbour_61 : decode cX11_neighbour 61 = .ok (.iload_n 3, 1) := by decide +kernel
theorem dX11_neighbour_62 : decode cX11_neighbour 62 = .ok (.bipush 23, 2) := by decide +kernel
theorem dX11_neighbour_64 : decode cX11_neighbour 64 = .ok (.iadd, 1) := by decide +kernel
theorem dX11_neighbour_65 : decode cX11_neighbour 65 = .ok (.bipush 24, 2) := by decide +kernel
theorem dX11_neighbour_67 : decode cX11_neighbour 67 = .ok (.irem, 1) := by decide +kernel
theorem dX11_neighbour_68 : decode cX11_neighbour 68 = .ok (.invokestatic 102, 3) := by decide +kernel
theorem dX11_neighbour_71 : decode cX11_neighbour 71 = .ok (.ireturn, 1) := by decide +kernel
theorem dX11_neighbour_72 : decode cX11_neighbour 72 = .ok (.iload_n 2, 1) := by decide +kernel
theorem dX11_neighbour_73 : decode cX11_neighbour 73 = .ok (.iload_n 3, 1) := by decide +kernel
theorem dX11_neighbour_74 : decode cX11_neighbour 74 = .ok (.iconst 1, 1) := by decide +kernel
theorem dX11_neighbour_75 : decode cX11_neighbour 75 = .ok (.iadd, 1) := by decide +kernel
theorem dX11_neighbour_76 : decode cX11_neighbour 76 = .ok (.bipush 24, 2) := by decide +kernel
theorem dX11_neighbour_78 : decode cX11_neighbour 78 = .ok (.irem, 1) := by decide +kernel
theorem dX11_neighbour_79 : decode cX11_neighbour 79 = .ok (.invokestatic 102, 3) := by decide +kernel
theorem dX11_neighbour_82 : decode cX11_neighbour 82 = .ok (.ireturn, 1) := by decide +kernel
theorem dX11_neighbour_83 : decode cX11_neighbour 83 = .ok (.iload_n 2, 1) := by decide +kernel
theorem dX11_neighbour_84 : decode cX11_neighbour 84 = .ok (.iconst 1, 1) := by decide +kernel
theorem dX11_neighbour_85 : decode cX11_neighbour 85 = .ok (.isub, 1) := by decide +kernel
theorem dX11_neighbour_86 : decode cX11_neighbour 86 = .ok (.iload_n 3, 1) := by decide +kernel
theorem dX11_neighbour_87 : decode cX11_neighbour 87 = .ok (.invokestatic 102, 3) := by decide +kernel
theorem dX11_neighbour_90 : decode cX11_neighbour 90 = .ok (.ireturn, 1) := by decide +kernel
theorem dX11_neighbour_91 : decode cX11_neighbour 91 = .ok (.iload_n 2, 1) := by decide +kernel
theorem dX11_neighbour_92 : decode cX11_neighbour 92 = .ok (.iconst 1, 1) := by decide +kernel
theorem dX11_neighbour_93 : decode cX11_neighbour 93 = .ok (.iadd, 1) := by decide +kernel
theorem dX11_neighbour_94 : decode cX11_neighbour 94 = .ok (.iload_n 3, 1) := by decide +kernel
theorem dX11_neighbour_95 : decode cX11_neighbour 95 = .ok (.invokestatic 102, 3) := by decide +kernel
theorem dX11_neighbour_98 : decode cX11_neighbour 98 = .ok (.ireturn, 1) := by decide +kernel
set_option maxRecDepth 20000 in
theorem ggX11_areNext_X11_neighbours : GoodIn wsX11_areNext wsX11_neighbours := goodIn_r _ [4, 5, 6, 3, 7] (by decide +kernel) (by decide +kernel)
set_option maxRecDepth 20000 in
theorem gX11_areNext_X11_neighbours : GoodIn wsX11_areNext (va_wsS RX11 106 yX11_neighbours wsX11_neighbours) := goodIn_app (goodIn_of _ (by decide +kernel)) ggX11_areNext_X11_neighbours
set_option maxRecDepth 20000 in
theorem ggX11_areNext_X11_neighbour : GoodIn wsX11_areNext wsX11_neighbour := goodIn_r _ [10, 5, 6, 3, 7, 11, 12, 13, 14, 15, 16, 17, 18, 19] (by decide +kernel) (by decide +kernel)
set_option maxRecDepth 20000 in
theorem gX11_areNext_X11_neighbour : GoodIn wsX11_areNext (va_wsS RX11 109 yX11_neighbour wsX11_neighbour) := goodIn_app (goodIn_of _ (by decide +kernel)) ggX11_areNext_X11_neighbour
theorem dX11_areNext_0 : decode cX11_areNext 0 = .ok (.iconst 0, 1) := by decide +kernel
theorem dX11_areNext_1 : decode cX11_areNext 1 = .ok (.istore_n 2, 1) := by decide +kernel
theorem dX11_areNext_2 : decode cX11_areNext 2 = .ok (.iconst 0, 1) := by decide +kernel
theorem dX11_areNext_3 : decode cX11_areNext 3 = .ok (.istore_n 3, 1) := by decide +kernel
theorem dX11_areNext_4 : decode cX11_areNext 4 = .ok (.iload_n 3, 1) := by decide +kernel
theorem dX11_areNext_5 : decode cX11_areNext 5 = .ok (.iload_n 0, 1) := by decide +kernel
theorem dX11_areNext_6 : decode cX11_areNext 6 = .ok (.invokestatic 106, 3) := by decide +kernel
theorem dX11_areNext_9 : decode cX11_areNext 9 = .ok (.if_icmp .ge 28, 3) := by decide +kernel
theorem dX11_areNext_12 : decode cX11_areNext 12 = .ok (.iload_n 2, 1) := by decide +kernel
theorem dX11_areNext_13 : decode cX11_areNext 13 = .ok (.ifCond .ne 12, 3) := by decide +kernel
theorem dX11_areNext_16 : decode cX11_areNext 16 = .ok (.iload_n 0, 1) := by decide +kernel
theorem dX11_areNext_17 : decode cX11_areNext 17 = .ok (.iload_n 3, 1) := by decide +kernel
theorem dX11_areNext_18 : decode cX11_areNext 18 = .ok (.invokestatic 109, 3) := by decide +kernel
theorem dX11_areNext_21 : decode cX11_areNext 21 = .ok (.iload_n 1, 1) := by decide +kernel
theorem dX11_areNext_22 : decode cX11_areNext 22 = .ok (.if_icmp .ne 7, 3) := by decide +kernel
theorem dX11_areNext_25 : decode cX11_areNext 25 = .ok (.iconst 1, 1) := by decide +kernel
theorem dX11_areNext_26 : decode cX11_areNext 26 = .ok (.goto 4, 3) := by decide +kernel
theorem dX11_areNext_29 : decode cX11_areNext 29 = .ok (.iconst 0, 1) := by decide +kernel
theorem dX11_areNext_30 : decode cX11_areNext 30 = .ok (.istore_n 2, 1) := by decide +kernel
theorem dX11_areNext_31 : decode cX11_areNext 31 = .ok (.iinc 3 1, 3) := by decide +kernel
theorem dX11_areNext_34 : decode cX11_areNext 34 = .ok (.goto (-30), 3) := by decide +kernel
theorem dX11_areNext_37 : decode cX11_areNext 37 = .ok (.iload_n 2, 1) := by decide +kernel
theorem dX11_areNext_38 : decode cX11_areNext 38 = .ok (.ireturn, 1) := by decide +kernel
set_option maxRecDepth 20000 in
theorem ggX11_laysSeas_X11_isLand : GoodIn wsX11_laysSeas wsX11_isLand := goodIn_r _ [6, 7, 26, 27, 28, 29, 30, 31, 32, 33, 34, 35, 36, 37, 38, 39, 40, 41, 42, 43, 44] (by decide +kernel) (by decide +kernel)
set_option maxRecDepth 20000 in
theorem gX11_laysSeas_X11_isLand : GoodIn wsX11_laysSeas (wsV RX11 112 RX11 yX11_isLand wsX11_isLand) := goodIn_app (goodIn_of _ (by decide +kernel)) ggX11_laysSeas_X11_isLand
set_option maxRecDepth 20000 in
theorem ggX11_laysSeas_X11_neighbours : GoodIn wsX11_laysSeas wsX11_neighbours := goodIn_r _ [10, 11, 12, 5, 13] (by decide +kernel) (by decide +kernel)
set_option maxRecDepth 20000 in
theorem gX11_laysSeas_X11_neighbours : GoodIn wsX11_laysSeas (va_wsS RX11 106 yX11_neighbours wsX11_neighbours) := goodIn_app (goodIn_of _ (by decide +kernel)) ggX11_laysSeas_X11_neighbours
set_option maxRecDepth 20000 in
theorem ggX11_laysSeas_X11_neighbour : GoodIn wsX11_laysSeas wsX11_neighbour := goodIn_r _ [16, 11, 12, 5, 13, 17, 18, 19, 20, 21, 22, 23, 24, 25] (by decide +kernel) (by decide +kernel)
set_option maxRecDepth 20000 in
theorem gX11_laysSeas_X11_neighbour : GoodIn wsX11_laysSeas (va_wsS RX11 109 yX11_neighbour wsX11_neighbour) := goodIn_app (goodIn_of _ (by decide +kernel)) ggX11_laysSeas_X11_neighbour
theorem dX11_laysSeas_0 : decode cX11_laysSeas 0 = .ok (.iconst 0, 1) := by decide +kernel
theorem dX11_laysSeas_1 : decode cX11_laysSeas 1 = .ok (.istore_n 1, 1) := by decide +kernel
theorem dX11_laysSeas_2 : decode cX11_laysSeas 2 = .ok (.iconst 0, 1) := by decide +kernel
theorem dX11_laysSeas_3 : decode cX11_laysSeas 3 = .ok (.istore_n 2, 1) := by decide +kernel
theorem dX11_laysSeas_4 : decode cX11_laysSeas 4 = .ok (.iload_n 2, 1) := by decide +kernel
theorem dX11_laysSeas_5 : decode cX11_laysSeas 5 = .ok (.sipush 266, 3) := by decide +kernel
theorem dX11_laysSeas_8 : decode cX11_laysSeas 8 = .ok (.if_icmp .ge 29, 3) := by decide +kernel
theorem dX11_laysSeas_11 : decode cX11_laysSeas 11 = .ok (.aload_n 0, 1) := by decide +kernel
theorem dX11_laysSeas_12 : decode cX11_laysSeas 12 = .ok (.getfield 39, 3) := by decide +kernel
theorem dX11_laysSeas_15 : decode cX11_laysSeas 15 = .ok (.iload_n 2, 1) := by decide +kernel
theorem dX11_laysSeas_16 : decode cX11_laysSeas 16 = .ok (.aload_n 0, 1) := by decide +kernel
theorem dX11_laysSeas_17 : decode cX11_laysSeas 17 = .ok (.iload_n 2, 1) := by decide +kernel
theorem dX11_laysSeas_18 : decode cX11_laysSeas 18 = .ok (.invokevirtual 112, 3) := by decide +kernel
theorem dX11_laysSeas_21 : decode cX11_laysSeas 21 = .ok (.ifCond .eq 8, 3) := by decide +kernel
theorem dX11_laysSeas_24 : decode cX11_laysSeas 24 = .ok (.bipush (-4), 2) := by decide +kernel
theorem dX11_laysSeas_26 : decode cX11_laysSeas 26 = .ok (.goto 4, 3) := by decide +kernel
theorem dX11_laysSeas_29 : decode cX11_laysSeas 29 = .ok (.iload_n 2, 1) := by decide +kernel
theorem dX11_laysSeas_30 : decode cX11_laysSeas 30 = .ok (.iastore, 1) := by decide +kernel
theorem dX11_laysSeas_31 : decode cX11_laysSeas 31 = .ok (.iinc 2 1, 3) := by decide +kernel
theorem dX11_laysSeas_34 : decode cX11_laysSeas 34 = .ok (.goto (-30), 3) := by decide +kernel
theorem dX11_laysSeas_37 : decode cX11_laysSeas 37 = .ok (.iload_n 1, 1) := by decide +kernel
theorem dX11_laysSeas_38 : decode cX11_laysSeas 38 = .ok (.ifCond .ne 94, 3) := by decide +kernel
theorem dX11_laysSeas_41 : decode cX11_laysSeas 41 = .ok (.iconst 1, 1) := by decide +kernel
theorem dX11_laysSeas_42 : decode cX11_laysSeas 42 = .ok (.istore_n 1, 1) := by decide +kernel
theorem dX11_laysSeas_43 : decode cX11_laysSeas 43 = .ok (.iconst 0, 1) := by decide +kernel
theorem dX11_laysSeas_44 : decode cX11_laysSeas 44 = .ok (.istore_n 2, 1) := by decide +kernel
theorem dX11_laysSeas_45 : decode cX11_laysSeas 45 = .ok (.iload_n 2, 1) := by decide +kernel
theorem dX11_laysSeas_46 : decode cX11_laysSeas 46 = .ok (.sipush 266, 3) := by decide +kernel
theorem dX11_laysSeas_49 : decode cX11_laysSeas 49 = .ok (.if_icmp .ge 80, 3) := by decide +kernel
theorem dX11_laysSeas_52 : decode cX11_laysSeas 52 = .ok (.iconst 0, 1) := by decide +kernel
theorem dX11_laysSeas_53 : decode cX11_laysSeas 53 = .ok (.istore_n 3, 1) := by decide +kernel
theorem dX11_laysSeas_54 : decode cX11_laysSeas 54 = .ok (.iload_n 3, 1) := by decide +kernel
theorem dX11_laysSeas_55 : decode cX11_laysSeas 55 = .ok (.iload_n 2, 1) := by decide +kernel
theorem dX11_laysSeas_56 : decode cX11_laysSeas 56 = .ok (.invokestatic 106, 3) := by decide +kernel
theorem dX11_laysSeas_59 : decode cX11_laysSeas 59 = .ok (.if_icmp .ge 64, 3) := by decide +kernel
theorem dX11_laysSeas_62 : decode cX11_laysSeas 62 = .ok (.iload_n 2, 1) := by decide +kernel
theorem dX11_laysSeas_63 : decode cX11_laysSeas 63 = .ok (.iload_n 3, 1) := by decide +kernel
theorem dX11_laysSeas_64 : decode cX11_laysSeas 64 = .ok (.invokestatic 109, 3) := by decide +kernel
theorem dX11_laysSeas_67 : decode cX11_laysSeas 67 = .ok (.istore 4, 2) := by decide +kernel
theorem dX11_laysSeas_69 : decode cX11_laysSeas 69 = .ok (.aload_n 0, 1) := by decide +kernel
theorem dX11_laysSeas_70 : decode cX11_laysSeas 70 = .ok (.iload_n 2, 1) := by decide +kernel
theorem dX11_laysSeas_71 : decode cX11_laysSeas 71 = .ok (.invokevirtual 112, 3) := by decide +kernel
theorem dX11_laysSeas_74 : decode cX11_laysSeas 74 = .ok (.ifCond .ne 43, 3) := by decide +kernel
theorem dX11_laysSeas_77 : decode cX11_laysSeas 77 = .ok (.aload_n 0, 1) := by decide +kernel
theorem dX11_laysSeas_78 : decode cX11_laysSeas 78 = .ok (.iload 4, 2) := by decide +kernel
theorem dX11_laysSeas_80 : decode cX11_laysSeas 80 = .ok (.invokevirtual 112, 3) := by decide +kernel
theorem dX11_laysSeas_83 : decode cX11_laysSeas 83 = .ok (.ifCond .ne 34, 3) := by decide +kernel
theorem dX11_laysSeas_86 : decode cX11_laysSeas 86 = .ok (.aload_n 0, 1) := by decide +kernel
theorem dX11_laysSeas_87 : decode cX11_laysSeas 87 = .ok (.getfield 39, 3) := by decide +kernel
theorem dX11_laysSeas_90 : decode cX11_laysSeas 90 = .ok (.iload 4, 2) := by decide +kernel
theorem dX11_laysSeas_92 : decode cX11_laysSeas 92 = .ok (.iaload, 1) := by decide +kernel
theorem dX11_laysSeas_93 : decode cX11_laysSeas 93 = .ok (.aload_n 0, 1) := by decide +kernel
theorem dX11_laysSeas_94 : decode cX11_laysSeas 94 = .ok (.getfield 39, 3) := by decide +kernel
theorem dX11_laysSeas_97 : decode cX11_laysSeas 97 = .ok (.iload_n 2, 1) := by decide +kernel
theorem dX11_laysSeas_98 : decode cX11_laysSeas 98 = .ok (.iaload, 1) := by decide +kernel
theorem dX11_laysSeas_99 : decode cX11_laysSeas 99 = .ok (.if_icmp .ge 18, 3) := by decide +kernel
theorem dX11_laysSeas_102 : decode cX11_laysSeas 102 = .ok (.aload_n 0, 1) := by decide +kernel
theorem dX11_laysSeas_103 : decode cX11_laysSeas 103 = .ok (.getfield 39, 3) := by decide +kernel
theorem dX11_laysSeas_106 : decode cX11_laysSeas 106 = .ok (.iload_n 2, 1) := by decide +kernel
theorem dX11_laysSeas_107 : decode cX11_laysSeas 107 = .ok (.aload_n 0, 1) := by decide +kernel
theorem dX11_laysSeas_108 : decode cX11_laysSeas 108 = .ok (.getfield 39, 3) := by decide +kernel
theorem dX11_laysSeas_111 : decode cX11_laysSeas 111 = .ok (.iload 4, 2) := by decide +kernel
theorem dX11_laysSeas_113 : decode cX11_laysSeas 113 = .ok (.iaload, 1) := by decide +kernel
theorem dX11_laysSeas_114 : decode cX11_laysSeas 114 = .ok (.iastore, 1) := by decide +kernel
theorem dX11_laysSeas_115 : decode cX11_laysSeas 115 = .ok (.iconst 0, 1) := by decide +kernel
theorem dX11_laysSeas_116 : decode cX11_laysSeas 116 = .ok (.istore_n 1, 1) := by decide +kernel
theorem dX11_laysSeas_117 : decode cX11_laysSeas 117 = .ok (.iinc 3 1, 3) := by decide +kernel
theorem dX11_laysSeas_120 : decode cX11_laysSeas 120 = .ok (.goto (-66), 3) := by decide +kernel
theorem dX11_laysSeas_123 : decode cX11_laysSeas 123 = .ok (.iinc 2 1, 3) := by decide +kernel
theorem dX11_laysSeas_126 : decode cX11_laysSeas 126 = .ok (.goto (-81), 3) := by decide +kernel
theorem dX11_laysSeas_129 : decode cX11_laysSeas 129 = .ok (.goto (-92), 3) := by decide +kernel
theorem dX11_laysSeas_132 : decode cX11_laysSeas 132 = .ok (.return_, 1) := by decide +kernel
theorem dX11_seasAhead_0 : decode cX11_seasAhead 0 = .ok (.iconst 0, 1) := by decide +kernel
theorem dX11_seasAhead_1 : decode cX11_seasAhead 1 = .ok (.istore_n 2, 1) := by decide +kernel
theorem dX11_seasAhead_2 : decode cX11_seasAhead 2 = .ok (.iconst 0, 1) := by decide +kernel
theorem dX11_seasAhead_3 : decode cX11_seasAhead 3 = .ok (.istore_n 3, 1) := by decide +kernel
theorem dX11_seasAhead_4 : decode cX11_seasAhead 4 = .ok (.iload_n 3, 1) := by decide +kernel
theorem dX11_seasAhead_5 : decode cX11_seasAhead 5 = .ok (.iload_n 1, 1) := by decide +kernel
theorem dX11_seasAhead_6 : decode cX11_seasAhead 6 = .ok (.if_icmp .ge 27, 3) := by decide +kernel
theorem dX11_seasAhead_9 : decode cX11_seasAhead 9 = .ok (.iload_n 2, 1) := by decide +kernel
theorem dX11_seasAhead_10 : decode cX11_seasAhead 10 = .ok (.aload_n 0, 1) := by decide +kernel
theorem dX11_seasAhead_11 : decode cX11_seasAhead 11 = .ok (.getfield 39, 3) := by decide +kernel
theorem dX11_seasAhead_14 : decode cX11_seasAhead 14 = .ok (.iload_n 3, 1) := by decide +kernel
theorem dX11_seasAhead_15 : decode cX11_seasAhead 15 = .ok (.iaload, 1) := by decide +kernel
theorem dX11_seasAhead_16 : decode cX11_seasAhead 16 = .ok (.iload_n 3, 1) := by decide +kernel
theorem dX11_seasAhead_17 : decode cX11_seasAhead 17 = .ok (.if_icmp .ne 7, 3) := by decide +kernel
theorem dX11_seasAhead_20 : decode cX11_seasAhead 20 = .ok (.iconst 1, 1) := by decide +kernel
theorem dX11_seasAhead_21 : decode cX11_seasAhead 21 = .ok (.goto 4, 3) := by decide +kernel
theorem dX11_seasAhead_24 : decode cX11_seasAhead 24 = .ok (.iconst 0, 1) := by decide +kernel
theorem dX11_seasAhead_25 : decode cX11_seasAhead 25 = .ok (.iadd, 1) := by decide +kernel
theorem dX11_seasAhead_26 : decode cX11_seasAhead 26 = .ok (.istore_n 2, 1) := by decide +kernel
theorem dX11_seasAhead_27 : decode cX11_seasAhead 27 = .ok (.iinc 3 1, 3) := by decide +kernel
theorem dX11_seasAhead_30 : decode cX11_seasAhead 30 = .ok (.goto (-26), 3) := by decide +kernel
theorem dX11_seasAhead_33 : decode cX11_seasAhead 33 = .ok (.iload_n 2, 1) := by decide +kernel
theorem dX11_seasAhead_34 : decode cX11_seasAhead 34 = .ok (.ireturn, 1) := by decide +kernel
set_option maxRecDepth 20000 in
theorem ggX11_seaOf_X11_isLand : GoodIn wsX11_seaOf wsX11_isLand := goodIn_r _ [6, 7, 34, 35, 36, 37, 38, 39, 40, 41, 42, 43, 44, 45, 46, 47, 48, 49, 50, 51, 52] (by decide +kernel) (by decide +kernel)
set_option maxRecDepth 20000 in
theorem gX11_seaOf_X11_isLand : GoodIn wsX11_seaOf (wsV RX11 112 RX11 yX11_isLand wsX11_isLand) := goodIn_app (goodIn_of _ (by decide +kernel)) ggX11_seaOf_X11_isLand
set_option maxRecDepth 20000 in
theorem ggX11_seaOf_X11_laysSeas : GoodIn wsX11_seaOf wsX11_laysSeas := goodIn_r _ [11, 1, 2, 3, 4, 5, 6, 7, 12, 13, 14, 15, 16, 17, 18, 19, 20, 21, 22, 23, 24, 25, 26, 27, 28, 29, 34, 35, 36, 37, 38, 39, 40, 41, 42, 43, 44, 45, 46, 47, 48, 49, 50, 51, 52] (by decide +kernel) (by decide +kernel)
set_option maxRecDepth 20000 in
theorem gX11_seaOf_X11_laysSeas : GoodIn wsX11_seaOf (wsV RX11 115 RX11 yX11_laysSeas wsX11_laysSeas) := goodIn_app (goodIn_of _ (by decide +kernel)) ggX11_seaOf_X11_laysSeas
set_option maxRecDepth 20000 in
theorem ggX11_seaOf_X11_seasAhead : GoodIn wsX11_seaOf wsX11_seasAhead := goodIn_r _ [33, 1, 34, 35, 36, 37, 38, 39, 40, 41, 42, 43, 44, 45, 46, 47, 48, 49, 50, 51, 52] (by decide +kernel) (by decide +kernel)
set_option maxRecDepth 20000 in
theorem gX11_seaOf_X11_seasAhead : GoodIn wsX11_seaOf (wsV RX11 118 RX11 yX11_seasAhead wsX11_seasAhead) := goodIn_app (goodIn_of _ (by decide +kernel)) ggX11_seaOf_X11_seasAhead
theorem dX11_seaOf_0 : decode cX11_seaOf 0 = .ok (.aload_n 0, 1) := by decide +kernel
theorem dX11_seaOf_1 : decode cX11_seaOf 1 = .ok (.iload_n 1, 1) := by decide +kernel
theorem dX11_seaOf_2 : decode cX11_seaOf 2 = .ok (.invokevirtual 112, 3) := by decide +kernel
theorem dX11_seaOf_5 : decode cX11_seaOf 5 = .ok (.ifCond .eq 6, 3) := by decide +kernel
theorem dX11_seaOf_8 : decode cX11_seaOf 8 = .ok (.bipush (-4), 2) := by decide +kernel
theorem dX11_seaOf_10 : decode cX11_seaOf 10 = .ok (.ireturn, 1) := by decide +kernel
theorem dX11_seaOf_11 : decode cX11_seaOf 11 = .ok (.aload_n 0, 1) := by decide +kernel
theorem dX11_seaOf_12 : decode cX11_seaOf 12 = .ok (.invokevirtual 115, 3) := by decide +kernel
theorem dX11_seaOf_15 : decode cX11_seaOf 15 = .ok (.aload_n 0, 1) := by decide +kernel
theorem dX11_seaOf_16 : decode cX11_seaOf 16 = .ok (.aload_n 0, 1) := by decide +kernel
theorem dX11_seaOf_17 : decode cX11_seaOf 17 = .ok (.getfield 39, 3) := by decide +kernel
theorem dX11_seaOf_20 : decode cX11_seaOf 20 = .ok (.iload_n 1, 1) := by decide +kernel
theorem dX11_seaOf_21 : decode cX11_seaOf 21 = .ok (.iaload, 1) := by decide +kernel
theorem dX11_seaOf_22 : decode cX11_seaOf 22 = .ok (.invokevirtual 118, 3) := by decide +kernel
theorem dX11_seaOf_25 : decode cX11_seaOf 25 = .ok (.ireturn, 1) := by decide +kernel
theorem dX11_landMany_0 : decode cX11_landMany 0 = .ok (.iconst 0, 1) := by decide +kernel
theorem dX11_landMany_1 : decode cX11_landMany 1 = .ok (.istore_n 1, 1) := by decide +kernel
theorem dX11_landMany_2 : decode cX11_landMany 2 = .ok (.iconst 0, 1) := by decide +kernel
theorem dX11_landMany_3 : decode cX11_landMany 3 = .ok (.istore_n 2, 1) := by decide +kernel
theorem dX11_landMany_4 : decode cX11_landMany 4 = .ok (.iload_n 2, 1) := by decide +kernel
theorem dX11_landMany_5 : decode cX11_landMany 5 = .ok (.sipush 266, 3) := by decide +kernel
theorem dX11_landMany_8 : decode cX11_landMany 8 = .ok (.if_icmp .ge 18, 3) := by decide +kernel
theorem dX11_landMany_11 : decode cX11_landMany 11 = .ok (.iload_n 1, 1) := by decide +kernel
theorem dX11_landMany_12 : decode cX11_landMany 12 = .ok (.aload_n 0, 1) := by decide +kernel
theorem dX11_landMany_13 : decode cX11_landMany 13 = .ok (.getfield 7, 3) := by decide +kernel
theorem dX11_landMany_16 : decode cX11_landMany 16 = .ok (.iload_n 2, 1) := by decide +kernel
theorem dX11_landMany_17 : decode cX11_landMany 17 = .ok (.iaload, 1) := by decide +kernel
theorem dX11_landMany_18 : decode cX11_landMany 18 = .ok (.iadd, 1) := by decide +kernel
theorem dX11_landMany_19 : decode cX11_landMany 19 = .ok (.istore_n 1, 1) := by decide +kernel
theorem dX11_landMany_20 : decode cX11_landMany 20 = .ok (.iinc 2 1, 3) := by decide +kernel
theorem dX11_landMany_23 : decode cX11_landMany 23 = .ok (.goto (-19), 3) := by decide +kernel
theorem dX11_landMany_26 : decode cX11_landMany 26 = .ok (.iload_n 1, 1) := by decide +kernel
theorem dX11_landMany_27 : decode cX11_landMany 27 = .ok (.ireturn, 1) := by decide +kernel
set_option maxRecDepth 20000 in
theorem ggX11_place_X11_isPlace : GoodIn wsX11_place wsX11_isPlace := goodIn_r _ [5, 6, 7, 4, 8] (by decide +kernel) (by decide +kernel)
set_option maxRecDepth 20000 in
theorem gX11_place_X11_isPlace : GoodIn wsX11_place (va_wsS RX11 121 yX11_isPlace wsX11_isPlace) := goodIn_app (goodIn_of _ (by decide +kernel)) ggX11_place_X11_isPlace
set_option maxRecDepth 20000 in
theorem ggX11_place_X11_numberOf : GoodIn wsX11_place wsX11_numberOf := goodIn_r _ [11] (by decide +kernel) (by decide +kernel)
set_option maxRecDepth 20000 in
theorem gX11_place_X11_numberOf : GoodIn wsX11_place (va_wsS RX11 102 yX11_numberOf wsX11_numberOf) := goodIn_app (goodIn_of _ (by decide +kernel)) ggX11_place_X11_numberOf
set_option maxRecDepth 20000 in
theorem ggX11_place_X11_seaOf : GoodIn wsX11_place wsX11_seaOf := goodIn_r _ [15, 16, 17, 18, 19, 4, 20, 1, 21, 22, 23, 24, 25, 26, 27, 28, 29, 30, 31, 32, 33, 34, 35, 36, 37, 38, 39, 9, 10, 11, 40, 41, 42, 43, 59, 60, 61, 62, 63, 64, 65, 66, 67, 68, 69, 70, 71, 72, 73, 74, 75, 76, 77] (by decide +kernel) (by decide +kernel)
set_option maxRecDepth 20000 in
theorem gX11_place_X11_seaOf : GoodIn wsX11_place (wsV RX11 125 RX11 yX11_seaOf wsX11_seaOf) := goodIn_app (goodIn_of _ (by decide +kernel)) ggX11_place_X11_seaOf
set_option maxRecDepth 20000 in
theorem ggX11_place_X11_isOnStrips : GoodIn wsX11_place wsX11_isOnStrips := goodIn_r _ [47, 1, 48, 49, 4, 50, 59, 60, 61, 62, 63, 64, 65, 66, 67, 68, 69, 70, 71, 72, 73, 74, 75, 76, 77] (by decide +kernel) (by decide +kernel)
set_option maxRecDepth 20000 in
theorem gX11_place_X11_isOnStrips : GoodIn wsX11_place (wsV RX11 128 RX11 yX11_isOnStrips wsX11_isOnStrips) := goodIn_app (goodIn_of _ (by decide +kernel)) ggX11_place_X11_isOnStrips
set_option maxRecDepth 20000 in
theorem ggX11_place_X11_stepOf : GoodIn wsX11_place wsX11_stepOf := goodIn_r _ [39, 28, 29, 4, 30] (by decide +kernel) (by decide +kernel)
set_option maxRecDepth 20000 in
theorem gX11_place_X11_stepOf : GoodIn wsX11_place (va_wsS RX11 89 yX11_stepOf wsX11_stepOf) := goodIn_app (goodIn_of _ (by decide +kernel)) ggX11_place_X11_stepOf
set_option maxRecDepth 20000 in
theorem ggX11_place_X11_wide : GoodIn wsX11_place wsX11_wide := goodIn_r _ [54, 1, 59, 60, 61, 62, 63, 64, 65, 66, 67, 68, 69, 70, 71, 72, 73, 74, 75, 76, 77] (by decide +kernel) (by decide +kernel)
set_option maxRecDepth 20000 in
theorem gX11_place_X11_wide : GoodIn wsX11_place (wsV RX11 81 RX11 yX11_wide wsX11_wide) := goodIn_app (goodIn_of _ (by decide +kernel)) ggX11_place_X11_wide
set_option maxRecDepth 20000 in
theorem ggX11_place_X11_isOnCap : GoodIn wsX11_place wsX11_isOnCap := goodIn_r _ [58, 1, 48, 49, 4, 50, 59, 60, 61, 62, 63, 64, 65, 66, 67, 68, 69, 70, 71, 72, 73, 74, 75, 76, 77] (by decide +kernel) (by decide +kernel)
set_option maxRecDepth 20000 in
theorem gX11_place_X11_isOnCap : GoodIn wsX11_place (wsV RX11 131 RX11 yX11_isOnCap wsX11_isOnCap) := goodIn_app (goodIn_of _ (by decide +kernel)) ggX11_place_X11_isOnCap
theorem dX11_place_0 : decode cX11_place 0 = .ok (.iload_n 1, 1) := by decide +kernel
theorem dX11_place_1 : decode cX11_place 1 = .ok (.iload_n 2, 1) := by decide +kernel
theorem dX11_place_2 : decode cX11_place 2 = .ok (.invokestatic 121, 3) := by decide +kernel
theorem dX11_place_5 : decode cX11_place 5 = .ok (.ifCond .ne 5, 3) := by decide +kernel
theorem dX11_place_8 : decode cX11_place 8 = .ok (.iconst (-1), 1) := by decide +kernel
theorem dX11_place_9 : decode cX11_place 9 = .ok (.ireturn, 1) := by decide +kernel
theorem dX11_place_10 : decode cX11_place 10 = .ok (.iload_n 1, 1) := by decide +kernel
theorem dX11_place_11 : decode cX11_place 11 = .ok (.iload_n 2, 1) := by decide +kernel
theorem dX11_place_12 : decode cX11_place 12 = .ok (.invokestatic 102, 3) := by decide +kernel
theorem dX11_place_15 : decode cX11_place 15 = .ok (.istore 4, 2) := by decide +kernel
theorem dX11_place_17 : decode cX11_place 17 = .ok (.iload_n 3, 1) := by decide +kernel
theorem dX11_place_18 : decode cX11_place 18 = .ok (.tableswitch 90 0 4 #[34, 37, 45, 52, 76], 34) := by decide +kernel
theorem dX11_place_52 : decode cX11_place 52 = .ok (.iload 4, 2) := by decide +kernel
theorem dX11_place_54 : decode cX11_place 54 = .ok (.ireturn, 1) := by decide +kernel
theorem dX11_place_55 : decode cX11_place 55 = .ok (.aload_n 0, 1) := by decide +kernel
theorem dX11_place_56 : decode cX11_place 56 = .ok (.getfield 7, 3) := by decide +kernel
theorem dX11_place_59 : decode cX11_place 59 = .ok (.iload 4, 2) := by decide +kernel
theorem dX11_place_61 : decode cX11_place 61 = .ok (.iaload, 1) := by decide +kernel
theorem dX11_place_62 : decode cX11_place 62 = .ok (.ireturn, 1) := by decide +kernel
theorem dX11_place_63 : decode cX11_place 63 = .ok (.aload_n 0, 1) := by decide +kernel
theorem dX11_place_64 : decode cX11_place 64 = .ok (.iload 4, 2) := by decide +kernel
theorem dX11_place_66 : decode cX11_place 66 = .ok (.invokevirtual 125, 3) := by decide +kernel
theorem dX11_place_69 : decode cX11_place 69 = .ok (.ireturn, 1) := by decide +kernel
theorem dX11_place_70 : decode cX11_place 70 = .ok (.aload_n 0, 1) := by decide +kernel
theorem dX11_place_71 : decode cX11_place 71 = .ok (.iload_n 1, 1) := by decide +kernel
theorem dX11_place_72 : decode cX11_place 72 = .ok (.invokevirtual 128, 3) := by decide +kernel
theorem dX11_place_75 : decode cX11_place 75 = .ok (.ifCond .eq 16, 3) := by decide +kernel
theorem dX11_place_78 : decode cX11_place 78 = .ok (.iload 4, 2) := by decide +kernel
theorem dX11_place_80 : decode cX11_place 80 = .ok (.invokestatic 89, 3) := by decide +kernel
theorem dX11_place_83 : decode cX11_place 83 = .ok (.aload_n 0, 1) := by decide +kernel
theorem dX11_place_84 : decode cX11_place 84 = .ok (.invokevirtual 81, 3) := by decide +kernel
theorem dX11_place_87 : decode cX11_place 87 = .ok (.idiv, 1) := by decide +kernel
theorem dX11_place_88 : decode cX11_place 88 = .ok (.goto 5, 3) := by decide +kernel
theorem dX11_place_91 : decode cX11_place 91 = .ok (.bipush (-4), 2) := by decide +kernel
theorem dX11_place_93 : decode cX11_place 93 = .ok (.ireturn, 1) := by decide +kernel
theorem dX11_place_94 : decode cX11_place 94 = .ok (.aload_n 0, 1) := by decide +kernel
theorem dX11_place_95 : decode cX11_place 95 = .ok (.iload_n 1, 1) := by decide +kernel
theorem dX11_place_96 : decode cX11_place 96 = .ok (.invokevirtual 131, 3) := by decide +kernel
theorem dX11_place_99 : decode cX11_place 99 = .ok (.ifCond .eq 7, 3) := by decide +kernel
theorem dX11_place_102 : decode cX11_place 102 = .ok (.iconst 1, 1) := by decide +kernel
theorem dX11_place_103 : decode cX11_place 103 = .ok (.goto 4, 3) := by decide +kernel
theorem dX11_place_106 : decode cX11_place 106 = .ok (.iconst 0, 1) := by decide +kernel
theorem dX11_place_107 : decode cX11_place 107 = .ok (.ireturn, 1) := by decide +kernel
theorem dX11_place_108 : decode cX11_place 108 = .ok (.iconst (-1), 1) := by decide +kernel
theorem dX11_place_109 : decode cX11_place 109 = .ok (.ireturn, 1) := by decide +kernel
set_option maxRecDepth 20000 in
theorem ggX11_flatOf_X11_xOf : GoodIn wsX11_flatOf wsX11_xOf := goodIn_r _ [5, 6, 7, 4, 8, 9, 10, 11, 12, 13, 14, 15, 16, 17, 18, 19, 20, 21, 22, 23, 24, 25, 26, 27, 28, 29, 30, 31, 32, 33, 34, 35, 36, 37, 38, 39, 40, 41, 42, 67, 68, 69, 70, 71, 72, 73, 74, 75, 76, 77, 78, 79, 80, 81, 82, 83, 84, 85] (by decide +kernel) (by decide +kernel)
set_option maxRecDepth 20000 in
theorem gX11_flatOf_X11_xOf : GoodIn wsX11_flatOf (wsV RX11 134 RX11 yX11_xOf wsX11_xOf) := goodIn_app (goodIn_of _ (by decide +kernel)) ggX11_flatOf_X11_xOf
set_option maxRecDepth 20000 in
theorem ggX11_flatOf_X11_rowOf : GoodIn wsX11_flatOf wsX11_rowOf := goodIn_r _ [19] (by decide +kernel) (by decide +kernel)
set_option maxRecDepth 20000 in
theorem gX11_flatOf_X11_rowOf : GoodIn wsX11_flatOf (va_wsS RX11 92 yX11_rowOf wsX11_rowOf) := goodIn_app (goodIn_of _ (by decide +kernel)) ggX11_flatOf_X11_rowOf
set_option maxRecDepth 20000 in
theorem ggX11_flatOf_X11_yOf : GoodIn wsX11_flatOf wsX11_yOf := goodIn_r _ [46, 16, 67, 68, 69, 70, 71, 72, 73, 74, 75, 76, 77, 78, 79, 80, 81, 82, 83, 84, 85] (by decide +kernel) (by decide +kernel)
set_option maxRecDepth 20000 in
theorem gX11_flatOf_X11_yOf : GoodIn wsX11_flatOf (wsV RX11 137 RX11 yX11_yOf wsX11_yOf) := goodIn_app (goodIn_of _ (by decide +kernel)) ggX11_flatOf_X11_yOf
set_option maxRecDepth 20000 in
theorem ggX11_flatOf_X11_isCut : GoodIn wsX11_flatOf wsX11_isCut := goodIn_r _ [50, 6, 7, 4, 8, 9, 10, 11, 12, 13, 14, 15, 16, 67, 68, 69, 70, 71, 72, 73, 74, 75, 76, 77, 78, 79, 80, 81, 82, 83, 84, 85] (by decide +kernel) (by decide +kernel)
set_option maxRecDepth 20000 in
theorem gX11_flatOf_X11_isCut : GoodIn wsX11_flatOf (wsV RX11 140 RX11 yX11_isCut wsX11_isCut) := goodIn_app (goodIn_of _ (by decide +kernel)) ggX11_flatOf_X11_isCut
set_option maxRecDepth 20000 in
theorem ggX11_flatOf_X11_twinX : GoodIn wsX11_flatOf wsX11_twinX := goodIn_r _ [54, 6, 7, 4, 8, 9, 10, 11, 12, 13, 14, 15, 16, 55, 56, 57, 58, 17, 18, 19, 20, 21, 22, 23, 24, 25, 26, 27, 28, 29, 30, 31, 32, 33, 34, 35, 36, 37, 38, 39, 40, 41, 42, 67, 68, 69, 70, 71, 72, 73, 74, 75, 76, 77, 78, 79, 80, 81, 82, 83, 84, 85] (by decide +kernel) (by decide +kernel)
set_option maxRecDepth 20000 in
theorem gX11_flatOf_X11_twinX : GoodIn wsX11_flatOf (wsV RX11 143 RX11 yX11_twinX wsX11_twinX) := goodIn_app (goodIn_of _ (by decide +kernel)) ggX11_flatOf_X11_twinX
set_option maxRecDepth 20000 in
theorem ggX11_flatOf_X11_capX : GoodIn wsX11_flatOf wsX11_capX := goodIn_r _ [62, 16, 17, 18, 4, 19, 31, 32, 33, 6, 7, 8, 9, 10, 11, 37, 38, 39, 40, 41, 42, 67, 68, 69, 70, 71, 72, 73, 74, 75, 76, 77, 78, 79, 80, 81, 82, 83, 84, 85] (by decide +kernel) (by decide +kernel)
set_option maxRecDepth 20000 in
theorem gX11_flatOf_X11_capX : GoodIn wsX11_flatOf (wsV RX11 146 RX11 yX11_capX wsX11_capX) := goodIn_app (goodIn_of _ (by decide +kernel)) ggX11_flatOf_X11_capX
set_option maxRecDepth 20000 in
theorem ggX11_flatOf_X11_capY : GoodIn wsX11_flatOf wsX11_capY := goodIn_r _ [66, 16, 17, 18, 4, 19, 31, 32, 33, 6, 7, 8, 9, 10, 11, 34, 35, 36, 37, 38, 39, 40, 41, 42, 67, 68, 69, 70, 71, 72, 73, 74, 75, 76, 77, 78, 79, 80, 81, 82, 83, 84, 85] (by decide +kernel) (by decide +kernel)
set_option maxRecDepth 20000 in
theorem gX11_flatOf_X11_capY : GoodIn wsX11_flatOf (wsV RX11 149 RX11 yX11_capY wsX11_capY) := goodIn_app (goodIn_of _ (by decide +kernel)) ggX11_flatOf_X11_capY
theorem dX11_flatOf_0 : decode cX11_flatOf 0 = .ok (.iload_n 2, 1) := by decide +kernel
theorem dX11_flatOf_1 : decode cX11_flatOf 1 = .ok (.tableswitch 71 0 3 #[31, 37, 46, 65], 31) := by decide +kernel
theorem dX11_flatOf_32 : decode cX11_flatOf 32 = .ok (.aload_n 0, 1) := by decide +kernel
theorem dX11_flatOf_33 : decode cX11_flatOf 33 = .ok (.iload_n 1, 1) := by decide +kernel
theorem dX11_flatOf_34 : decode cX11_flatOf 34 = .ok (.invokevirtual 134, 3) := by decide +kernel
theorem dX11_flatOf_37 : decode cX11_flatOf 37 = .ok (.ireturn, 1) := by decide +kernel
theorem dX11_flatOf_38 : decode cX11_flatOf 38 = .ok (.aload_n 0, 1) := by decide +kernel
theorem dX11_flatOf_39 : decode cX11_flatOf 39 = .ok (.iload_n 1, 1) := by decide +kernel
theorem dX11_flatOf_40 : decode cX11_flatOf 40 = .ok (.invokestatic 92, 3) := by decide +kernel
theorem dX11_flatOf_43 : decode cX11_flatOf 43 = .ok (.invokevirtual 137, 3) := by decide +kernel
theorem dX11_flatOf_46 : decode cX11_flatOf 46 = .ok (.ireturn, 1) := by decide +kernel
theorem dX11_flatOf_47 : decode cX11_flatOf 47 = .ok (.aload_n 0, 1) := by decide +kernel
theorem dX11_flatOf_48 : decode cX11_flatOf 48 = .ok (.iload_n 1, 1) := by decide +kernel
theorem dX11_flatOf_49 : decode cX11_flatOf 49 = .ok (.invokevirtual 140, 3) := by decide +kernel
theorem dX11_flatOf_52 : decode cX11_flatOf 52 = .ok (.ifCond .eq 11, 3) := by decide +kernel
theorem dX11_flatOf_55 : decode cX11_flatOf 55 = .ok (.aload_n 0, 1) := by decide +kernel
theorem dX11_flatOf_56 : decode cX11_flatOf 56 = .ok (.iload_n 1, 1) := by decide +kernel
theorem dX11_flatOf_57 : decode cX11_flatOf 57 = .ok (.invokevirtual 143, 3) := by decide +kernel
theorem dX11_flatOf_60 : decode cX11_flatOf 60 = .ok (.goto 5, 3) := by decide +kernel
theorem dX11_flatOf_63 : decode cX11_flatOf 63 = .ok (.bipush (-4), 2) := by decide +kernel
theorem dX11_flatOf_65 : decode cX11_flatOf 65 = .ok (.ireturn, 1) := by decide +kernel
theorem dX11_flatOf_66 : decode cX11_flatOf 66 = .ok (.aload_n 0, 1) := by decide +kernel
theorem dX11_flatOf_67 : decode cX11_flatOf 67 = .ok (.iload_n 1, 1) := by decide +kernel
theorem dX11_flatOf_68 : decode cX11_flatOf 68 = .ok (.invokevirtual 146, 3) := by decide +kernel
theorem dX11_flatOf_71 : decode cX11_flatOf 71 = .ok (.ireturn, 1) := by decide +kernel
theorem dX11_flatOf_72 : decode cX11_flatOf 72 = .ok (.aload_n 0, 1) := by decide +kernel
theorem dX11_flatOf_73 : decode cX11_flatOf 73 = .ok (.iload_n 1, 1) := by decide +kernel
theorem dX11_flatOf_74 : decode cX11_flatOf 74 = .ok (.invokevirtual 149, 3) := by decide +kernel
theorem dX11_flatOf_77 : decode cX11_flatOf 77 = .ok (.ireturn, 1) := by decide +kernel
set_option maxRecDepth 20000 in
theorem ggX11_flat_X11_isPlace : GoodIn wsX11_flat wsX11_isPlace := goodIn_r _ [4, 5, 6, 3, 7] (by decide +kernel) (by decide +kernel)
set_option maxRecDepth 20000 in
theorem gX11_flat_X11_isPlace : GoodIn wsX11_flat (va_wsS RX11 121 yX11_isPlace wsX11_isPlace) := goodIn_app (goodIn_of _ (by decide +kernel)) ggX11_flat_X11_isPlace
set_option maxRecDepth 20000 in
theorem ggX11_flat_X11_in : GoodIn wsX11_flat wsX11_in := goodIn_r _ [7] (by decide +kernel) (by decide +kernel)
set_option maxRecDepth 20000 in
theorem gX11_flat_X11_in : GoodIn wsX11_flat (va_wsS RX11 70 yX11_in wsX11_in) := goodIn_app (goodIn_of _ (by decide +kernel)) ggX11_flat_X11_in
set_option maxRecDepth 20000 in
theorem ggX11_flat_X11_isOnStrips : GoodIn wsX11_flat wsX11_isOnStrips := goodIn_r _ [11, 12, 13, 14, 3, 15, 88, 89, 90, 91, 92, 93, 94, 95, 96, 97, 98, 99, 100, 101, 102, 103, 104, 105, 106] (by decide +kernel) (by decide +kernel)
set_option maxRecDepth 20000 in
theorem gX11_flat_X11_isOnStrips : GoodIn wsX11_flat (wsV RX11 128 RX11 yX11_isOnStrips wsX11_isOnStrips) := goodIn_app (goodIn_of _ (by decide +kernel)) ggX11_flat_X11_isOnStrips
set_option maxRecDepth 20000 in
theorem ggX11_flat_X11_isOnCap : GoodIn wsX11_flat wsX11_isOnCap := goodIn_r _ [19, 12, 13, 14, 3, 15, 88, 89, 90, 91, 92, 93, 94, 95, 96, 97, 98, 99, 100, 101, 102, 103, 104, 105, 106] (by decide +kernel) (by decide +kernel)
set_option maxRecDepth 20000 in
theorem gX11_flat_X11_isOnCap : GoodIn wsX11_flat (wsV RX11 131 RX11 yX11_isOnCap wsX11_isOnCap) := goodIn_app (goodIn_of _ (by decide +kernel)) ggX11_flat_X11_isOnCap
set_option maxRecDepth 20000 in
theorem ggX11_flat_X11_numberOf : GoodIn wsX11_flat wsX11_numberOf := goodIn_r _ [22] (by decide +kernel) (by decide +kernel)
set_option maxRecDepth 20000 in
theorem gX11_flat_X11_numberOf : GoodIn wsX11_flat (va_wsS RX11 102 yX11_numberOf wsX11_numberOf) := goodIn_app (goodIn_of _ (by decide +kernel)) ggX11_flat_X11_numberOf
set_option maxRecDepth 20000 in
theorem ggX11_flat_X11_flatOf : GoodIn wsX11_flat wsX11_flatOf := goodIn_r _ [26, 27, 28, 29, 3, 30, 31, 32, 33, 34, 35, 36, 37, 38, 39, 40, 12, 41, 42, 43, 44, 45, 46, 47, 48, 49, 50, 51, 52, 53, 54, 13, 14, 15, 55, 56, 57, 58, 59, 60, 61, 62, 63, 64, 65, 66, 67, 68, 69, 70, 71, 72, 73, 74, 75, 76, 77, 78, 79, 80, 81, 82, 83, 84, 85, 86, 87, 88, 89, 90, 91, 92, 93, 94, 95, 96, 97, 98, 99, 100, 101, 102, 103, 104, 105, 106] (by decide +kernel) (by decide +kernel)
set_option maxRecDepth 20000 in
theorem gX11_flat_X11_flatOf : GoodIn wsX11_flat (wsV RX11 152 RX11 yX11_flatOf wsX11_flatOf) := goodIn_app (goodIn_of _ (by decide +kernel)) ggX11_flat_X11_flatOf
theorem dX11_flat_0 : decode cX11_flat 0 = .ok (.iload_n 1, 1) := by decide +kernel
theorem dX11_flat_1 : decode cX11_flat 1 = .ok (.iload_n 2, 1) := by decide +kernel
theorem dX11_flat_2 : decode cX11_flat 2 = .ok (.invokestatic 121, 3) := by decide +kernel
theorem dX11_flat_5 : decode cX11_flat 5 = .ok (.ifCond .eq 12, 3) := by decide +kernel
theorem dX11_flat_8 : decode cX11_flat 8 = .ok (.iload_n 3, 1) := by decide +kernel
theorem dX11_flat_9 : decode cX11_flat 9 = .ok (.iconst 0, 1) := by decide +kernel
theorem dX11_flat_10 : decode cX11_flat 10 = .ok (.iconst 4, 1) := by decide +kernel
theorem dX11_flat_11 : decode cX11_flat 11 = .ok (.invokestatic 70, 3) := by decide +kernel
theorem dX11_flat_14 : decode cX11_flat 14 = .ok (.ifCond .ne 5, 3) := by decide +kernel
theorem dX11_flat_17 : decode cX11_flat 17 = .ok (.iconst (-1), 1) := by decide +kernel
theorem dX11_flat_18 : decode cX11_flat 18 = .ok (.ireturn, 1) := by decide +kernel
theorem dX11_flat_19 : decode cX11_flat 19 = .ok (.iload_n 3, 1) := by decide +kernel
theorem dX11_flat_20 : decode cX11_flat 20 = .ok (.iconst 3, 1) := by decide +kernel
theorem dX11_flat_21 : decode cX11_flat 21 = .ok (.if_icmp .ge 11, 3) := by decide +kernel
theorem dX11_flat_24 : decode cX11_flat 24 = .ok (.aload_n 0, 1) := by decide +kernel
theorem dX11_flat_25 : decode cX11_flat 25 = .ok (.iload_n 1, 1) := by decide +kernel
theorem dX11_flat_26 : decode cX11_flat 26 = .ok (.invokevirtual 128, 3) := by decide +kernel
theorem dX11_flat_29 : decode cX11_flat 29 = .ok (.goto 8, 3) := by decide +kernel
theorem dX11_flat_32 : decode cX11_flat 32 = .ok (.aload_n 0, 1) := by decide +kernel
theorem dX11_flat_33 : decode cX11_flat 33 = .ok (.iload_n 1, 1) := by decide +kernel
theorem dX11_flat_34 : decode cX11_flat 34 = .ok (.invokevirtual 131, 3) := by decide +kernel
theorem dX11_flat_37 : decode cX11_flat 37 = .ok (.istore 4, 2) := by decide +kernel
theorem dX11_flat_39 : decode cX11_flat 39 = .ok (.iload 4, 2) := by decide +kernel
theorem dX11_flat_41 : decode cX11_flat 41 = .ok (.ifCond .eq 16, 3) := by decide +kernel
theorem dX11_flat_44 : decode cX11_flat 44 = .ok (.aload_n 0, 1) := by decide +kernel
theorem dX11_flat_45 : decode cX11_flat 45 = .ok (.iload_n 1, 1) := by decide +kernel
theorem dX11_flat_46 : decode cX11_flat 46 = .ok (.iload_n 2, 1) := by decide +kernel
theorem dX11_flat_47 : decode cX11_flat 47 = .ok (.invokestatic 102, 3) := by decide +kernel
theorem dX11_flat_50 : decode cX11_flat 50 = .ok (.iload_n 3, 1) := by decide +kernel
theorem dX11_flat_51 : decode cX11_flat 51 = .ok (.invokevirtual 152, 3) := by decide +kernel
theorem dX11_flat_54 : decode cX11_flat 54 = .ok (.goto 5, 3) := by decide +kernel
theorem dX11_flat_57 : decode cX11_flat 57 = .ok (.bipush (-4), 2) := by decide +kernel
theorem dX11_flat_59 : decode cX11_flat 59 = .ok (.ireturn, 1) := by decide +kernel
set_option maxRecDepth 20000 in
theorem ggX11_onStrips_X11_wide : GoodIn wsX11_onStrips wsX11_wide := goodIn_r _ [6, 1, 37, 38, 39, 40, 41, 42, 43, 44, 45, 46, 47, 48, 49, 50, 51, 52, 53, 54, 55] (by decide +kernel) (by decide +kernel)
set_option maxRecDepth 20000 in
theorem gX11_onStrips_X11_wide : GoodIn wsX11_onStrips (wsV RX11 81 RX11 yX11_wide wsX11_wide) := goodIn_app (goodIn_of _ (by decide +kernel)) ggX11_onStrips_X11_wide
set_option maxRecDepth 20000 in
theorem ggX11_onStrips_X11_isOnStrips : GoodIn wsX11_onStrips wsX11_isOnStrips := goodIn_r _ [10, 1, 11, 12, 5, 13, 37, 38, 39, 40, 41, 42, 43, 44, 45, 46, 47, 48, 49, 50, 51, 52, 53, 54, 55] (by decide +kernel) (by decide +kernel)
set_option maxRecDepth 20000 in
theorem gX11_onStrips_X11_isOnStrips : GoodIn wsX11_onStrips (wsV RX11 128 RX11 yX11_isOnStrips wsX11_isOnStrips) := goodIn_app (goodIn_of _ (by decide +kernel)) ggX11_onStrips_X11_isOnStrips
set_option maxRecDepth 20000 in
theorem ggX11_onStrips_X11_size : GoodIn wsX11_onStrips wsX11_size := goodIn_r _ [13] (by decide +kernel) (by decide +kernel)
set_option maxRecDepth 20000 in
theorem gX11_onStrips_X11_size : GoodIn wsX11_onStrips (va_wsS RX11 64 yX11_size wsX11_size) := goodIn_app (goodIn_of _ (by decide +kernel)) ggX11_onStrips_X11_size
set_option maxRecDepth 20000 in
theorem ggX11_onStrips_X11_wideOf : GoodIn wsX11_onStrips wsX11_wideOf := goodIn_r _ [16, 11, 12, 5, 13, 17, 18, 19, 20, 21, 22, 23, 24, 25] (by decide +kernel) (by decide +kernel)
set_option maxRecDepth 20000 in
theorem gX11_onStrips_X11_wideOf : GoodIn wsX11_onStrips (va_wsS RX11 78 yX11_wideOf wsX11_wideOf) := goodIn_app (goodIn_of _ (by decide +kernel)) ggX11_onStrips_X11_wideOf
set_option maxRecDepth 20000 in
theorem ggX11_onStrips_X11_across : GoodIn wsX11_onStrips wsX11_across := goodIn_r _ [29, 2, 3, 4, 5, 6, 1, 30, 31, 32, 33, 14, 15, 16, 11, 12, 13, 17, 18, 19, 20, 21, 22, 23, 24, 25, 37, 38, 39, 40, 41, 42, 43, 44, 45, 46, 47, 48, 49, 50, 51, 52, 53, 54, 55] (by decide +kernel) (by decide +kernel)
set_option maxRecDepth 20000 in
theorem gX11_onStrips_X11_across : GoodIn wsX11_onStrips (wsV RX11 95 RX11 yX11_across wsX11_across) := goodIn_app (goodIn_of _ (by decide +kernel)) ggX11_onStrips_X11_across
set_option maxRecDepth 20000 in
theorem ggX11_onStrips_X11_numberOf : GoodIn wsX11_onStrips wsX11_numberOf := goodIn_r _ [36] (by decide +kernel) (by decide +kernel)
set_option maxRecDepth 20000 in
theorem gX11_onStrips_X11_numberOf : GoodIn wsX11_onStrips (va_wsS RX11 102 yX11_numberOf wsX11_numberOf) := goodIn_app (goodIn_of _ (by decide +kernel)) ggX11_onStrips_X11_numberOf
theorem dX11_onStrips_0 : decode cX11_onStrips 0 = .ok (.iload_n 2, 1) := by decide +kernel
theorem dX11_onStrips_1 : decode cX11_onStrips 1 = .ok (.aload_n 0, 1) := by decide +kernel
theorem dX11_onStrips_2 : decode cX11_onStrips 2 = .ok (.getfield 7, 3) := by decide +kernel
theorem dX11_onStrips_5 : decode cX11_onStrips 5 = .ok (.sipush 266, 3) := by decide +kernel
theorem dX11_onStrips_8 : decode cX11_onStrips 8 = .ok (.iaload, 1) := by decide +kernel
theorem dX11_onStrips_9 : decode cX11_onStrips 9 = .ok (.iadd, 1) := by decide +kernel
theorem dX11_onStrips_10 : decode cX11_onStrips 10 = .ok (.iconst 2, 1) := by decide +kernel
theorem dX11_onStrips_11 : decode cX11_onStrips 11 = .ok (.aload_n 0, 1) := by decide +kernel
theorem dX11_onStrips_12 : decode cX11_onStrips 12 = .ok (.getfield 7, 3) := by decide +kernel
theorem dX11_onStrips_15 : decode cX11_onStrips 15 = .ok (.sipush 266, 3) := by decide +kernel
theorem dX11_onStrips_18 : decode cX11_onStrips 18 = .ok (.iaload, 1) := by decide +kernel
theorem dX11_onStrips_19 : decode cX11_onStrips 19 = .ok (.imul, 1) := by decide +kernel
theorem dX11_onStrips_20 : decode cX11_onStrips 20 = .ok (.idiv, 1) := by decide +kernel
theorem dX11_onStrips_21 : decode cX11_onStrips 21 = .ok (.bipush 6, 2) := by decide +kernel
theorem dX11_onStrips_23 : decode cX11_onStrips 23 = .ok (.isub, 1) := by decide +kernel
theorem dX11_onStrips_24 : decode cX11_onStrips 24 = .ok (.istore_n 3, 1) := by decide +kernel
theorem dX11_onStrips_25 : decode cX11_onStrips 25 = .ok (.iload_n 1, 1) := by decide +kernel
theorem dX11_onStrips_26 : decode cX11_onStrips 26 = .ok (.iconst 2, 1) := by decide +kernel
theorem dX11_onStrips_27 : decode cX11_onStrips 27 = .ok (.aload_n 0, 1) := by decide +kernel
theorem dX11_onStrips_28 : decode cX11_onStrips 28 = .ok (.invokevirtual 81, 3) := by decide +kernel
theorem dX11_onStrips_31 : decode cX11_onStrips 31 = .ok (.imul, 1) := by decide +kernel
theorem dX11_onStrips_32 : decode cX11_onStrips 32 = .ok (.aload_n 0, 1) := by decide +kernel
theorem dX11_onStrips_33 : decode cX11_onStrips 33 = .ok (.getfield 7, 3) := by decide +kernel
theorem dX11_onStrips_36 : decode cX11_onStrips 36 = .ok (.sipush 266, 3) := by decide +kernel
theorem dX11_onStrips_39 : decode cX11_onStrips 39 = .ok (.iaload, 1) := by decide +kernel
theorem dX11_onStrips_40 : decode cX11_onStrips 40 = .ok (.imul, 1) := by decide +kernel
theorem dX11_onStrips_41 : decode cX11_onStrips 41 = .ok (.idiv, 1) := by decide +kernel
theorem dX11_onStrips_42 : decode cX11_onStrips 42 = .ok (.istore 4, 2) := by decide +kernel
theorem dX11_onStrips_44 : decode cX11_onStrips 44 = .ok (.iload 4, 2) := by decide +kernel
theorem dX11_onStrips_46 : decode cX11_onStrips 46 = .ok (.aload_n 0, 1) := by decide +kernel
theorem dX11_onStrips_47 : decode cX11_onStrips 47 = .ok (.getfield 7, 3) := by decide +kernel
theorem dX11_onStrips_50 : decode cX11_onStrips 50 = .ok (.sipush 267, 3) := by decide +kernel
theorem dX11_onStrips_53 : decode cX11_onStrips 53 = .ok (.iaload, 1) := by decide +kernel
theorem dX11_onStrips_54 : decode cX11_onStrips 54 = .ok (.if_icmp .ne 10, 3) := by decide +kernel
theorem dX11_onStrips_57 : decode cX11_onStrips 57 = .ok (.iload 4, 2) := by decide +kernel
theorem dX11_onStrips_59 : decode cX11_onStrips 59 = .ok (.iconst 1, 1) := by decide +kernel
theorem dX11_onStrips_60 : decode cX11_onStrips 60 = .ok (.isub, 1) := by decide +kernel
theorem dX11_onStrips_61 : decode cX11_onStrips 61 = .ok (.goto 5, 3) := by decide +kernel
theorem dX11_onStrips_64 : decode cX11_onStrips 64 = .ok (.iload 4, 2) := by decide +kernel
theorem dX11_onStrips_66 : decode cX11_onStrips 66 = .ok (.istore 4, 2) := by decide +kernel
theorem dX11_onStrips_68 : decode cX11_onStrips 68 = .ok (.iconst 2, 1) := by decide +kernel
theorem dX11_onStrips_69 : decode cX11_onStrips 69 = .ok (.iload 4, 2) := by decide +kernel
theorem dX11_onStrips_71 : decode cX11_onStrips 71 = .ok (.imul, 1) := by decide +kernel
theorem dX11_onStrips_72 : decode cX11_onStrips 72 = .ok (.iconst 1, 1) := by decide +kernel
theorem dX11_onStrips_73 : decode cX11_onStrips 73 = .ok (.iadd, 1) := by decide +kernel
theorem dX11_onStrips_74 : decode cX11_onStrips 74 = .ok (.aload_n 0, 1) := by decide +kernel
theorem dX11_onStrips_75 : decode cX11_onStrips 75 = .ok (.invokevirtual 81, 3) := by decide +kernel
theorem dX11_onStrips_78 : decode cX11_onStrips 78 = .ok (.imul, 1) := by decide +kernel
theorem dX11_onStrips_79 : decode cX11_onStrips 79 = .ok (.aload_n 0, 1) := by decide +kernel
theorem dX11_onStrips_80 : decode cX11_onStrips 80 = .ok (.getfield 7, 3) := by decide +kernel
theorem dX11_onStrips_83 : decode cX11_onStrips 83 = .ok (.sipush 266, 3) := by decide +kernel
theorem dX11_onStrips_86 : decode cX11_onStrips 86 = .ok (.iaload, 1) := by decide +kernel
theorem dX11_onStrips_87 : decode cX11_onStrips 87 = .ok (.imul, 1) := by decide +kernel
theorem dX11_onStrips_88 : decode cX11_onStrips 88 = .ok (.istore 5, 2) := by decide +kernel
theorem dX11_onStrips_90 : decode cX11_onStrips 90 = .ok (.aload_n 0, 1) := by decide +kernel
theorem dX11_onStrips_91 : decode cX11_onStrips 91 = .ok (.iload_n 3, 1) := by decide +kernel
theorem dX11_onStrips_92 : decode cX11_onStrips 92 = .ok (.invokevirtual 128, 3) := by decide +kernel
theorem dX11_onStrips_95 : decode cX11_onStrips 95 = .ok (.ifCond .eq 35, 3) := by decide +kernel
theorem dX11_onStrips_98 : decode cX11_onStrips 98 = .ok (.iload_n 1, 1) := by decide +kernel
theorem dX11_onStrips_99 : decode cX11_onStrips 99 = .ok (.iload 5, 2) := by decide +kernel
theorem dX11_onStrips_101 : decode cX11_onStrips 101 = .ok (.isub, 1) := by decide +kernel
theorem dX11_onStrips_102 : decode cX11_onStrips 102 = .ok (.invokestatic 64, 3) := by decide +kernel
theorem dX11_onStrips_105 : decode cX11_onStrips 105 = .ok (.aload_n 0, 1) := by decide +kernel
theorem dX11_onStrips_106 : decode cX11_onStrips 106 = .ok (.invokevirtual 81, 3) := by decide +kernel
theorem dX11_onStrips_109 : decode cX11_onStrips 109 = .ok (.aload_n 0, 1) := by decide +kernel
theorem dX11_onStrips_110 : decode cX11_onStrips 110 = .ok (.getfield 7, 3) := by decide +kernel
theorem dX11_onStrips_113 : decode cX11_onStrips 113 = .ok (.sipush 266, 3) := by decide +kernel
theorem dX11_onStrips_116 : decode cX11_onStrips 116 = .ok (.iaload, 1) := by decide +kernel
theorem dX11_onStrips_117 : decode cX11_onStrips 117 = .ok (.imul, 1) := by decide +kernel
theorem dX11_onStrips_118 : decode cX11_onStrips 118 = .ok (.iload_n 3, 1) := by decide +kernel
theorem dX11_onStrips_119 : decode cX11_onStrips 119 = .ok (.invokestatic 78, 3) := by decide +kernel
theorem dX11_onStrips_122 : decode cX11_onStrips 122 = .ok (.imul, 1) := by decide +kernel
theorem dX11_onStrips_123 : decode cX11_onStrips 123 = .ok (.sipush 10000, 3) := by decide +kernel
theorem dX11_onStrips_126 : decode cX11_onStrips 126 = .ok (.idiv, 1) := by decide +kernel
theorem dX11_onStrips_127 : decode cX11_onStrips 127 = .ok (.if_icmp .le 6, 3) := by decide +kernel
theorem dX11_onStrips_130 : decode cX11_onStrips 130 = .ok (.bipush (-4), 2) := by decide +kernel
theorem dX11_onStrips_132 : decode cX11_onStrips 132 = .ok (.ireturn, 1) := by decide +kernel
theorem dX11_onStrips_133 : decode cX11_onStrips 133 = .ok (.iconst 0, 1) := by decide +kernel
theorem dX11_onStrips_134 : decode cX11_onStrips 134 = .ok (.istore 6, 2) := by decide +kernel
theorem dX11_onStrips_136 : decode cX11_onStrips 136 = .ok (.iconst 1, 1) := by decide +kernel
theorem dX11_onStrips_137 : decode cX11_onStrips 137 = .ok (.istore 7, 2) := by decide +kernel
theorem dX11_onStrips_139 : decode cX11_onStrips 139 = .ok (.iload 7, 2) := by decide +kernel
theorem dX11_onStrips_141 : decode cX11_onStrips 141 = .ok (.aload_n 0, 1) := by decide +kernel
theorem dX11_onStrips_142 : decode cX11_onStrips 142 = .ok (.invokevirtual 81, 3) := by decide +kernel
theorem dX11_onStrips_145 : decode cX11_onStrips 145 = .ok (.if_icmp .gt 53, 3) := by decide +kernel
theorem dX11_onStrips_148 : decode cX11_onStrips 148 = .ok (.iload_n 1, 1) := by decide +kernel
theorem dX11_onStrips_149 : decode cX11_onStrips 149 = .ok (.aload_n 0, 1) := by decide +kernel
theorem dX11_onStrips_150 : decode cX11_onStrips 150 = .ok (.iload 4, 2) := by decide +kernel
theorem dX11_onStrips_152 : decode cX11_onStrips 152 = .ok (.iload 7, 2) := by decide +kernel
theorem dX11_onStrips_154 : decode cX11_onStrips 154 = .ok (.iload_n 3, 1) := by decide +kernel
theorem dX11_onStrips_155 : decode cX11_onStrips 155 = .ok (.invokevirtual 95, 3) := by decide +kernel
theorem dX11_onStrips_158 : decode cX11_onStrips 158 = .ok (.isub, 1) := by decide +kernel
theorem dX11_onStrips_159 : decode cX11_onStrips 159 = .ok (.invokestatic 64, 3) := by decide +kernel
theorem dX11_onStrips_162 : decode cX11_onStrips 162 = .ok (.istore 8, 2) := by decide +kernel
theorem dX11_onStrips_164 : decode cX11_onStrips 164 = .ok (.iload 8, 2) := by decide +kernel
theorem dX11_onStrips_166 : decode cX11_onStrips 166 = .ok (.iload_n 1, 1) := by decide +kernel
theorem dX11_onStrips_167 : decode cX11_onStrips 167 = .ok (.aload_n 0, 1) := by decide +kernel
theorem dX11_onStrips_168 : decode cX11_onStrips 168 = .ok (.iload 4, 2) := by decide +kernel
theorem dX11_onStrips_170 : decode cX11_onStrips 170 = .ok (.iload 6, 2) := by decide +kernel
theorem dX11_onStrips_172 : decode cX11_onStrips 172 = .ok (.iload_n 3, 1) := by decide +kernel
theorem dX11_onStrips_173 : decode cX11_onStrips 173 = .ok (.invokevirtual 95, 3) := by decide +kernel
theorem dX11_onStrips_176 : decode cX11_onStrips 176 = .ok (.isub, 1) := by decide +kernel
theorem dX11_onStrips_177 : decode cX11_onStrips 177 = .ok (.invokestatic 64, 3) := by decide +kernel
theorem dX11_onStrips_180 : decode cX11_onStrips 180 = .ok (.if_icmp .ge 8, 3) := by decide +kernel
theorem dX11_onStrips_183 : decode cX11_onStrips 183 = .ok (.iload 7, 2) := by decide +kernel
theorem dX11_onStrips_185 : decode cX11_onStrips 185 = .ok (.goto 5, 3) := by decide +kernel
theorem dX11_onStrips_188 : decode cX11_onStrips 188 = .ok (.iload 6, 2) := by decide +kernel
theorem dX11_onStrips_190 : decode cX11_onStrips 190 = .ok (.istore 6, 2) := by decide +kernel
theorem dX11_onStrips_192 : decode cX11_onStrips 192 = .ok (.iinc 7 1, 3) := by decide +kernel
theorem dX11_onStrips_195 : decode cX11_onStrips 195 = .ok (.goto (-56), 3) := by decide +kernel
theorem dX11_onStrips_198 : decode cX11_onStrips 198 = .ok (.iload_n 3, 1) := by decide +kernel
theorem dX11_onStrips_199 : decode cX11_onStrips 199 = .ok (.iload 4, 2) := by decide +kernel
theorem dX11_onStrips_201 : decode cX11_onStrips 201 = .ok (.aload_n 0, 1) := by decide +kernel
theorem dX11_onStrips_202 : decode cX11_onStrips 202 = .ok (.invokevirtual 81, 3) := by decide +kernel
theorem dX11_onStrips_205 : decode cX11_onStrips 205 = .ok (.imul, 1) := by decide +kernel
theorem dX11_onStrips_206 : decode cX11_onStrips 206 = .ok (.iload 6, 2) := by decide +kernel
theorem dX11_onStrips_208 : decode cX11_onStrips 208 = .ok (.iadd, 1) := by decide +kernel
theorem dX11_onStrips_209 : decode cX11_onStrips 209 = .ok (.bipush 24, 2) := by decide +kernel
theorem dX11_onStrips_211 : decode cX11_onStrips 211 = .ok (.irem, 1) := by decide +kernel
theorem dX11_onStrips_212 : decode cX11_onStrips 212 = .ok (.invokestatic 102, 3) := by decide +kernel
theorem dX11_onStrips_215 : decode cX11_onStrips 215 = .ok (.ireturn, 1) := by decide +kernel
set_option maxRecDepth 20000 in
theorem ggX11_onCap_X11_rowOf : GoodIn wsX11_onCap wsX11_rowOf := goodIn_r _ [5] (by decide +kernel) (by decide +kernel)
set_option maxRecDepth 20000 in
theorem gX11_onCap_X11_rowOf : GoodIn wsX11_onCap (va_wsS RX11 92 yX11_rowOf wsX11_rowOf) := goodIn_app (goodIn_of _ (by decide +kernel)) ggX11_onCap_X11_rowOf
set_option maxRecDepth 20000 in
theorem ggX11_onCap_X11_isOnCap : GoodIn wsX11_onCap wsX11_isOnCap := goodIn_r _ [9, 10, 11, 12, 4, 13, 37, 38, 39, 40, 41, 42, 43, 44, 45, 46, 47, 48, 49, 50, 51, 52, 53, 54, 55] (by decide +kernel) (by decide +kernel)
set_option maxRecDepth 20000 in
theorem gX11_onCap_X11_isOnCap : GoodIn wsX11_onCap (wsV RX11 131 RX11 yX11_isOnCap wsX11_isOnCap) := goodIn_app (goodIn_of _ (by decide +kernel)) ggX11_onCap_X11_isOnCap
set_option maxRecDepth 20000 in
theorem ggX11_onCap_X11_capX : GoodIn wsX11_onCap wsX11_capX := goodIn_r _ [17, 10, 2, 3, 4, 5, 11, 12, 13, 18, 19, 20, 21, 22, 23, 24, 25, 26, 27, 28, 29, 37, 38, 39, 40, 41, 42, 43, 44, 45, 46, 47, 48, 49, 50, 51, 52, 53, 54, 55] (by decide +kernel) (by decide +kernel)
set_option maxRecDepth 20000 in
theorem gX11_onCap_X11_capX : GoodIn wsX11_onCap (wsV RX11 146 RX11 yX11_capX wsX11_capX) := goodIn_app (goodIn_of _ (by decide +kernel)) ggX11_onCap_X11_capX
set_option maxRecDepth 20000 in
theorem ggX11_onCap_X11_capY : GoodIn wsX11_onCap wsX11_capY := goodIn_r _ [33, 10, 2, 3, 4, 5, 11, 12, 13, 18, 19, 20, 21, 22, 23, 34, 35, 36, 24, 25, 26, 27, 28, 29, 37, 38, 39, 40, 41, 42, 43, 44, 45, 46, 47, 48, 49, 50, 51, 52, 53, 54, 55] (by decide +kernel) (by decide +kernel)
set_option maxRecDepth 20000 in
theorem gX11_onCap_X11_capY : GoodIn wsX11_onCap (wsV RX11 149 RX11 yX11_capY wsX11_capY) := goodIn_app (goodIn_of _ (by decide +kernel)) ggX11_onCap_X11_capY
theorem dX11_onCap_0 : decode cX11_onCap 0 = .ok (.bipush (-4), 2) := by decide +kernel
theorem dX11_onCap_2 : decode cX11_onCap 2 = .ok (.istore 4, 2) := by decide +kernel
theorem dX11_onCap_4 : decode cX11_onCap 4 = .ok (.ldc 155, 2) := by decide +kernel
theorem dX11_onCap_6 : decode cX11_onCap 6 = .ok (.istore 5, 2) := by decide +kernel
theorem dX11_onCap_8 : decode cX11_onCap 8 = .ok (.iconst 0, 1) := by decide +kernel
theorem dX11_onCap_9 : decode cX11_onCap 9 = .ok (.istore 6, 2) := by decide +kernel
theorem dX11_onCap_11 : decode cX11_onCap 11 = .ok (.iload 6, 2) := by decide +kernel
theorem dX11_onCap_13 : decode cX11_onCap 13 = .ok (.sipush 266, 3) := by decide +kernel
theorem dX11_onCap_16 : decode cX11_onCap 16 = .ok (.if_icmp .ge 104, 3) := by decide +kernel
theorem dX11_onCap_19 : decode cX11_onCap 19 = .ok (.iload 6, 2) := by decide +kernel
theorem dX11_onCap_21 : decode cX11_onCap 21 = .ok (.invokestatic 92, 3) := by decide +kernel
theorem dX11_onCap_24 : decode cX11_onCap 24 = .ok (.istore 7, 2) := by decide +kernel
theorem dX11_onCap_26 : decode cX11_onCap 26 = .ok (.aload_n 0, 1) := by decide +kernel
theorem dX11_onCap_27 : decode cX11_onCap 27 = .ok (.iload 7, 2) := by decide +kernel
theorem dX11_onCap_29 : decode cX11_onCap 29 = .ok (.invokevirtual 131, 3) := by decide +kernel
theorem dX11_onCap_32 : decode cX11_onCap 32 = .ok (.ifCond .eq 82, 3) := by decide +kernel
theorem dX11_onCap_35 : decode cX11_onCap 35 = .ok (.iload 7, 2) := by decide +kernel
theorem dX11_onCap_37 : decode cX11_onCap 37 = .ok (.ifCond .le 7, 3) := by decide +kernel
theorem dX11_onCap_40 : decode cX11_onCap 40 = .ok (.iconst 1, 1) := by decide +kernel
theorem dX11_onCap_41 : decode cX11_onCap 41 = .ok (.goto 4, 3) := by decide +kernel
theorem dX11_onCap_44 : decode cX11_onCap 44 = .ok (.iconst 0, 1) := by decide +kernel
theorem dX11_onCap_45 : decode cX11_onCap 45 = .ok (.iload_n 3, 1) := by decide +kernel
theorem dX11_onCap_46 : decode cX11_onCap 46 = .ok (.if_icmp .ne 68, 3) := by decide +kernel
theorem dX11_onCap_49 : decode cX11_onCap 49 = .ok (.iload_n 1, 1) := by decide +kernel
theorem dX11_onCap_50 : decode cX11_onCap 50 = .ok (.aload_n 0, 1) := by decide +kernel
theorem dX11_onCap_51 : decode cX11_onCap 51 = .ok (.iload 6, 2) := by decide +kernel
theorem dX11_onCap_53 : decode cX11_onCap 53 = .ok (.invokevirtual 146, 3) := by decide +kernel
theorem dX11_onCap_56 : decode cX11_onCap 56 = .ok (.isub, 1) := by decide +kernel
theorem dX11_onCap_57 : decode cX11_onCap 57 = .ok (.istore 8, 2) := by decide +kernel
theorem dX11_onCap_59 : decode cX11_onCap 59 = .ok (.iload_n 2, 1) := by decide +kernel
theorem dX11_onCap_60 : decode cX11_onCap 60 = .ok (.aload_n 0, 1) := by decide +kernel
theorem dX11_onCap_61 : decode cX11_onCap 61 = .ok (.iload 6, 2) := by decide +kernel
theorem dX11_onCap_63 : decode cX11_onCap 63 = .ok (.invokevirtual 149, 3) := by decide +kernel
theorem dX11_onCap_66 : decode cX11_onCap 66 = .ok (.isub, 1) := by decide +kernel
theorem dX11_onCap_67 : decode cX11_onCap 67 = .ok (.istore 9, 2) := by decide +kernel
theorem dX11_onCap_69 : decode cX11_onCap 69 = .ok (.iload 8, 2) := by decide +kernel
theorem dX11_onCap_71 : decode cX11_onCap 71 = .ok (.iload 8, 2) := by decide +kernel
theorem dX11_onCap_73 : decode cX11_onCap 73 = .ok (.imul, 1) := by decide +kernel
theorem dX11_onCap_74 : decode cX11_onCap 74 = .ok (.iload 9, 2) := by decide +kernel
theorem dX11_onCap_76 : decode cX11_onCap 76 = .ok (.iload 9, 2) := by decide +kernel
theorem dX11_onCap_78 : decode cX11_onCap 78 = .ok (.imul, 1) := by decide +kernel
theorem dX11_onCap_79 : decode cX11_onCap 79 = .ok (.iadd, 1) := by decide +kernel
theorem dX11_onCap_80 : decode cX11_onCap 80 = .ok (.istore 10, 2) := by decide +kernel
theorem dX11_onCap_82 : decode cX11_onCap 82 = .ok (.iload 10, 2) := by decide +kernel
theorem dX11_onCap_84 : decode cX11_onCap 84 = .ok (.iload 5, 2) := by decide +kernel
theorem dX11_onCap_86 : decode cX11_onCap 86 = .ok (.if_icmp .ge 8, 3) := by decide +kernel
theorem dX11_onCap_89 : decode cX11_onCap 89 = .ok (.iload 6, 2) := by decide +kernel
theorem dX11_onCap_91 : decode cX11_onCap 91 = .ok (.goto 5, 3) := by decide +kernel
theorem dX11_onCap_94 : decode cX11_onCap 94 = .ok (.iload 4, 2) := by decide +kernel
theorem dX11_onCap_96 : decode cX11_onCap 96 = .ok (.istore 4, 2) := by decide +kernel
theorem dX11_onCap_98 : decode cX11_onCap 98 = .ok (.iload 10, 2) := by decide +kernel
theorem dX11_onCap_100 : decode cX11_onCap 100 = .ok (.iload 5, 2) := by decide +kernel
theorem dX11_onCap_102 : decode cX11_onCap 102 = .ok (.if_icmp .ge 8, 3) := by decide +kernel
theorem dX11_onCap_105 : decode cX11_onCap 105 = .ok (.iload 10, 2) := by decide +kernel
theorem dX11_onCap_107 : decode cX11_onCap 107 = .ok (.goto 5, 3) := by decide +kernel
theorem dX11_onCap_110 : decode cX11_onCap 110 = .ok (.iload 5, 2) := by decide +kernel
theorem dX11_onCap_112 : decode cX11_onCap 112 = .ok (.istore 5, 2) := by decide +kernel
theorem dX11_onCap_114 : decode cX11_onCap 114 = .ok (.iinc 6 1, 3) := by decide +kernel
theorem dX11_onCap_117 : decode cX11_onCap 117 = .ok (.goto (-106), 3) := by decide +kernel
theorem dX11_onCap_120 : decode cX11_onCap 120 = .ok (.iload 4, 2) := by decide +kernel
theorem dX11_onCap_122 : decode cX11_onCap 122 = .ok (.ireturn, 1) := by decide +kernel
set_option maxRecDepth 20000 in
theorem ggX11_back_X11_in : GoodIn wsX11_back wsX11_in := goodIn_r _ [5] (by decide +kernel) (by decide +kernel)
set_option maxRecDepth 20000 in
theorem gX11_back_X11_in : GoodIn wsX11_back (va_wsS RX11 70 yX11_in wsX11_in) := goodIn_app (goodIn_of _ (by decide +kernel)) ggX11_back_X11_in
set_option maxRecDepth 20000 in
theorem ggX11_back_X11_onStrips : GoodIn wsX11_back wsX11_onStrips := goodIn_r _ [9, 1, 10, 11, 12, 4, 13, 14, 15, 16, 17, 18, 19, 20, 21, 22, 23, 24, 25, 26, 27, 28, 29, 30, 31, 32, 33, 34, 35, 36, 37, 38, 39, 40, 41, 42, 43, 70, 71, 72, 73, 74, 75, 76, 77, 78, 79, 80, 81, 82, 83, 84, 85, 86, 87, 88] (by decide +kernel) (by decide +kernel)
set_option maxRecDepth 20000 in
theorem gX11_back_X11_onStrips : GoodIn wsX11_back (wsV RX11 156 RX11 yX11_onStrips wsX11_onStrips) := goodIn_app (goodIn_of _ (by decide +kernel)) ggX11_back_X11_onStrips
set_option maxRecDepth 20000 in
theorem ggX11_back_X11_onCap : GoodIn wsX11_back wsX11_onCap := goodIn_r _ [47, 48, 49, 50, 4, 51, 52, 53, 54, 55, 1, 18, 19, 20, 56, 57, 58, 59, 60, 61, 62, 63, 64, 65, 27, 28, 29, 30, 31, 32, 66, 67, 68, 69, 24, 25, 26, 70, 71, 72, 73, 74, 75, 76, 77, 78, 79, 80, 81, 82, 83, 84, 85, 86, 87, 88] (by decide +kernel) (by decide +kernel)
set_option maxRecDepth 20000 in
theorem gX11_back_X11_onCap : GoodIn wsX11_back (wsV RX11 159 RX11 yX11_onCap wsX11_onCap) := goodIn_app (goodIn_of _ (by decide +kernel)) ggX11_back_X11_onCap
theorem dX11_back_0 : decode cX11_back 0 = .ok (.iload_n 1, 1) := by decide +kernel
theorem dX11_back_1 : decode cX11_back 1 = .ok (.iconst 0, 1) := by decide +kernel
theorem dX11_back_2 : decode cX11_back 2 = .ok (.iconst 2, 1) := by decide +kernel
theorem dX11_back_3 : decode cX11_back 3 = .ok (.invokestatic 70, 3) := by decide +kernel
theorem dX11_back_6 : decode cX11_back 6 = .ok (.ifCond .ne 5, 3) := by decide +kernel
theorem dX11_back_9 : decode cX11_back 9 = .ok (.iconst (-1), 1) := by decide +kernel
theorem dX11_back_10 : decode cX11_back 10 = .ok (.ireturn, 1) := by decide +kernel
theorem dX11_back_11 : decode cX11_back 11 = .ok (.iload_n 1, 1) := by decide +kernel
theorem dX11_back_12 : decode cX11_back 12 = .ok (.ifCond .ne 17, 3) := by decide +kernel
theorem dX11_back_15 : decode cX11_back 15 = .ok (.bipush 48, 2) := by decide +kernel
theorem dX11_back_17 : decode cX11_back 17 = .ok (.aload_n 0, 1) := by decide +kernel
theorem dX11_back_18 : decode cX11_back 18 = .ok (.getfield 7, 3) := by decide +kernel
theorem dX11_back_21 : decode cX11_back 21 = .ok (.sipush 266, 3) := by decide +kernel
theorem dX11_back_24 : decode cX11_back 24 = .ok (.iaload, 1) := by decide +kernel
theorem dX11_back_25 : decode cX11_back 25 = .ok (.imul, 1) := by decide +kernel
theorem dX11_back_26 : decode cX11_back 26 = .ok (.goto 22, 3) := by decide +kernel
theorem dX11_back_29 : decode cX11_back 29 = .ok (.iconst 4, 1) := by decide +kernel
theorem dX11_back_30 : decode cX11_back 30 = .ok (.aload_n 0, 1) := by decide +kernel
theorem dX11_back_31 : decode cX11_back 31 = .ok (.getfield 7, 3) := by decide +kernel
theorem dX11_back_34 : decode cX11_back 34 = .ok (.sipush 266, 3) := by decide +kernel
theorem dX11_back_37 : decode cX11_back 37 = .ok (.iaload, 1) := by decide +kernel
theorem dX11_back_38 : decode cX11_back 38 = .ok (.imul, 1) := by decide +kernel
theorem dX11_back_39 : decode cX11_back 39 = .ok (.aload_n 0, 1) := by decide +kernel
theorem dX11_back_40 : decode cX11_back 40 = .ok (.getfield 7, 3) := by decide +kernel
theorem dX11_back_43 : decode cX11_back 43 = .ok (.sipush 268, 3) := by decide +kernel
theorem dX11_back_46 : decode cX11_back 46 = .ok (.iaload, 1) := by decide +kernel
theorem dX11_back_47 : decode cX11_back 47 = .ok (.imul, 1) := by decide +kernel
theorem dX11_back_48 : decode cX11_back 48 = .ok (.istore 4, 2) := by decide +kernel
theorem dX11_back_50 : decode cX11_back 50 = .ok (.iload_n 1, 1) := by decide +kernel
theorem dX11_back_51 : decode cX11_back 51 = .ok (.ifCond .ne 17, 3) := by decide +kernel
theorem dX11_back_54 : decode cX11_back 54 = .ok (.bipush 24, 2) := by decide +kernel
theorem dX11_back_56 : decode cX11_back 56 = .ok (.aload_n 0, 1) := by decide +kernel
theorem dX11_back_57 : decode cX11_back 57 = .ok (.getfield 7, 3) := by decide +kernel
theorem dX11_back_60 : decode cX11_back 60 = .ok (.sipush 266, 3) := by decide +kernel
theorem dX11_back_63 : decode cX11_back 63 = .ok (.iaload, 1) := by decide +kernel
theorem dX11_back_64 : decode cX11_back 64 = .ok (.imul, 1) := by decide +kernel
theorem dX11_back_65 : decode cX11_back 65 = .ok (.goto 5, 3) := by decide +kernel
theorem dX11_back_68 : decode cX11_back 68 = .ok (.iload 4, 2) := by decide +kernel
theorem dX11_back_70 : decode cX11_back 70 = .ok (.istore 5, 2) := by decide +kernel
theorem dX11_back_72 : decode cX11_back 72 = .ok (.iload_n 2, 1) := by decide +kernel
theorem dX11_back_73 : decode cX11_back 73 = .ok (.iconst 0, 1) := by decide +kernel
theorem dX11_back_74 : decode cX11_back 74 = .ok (.iload 4, 2) := by decide +kernel
theorem dX11_back_76 : decode cX11_back 76 = .ok (.invokestatic 70, 3) := by decide +kernel
theorem dX11_back_79 : decode cX11_back 79 = .ok (.ifCond .eq 13, 3) := by decide +kernel
theorem dX11_back_82 : decode cX11_back 82 = .ok (.iload_n 3, 1) := by decide +kernel
theorem dX11_back_83 : decode cX11_back 83 = .ok (.iconst 0, 1) := by decide +kernel
theorem dX11_back_84 : decode cX11_back 84 = .ok (.iload 5, 2) := by decide +kernel
theorem dX11_back_86 : decode cX11_back 86 = .ok (.invokestatic 70, 3) := by decide +kernel
theorem dX11_back_89 : decode cX11_back 89 = .ok (.ifCond .ne 5, 3) := by decide +kernel
theorem dX11_back_92 : decode cX11_back 92 = .ok (.iconst (-1), 1) := by decide +kernel
theorem dX11_back_93 : decode cX11_back 93 = .ok (.ireturn, 1) := by decide +kernel
theorem dX11_back_94 : decode cX11_back 94 = .ok (.iload_n 1, 1) := by decide +kernel
theorem dX11_back_95 : decode cX11_back 95 = .ok (.ifCond .ne 12, 3) := by decide +kernel
theorem dX11_back_98 : decode cX11_back 98 = .ok (.aload_n 0, 1) := by decide +kernel
theorem dX11_back_99 : decode cX11_back 99 = .ok (.iload_n 2, 1) := by decide +kernel
theorem dX11_back_100 : decode cX11_back 100 = .ok (.iload_n 3, 1) := by decide +kernel
theorem dX11_back_101 : decode cX11_back 101 = .ok (.invokevirtual 156, 3) := by decide +kernel
theorem dX11_back_104 : decode cX11_back 104 = .ok (.goto 19, 3) := by decide +kernel
theorem dX11_back_107 : decode cX11_back 107 = .ok (.aload_n 0, 1) := by decide +kernel
theorem dX11_back_108 : decode cX11_back 108 = .ok (.iload_n 2, 1) := by decide +kernel
theorem dX11_back_109 : decode cX11_back 109 = .ok (.iload_n 3, 1) := by decide +kernel
theorem dX11_back_110 : decode cX11_back 110 = .ok (.iload_n 1, 1) := by decide +kernel
theorem dX11_back_111 : decode cX11_back 111 = .ok (.iconst 1, 1) := by decide +kernel
theorem dX11_back_112 : decode cX11_back 112 = .ok (.if_icmp .ne 7, 3) := by decide +kernel
theorem dX11_back_115 : decode cX11_back 115 = .ok (.iconst 1, 1) := by decide +kernel
theorem dX11_back_116 : decode cX11_back 116 = .ok (.goto 4, 3) := by decide +kernel
theorem dX11_back_119 : decode cX11_back 119 = .ok (.iconst 0, 1) := by decide +kernel
theorem dX11_back_120 : decode cX11_back 120 = .ok (.invokevirtual 159, 3) := by decide +kernel
theorem dX11_back_123 : decode cX11_back 123 = .ok (.ireturn, 1) := by decide +kernel
set_option maxRecDepth 20000 in
theorem ggX11_farOf_X11_rowOf : GoodIn wsX11_farOf wsX11_rowOf := goodIn_r _ [5] (by decide +kernel) (by decide +kernel)
set_option maxRecDepth 20000 in
theorem gX11_farOf_X11_rowOf : GoodIn wsX11_farOf (va_wsS RX11 92 yX11_rowOf wsX11_rowOf) := goodIn_app (goodIn_of _ (by decide +kernel)) ggX11_farOf_X11_rowOf
set_option maxRecDepth 20000 in
theorem ggX11_farOf_X11_wideOf : GoodIn wsX11_farOf wsX11_wideOf := goodIn_r _ [8, 9, 10, 4, 11, 12, 13, 14, 15, 16, 17, 18, 19, 20] (by decide +kernel) (by decide +kernel)
set_option maxRecDepth 20000 in
theorem gX11_farOf_X11_wideOf : GoodIn wsX11_farOf (va_wsS RX11 78 yX11_wideOf wsX11_wideOf) := goodIn_app (goodIn_of _ (by decide +kernel)) ggX11_farOf_X11_wideOf
theorem dX11_farOf_0 : decode cX11_farOf 0 = .ok (.iload_n 1, 1) := by decide +kernel
theorem dX11_farOf_1 : decode cX11_farOf 1 = .ok (.invokestatic 92, 3) := by decide +kernel
theorem dX11_farOf_4 : decode cX11_farOf 4 = .ok (.istore_n 3, 1) := by decide +kernel
theorem dX11_farOf_5 : decode cX11_farOf 5 = .ok (.iload_n 3, 1) := by decide +kernel
theorem dX11_farOf_6 : decode cX11_farOf 6 = .ok (.iload_n 2, 1) := by decide +kernel
theorem dX11_farOf_7 : decode cX11_farOf 7 = .ok (.invokestatic 92, 3) := by decide +kernel
theorem dX11_farOf_10 : decode cX11_farOf 10 = .ok (.if_icmp .ne 25, 3) := by decide +kernel
theorem dX11_farOf_13 : decode cX11_farOf 13 = .ok (.iconst 2, 1) := by decide +kernel
theorem dX11_farOf_14 : decode cX11_farOf 14 = .ok (.aload_n 0, 1) := by decide +kernel
theorem dX11_farOf_15 : decode cX11_farOf 15 = .ok (.getfield 7, 3) := by decide +kernel
theorem dX11_farOf_18 : decode cX11_farOf 18 = .ok (.sipush 266, 3) := by decide +kernel
theorem dX11_farOf_21 : decode cX11_farOf 21 = .ok (.iaload, 1) := by decide +kernel
theorem dX11_farOf_22 : decode cX11_farOf 22 = .ok (.imul, 1) := by decide +kernel
theorem dX11_farOf_23 : decode cX11_farOf 23 = .ok (.iload_n 3, 1) := by decide +kernel
theorem dX11_farOf_24 : decode cX11_farOf 24 = .ok (.invokestatic 78, 3) := by decide +kernel
theorem dX11_farOf_27 : decode cX11_farOf 27 = .ok (.imul, 1) := by decide +kernel
theorem dX11_farOf_28 : decode cX11_farOf 28 = .ok (.sipush 10000, 3) := by decide +kernel
theorem dX11_farOf_31 : decode cX11_farOf 31 = .ok (.idiv, 1) := by decide +kernel
theorem dX11_farOf_32 : decode cX11_farOf 32 = .ok (.goto 13, 3) := by decide +kernel
theorem dX11_farOf_35 : decode cX11_farOf 35 = .ok (.iconst 2, 1) := by decide +kernel
theorem dX11_farOf_36 : decode cX11_farOf 36 = .ok (.aload_n 0, 1) := by decide +kernel
theorem dX11_farOf_37 : decode cX11_farOf 37 = .ok (.getfield 7, 3) := by decide +kernel
theorem dX11_farOf_40 : decode cX11_farOf 40 = .ok (.sipush 266, 3) := by decide +kernel
theorem dX11_farOf_43 : decode cX11_farOf 43 = .ok (.iaload, 1) := by decide +kernel
theorem dX11_farOf_44 : decode cX11_farOf 44 = .ok (.imul, 1) := by decide +kernel
theorem dX11_farOf_45 : decode cX11_farOf 45 = .ok (.ireturn, 1) := by decide +kernel
theorem dX11_root_0 : decode cX11_root 0 = .ok (.iconst 0, 1) := by decide +kernel
theorem dX11_root_1 : decode cX11_root 1 = .ok (.istore_n 1, 1) := by decide +kernel
theorem dX11_root_2 : decode cX11_root 2 = .ok (.sipush 30000, 3) := by decide +kernel
theorem dX11_root_5 : decode cX11_root 5 = .ok (.istore_n 2, 1) := by decide +kernel
theorem dX11_root_6 : decode cX11_root 6 = .ok (.iload_n 1, 1) := by decide +kernel
theorem dX11_root_7 : decode cX11_root 7 = .ok (.iload_n 2, 1) := by decide +kernel
theorem dX11_root_8 : decode cX11_root 8 = .ok (.if_icmp .ge 30, 3) := by decide +kernel
theorem dX11_root_11 : decode cX11_root 11 = .ok (.iload_n 1, 1) := by decide +kernel
theorem dX11_root_12 : decode cX11_root 12 = .ok (.iload_n 2, 1) := by decide +kernel
theorem dX11_root_13 : decode cX11_root 13 = .ok (.iadd, 1) := by decide +kernel
theorem dX11_root_14 : decode cX11_root 14 = .ok (.iconst 1, 1) := by decide +kernel
theorem dX11_root_15 : decode cX11_root 15 = .ok (.iadd, 1) := by decide +kernel
theorem dX11_root_16 : decode cX11_root 16 = .ok (.iconst 2, 1) := by decide +kernel
theorem dX11_root_17 : decode cX11_root 17 = .ok (.idiv, 1) := by decide +kernel
theorem dX11_root_18 : decode cX11_root 18 = .ok (.istore_n 3, 1) := by decide +kernel
theorem dX11_root_19 : decode cX11_root 19 = .ok (.iload_n 3, 1) := by decide +kernel
theorem dX11_root_20 : decode cX11_root 20 = .ok (.iload_n 3, 1) := by decide +kernel
theorem dX11_root_21 : decode cX11_root 21 = .ok (.imul, 1) := by decide +kernel
theorem dX11_root_22 : decode cX11_root 22 = .ok (.iload_n 0, 1) := by decide +kernel
theorem dX11_root_23 : decode cX11_root 23 = .ok (.if_icmp .gt 8, 3) := by decide +kernel
theorem dX11_root_26 : decode cX11_root 26 = .ok (.iload_n 3, 1) := by decide +kernel
theorem dX11_root_27 : decode cX11_root 27 = .ok (.istore_n 1, 1) := by decide +kernel
theorem dX11_root_28 : decode cX11_root 28 = .ok (.goto 7, 3) := by decide +kernel
theorem dX11_root_31 : decode cX11_root 31 = .ok (.iload_n 3, 1) := by decide +kernel
theorem dX11_root_32 : decode cX11_root 32 = .ok (.iconst 1, 1) := by decide +kernel
theorem dX11_root_33 : decode cX11_root 33 = .ok (.isub, 1) := by decide +kernel
theorem dX11_root_34 : decode cX11_root 34 = .ok (.istore_n 2, 1) := by decide +kernel
theorem dX11_root_35 : decode cX11_root 35 = .ok (.goto (-29), 3) := by decide +kernel
theorem dX11_root_38 : decode cX11_root 38 = .ok (.iload_n 1, 1) := by decide +kernel
theorem dX11_root_39 : decode cX11_root 39 = .ok (.ireturn, 1) := by decide +kernel
set_option maxRecDepth 20000 in
theorem ggX11_straightOf_X11_rowOf : GoodIn wsX11_straightOf wsX11_rowOf := goodIn_r _ [5] (by decide +kernel) (by decide +kernel)
set_option maxRecDepth 20000 in
theorem gX11_straightOf_X11_rowOf : GoodIn wsX11_straightOf (va_wsS RX11 92 yX11_rowOf wsX11_rowOf) := goodIn_app (goodIn_of _ (by decide +kernel)) ggX11_straightOf_X11_rowOf
set_option maxRecDepth 20000 in
theorem ggX11_straightOf_X11_stepOf : GoodIn wsX11_straightOf wsX11_stepOf := goodIn_r _ [8, 9, 10, 4, 11] (by decide +kernel) (by decide +kernel)
set_option maxRecDepth 20000 in
theorem gX11_straightOf_X11_stepOf : GoodIn wsX11_straightOf (va_wsS RX11 89 yX11_stepOf wsX11_stepOf) := goodIn_app (goodIn_of _ (by decide +kernel)) ggX11_straightOf_X11_stepOf
set_option maxRecDepth 20000 in
theorem ggX11_straightOf_X11_wide : GoodIn wsX11_straightOf wsX11_wide := goodIn_r _ [15, 1, 42, 43, 44, 45, 46, 47, 48, 49, 50, 51, 52, 53, 54, 55, 56, 57, 58, 59, 60] (by decide +kernel) (by decide +kernel)
set_option maxRecDepth 20000 in
theorem gX11_straightOf_X11_wide : GoodIn wsX11_straightOf (wsV RX11 81 RX11 yX11_wide wsX11_wide) := goodIn_app (goodIn_of _ (by decide +kernel)) ggX11_straightOf_X11_wide
set_option maxRecDepth 20000 in
theorem ggX11_straightOf_X11_across : GoodIn wsX11_straightOf wsX11_across := goodIn_r _ [19, 12, 13, 14, 4, 15, 1, 20, 21, 22, 23, 24, 25, 26, 27, 28, 29, 30, 31, 32, 33, 34, 35, 36, 37, 38, 42, 43, 44, 45, 46, 47, 48, 49, 50, 51, 52, 53, 54, 55, 56, 57, 58, 59, 60] (by decide +kernel) (by decide +kernel)
set_option maxRecDepth 20000 in
theorem gX11_straightOf_X11_across : GoodIn wsX11_straightOf (wsV RX11 95 RX11 yX11_across wsX11_across) := goodIn_app (goodIn_of _ (by decide +kernel)) ggX11_straightOf_X11_across
set_option maxRecDepth 20000 in
theorem ggX11_straightOf_X11_isPole : GoodIn wsX11_straightOf wsX11_isPole := goodIn_r _ [11] (by decide +kernel) (by decide +kernel)
set_option maxRecDepth 20000 in
theorem gX11_straightOf_X11_isPole : GoodIn wsX11_straightOf (va_wsS RX11 74 yX11_isPole wsX11_isPole) := goodIn_app (goodIn_of _ (by decide +kernel)) ggX11_straightOf_X11_isPole
set_option maxRecDepth 20000 in
theorem ggX11_straightOf_X11_root : GoodIn wsX11_straightOf wsX11_root := goodIn_r _ [41] (by decide +kernel) (by decide +kernel)
set_option maxRecDepth 20000 in
theorem gX11_straightOf_X11_root : GoodIn wsX11_straightOf (va_wsS RX11 163 yX11_root wsX11_root) := goodIn_app (goodIn_of _ (by decide +kernel)) ggX11_straightOf_X11_root
theorem dX11_straightOf_0 : decode cX11_straightOf 0 = .ok (.iload_n 1, 1) := by decide +kernel
theorem dX11_straightOf_1 : decode cX11_straightOf 1 = .ok (.invokestatic 92, 3) := by decide +kernel
theorem dX11_straightOf_4 : decode cX11_straightOf 4 = .ok (.istore_n 3, 1) := by decide +kernel
theorem dX11_straightOf_5 : decode cX11_straightOf 5 = .ok (.iload_n 3, 1) := by decide +kernel
theorem dX11_straightOf_6 : decode cX11_straightOf 6 = .ok (.iload_n 2, 1) := by decide +kernel
theorem dX11_straightOf_7 : decode cX11_straightOf 7 = .ok (.invokestatic 92, 3) := by decide +kernel
theorem dX11_straightOf_10 : decode cX11_straightOf 10 = .ok (.if_icmp .ne 72, 3) := by decide +kernel
theorem dX11_straightOf_13 : decode cX11_straightOf 13 = .ok (.iload_n 1, 1) := by decide +kernel
theorem dX11_straightOf_14 : decode cX11_straightOf 14 = .ok (.invokestatic 89, 3) := by decide +kernel
theorem dX11_straightOf_17 : decode cX11_straightOf 17 = .ok (.iconst 1, 1) := by decide +kernel
theorem dX11_straightOf_18 : decode cX11_straightOf 18 = .ok (.iadd, 1) := by decide +kernel
theorem dX11_straightOf_19 : decode cX11_straightOf 19 = .ok (.bipush 24, 2) := by decide +kernel
theorem dX11_straightOf_21 : decode cX11_straightOf 21 = .ok (.irem, 1) := by decide +kernel
theorem dX11_straightOf_22 : decode cX11_straightOf 22 = .ok (.iload_n 2, 1) := by decide +kernel
theorem dX11_straightOf_23 : decode cX11_straightOf 23 = .ok (.invokestatic 89, 3) := by decide +kernel
theorem dX11_straightOf_26 : decode cX11_straightOf 26 = .ok (.if_icmp .ne 10, 3) := by decide +kernel
theorem dX11_straightOf_29 : decode cX11_straightOf 29 = .ok (.iload_n 1, 1) := by decide +kernel
theorem dX11_straightOf_30 : decode cX11_straightOf 30 = .ok (.invokestatic 89, 3) := by decide +kernel
theorem dX11_straightOf_33 : decode cX11_straightOf 33 = .ok (.goto 7, 3) := by decide +kernel
theorem dX11_straightOf_36 : decode cX11_straightOf 36 = .ok (.iload_n 2, 1) := by decide +kernel
theorem dX11_straightOf_37 : decode cX11_straightOf 37 = .ok (.invokestatic 89, 3) := by decide +kernel
theorem dX11_straightOf_40 : decode cX11_straightOf 40 = .ok (.istore 4, 2) := by decide +kernel
theorem dX11_straightOf_42 : decode cX11_straightOf 42 = .ok (.iload 4, 2) := by decide +kernel
theorem dX11_straightOf_44 : decode cX11_straightOf 44 = .ok (.aload_n 0, 1) := by decide +kernel
theorem dX11_straightOf_45 : decode cX11_straightOf 45 = .ok (.invokevirtual 81, 3) := by decide +kernel
theorem dX11_straightOf_48 : decode cX11_straightOf 48 = .ok (.idiv, 1) := by decide +kernel
theorem dX11_straightOf_49 : decode cX11_straightOf 49 = .ok (.istore 5, 2) := by decide +kernel
theorem dX11_straightOf_51 : decode cX11_straightOf 51 = .ok (.iload 4, 2) := by decide +kernel
theorem dX11_straightOf_53 : decode cX11_straightOf 53 = .ok (.aload_n 0, 1) := by decide +kernel
theorem dX11_straightOf_54 : decode cX11_straightOf 54 = .ok (.invokevirtual 81, 3) := by decide +kernel
theorem dX11_straightOf_57 : decode cX11_straightOf 57 = .ok (.irem, 1) := by decide +kernel
theorem dX11_straightOf_58 : decode cX11_straightOf 58 = .ok (.istore 6, 2) := by decide +kernel
theorem dX11_straightOf_60 : decode cX11_straightOf 60 = .ok (.aload_n 0, 1) := by decide +kernel
theorem dX11_straightOf_61 : decode cX11_straightOf 61 = .ok (.iload 5, 2) := by decide +kernel
theorem dX11_straightOf_63 : decode cX11_straightOf 63 = .ok (.iload 6, 2) := by decide +kernel
theorem dX11_straightOf_65 : decode cX11_straightOf 65 = .ok (.iconst 1, 1) := by decide +kernel
theorem dX11_straightOf_66 : decode cX11_straightOf 66 = .ok (.iadd, 1) := by decide +kernel
theorem dX11_straightOf_67 : decode cX11_straightOf 67 = .ok (.iload_n 3, 1) := by decide +kernel
theorem dX11_straightOf_68 : decode cX11_straightOf 68 = .ok (.invokevirtual 95, 3) := by decide +kernel
theorem dX11_straightOf_71 : decode cX11_straightOf 71 = .ok (.aload_n 0, 1) := by decide +kernel
theorem dX11_straightOf_72 : decode cX11_straightOf 72 = .ok (.iload 5, 2) := by decide +kernel
theorem dX11_straightOf_74 : decode cX11_straightOf 74 = .ok (.iload 6, 2) := by decide +kernel
theorem dX11_straightOf_76 : decode cX11_straightOf 76 = .ok (.iload_n 3, 1) := by decide +kernel
theorem dX11_straightOf_77 : decode cX11_straightOf 77 = .ok (.invokevirtual 95, 3) := by decide +kernel
theorem dX11_straightOf_80 : decode cX11_straightOf 80 = .ok (.isub, 1) := by decide +kernel
theorem dX11_straightOf_81 : decode cX11_straightOf 81 = .ok (.ireturn, 1) := by decide +kernel
theorem dX11_straightOf_82 : decode cX11_straightOf 82 = .ok (.iload_n 1, 1) := by decide +kernel
theorem dX11_straightOf_83 : decode cX11_straightOf 83 = .ok (.invokestatic 74, 3) := by decide +kernel
theorem dX11_straightOf_86 : decode cX11_straightOf 86 = .ok (.ifCond .eq 10, 3) := by decide +kernel
theorem dX11_straightOf_89 : decode cX11_straightOf 89 = .ok (.iload_n 2, 1) := by decide +kernel
theorem dX11_straightOf_90 : decode cX11_straightOf 90 = .ok (.invokestatic 89, 3) := by decide +kernel
theorem dX11_straightOf_93 : decode cX11_straightOf 93 = .ok (.goto 7, 3) := by decide +kernel
theorem dX11_straightOf_96 : decode cX11_straightOf 96 = .ok (.iload_n 1, 1) := by decide +kernel
theorem dX11_straightOf_97 : decode cX11_straightOf 97 = .ok (.invokestatic 89, 3) := by decide +kernel
theorem dX11_straightOf_100 : decode cX11_straightOf 100 = .ok (.istore 4, 2) := by decide +kernel
theorem dX11_straightOf_102 : decode cX11_straightOf 102 = .ok (.aload_n 0, 1) := by decide +kernel
theorem dX11_straightOf_103 : decode cX11_straightOf 103 = .ok (.iload 4, 2) := by decide +kernel
theorem dX11_straightOf_105 : decode cX11_straightOf 105 = .ok (.aload_n 0, 1) := by decide +kernel
theorem dX11_straightOf_106 : decode cX11_straightOf 106 = .ok (.invokevirtual 81, 3) := by decide +kernel
theorem dX11_straightOf_109 : decode cX11_straightOf 109 = .ok (.idiv, 1) := by decide +kernel
theorem dX11_straightOf_110 : decode cX11_straightOf 110 = .ok (.iload 4, 2) := by decide +kernel
theorem dX11_straightOf_112 : decode cX11_straightOf 112 = .ok (.aload_n 0, 1) := by decide +kernel
theorem dX11_straightOf_113 : decode cX11_straightOf 113 = .ok (.invokevirtual 81, 3) := by decide +kernel
theorem dX11_straightOf_116 : decode cX11_straightOf 116 = .ok (.irem, 1) := by decide +kernel
theorem dX11_straightOf_117 : decode cX11_straightOf 117 = .ok (.iload_n 3, 1) := by decide +kernel
theorem dX11_straightOf_118 : decode cX11_straightOf 118 = .ok (.invokevirtual 95, 3) := by decide +kernel
theorem dX11_straightOf_121 : decode cX11_straightOf 121 = .ok (.aload_n 0, 1) := by decide +kernel
theorem dX11_straightOf_122 : decode cX11_straightOf 122 = .ok (.iload 4, 2) := by decide +kernel
theorem dX11_straightOf_124 : decode cX11_straightOf 124 = .ok (.aload_n 0, 1) := by decide +kernel
theorem dX11_straightOf_125 : decode cX11_straightOf 125 = .ok (.invokevirtual 81, 3) := by decide +kernel
theorem dX11_straightOf_128 : decode cX11_straightOf 128 = .ok (.idiv, 1) := by decide +kernel
theorem dX11_straightOf_129 : decode cX11_straightOf 129 = .ok (.iload 4, 2) := by decide +kernel
theorem dX11_straightOf_131 : decode cX11_straightOf 131 = .ok (.aload_n 0, 1) := by decide +kernel
theorem dX11_straightOf_132 : decode cX11_straightOf 132 = .ok (.invokevirtual 81, 3) := by decide +kernel
theorem dX11_straightOf_135 : decode cX11_straightOf 135 = .ok (.irem, 1) := by decide +kernel
theorem dX11_straightOf_136 : decode cX11_straightOf 136 = .ok (.iload_n 2, 1) := by decide +kernel
theorem dX11_straightOf_137 : decode cX11_straightOf 137 = .ok (.invokestatic 92, 3) := by decide +kernel
theorem dX11_straightOf_140 : decode cX11_straightOf 140 = .ok (.invokevirtual 95, 3) := by decide +kernel
theorem dX11_straightOf_143 : decode cX11_straightOf 143 = .ok (.isub, 1) := by decide +kernel
theorem dX11_straightOf_144 : decode cX11_straightOf 144 = .ok (.istore 5, 2) := by decide +kernel
theorem dX11_straightOf_146 : decode cX11_straightOf 146 = .ok (.iload 5, 2) := by decide +kernel
theorem dX11_straightOf_148 : decode cX11_straightOf 148 = .ok (.iload 5, 2) := by decide +kernel
theorem dX11_straightOf_150 : decode cX11_straightOf 150 = .ok (.imul, 1) := by decide +kernel
theorem dX11_straightOf_151 : decode cX11_straightOf 151 = .ok (.iconst 4, 1) := by decide +kernel
theorem dX11_straightOf_152 : decode cX11_straightOf 152 = .ok (.aload_n 0, 1) := by decide +kernel
theorem dX11_straightOf_153 : decode cX11_straightOf 153 = .ok (.getfield 7, 3) := by decide +kernel
theorem dX11_straightOf_156 : decode cX11_straightOf 156 = .ok (.sipush 266, 3) := by decide +kernel
theorem dX11_straightOf_159 : decode cX11_straightOf 159 = .ok (.iaload, 1) := by decide +kernel
theorem dX11_straightOf_160 : decode cX11_straightOf 160 = .ok (.imul, 1) := by decide +kernel
theorem dX11_straightOf_161 : decode cX11_straightOf 161 = .ok (.aload_n 0, 1) := by decide +kernel
theorem dX11_straightOf_162 : decode cX11_straightOf 162 = .ok (.getfield 7, 3) := by decide +kernel
theorem dX11_straightOf_165 : decode cX11_straightOf 165 = .ok (.sipush 266, 3) := by decide +kernel
theorem dX11_straightOf_168 : decode cX11_straightOf 168 = .ok (.iaload, 1) := by decide +kernel
theorem dX11_straightOf_169 : decode cX11_straightOf 169 = .ok (.imul, 1) := by decide +kernel
theorem dX11_straightOf_170 : decode cX11_straightOf 170 = .ok (.iadd, 1) := by decide +kernel
theorem dX11_straightOf_171 : decode cX11_straightOf 171 = .ok (.invokestatic 163, 3) := by decide +kernel
theorem dX11_straightOf_174 : decode cX11_straightOf 174 = .ok (.ireturn, 1) := by decide +kernel
set_option maxRecDepth 20000 in
theorem ggX11_hasStraight_X11_rowOf : GoodIn wsX11_hasStraight wsX11_rowOf := goodIn_r _ [4] (by decide +kernel) (by decide +kernel)
set_option maxRecDepth 20000 in
theorem gX11_hasStraight_X11_rowOf : GoodIn wsX11_hasStraight (va_wsS RX11 92 yX11_rowOf wsX11_rowOf) := goodIn_app (goodIn_of _ (by decide +kernel)) ggX11_hasStraight_X11_rowOf
set_option maxRecDepth 20000 in
theorem ggX11_hasStraight_X11_isOnStrips : GoodIn wsX11_hasStraight wsX11_isOnStrips := goodIn_r _ [8, 9, 10, 11, 3, 12, 13, 14, 15, 16, 17, 18, 19, 20, 21, 22, 23, 24, 25, 26, 27, 28, 29, 30, 31] (by decide +kernel) (by decide +kernel)
set_option maxRecDepth 20000 in
theorem gX11_hasStraight_X11_isOnStrips : GoodIn wsX11_hasStraight (wsV RX11 128 RX11 yX11_isOnStrips wsX11_isOnStrips) := goodIn_app (goodIn_of _ (by decide +kernel)) ggX11_hasStraight_X11_isOnStrips
theorem dX11_hasStraight_0 : decode cX11_hasStraight 0 = .ok (.aload_n 0, 1) := by decide +kernel
theorem dX11_hasStraight_1 : decode cX11_hasStraight 1 = .ok (.iload_n 1, 1) := by decide +kernel
theorem dX11_hasStraight_2 : decode cX11_hasStraight 2 = .ok (.invokestatic 92, 3) := by decide +kernel
theorem dX11_hasStraight_5 : decode cX11_hasStraight 5 = .ok (.invokevirtual 128, 3) := by decide +kernel
theorem dX11_hasStraight_8 : decode cX11_hasStraight 8 = .ok (.ifCond .eq 18, 3) := by decide +kernel
theorem dX11_hasStraight_11 : decode cX11_hasStraight 11 = .ok (.aload_n 0, 1) := by decide +kernel
theorem dX11_hasStraight_12 : decode cX11_hasStraight 12 = .ok (.iload_n 2, 1) := by decide +kernel
theorem dX11_hasStraight_13 : decode cX11_hasStraight 13 = .ok (.invokestatic 92, 3) := by decide +kernel
theorem dX11_hasStraight_16 : decode cX11_hasStraight 16 = .ok (.invokevirtual 128, 3) := by decide +kernel
theorem dX11_hasStraight_19 : decode cX11_hasStraight 19 = .ok (.ifCond .eq 7, 3) := by decide +kernel
theorem dX11_hasStraight_22 : decode cX11_hasStraight 22 = .ok (.iconst 1, 1) := by decide +kernel
theorem dX11_hasStraight_23 : decode cX11_hasStraight 23 = .ok (.goto 4, 3) := by decide +kernel
theorem dX11_hasStraight_26 : decode cX11_hasStraight 26 = .ok (.iconst 0, 1) := by decide +kernel
theorem dX11_hasStraight_27 : decode cX11_hasStraight 27 = .ok (.ireturn, 1) := by decide +kernel
set_option maxRecDepth 20000 in
theorem ggX11_pair_X11_isNumber : GoodIn wsX11_pair wsX11_isNumber := goodIn_r _ [4, 5, 6, 3, 7] (by decide +kernel) (by decide +kernel)
set_option maxRecDepth 20000 in
theorem gX11_pair_X11_isNumber : GoodIn wsX11_pair (va_wsS RX11 166 yX11_isNumber wsX11_isNumber) := goodIn_app (goodIn_of _ (by decide +kernel)) ggX11_pair_X11_isNumber
set_option maxRecDepth 20000 in
theorem ggX11_pair_X11_in : GoodIn wsX11_pair wsX11_in := goodIn_r _ [7] (by decide +kernel) (by decide +kernel)
set_option maxRecDepth 20000 in
theorem gX11_pair_X11_in : GoodIn wsX11_pair (va_wsS RX11 70 yX11_in wsX11_in) := goodIn_app (goodIn_of _ (by decide +kernel)) ggX11_pair_X11_in
set_option maxRecDepth 20000 in
theorem ggX11_pair_X11_areNext : GoodIn wsX11_pair wsX11_areNext := goodIn_r _ [10, 11, 12, 3, 13, 14, 15, 16, 17, 18, 19, 20, 21, 22, 23, 24, 25, 26, 27, 28] (by decide +kernel) (by decide +kernel)
set_option maxRecDepth 20000 in
theorem gX11_pair_X11_areNext : GoodIn wsX11_pair (va_wsS RX11 169 yX11_areNext wsX11_areNext) := goodIn_app (goodIn_of _ (by decide +kernel)) ggX11_pair_X11_areNext
set_option maxRecDepth 20000 in
theorem ggX11_pair_X11_farOf : GoodIn wsX11_pair wsX11_farOf := goodIn_r _ [32, 33, 20, 21, 3, 22, 34, 35, 36, 37, 38, 39, 40, 41, 42, 43, 44, 45, 46, 47, 48, 76, 77, 78, 79, 80, 81, 82, 83, 84, 85, 86, 87, 88, 89, 90, 91, 92, 93, 94] (by decide +kernel) (by decide +kernel)
set_option maxRecDepth 20000 in
theorem gX11_pair_X11_farOf : GoodIn wsX11_pair (wsV RX11 172 RX11 yX11_farOf wsX11_farOf) := goodIn_app (goodIn_of _ (by decide +kernel)) ggX11_pair_X11_farOf
set_option maxRecDepth 20000 in
theorem ggX11_pair_X11_hasStraight : GoodIn wsX11_pair wsX11_hasStraight := goodIn_r _ [52, 20, 21, 3, 22, 53, 54, 55, 56, 33, 37, 38, 39, 76, 77, 78, 79, 80, 81, 82, 83, 84, 85, 86, 87, 88, 89, 90, 91, 92, 93, 94] (by decide +kernel) (by decide +kernel)
set_option maxRecDepth 20000 in
theorem gX11_pair_X11_hasStraight : GoodIn wsX11_pair (wsV RX11 175 RX11 yX11_hasStraight wsX11_hasStraight) := goodIn_app (goodIn_of _ (by decide +kernel)) ggX11_pair_X11_hasStraight
set_option maxRecDepth 20000 in
theorem ggX11_pair_X11_straightOf : GoodIn wsX11_pair wsX11_straightOf := goodIn_r _ [60, 33, 20, 21, 3, 22, 23, 24, 25, 14, 15, 16, 61, 62, 63, 64, 65, 66, 67, 68, 69, 70, 71, 72, 34, 35, 36, 37, 38, 39, 40, 41, 42, 43, 44, 45, 46, 47, 48, 73, 74, 75, 76, 77, 78, 79, 80, 81, 82, 83, 84, 85, 86, 87, 88, 89, 90, 91, 92, 93, 94] (by decide +kernel) (by decide +kernel)
set_option maxRecDepth 20000 in
theorem gX11_pair_X11_straightOf : GoodIn wsX11_pair (wsV RX11 178 RX11 yX11_straightOf wsX11_straightOf) := goodIn_app (goodIn_of _ (by decide +kernel)) ggX11_pair_X11_straightOf
theorem dX11_pair_0 : decode cX11_pair 0 = .ok (.iload_n 1, 1) := by decide +kernel
theorem dX11_pair_1 : decode cX11_pair 1 = .ok (.invokestatic 166, 3) := by decide +kernel
theorem dX11_pair_4 : decode cX11_pair 4 = .ok (.ifCond .eq 19, 3) := by decide +kernel
theorem dX11_pair_7 : decode cX11_pair 7 = .ok (.iload_n 2, 1) := by decide +kernel
theorem dX11_pair_8 : decode cX11_pair 8 = .ok (.invokestatic 166, 3) := by decide +kernel
theorem dX11_pair_11 : decode cX11_pair 11 = .ok (.ifCond .eq 12, 3) := by decide +kernel
theorem dX11_pair_14 : decode cX11_pair 14 = .ok (.iload_n 3, 1) := by decide +kernel
theorem dX11_pair_15 : decode cX11_pair 15 = .ok (.iconst 0, 1) := by decide +kernel
theorem dX11_pair_16 : decode cX11_pair 16 = .ok (.iconst 1, 1) := by decide +kernel
theorem dX11_pair_17 : decode cX11_pair 17 = .ok (.invokestatic 70, 3) := by decide +kernel
theorem dX11_pair_20 : decode cX11_pair 20 = .ok (.ifCond .ne 5, 3) := by decide +kernel
theorem dX11_pair_23 : decode cX11_pair 23 = .ok (.iconst (-1), 1) := by decide +kernel
theorem dX11_pair_24 : decode cX11_pair 24 = .ok (.ireturn, 1) := by decide +kernel
theorem dX11_pair_25 : decode cX11_pair 25 = .ok (.iload_n 1, 1) := by decide +kernel
theorem dX11_pair_26 : decode cX11_pair 26 = .ok (.iload_n 2, 1) := by decide +kernel
theorem dX11_pair_27 : decode cX11_pair 27 = .ok (.invokestatic 169, 3) := by decide +kernel
theorem dX11_pair_30 : decode cX11_pair 30 = .ok (.ifCond .ne 6, 3) := by decide +kernel
theorem dX11_pair_33 : decode cX11_pair 33 = .ok (.bipush (-2), 2) := by decide +kernel
theorem dX11_pair_35 : decode cX11_pair 35 = .ok (.ireturn, 1) := by decide +kernel
theorem dX11_pair_36 : decode cX11_pair 36 = .ok (.iload_n 3, 1) := by decide +kernel
theorem dX11_pair_37 : decode cX11_pair 37 = .ok (.ifCond .ne 10, 3) := by decide +kernel
theorem dX11_pair_40 : decode cX11_pair 40 = .ok (.aload_n 0, 1) := by decide +kernel
theorem dX11_pair_41 : decode cX11_pair 41 = .ok (.iload_n 1, 1) := by decide +kernel
theorem dX11_pair_42 : decode cX11_pair 42 = .ok (.iload_n 2, 1) := by decide +kernel
theorem dX11_pair_43 : decode cX11_pair 43 = .ok (.invokevirtual 172, 3) := by decide +kernel
theorem dX11_pair_46 : decode cX11_pair 46 = .ok (.ireturn, 1) := by decide +kernel
theorem dX11_pair_47 : decode cX11_pair 47 = .ok (.aload_n 0, 1) := by decide +kernel
theorem dX11_pair_48 : decode cX11_pair 48 = .ok (.iload_n 1, 1) := by decide +kernel
theorem dX11_pair_49 : decode cX11_pair 49 = .ok (.iload_n 2, 1) := by decide +kernel
theorem dX11_pair_50 : decode cX11_pair 50 = .ok (.invokevirtual 175, 3) := by decide +kernel
theorem dX11_pair_53 : decode cX11_pair 53 = .ok (.ifCond .eq 12, 3) := by decide +kernel
theorem dX11_pair_56 : decode cX11_pair 56 = .ok (.aload_n 0, 1) := by decide +kernel
theorem dX11_pair_57 : decode cX11_pair 57 = .ok (.iload_n 1, 1) := by decide +kernel
theorem dX11_pair_58 : decode cX11_pair 58 = .ok (.iload_n 2, 1) := by decide +kernel
theorem dX11_pair_59 : decode cX11_pair 59 = .ok (.invokevirtual 178, 3) := by decide +kernel
theorem dX11_pair_62 : decode cX11_pair 62 = .ok (.goto 5, 3) := by decide +kernel
theorem dX11_pair_65 : decode cX11_pair 65 = .ok (.bipush (-4), 2) := by decide +kernel
theorem dX11_pair_67 : decode cX11_pair 67 = .ok (.ireturn, 1) := by decide +kernel
set_option maxRecDepth 20000 in
theorem ggX11_laysWorst_X11_hasStraight : GoodIn wsX11_laysWorst wsX11_hasStraight := goodIn_r _ [6, 7, 8, 5, 9, 10, 11, 12, 13, 14, 15, 16, 17, 71, 72, 73, 74, 75, 76, 77, 78, 79, 80, 81, 82, 83, 84, 85, 86, 87, 88, 89] (by decide +kernel) (by decide +kernel)
set_option maxRecDepth 20000 in
theorem gX11_laysWorst_X11_hasStraight : GoodIn wsX11_laysWorst (wsV RX11 175 RX11 yX11_hasStraight wsX11_hasStraight) := goodIn_app (goodIn_of _ (by decide +kernel)) ggX11_laysWorst_X11_hasStraight
set_option maxRecDepth 20000 in
theorem ggX11_laysWorst_X11_areNext : GoodIn wsX11_laysWorst wsX11_areNext := goodIn_r _ [20, 21, 22, 5, 23, 24, 25, 26, 27, 28, 29, 7, 8, 9, 30, 31, 32, 33, 34, 35] (by decide +kernel) (by decide +kernel)
set_option maxRecDepth 20000 in
theorem gX11_laysWorst_X11_areNext : GoodIn wsX11_laysWorst (va_wsS RX11 169 yX11_areNext wsX11_areNext) := goodIn_app (goodIn_of _ (by decide +kernel)) ggX11_laysWorst_X11_areNext
set_option maxRecDepth 20000 in
theorem ggX11_laysWorst_X11_straightOf : GoodIn wsX11_laysWorst wsX11_straightOf := goodIn_r _ [39, 14, 7, 8, 5, 9, 30, 31, 32, 24, 25, 26, 40, 41, 42, 43, 44, 45, 46, 47, 48, 49, 50, 51, 52, 53, 54, 15, 16, 17, 55, 56, 57, 58, 59, 60, 61, 62, 63, 64, 65, 66, 71, 72, 73, 74, 75, 76, 77, 78, 79, 80, 81, 82, 83, 84, 85, 86, 87, 88, 89] (by decide +kernel) (by decide +kernel)
set_option maxRecDepth 20000 in
theorem gX11_laysWorst_X11_straightOf : GoodIn wsX11_laysWorst (wsV RX11 178 RX11 yX11_straightOf wsX11_straightOf) := goodIn_app (goodIn_of _ (by decide +kernel)) ggX11_laysWorst_X11_straightOf
set_option maxRecDepth 20000 in
theorem ggX11_laysWorst_X11_farOf : GoodIn wsX11_laysWorst wsX11_farOf := goodIn_r _ [70, 14, 7, 8, 5, 9, 52, 53, 54, 15, 16, 17, 55, 56, 57, 58, 59, 60, 61, 62, 63, 71, 72, 73, 74, 75, 76, 77, 78, 79, 80, 81, 82, 83, 84, 85, 86, 87, 88, 89] (by decide +kernel) (by decide +kernel)
set_option maxRecDepth 20000 in
theorem gX11_laysWorst_X11_farOf : GoodIn wsX11_laysWorst (wsV RX11 172 RX11 yX11_farOf wsX11_farOf) := goodIn_app (goodIn_of _ (by decide +kernel)) ggX11_laysWorst_X11_farOf
set_option maxRecDepth 20000 in
theorem ggX11_laysWorst_X11_size : GoodIn wsX11_laysWorst wsX11_size := goodIn_r _ [17] (by decide +kernel) (by decide +kernel)
set_option maxRecDepth 20000 in
theorem gX11_laysWorst_X11_size : GoodIn wsX11_laysWorst (va_wsS RX11 64 yX11_size wsX11_size) := goodIn_app (goodIn_of _ (by decide +kernel)) ggX11_laysWorst_X11_size
theorem dX11_laysWorst_0 : decode cX11_laysWorst 0 = .ok (.aload_n 0, 1) := by decide +kernel
theorem dX11_laysWorst_1 : decode cX11_laysWorst 1 = .ok (.getfield 42, 3) := by decide +kernel
theorem dX11_laysWorst_4 : decode cX11_laysWorst 4 = .ok (.iconst 0, 1) := by decide +kernel
theorem dX11_laysWorst_5 : decode cX11_laysWorst 5 = .ok (.iconst (-1), 1) := by decide +kernel
theorem dX11_laysWorst_6 : decode cX11_laysWorst 6 = .ok (.iastore, 1) := by decide +kernel
theorem dX11_laysWorst_7 : decode cX11_laysWorst 7 = .ok (.iconst 0, 1) := by decide +kernel
theorem dX11_laysWorst_8 : decode cX11_laysWorst 8 = .ok (.istore_n 1, 1) := by decide +kernel
theorem dX11_laysWorst_9 : decode cX11_laysWorst 9 = .ok (.iload_n 1, 1) := by decide +kernel
theorem dX11_laysWorst_10 : decode cX11_laysWorst 10 = .ok (.sipush 266, 3) := by decide +kernel
theorem dX11_laysWorst_13 : decode cX11_laysWorst 13 = .ok (.if_icmp .ge 91, 3) := by decide +kernel
theorem dX11_laysWorst_16 : decode cX11_laysWorst 16 = .ok (.iload_n 1, 1) := by decide +kernel
theorem dX11_laysWorst_17 : decode cX11_laysWorst 17 = .ok (.iconst 1, 1) := by decide +kernel
theorem dX11_laysWorst_18 : decode cX11_laysWorst 18 = .ok (.iadd, 1) := by decide +kernel
theorem dX11_laysWorst_19 : decode cX11_laysWorst 19 = .ok (.istore_n 2, 1) := by decide +kernel
theorem dX11_laysWorst_20 : decode cX11_laysWorst 20 = .ok (.iload_n 2, 1) := by decide +kernel
theorem dX11_laysWorst_21 : decode cX11_laysWorst 21 = .ok (.sipush 266, 3) := by decide +kernel
theorem dX11_laysWorst_24 : decode cX11_laysWorst 24 = .ok (.if_icmp .ge 74, 3) := by decide +kernel
theorem dX11_laysWorst_27 : decode cX11_laysWorst 27 = .ok (.aload_n 0, 1) := by decide +kernel
theorem dX11_laysWorst_28 : decode cX11_laysWorst 28 = .ok (.iload_n 1, 1) := by decide +kernel
theorem dX11_laysWorst_29 : decode cX11_laysWorst 29 = .ok (.iload_n 2, 1) := by decide +kernel
theorem dX11_laysWorst_30 : decode cX11_laysWorst 30 = .ok (.invokevirtual 175, 3) := by decide +kernel
theorem dX11_laysWorst_33 : decode cX11_laysWorst 33 = .ok (.ifCond .eq 59, 3) := by decide +kernel
theorem dX11_laysWorst_36 : decode cX11_laysWorst 36 = .ok (.iload_n 1, 1) := by decide +kernel
theorem dX11_laysWorst_37 : decode cX11_laysWorst 37 = .ok (.iload_n 2, 1) := by decide +kernel
theorem dX11_laysWorst_38 : decode cX11_laysWorst 38 = .ok (.invokestatic 169, 3) := by decide +kernel
theorem dX11_laysWorst_41 : decode cX11_laysWorst 41 = .ok (.ifCond .eq 51, 3) := by decide +kernel
theorem dX11_laysWorst_44 : decode cX11_laysWorst 44 = .ok (.aload_n 0, 1) := by decide +kernel
theorem dX11_laysWorst_45 : decode cX11_laysWorst 45 = .ok (.iload_n 1, 1) := by decide +kernel
theorem dX11_laysWorst_46 : decode cX11_laysWorst 46 = .ok (.iload_n 2, 1) := by decide +kernel
theorem dX11_laysWorst_47 : decode cX11_laysWorst 47 = .ok (.invokevirtual 178, 3) := by decide +kernel
theorem dX11_laysWorst_50 : decode cX11_laysWorst 50 = .ok (.aload_n 0, 1) := by decide +kernel
theorem dX11_laysWorst_51 : decode cX11_laysWorst 51 = .ok (.iload_n 1, 1) := by decide +kernel
theorem dX11_laysWorst_52 : decode cX11_laysWorst 52 = .ok (.iload_n 2, 1) := by decide +kernel
theorem dX11_laysWorst_53 : decode cX11_laysWorst 53 = .ok (.invokevirtual 172, 3) := by decide +kernel
theorem dX11_laysWorst_56 : decode cX11_laysWorst 56 = .ok (.isub, 1) := by decide +kernel
theorem dX11_laysWorst_57 : decode cX11_laysWorst 57 = .ok (.invokestatic 64, 3) := by decide +kernel
theorem dX11_laysWorst_60 : decode cX11_laysWorst 60 = .ok (.istore_n 3, 1) := by decide +kernel
theorem dX11_laysWorst_61 : decode cX11_laysWorst 61 = .ok (.iload_n 3, 1) := by decide +kernel
theorem dX11_laysWorst_62 : decode cX11_laysWorst 62 = .ok (.aload_n 0, 1) := by decide +kernel
theorem dX11_laysWorst_63 : decode cX11_laysWorst 63 = .ok (.getfield 42, 3) := by decide +kernel
theorem dX11_laysWorst_66 : decode cX11_laysWorst 66 = .ok (.iconst 0, 1) := by decide +kernel
theorem dX11_laysWorst_67 : decode cX11_laysWorst 67 = .ok (.iaload, 1) := by decide +kernel
theorem dX11_laysWorst_68 : decode cX11_laysWorst 68 = .ok (.if_icmp .le 24, 3) := by decide +kernel
theorem dX11_laysWorst_71 : decode cX11_laysWorst 71 = .ok (.aload_n 0, 1) := by decide +kernel
theorem dX11_laysWorst_72 : decode cX11_laysWorst 72 = .ok (.getfield 42, 3) := by decide +kernel
theorem dX11_laysWorst_75 : decode cX11_laysWorst 75 = .ok (.iconst 0, 1) := by decide +kernel
theorem dX11_laysWorst_76 : decode cX11_laysWorst 76 = .ok (.iload_n 3, 1) := by decide +kernel
theorem dX11_laysWorst_77 : decode cX11_laysWorst 77 = .ok (.iastore, 1) := by decide +kernel
theorem dX11_laysWorst_78 : decode cX11_laysWorst 78 = .ok (.aload_n 0, 1) := by decide +kernel
theorem dX11_laysWorst_79 : decode cX11_laysWorst 79 = .ok (.getfield 42, 3) := by decide +kernel
theorem dX11_laysWorst_82 : decode cX11_laysWorst 82 = .ok (.iconst 1, 1) := by decide +kernel
theorem dX11_laysWorst_83 : decode cX11_laysWorst 83 = .ok (.iload_n 1, 1) := by decide +kernel
theorem dX11_laysWorst_84 : decode cX11_laysWorst 84 = .ok (.iastore, 1) := by decide +kernel
theorem dX11_laysWorst_85 : decode cX11_laysWorst 85 = .ok (.aload_n 0, 1) := by decide +kernel
theorem dX11_laysWorst_86 : decode cX11_laysWorst 86 = .ok (.getfield 42, 3) := by decide +kernel
theorem dX11_laysWorst_89 : decode cX11_laysWorst 89 = .ok (.iconst 2, 1) := by decide +kernel
theorem dX11_laysWorst_90 : decode cX11_laysWorst 90 = .ok (.iload_n 2, 1) := by decide +kernel
theorem dX11_laysWorst_91 : decode cX11_laysWorst 91 = .ok (.iastore, 1) := by decide +kernel
theorem dX11_laysWorst_92 : decode cX11_laysWorst 92 = .ok (.iinc 2 1, 3) := by decide +kernel
theorem dX11_laysWorst_95 : decode cX11_laysWorst 95 = .ok (.goto (-75), 3) := by decide +kernel
theorem dX11_laysWorst_98 : decode cX11_laysWorst 98 = .ok (.iinc 1 1, 3) := by decide +kernel
theorem dX11_laysWorst_101 : decode cX11_laysWorst 101 = .ok (.goto (-92), 3) := by decide +kernel
theorem dX11_laysWorst_104 : decode cX11_laysWorst 104 = .ok (.return_, 1) := by decide +kernel
set_option maxRecDepth 20000 in
theorem ggX11_worst_X11_in : GoodIn wsX11_worst wsX11_in := goodIn_r _ [5] (by decide +kernel) (by decide +kernel)
set_option maxRecDepth 20000 in
theorem gX11_worst_X11_in : GoodIn wsX11_worst (va_wsS RX11 70 yX11_in wsX11_in) := goodIn_app (goodIn_of _ (by decide +kernel)) ggX11_worst_X11_in
set_option maxRecDepth 20000 in
theorem ggX11_worst_X11_laysWorst : GoodIn wsX11_worst wsX11_laysWorst := goodIn_r _ [9, 1, 10, 11, 12, 4, 13, 14, 15, 16, 17, 18, 19, 20, 21, 22, 23, 24, 25, 26, 27, 28, 29, 30, 31, 32, 33, 34, 35, 36, 37, 38, 39, 40, 41, 42, 43, 44, 45, 46, 47, 48, 49, 50, 51, 52, 53, 54, 55, 56, 57, 58, 59, 60, 61, 62, 63, 64, 65, 66, 67, 68, 69, 70, 71, 72, 73, 74, 75, 76, 77, 78, 79, 80, 81, 82, 83, 84, 85, 86, 87, 88, 89, 90, 91, 92, 93, 94, 95, 96] (by decide +kernel) (by decide +kernel)
set_option maxRecDepth 20000 in
theorem gX11_worst_X11_laysWorst : GoodIn wsX11_worst (wsV RX11 181 RX11 yX11_laysWorst wsX11_laysWorst) := goodIn_app (goodIn_of _ (by decide +kernel)) ggX11_worst_X11_laysWorst
