theorem dX0_init_0 : decode cX0_init 0 = .ok (.aload_n 0, 1) := by decide +kernel
theorem dX0_init_1 : decode cX0_init 1 = .ok (.invokespecial 1, 3) := by decide +kernel
theorem dX0_init_4 : decode cX0_init 4 = .ok (.aload_n 0, 1) := by decide +kernel
theorem dX0_init_5 : decode cX0_init 5 = .ok (.iconst 5, 1) := by decide +kernel
theorem dX0_init_6 : decode cX0_init 6 = .ok (.newarray .long, 2) := by decide +kernel
theorem dX0_init_8 : decode cX0_init 8 = .ok (.putfield 9, 3) := by decide +kernel
theorem dX0_init_11 : decode cX0_init 11 = .ok (.aload_n 0, 1) := by decide +kernel
theorem dX0_init_12 : decode cX0_init 12 = .ok (.bipush 8, 2) := by decide +kernel
theorem dX0_init_14 : decode cX0_init 14 = .ok (.newarray .int, 2) := by decide +kernel
theorem dX0_init_16 : decode cX0_init 16 = .ok (.putfield 13, 3) := by decide +kernel
theorem dX0_init_19 : decode cX0_init 19 = .ok (.aload_n 0, 1) := by decide +kernel
theorem dX0_init_20 : decode cX0_init 20 = .ok (.bipush 60, 2) := by decide +kernel
theorem dX0_init_22 : decode cX0_init 22 = .ok (.putfield 17, 3) := by decide +kernel
theorem dX0_init_25 : decode cX0_init 25 = .ok (.aload_n 0, 1) := by decide +kernel
theorem dX0_init_26 : decode cX0_init 26 = .ok (.bipush 12, 2) := by decide +kernel
theorem dX0_init_28 : decode cX0_init 28 = .ok (.putfield 21, 3) := by decide +kernel
theorem dX0_init_31 : decode cX0_init 31 = .ok (.aload_n 0, 1) := by decide +kernel
theorem dX0_init_32 : decode cX0_init 32 = .ok (.iconst 1, 1) := by decide +kernel
theorem dX0_init_33 : decode cX0_init 33 = .ok (.putfield 24, 3) := by decide +kernel
theorem dX0_init_36 : decode cX0_init 36 = .ok (.aload_n 0, 1) := by decide +kernel
theorem dX0_init_37 : decode cX0_init 37 = .ok (.iconst 1, 1) := by decide +kernel
theorem dX0_init_38 : decode cX0_init 38 = .ok (.putfield 27, 3) := by decide +kernel
theorem dX0_init_41 : decode cX0_init 41 = .ok (.return_, 1) := by decide +kernel
theorem dX0_become_0 : decode cX0_become 0 = .ok (.aload_n 1, 1) := by decide +kernel
theorem dX0_become_1 : decode cX0_become 1 = .ok (.getfield 9, 3) := by decide +kernel
theorem dX0_become_4 : decode cX0_become 4 = .ok (.iconst 0, 1) := by decide +kernel
theorem dX0_become_5 : decode cX0_become 5 = .ok (.aload_n 0, 1) := by decide +kernel
theorem dX0_become_6 : decode cX0_become 6 = .ok (.getfield 9, 3) := by decide +kernel
theorem dX0_become_9 : decode cX0_become 9 = .ok (.iconst 0, 1) := by decide +kernel
theorem dX0_become_10 : decode cX0_become 10 = .ok (.iconst 5, 1) := by decide +kernel
theorem dX0_become_11 : decode cX0_become 11 = .ok (.invokestatic 30, 3) := by decide +kernel
theorem dX0_become_14 : decode cX0_become 14 = .ok (.aload_n 1, 1) := by decide +kernel
theorem dX0_become_15 : decode cX0_become 15 = .ok (.getfield 13, 3) := by decide +kernel
theorem dX0_become_18 : decode cX0_become 18 = .ok (.iconst 0, 1) := by decide +kernel
theorem dX0_become_19 : decode cX0_become 19 = .ok (.aload_n 0, 1) := by decide +kernel
theorem dX0_become_20 : decode cX0_become 20 = .ok (.getfield 13, 3) := by decide +kernel
theorem dX0_become_23 : decode cX0_become 23 = .ok (.iconst 0, 1) := by decide +kernel
theorem dX0_become_24 : decode cX0_become 24 = .ok (.bipush 8, 2) := by decide +kernel
theorem dX0_become_26 : decode cX0_become 26 = .ok (.invokestatic 30, 3) := by decide +kernel
theorem dX0_become_29 : decode cX0_become 29 = .ok (.aload_n 0, 1) := by decide +kernel
theorem dX0_become_30 : decode cX0_become 30 = .ok (.aload_n 1, 1) := by decide +kernel
theorem dX0_become_31 : decode cX0_become 31 = .ok (.getfield 36, 3) := by decide +kernel
theorem dX0_become_34 : decode cX0_become 34 = .ok (.putfield 36, 3) := by decide +kernel
theorem dX0_become_37 : decode cX0_become 37 = .ok (.aload_n 0, 1) := by decide +kernel
theorem dX0_become_38 : decode cX0_become 38 = .ok (.aload_n 1, 1) := by decide +kernel
theorem dX0_become_39 : decode cX0_become 39 = .ok (.getfield 17, 3) := by decide +kernel
theorem dX0_become_42 : decode cX0_become 42 = .ok (.putfield 17, 3) := by decide +kernel
theorem dX0_become_45 : decode cX0_become 45 = .ok (.aload_n 0, 1) := by decide +kernel
theorem dX0_become_46 : decode cX0_become 46 = .ok (.aload_n 1, 1) := by decide +kernel
theorem dX0_become_47 : decode cX0_become 47 = .ok (.getfield 21, 3) := by decide +kernel
theorem dX0_become_50 : decode cX0_become 50 = .ok (.putfield 21, 3) := by decide +kernel
theorem dX0_become_53 : decode cX0_become 53 = .ok (.aload_n 0, 1) := by decide +kernel
theorem dX0_become_54 : decode cX0_become 54 = .ok (.aload_n 1, 1) := by decide +kernel
theorem dX0_become_55 : decode cX0_become 55 = .ok (.getfield 24, 3) := by decide +kernel
theorem dX0_become_58 : decode cX0_become 58 = .ok (.putfield 24, 3) := by decide +kernel
theorem dX0_become_61 : decode cX0_become 61 = .ok (.aload_n 0, 1) := by decide +kernel
theorem dX0_become_62 : decode cX0_become 62 = .ok (.aload_n 1, 1) := by decide +kernel
theorem dX0_become_63 : decode cX0_become 63 = .ok (.getfield 27, 3) := by decide +kernel
theorem dX0_become_66 : decode cX0_become 66 = .ok (.putfield 27, 3) := by decide +kernel
theorem dX0_become_69 : decode cX0_become 69 = .ok (.return_, 1) := by decide +kernel
theorem dX0_isLand_0 : decode cX0_isLand 0 = .ok (.aload_n 0, 1) := by decide +kernel
theorem dX0_isLand_1 : decode cX0_isLand 1 = .ok (.getfield 9, 3) := by decide +kernel
theorem dX0_isLand_4 : decode cX0_isLand 4 = .ok (.iload_n 1, 1) := by decide +kernel
theorem dX0_isLand_5 : decode cX0_isLand 5 = .ok (.bipush 6, 2) := by decide +kernel
theorem dX0_isLand_7 : decode cX0_isLand 7 = .ok (.ishr, 1) := by decide +kernel
theorem dX0_isLand_8 : decode cX0_isLand 8 = .ok (.laload, 1) := by decide +kernel
theorem dX0_isLand_9 : decode cX0_isLand 9 = .ok (.iload_n 1, 1) := by decide +kernel
theorem dX0_isLand_10 : decode cX0_isLand 10 = .ok (.bipush 63, 2) := by decide +kernel
theorem dX0_isLand_12 : decode cX0_isLand 12 = .ok (.iand, 1) := by decide +kernel
theorem dX0_isLand_13 : decode cX0_isLand 13 = .ok (.lushr, 1) := by decide +kernel
theorem dX0_isLand_14 : decode cX0_isLand 14 = .ok (.lconst 1, 1) := by decide +kernel
theorem dX0_isLand_15 : decode cX0_isLand 15 = .ok (.land, 1) := by decide +kernel
theorem dX0_isLand_16 : decode cX0_isLand 16 = .ok (.lconst 0, 1) := by decide +kernel
theorem dX0_isLand_17 : decode cX0_isLand 17 = .ok (.lcmp, 1) := by decide +kernel
theorem dX0_isLand_18 : decode cX0_isLand 18 = .ok (.ifCond .eq 7, 3) := by decide +kernel
theorem dX0_isLand_21 : decode cX0_isLand 21 = .ok (.iconst 1, 1) := by decide +kernel
theorem dX0_isLand_22 : decode cX0_isLand 22 = .ok (.goto 4, 3) := by decide +kernel
theorem dX0_isLand_25 : decode cX0_isLand 25 = .ok (.iconst 0, 1) := by decide +kernel
theorem dX0_isLand_26 : decode cX0_isLand 26 = .ok (.ireturn, 1) := by decide +kernel
theorem dX0_turnOver_0 : decode cX0_turnOver 0 = .ok (.aload_n 0, 1) := by decide +kernel
theorem dX0_turnOver_1 : decode cX0_turnOver 1 = .ok (.getfield 9, 3) := by decide +kernel
theorem dX0_turnOver_4 : decode cX0_turnOver 4 = .ok (.iload_n 1, 1) := by decide +kernel
theorem dX0_turnOver_5 : decode cX0_turnOver 5 = .ok (.bipush 6, 2) := by decide +kernel
theorem dX0_turnOver_7 : decode cX0_turnOver 7 = .ok (.ishr, 1) := by decide +kernel
theorem dX0_turnOver_8 : decode cX0_turnOver 8 = .ok (.dup2, 1) := by decide +kernel
theorem dX0_turnOver_9 : decode cX0_turnOver 9 = .ok (.laload, 1) := by decide +kernel
theorem dX0_turnOver_10 : decode cX0_turnOver 10 = .ok (.lconst 1, 1) := by decide +kernel
theorem dX0_turnOver_11 : decode cX0_turnOver 11 = .ok (.iload_n 1, 1) := by decide +kernel
theorem dX0_turnOver_12 : decode cX0_turnOver 12 = .ok (.bipush 63, 2) := by decide +kernel
theorem dX0_turnOver_14 : decode cX0_turnOver 14 = .ok (.iand, 1) := by decide +kernel
theorem dX0_turnOver_15 : decode cX0_turnOver 15 = .ok (.lshl, 1) := by decide +kernel
theorem dX0_turnOver_16 : decode cX0_turnOver 16 = .ok (.lxor, 1) := by decide +kernel
theorem dX0_turnOver_17 : decode cX0_turnOver 17 = .ok (.lastore, 1) := by decide +kernel
theorem dX0_turnOver_18 : decode cX0_turnOver 18 = .ok (.return_, 1) := by decide +kernel
set_option maxRecDepth 20000 in
theorem ggX0_landNumber_J13_bitCount_95d88 : GoodIn wsX0_landNumber wsJ13_bitCount_95d88 := goodIn_r _ [5, 6, 7, 8] (by decide +kernel) (by decide +kernel)
set_option maxRecDepth 20000 in
theorem gX0_landNumber_J13_bitCount_95d88 : GoodIn wsX0_landNumber (va_wsS RX0 39 yJ13_bitCount_95d88 wsJ13_bitCount_95d88) := goodIn_app (goodIn_of _ (by decide +kernel)) ggX0_landNumber_J13_bitCount_95d88
theorem dX0_landNumber_0 : decode cX0_landNumber 0 = .ok (.iconst 0, 1) := by decide +kernel
theorem dX0_landNumber_1 : decode cX0_landNumber 1 = .ok (.istore_n 1, 1) := by decide +kernel
theorem dX0_landNumber_2 : decode cX0_landNumber 2 = .ok (.aload_n 0, 1) := by decide +kernel
theorem dX0_landNumber_3 : decode cX0_landNumber 3 = .ok (.getfield 9, 3) := by decide +kernel
theorem dX0_landNumber_6 : decode cX0_landNumber 6 = .ok (.astore_n 2, 1) := by decide +kernel
theorem dX0_landNumber_7 : decode cX0_landNumber 7 = .ok (.aload_n 2, 1) := by decide +kernel
theorem dX0_landNumber_8 : decode cX0_landNumber 8 = .ok (.arraylength, 1) := by decide +kernel
theorem dX0_landNumber_9 : decode cX0_landNumber 9 = .ok (.istore_n 3, 1) := by decide +kernel
theorem dX0_landNumber_10 : decode cX0_landNumber 10 = .ok (.iconst 0, 1) := by decide +kernel
theorem dX0_landNumber_11 : decode cX0_landNumber 11 = .ok (.istore 4, 2) := by decide +kernel
theorem dX0_landNumber_13 : decode cX0_landNumber 13 = .ok (.iload 4, 2) := by decide +kernel
theorem dX0_landNumber_15 : decode cX0_landNumber 15 = .ok (.iload_n 3, 1) := by decide +kernel
theorem dX0_landNumber_16 : decode cX0_landNumber 16 = .ok (.if_icmp .ge 23, 3) := by decide +kernel
theorem dX0_landNumber_19 : decode cX0_landNumber 19 = .ok (.aload_n 2, 1) := by decide +kernel
theorem dX0_landNumber_20 : decode cX0_landNumber 20 = .ok (.iload 4, 2) := by decide +kernel
theorem dX0_landNumber_22 : decode cX0_landNumber 22 = .ok (.laload, 1) := by decide +kernel
theorem dX0_landNumber_23 : decode cX0_landNumber 23 = .ok (.lstore 5, 2) := by decide +kernel
theorem dX0_landNumber_25 : decode cX0_landNumber 25 = .ok (.iload_n 1, 1) := by decide +kernel
theorem dX0_landNumber_26 : decode cX0_landNumber 26 = .ok (.lload 5, 2) := by decide +kernel
theorem dX0_landNumber_28 : decode cX0_landNumber 28 = .ok (.invokestatic 39, 3) := by decide +kernel
theorem dX0_landNumber_31 : decode cX0_landNumber 31 = .ok (.iadd, 1) := by decide +kernel
theorem dX0_landNumber_32 : decode cX0_landNumber 32 = .ok (.istore_n 1, 1) := by decide +kernel
theorem dX0_landNumber_33 : decode cX0_landNumber 33 = .ok (.iinc 4 1, 3) := by decide +kernel
theorem dX0_landNumber_36 : decode cX0_landNumber 36 = .ok (.goto (-23), 3) := by decide +kernel
theorem dX0_landNumber_39 : decode cX0_landNumber 39 = .ok (.iload_n 1, 1) := by decide +kernel
theorem dX0_landNumber_40 : decode cX0_landNumber 40 = .ok (.ireturn, 1) := by decide +kernel
set_option maxRecDepth 20000 in
theorem ggX0_landNumberOnStrips_X0_isLand : GoodIn wsX0_landNumberOnStrips wsX0_isLand := goodIn_r _ [5, 6, 20, 21, 22, 23, 24, 25, 26] (by decide +kernel) (by decide +kernel)
set_option maxRecDepth 20000 in
theorem gX0_landNumberOnStrips_X0_isLand : GoodIn wsX0_landNumberOnStrips (wsV RX0 47 RX0 yX0_isLand wsX0_isLand) := goodIn_app (goodIn_of _ (by decide +kernel)) ggX0_landNumberOnStrips_X0_isLand
set_option maxRecDepth 20000 in
theorem ggX0_landNumberOnStrips_X1_rowOf : GoodIn wsX0_landNumberOnStrips wsX1_rowOf := goodIn_r _ [10] (by decide +kernel) (by decide +kernel)
set_option maxRecDepth 20000 in
theorem gX0_landNumberOnStrips_X1_rowOf : GoodIn wsX0_landNumberOnStrips (va_wsS RX0 51 yX1_rowOf wsX1_rowOf) := goodIn_app (goodIn_of _ (by decide +kernel)) ggX0_landNumberOnStrips_X1_rowOf
set_option maxRecDepth 20000 in
theorem ggX0_landNumberOnStrips_X0_isOnStrips : GoodIn wsX0_landNumberOnStrips wsX0_isOnStrips := goodIn_r _ [14, 15, 16, 17, 18, 19, 20, 21, 22, 23, 24, 25, 26] (by decide +kernel) (by decide +kernel)
set_option maxRecDepth 20000 in
theorem gX0_landNumberOnStrips_X0_isOnStrips : GoodIn wsX0_landNumberOnStrips (wsV RX0 55 RX0 yX0_isOnStrips wsX0_isOnStrips) := goodIn_app (goodIn_of _ (by decide +kernel)) ggX0_landNumberOnStrips_X0_isOnStrips
theorem dX0_landNumberOnStrips_0 : decode cX0_landNumberOnStrips 0 = .ok (.iconst 0, 1) := by decide +kernel
theorem dX0_landNumberOnStrips_1 : decode cX0_landNumberOnStrips 1 = .ok (.istore_n 1, 1) := by decide +kernel
theorem dX0_landNumberOnStrips_2 : decode cX0_landNumberOnStrips 2 = .ok (.iconst 0, 1) := by decide +kernel
theorem dX0_landNumberOnStrips_3 : decode cX0_landNumberOnStrips 3 = .ok (.istore_n 2, 1) := by decide +kernel
theorem dX0_landNumberOnStrips_4 : decode cX0_landNumberOnStrips 4 = .ok (.iload_n 2, 1) := by decide +kernel
theorem dX0_landNumberOnStrips_5 : decode cX0_landNumberOnStrips 5 = .ok (.sipush 266, 3) := by decide +kernel
theorem dX0_landNumberOnStrips_8 : decode cX0_landNumberOnStrips 8 = .ok (.if_icmp .ge 31, 3) := by decide +kernel
theorem dX0_landNumberOnStrips_11 : decode cX0_landNumberOnStrips 11 = .ok (.aload_n 0, 1) := by decide +kernel
theorem dX0_landNumberOnStrips_12 : decode cX0_landNumberOnStrips 12 = .ok (.iload_n 2, 1) := by decide +kernel
theorem dX0_landNumberOnStrips_13 : decode cX0_landNumberOnStrips 13 = .ok (.invokevirtual 47, 3) := by decide +kernel
theorem dX0_landNumberOnStrips_16 : decode cX0_landNumberOnStrips 16 = .ok (.ifCond .eq 17, 3) := by decide +kernel
theorem dX0_landNumberOnStrips_19 : decode cX0_landNumberOnStrips 19 = .ok (.aload_n 0, 1) := by decide +kernel
theorem dX0_landNumberOnStrips_20 : decode cX0_landNumberOnStrips 20 = .ok (.iload_n 2, 1) := by decide +kernel
theorem dX0_landNumberOnStrips_21 : decode cX0_landNumberOnStrips 21 = .ok (.invokestatic 51, 3) := by decide +kernel
theorem dX0_landNumberOnStrips_24 : decode cX0_landNumberOnStrips 24 = .ok (.invokevirtual 55, 3) := by decide +kernel
theorem dX0_landNumberOnStrips_27 : decode cX0_landNumberOnStrips 27 = .ok (.ifCond .eq 6, 3) := by decide +kernel
theorem dX0_landNumberOnStrips_30 : decode cX0_landNumberOnStrips 30 = .ok (.iinc 1 1, 3) := by decide +kernel
theorem dX0_landNumberOnStrips_33 : decode cX0_landNumberOnStrips 33 = .ok (.iinc 2 1, 3) := by decide +kernel
theorem dX0_landNumberOnStrips_36 : decode cX0_landNumberOnStrips 36 = .ok (.goto (-32), 3) := by decide +kernel
theorem dX0_landNumberOnStrips_39 : decode cX0_landNumberOnStrips 39 = .ok (.iload_n 1, 1) := by decide +kernel
theorem dX0_landNumberOnStrips_40 : decode cX0_landNumberOnStrips 40 = .ok (.ireturn, 1) := by decide +kernel
theorem dX0_width_0 : decode cX0_width 0 = .ok (.bipush 24, 2) := by decide +kernel
theorem dX0_width_2 : decode cX0_width 2 = .ok (.aload_n 0, 1) := by decide +kernel
theorem dX0_width_3 : decode cX0_width 3 = .ok (.getfield 21, 3) := by decide +kernel
theorem dX0_width_6 : decode cX0_width 6 = .ok (.idiv, 1) := by decide +kernel
theorem dX0_width_7 : decode cX0_width 7 = .ok (.ireturn, 1) := by decide +kernel
theorem dX0_isOnStrips_0 : decode cX0_isOnStrips 0 = .ok (.iload_n 1, 1) := by decide +kernel
theorem dX0_isOnStrips_1 : decode cX0_isOnStrips 1 = .ok (.invokestatic 58, 3) := by decide +kernel
theorem dX0_isOnStrips_4 : decode cX0_isOnStrips 4 = .ok (.bipush 6, 2) := by decide +kernel
theorem dX0_isOnStrips_6 : decode cX0_isOnStrips 6 = .ok (.aload_n 0, 1) := by decide +kernel
theorem dX0_isOnStrips_7 : decode cX0_isOnStrips 7 = .ok (.getfield 24, 3) := by decide +kernel
theorem dX0_isOnStrips_10 : decode cX0_isOnStrips 10 = .ok (.isub, 1) := by decide +kernel
theorem dX0_isOnStrips_11 : decode cX0_isOnStrips 11 = .ok (.if_icmp .gt 7, 3) := by decide +kernel
theorem dX0_isOnStrips_14 : decode cX0_isOnStrips 14 = .ok (.iconst 1, 1) := by decide +kernel
theorem dX0_isOnStrips_15 : decode cX0_isOnStrips 15 = .ok (.goto 4, 3) := by decide +kernel
theorem dX0_isOnStrips_18 : decode cX0_isOnStrips 18 = .ok (.iconst 0, 1) := by decide +kernel
theorem dX0_isOnStrips_19 : decode cX0_isOnStrips 19 = .ok (.ireturn, 1) := by decide +kernel
set_option maxRecDepth 20000 in
theorem ggX0_areOnStrips_X1_rowOf : GoodIn wsX0_areOnStrips wsX1_rowOf := goodIn_r _ [4] (by decide +kernel) (by decide +kernel)
set_option maxRecDepth 20000 in
theorem gX0_areOnStrips_X1_rowOf : GoodIn wsX0_areOnStrips (va_wsS RX0 51 yX1_rowOf wsX1_rowOf) := goodIn_app (goodIn_of _ (by decide +kernel)) ggX0_areOnStrips_X1_rowOf
set_option maxRecDepth 20000 in
theorem ggX0_areOnStrips_X0_isOnStrips : GoodIn wsX0_areOnStrips wsX0_isOnStrips := goodIn_r _ [9, 10, 11, 12, 13, 14, 15, 16, 17, 18, 19, 20, 21] (by decide +kernel) (by decide +kernel)
set_option maxRecDepth 20000 in
theorem gX0_areOnStrips_X0_isOnStrips : GoodIn wsX0_areOnStrips (wsV RX0 55 RX0 yX0_isOnStrips wsX0_isOnStrips) := goodIn_app (goodIn_of _ (by decide +kernel)) ggX0_areOnStrips_X0_isOnStrips
theorem dX0_areOnStrips_0 : decode cX0_areOnStrips 0 = .ok (.aload_n 0, 1) := by decide +kernel
theorem dX0_areOnStrips_1 : decode cX0_areOnStrips 1 = .ok (.iload_n 1, 1) := by decide +kernel
theorem dX0_areOnStrips_2 : decode cX0_areOnStrips 2 = .ok (.invokestatic 51, 3) := by decide +kernel
theorem dX0_areOnStrips_5 : decode cX0_areOnStrips 5 = .ok (.invokevirtual 55, 3) := by decide +kernel
theorem dX0_areOnStrips_8 : decode cX0_areOnStrips 8 = .ok (.ifCond .eq 18, 3) := by decide +kernel
theorem dX0_areOnStrips_11 : decode cX0_areOnStrips 11 = .ok (.aload_n 0, 1) := by decide +kernel
theorem dX0_areOnStrips_12 : decode cX0_areOnStrips 12 = .ok (.iload_n 2, 1) := by decide +kernel
theorem dX0_areOnStrips_13 : decode cX0_areOnStrips 13 = .ok (.invokestatic 51, 3) := by decide +kernel
theorem dX0_areOnStrips_16 : decode cX0_areOnStrips 16 = .ok (.invokevirtual 55, 3) := by decide +kernel
theorem dX0_areOnStrips_19 : decode cX0_areOnStrips 19 = .ok (.ifCond .eq 7, 3) := by decide +kernel
theorem dX0_areOnStrips_22 : decode cX0_areOnStrips 22 = .ok (.iconst 1, 1) := by decide +kernel
theorem dX0_areOnStrips_23 : decode cX0_areOnStrips 23 = .ok (.goto 4, 3) := by decide +kernel
theorem dX0_areOnStrips_26 : decode cX0_areOnStrips 26 = .ok (.iconst 0, 1) := by decide +kernel
theorem dX0_areOnStrips_27 : decode cX0_areOnStrips 27 = .ok (.ireturn, 1) := by decide +kernel
theorem dX0_isOnCap_0 : decode cX0_isOnCap 0 = .ok (.aload_n 0, 1) := by decide +kernel
theorem dX0_isOnCap_1 : decode cX0_isOnCap 1 = .ok (.getfield 24, 3) := by decide +kernel
theorem dX0_isOnCap_4 : decode cX0_isOnCap 4 = .ok (.ifCond .le 21, 3) := by decide +kernel
theorem dX0_isOnCap_7 : decode cX0_isOnCap 7 = .ok (.iload_n 1, 1) := by decide +kernel
theorem dX0_isOnCap_8 : decode cX0_isOnCap 8 = .ok (.invokestatic 58, 3) := by decide +kernel
theorem dX0_isOnCap_11 : decode cX0_isOnCap 11 = .ok (.bipush 6, 2) := by decide +kernel
theorem dX0_isOnCap_13 : decode cX0_isOnCap 13 = .ok (.aload_n 0, 1) := by decide +kernel
theorem dX0_isOnCap_14 : decode cX0_isOnCap 14 = .ok (.getfield 24, 3) := by decide +kernel
theorem dX0_isOnCap_17 : decode cX0_isOnCap 17 = .ok (.isub, 1) := by decide +kernel
theorem dX0_isOnCap_18 : decode cX0_isOnCap 18 = .ok (.if_icmp .lt 7, 3) := by decide +kernel
theorem dX0_isOnCap_21 : decode cX0_isOnCap 21 = .ok (.iconst 1, 1) := by decide +kernel
theorem dX0_isOnCap_22 : decode cX0_isOnCap 22 = .ok (.goto 4, 3) := by decide +kernel
theorem dX0_isOnCap_25 : decode cX0_isOnCap 25 = .ok (.iconst 0, 1) := by decide +kernel
theorem dX0_isOnCap_26 : decode cX0_isOnCap 26 = .ok (.ireturn, 1) := by decide +kernel
set_option maxRecDepth 20000 in
theorem ggX0_far_X1_rowCosine : GoodIn wsX0_far wsX1_rowCosine := goodIn_r _ [5, 6] (by decide +kernel) (by decide +kernel)
set_option maxRecDepth 20000 in
theorem gX0_far_X1_rowCosine : GoodIn wsX0_far (va_wsS RX0 63 yX1_rowCosine wsX1_rowCosine) := goodIn_app (goodIn_of _ (by decide +kernel)) ggX0_far_X1_rowCosine
theorem dX0_far_0 : decode cX0_far 0 = .ok (.iload_n 1, 1) := by decide +kernel
theorem dX0_far_1 : decode cX0_far 1 = .ok (.iload_n 2, 1) := by decide +kernel
theorem dX0_far_2 : decode cX0_far 2 = .ok (.if_icmp .ne 21, 3) := by decide +kernel
theorem dX0_far_5 : decode cX0_far 5 = .ok (.iconst 2, 1) := by decide +kernel
theorem dX0_far_6 : decode cX0_far 6 = .ok (.aload_n 0, 1) := by decide +kernel
theorem dX0_far_7 : decode cX0_far 7 = .ok (.getfield 17, 3) := by decide +kernel
theorem dX0_far_10 : decode cX0_far 10 = .ok (.imul, 1) := by decide +kernel
theorem dX0_far_11 : decode cX0_far 11 = .ok (.iload_n 1, 1) := by decide +kernel
theorem dX0_far_12 : decode cX0_far 12 = .ok (.invokestatic 63, 3) := by decide +kernel
theorem dX0_far_15 : decode cX0_far 15 = .ok (.imul, 1) := by decide +kernel
theorem dX0_far_16 : decode cX0_far 16 = .ok (.sipush 10000, 3) := by decide +kernel
theorem dX0_far_19 : decode cX0_far 19 = .ok (.idiv, 1) := by decide +kernel
theorem dX0_far_20 : decode cX0_far 20 = .ok (.goto 9, 3) := by decide +kernel
theorem dX0_far_23 : decode cX0_far 23 = .ok (.iconst 2, 1) := by decide +kernel
theorem dX0_far_24 : decode cX0_far 24 = .ok (.aload_n 0, 1) := by decide +kernel
theorem dX0_far_25 : decode cX0_far 25 = .ok (.getfield 17, 3) := by decide +kernel
theorem dX0_far_28 : decode cX0_far 28 = .ok (.imul, 1) := by decide +kernel
theorem dX0_far_29 : decode cX0_far 29 = .ok (.ireturn, 1) := by decide +kernel
theorem dX0_stopsAt_0 : decode cX0_stopsAt 0 = .ok (.iconst 0, 1) := by decide +kernel
theorem dX0_stopsAt_1 : decode cX0_stopsAt 1 = .ok (.istore_n 2, 1) := by decide +kernel
theorem dX0_stopsAt_2 : decode cX0_stopsAt 2 = .ok (.iload_n 2, 1) := by decide +kernel
theorem dX0_stopsAt_3 : decode cX0_stopsAt 3 = .ok (.aload_n 0, 1) := by decide +kernel
theorem dX0_stopsAt_4 : decode cX0_stopsAt 4 = .ok (.getfield 36, 3) := by decide +kernel
theorem dX0_stopsAt_7 : decode cX0_stopsAt 7 = .ok (.if_icmp .ge 21, 3) := by decide +kernel
theorem dX0_stopsAt_10 : decode cX0_stopsAt 10 = .ok (.aload_n 0, 1) := by decide +kernel
theorem dX0_stopsAt_11 : decode cX0_stopsAt 11 = .ok (.getfield 13, 3) := by decide +kernel
theorem dX0_stopsAt_14 : decode cX0_stopsAt 14 = .ok (.iload_n 2, 1) := by decide +kernel
theorem dX0_stopsAt_15 : decode cX0_stopsAt 15 = .ok (.iaload, 1) := by decide +kernel
theorem dX0_stopsAt_16 : decode cX0_stopsAt 16 = .ok (.iload_n 1, 1) := by decide +kernel
theorem dX0_stopsAt_17 : decode cX0_stopsAt 17 = .ok (.if_icmp .ne 5, 3) := by decide +kernel
theorem dX0_stopsAt_20 : decode cX0_stopsAt 20 = .ok (.iconst 1, 1) := by decide +kernel
theorem dX0_stopsAt_21 : decode cX0_stopsAt 21 = .ok (.ireturn, 1) := by decide +kernel
theorem dX0_stopsAt_22 : decode cX0_stopsAt 22 = .ok (.iinc 2 1, 3) := by decide +kernel
theorem dX0_stopsAt_25 : decode cX0_stopsAt 25 = .ok (.goto (-23), 3) := by decide +kernel
theorem dX0_stopsAt_28 : decode cX0_stopsAt 28 = .ok (.iconst 0, 1) := by decide +kernel
theorem dX0_stopsAt_29 : decode cX0_stopsAt 29 = .ok (.ireturn, 1) := by decide +kernel
theorem dX0_withoutStop_0 : decode cX0_withoutStop 0 = .ok (.iconst 0, 1) := by decide +kernel
theorem dX0_withoutStop_1 : decode cX0_withoutStop 1 = .ok (.istore_n 2, 1) := by decide +kernel
theorem dX0_withoutStop_2 : decode cX0_withoutStop 2 = .ok (.iconst 0, 1) := by decide +kernel
theorem dX0_withoutStop_3 : decode cX0_withoutStop 3 = .ok (.istore_n 3, 1) := by decide +kernel
theorem dX0_withoutStop_4 : decode cX0_withoutStop 4 = .ok (.iload_n 3, 1) := by decide +kernel
theorem dX0_withoutStop_5 : decode cX0_withoutStop 5 = .ok (.aload_n 0, 1) := by decide +kernel
theorem dX0_withoutStop_6 : decode cX0_withoutStop 6 = .ok (.getfield 36, 3) := by decide +kernel
theorem dX0_withoutStop_9 : decode cX0_withoutStop 9 = .ok (.if_icmp .ge 34, 3) := by decide +kernel
theorem dX0_withoutStop_12 : decode cX0_withoutStop 12 = .ok (.aload_n 0, 1) := by decide +kernel
theorem dX0_withoutStop_13 : decode cX0_withoutStop 13 = .ok (.getfield 13, 3) := by decide +kernel
theorem dX0_withoutStop_16 : decode cX0_withoutStop 16 = .ok (.iload_n 3, 1) := by decide +kernel
theorem dX0_withoutStop_17 : decode cX0_withoutStop 17 = .ok (.iaload, 1) := by decide +kernel
theorem dX0_withoutStop_18 : decode cX0_withoutStop 18 = .ok (.iload_n 1, 1) := by decide +kernel
theorem dX0_withoutStop_19 : decode cX0_withoutStop 19 = .ok (.if_icmp .eq 18, 3) := by decide +kernel
theorem dX0_withoutStop_22 : decode cX0_withoutStop 22 = .ok (.aload_n 0, 1) := by decide +kernel
theorem dX0_withoutStop_23 : decode cX0_withoutStop 23 = .ok (.getfield 13, 3) := by decide +kernel
theorem dX0_withoutStop_26 : decode cX0_withoutStop 26 = .ok (.iload_n 2, 1) := by decide +kernel
theorem dX0_withoutStop_27 : decode cX0_withoutStop 27 = .ok (.aload_n 0, 1) := by decide +kernel
theorem dX0_withoutStop_28 : decode cX0_withoutStop 28 = .ok (.getfield 13, 3) := by decide +kernel
theorem dX0_withoutStop_31 : decode cX0_withoutStop 31 = .ok (.iload_n 3, 1) := by decide +kernel
theorem dX0_withoutStop_32 : decode cX0_withoutStop 32 = .ok (.iaload, 1) := by decide +kernel
theorem dX0_withoutStop_33 : decode cX0_withoutStop 33 = .ok (.iastore, 1) := by decide +kernel
theorem dX0_withoutStop_34 : decode cX0_withoutStop 34 = .ok (.iinc 2 1, 3) := by decide +kernel
theorem dX0_withoutStop_37 : decode cX0_withoutStop 37 = .ok (.iinc 3 1, 3) := by decide +kernel
theorem dX0_withoutStop_40 : decode cX0_withoutStop 40 = .ok (.goto (-36), 3) := by decide +kernel
theorem dX0_withoutStop_43 : decode cX0_withoutStop 43 = .ok (.aload_n 0, 1) := by decide +kernel
theorem dX0_withoutStop_44 : decode cX0_withoutStop 44 = .ok (.getfield 36, 3) := by decide +kernel
theorem dX0_withoutStop_47 : decode cX0_withoutStop 47 = .ok (.iload_n 2, 1) := by decide +kernel
theorem dX0_withoutStop_48 : decode cX0_withoutStop 48 = .ok (.isub, 1) := by decide +kernel
theorem dX0_withoutStop_49 : decode cX0_withoutStop 49 = .ok (.istore_n 3, 1) := by decide +kernel
theorem dX0_withoutStop_50 : decode cX0_withoutStop 50 = .ok (.aload_n 0, 1) := by decide +kernel
theorem dX0_withoutStop_51 : decode cX0_withoutStop 51 = .ok (.iload_n 2, 1) := by decide +kernel
theorem dX0_withoutStop_52 : decode cX0_withoutStop 52 = .ok (.putfield 36, 3) := by decide +kernel
theorem dX0_withoutStop_55 : decode cX0_withoutStop 55 = .ok (.iload_n 3, 1) := by decide +kernel
theorem dX0_withoutStop_56 : decode cX0_withoutStop 56 = .ok (.ireturn, 1) := by decide +kernel
theorem dX0_turnRoute_0 : decode cX0_turnRoute 0 = .ok (.iconst 0, 1) := by decide +kernel
theorem dX0_turnRoute_1 : decode cX0_turnRoute 1 = .ok (.istore_n 1, 1) := by decide +kernel
theorem dX0_turnRoute_2 : decode cX0_turnRoute 2 = .ok (.iload_n 1, 1) := by decide +kernel
theorem dX0_turnRoute_3 : decode cX0_turnRoute 3 = .ok (.aload_n 0, 1) := by decide +kernel
theorem dX0_turnRoute_4 : decode cX0_turnRoute 4 = .ok (.getfield 36, 3) := by decide +kernel
theorem dX0_turnRoute_7 : decode cX0_turnRoute 7 = .ok (.iconst 2, 1) := by decide +kernel
theorem dX0_turnRoute_8 : decode cX0_turnRoute 8 = .ok (.idiv, 1) := by decide +kernel
theorem dX0_turnRoute_9 : decode cX0_turnRoute 9 = .ok (.if_icmp .ge 44, 3) := by decide +kernel
theorem dX0_turnRoute_12 : decode cX0_turnRoute 12 = .ok (.aload_n 0, 1) := by decide +kernel
theorem dX0_turnRoute_13 : decode cX0_turnRoute 13 = .ok (.getfield 36, 3) := by decide +kernel
theorem dX0_turnRoute_16 : decode cX0_turnRoute 16 = .ok (.iconst 1, 1) := by decide +kernel
theorem dX0_turnRoute_17 : decode cX0_turnRoute 17 = .ok (.isub, 1) := by decide +kernel
theorem dX0_turnRoute_18 : decode cX0_turnRoute 18 = .ok (.iload_n 1, 1) := by decide +kernel
theorem dX0_turnRoute_19 : decode cX0_turnRoute 19 = .ok (.isub, 1) := by decide +kernel
theorem dX0_turnRoute_20 : decode cX0_turnRoute 20 = .ok (.istore_n 2, 1) := by decide +kernel
theorem dX0_turnRoute_21 : decode cX0_turnRoute 21 = .ok (.aload_n 0, 1) := by decide +kernel
theorem dX0_turnRoute_22 : decode cX0_turnRoute 22 = .ok (.getfield 13, 3) := by decide +kernel
theorem dX0_turnRoute_25 : decode cX0_turnRoute 25 = .ok (.iload_n 1, 1) := by decide +kernel
theorem dX0_turnRoute_26 : decode cX0_turnRoute 26 = .ok (.iaload, 1) := by decide +kernel
theorem dX0_turnRoute_27 : decode cX0_turnRoute 27 = .ok (.istore_n 3, 1) := by decide +kernel
theorem dX0_turnRoute_28 : decode cX0_turnRoute 28 = .ok (.aload_n 0, 1) := by decide +kernel
theorem dX0_turnRoute_29 : decode cX0_turnRoute 29 = .ok (.getfield 13, 3) := by decide +kernel
theorem dX0_turnRoute_32 : decode cX0_turnRoute 32 = .ok (.iload_n 1, 1) := by decide +kernel
theorem dX0_turnRoute_33 : decode cX0_turnRoute 33 = .ok (.aload_n 0, 1) := by decide +kernel
theorem dX0_turnRoute_34 : decode cX0_turnRoute 34 = .ok (.getfield 13, 3) := by decide +kernel
theorem dX0_turnRoute_37 : decode cX0_turnRoute 37 = .ok (.iload_n 2, 1) := by decide +kernel
theorem dX0_turnRoute_38 : decode cX0_turnRoute 38 = .ok (.iaload, 1) := by decide +kernel
theorem dX0_turnRoute_39 : decode cX0_turnRoute 39 = .ok (.iastore, 1) := by decide +kernel
theorem dX0_turnRoute_40 : decode cX0_turnRoute 40 = .ok (.aload_n 0, 1) := by decide +kernel
theorem dX0_turnRoute_41 : decode cX0_turnRoute 41 = .ok (.getfield 13, 3) := by decide +kernel
theorem dX0_turnRoute_44 : decode cX0_turnRoute 44 = .ok (.iload_n 2, 1) := by decide +kernel
theorem dX0_turnRoute_45 : decode cX0_turnRoute 45 = .ok (.iload_n 3, 1) := by decide +kernel
theorem dX0_turnRoute_46 : decode cX0_turnRoute 46 = .ok (.iastore, 1) := by decide +kernel
theorem dX0_turnRoute_47 : decode cX0_turnRoute 47 = .ok (.iinc 1 1, 3) := by decide +kernel
theorem dX0_turnRoute_50 : decode cX0_turnRoute 50 = .ok (.goto (-48), 3) := by decide +kernel
theorem dX0_turnRoute_53 : decode cX0_turnRoute 53 = .ok (.return_, 1) := by decide +kernel
set_option maxRecDepth 20000 in
theorem ggX0_driftOnce_X0_turnOver : GoodIn wsX0_driftOnce wsX0_turnOver := goodIn_r _ [9, 10, 11, 12, 13, 14, 15, 16, 17] (by decide +kernel) (by decide +kernel)
set_option maxRecDepth 20000 in
theorem gX0_driftOnce_X0_turnOver : GoodIn wsX0_driftOnce (wsV RX0 69 RX0 yX0_turnOver wsX0_turnOver) := goodIn_app (goodIn_of _ (by decide +kernel)) ggX0_driftOnce_X0_turnOver
theorem dX0_driftOnce_0 : decode cX0_driftOnce 0 = .ok (.aload_n 0, 1) := by decide +kernel
theorem dX0_driftOnce_1 : decode cX0_driftOnce 1 = .ok (.aload_n 0, 1) := by decide +kernel
theorem dX0_driftOnce_2 : decode cX0_driftOnce 2 = .ok (.getfield 27, 3) := by decide +kernel
theorem dX0_driftOnce_5 : decode cX0_driftOnce 5 = .ok (.ldc 66, 2) := by decide +kernel
theorem dX0_driftOnce_7 : decode cX0_driftOnce 7 = .ok (.imul, 1) := by decide +kernel
theorem dX0_driftOnce_8 : decode cX0_driftOnce 8 = .ok (.sipush 12345, 3) := by decide +kernel
theorem dX0_driftOnce_11 : decode cX0_driftOnce 11 = .ok (.iadd, 1) := by decide +kernel
theorem dX0_driftOnce_12 : decode cX0_driftOnce 12 = .ok (.ldc 67, 2) := by decide +kernel
theorem dX0_driftOnce_14 : decode cX0_driftOnce 14 = .ok (.iand, 1) := by decide +kernel
theorem dX0_driftOnce_15 : decode cX0_driftOnce 15 = .ok (.putfield 27, 3) := by decide +kernel
theorem dX0_driftOnce_18 : decode cX0_driftOnce 18 = .ok (.aload_n 0, 1) := by decide +kernel
theorem dX0_driftOnce_19 : decode cX0_driftOnce 19 = .ok (.aload_n 0, 1) := by decide +kernel
theorem dX0_driftOnce_20 : decode cX0_driftOnce 20 = .ok (.getfield 27, 3) := by decide +kernel
theorem dX0_driftOnce_23 : decode cX0_driftOnce 23 = .ok (.ldc 68, 2) := by decide +kernel
theorem dX0_driftOnce_25 : decode cX0_driftOnce 25 = .ok (.idiv, 1) := by decide +kernel
theorem dX0_driftOnce_26 : decode cX0_driftOnce 26 = .ok (.sipush 266, 3) := by decide +kernel
theorem dX0_driftOnce_29 : decode cX0_driftOnce 29 = .ok (.irem, 1) := by decide +kernel
theorem dX0_driftOnce_30 : decode cX0_driftOnce 30 = .ok (.invokevirtual 69, 3) := by decide +kernel
theorem dX0_driftOnce_33 : decode cX0_driftOnce 33 = .ok (.return_, 1) := by decide +kernel
theorem dX1_isPlace_0 : decode cX1_isPlace 0 = .ok (.iload_n 0, 1) := by decide +kernel
theorem dX1_isPlace_1 : decode cX1_isPlace 1 = .ok (.bipush (-6), 2) := by decide +kernel
theorem dX1_isPlace_3 : decode cX1_isPlace 3 = .ok (.if_icmp .lt 23, 3) := by decide +kernel
theorem dX1_isPlace_6 : decode cX1_isPlace 6 = .ok (.iload_n 0, 1) := by decide +kernel
theorem dX1_isPlace_7 : decode cX1_isPlace 7 = .ok (.bipush 6, 2) := by decide +kernel
theorem dX1_isPlace_9 : decode cX1_isPlace 9 = .ok (.if_icmp .gt 17, 3) := by decide +kernel
theorem dX1_isPlace_12 : decode cX1_isPlace 12 = .ok (.iload_n 1, 1) := by decide +kernel
theorem dX1_isPlace_13 : decode cX1_isPlace 13 = .ok (.ifCond .lt 13, 3) := by decide +kernel
theorem dX1_isPlace_16 : decode cX1_isPlace 16 = .ok (.iload_n 1, 1) := by decide +kernel
theorem dX1_isPlace_17 : decode cX1_isPlace 17 = .ok (.bipush 24, 2) := by decide +kernel
theorem dX1_isPlace_19 : decode cX1_isPlace 19 = .ok (.if_icmp .ge 7, 3) := by decide +kernel
theorem dX1_isPlace_22 : decode cX1_isPlace 22 = .ok (.iconst 1, 1) := by decide +kernel
theorem dX1_isPlace_23 : decode cX1_isPlace 23 = .ok (.goto 4, 3) := by decide +kernel
theorem dX1_isPlace_26 : decode cX1_isPlace 26 = .ok (.iconst 0, 1) := by decide +kernel
theorem dX1_isPlace_27 : decode cX1_isPlace 27 = .ok (.ireturn, 1) := by decide +kernel
theorem dX1_isNumber_0 : decode cX1_isNumber 0 = .ok (.iload_n 0, 1) := by decide +kernel
theorem dX1_isNumber_1 : decode cX1_isNumber 1 = .ok (.ifCond .lt 14, 3) := by decide +kernel
theorem dX1_isNumber_4 : decode cX1_isNumber 4 = .ok (.iload_n 0, 1) := by decide +kernel
theorem dX1_isNumber_5 : decode cX1_isNumber 5 = .ok (.sipush 265, 3) := by decide +kernel
theorem dX1_isNumber_8 : decode cX1_isNumber 8 = .ok (.if_icmp .gt 7, 3) := by decide +kernel
theorem dX1_isNumber_11 : decode cX1_isNumber 11 = .ok (.iconst 1, 1) := by decide +kernel
theorem dX1_isNumber_12 : decode cX1_isNumber 12 = .ok (.goto 4, 3) := by decide +kernel
theorem dX1_isNumber_15 : decode cX1_isNumber 15 = .ok (.iconst 0, 1) := by decide +kernel
theorem dX1_isNumber_16 : decode cX1_isNumber 16 = .ok (.ireturn, 1) := by decide +kernel
theorem dX1_isPole_0 : decode cX1_isPole 0 = .ok (.iload_n 0, 1) := by decide +kernel
theorem dX1_isPole_1 : decode cX1_isPole 1 = .ok (.ifCond .eq 10, 3) := by decide +kernel
theorem dX1_isPole_4 : decode cX1_isPole 4 = .ok (.iload_n 0, 1) := by decide +kernel
theorem dX1_isPole_5 : decode cX1_isPole 5 = .ok (.sipush 265, 3) := by decide +kernel
theorem dX1_isPole_8 : decode cX1_isPole 8 = .ok (.if_icmp .ne 7, 3) := by decide +kernel
theorem dX1_isPole_11 : decode cX1_isPole 11 = .ok (.iconst 1, 1) := by decide +kernel
theorem dX1_isPole_12 : decode cX1_isPole 12 = .ok (.goto 4, 3) := by decide +kernel
theorem dX1_isPole_15 : decode cX1_isPole 15 = .ok (.iconst 0, 1) := by decide +kernel
theorem dX1_isPole_16 : decode cX1_isPole 16 = .ok (.ireturn, 1) := by decide +kernel
theorem dX1_numberOf_0 : decode cX1_numberOf 0 = .ok (.iload_n 0, 1) := by decide +kernel
theorem dX1_numberOf_1 : decode cX1_numberOf 1 = .ok (.bipush (-6), 2) := by decide +kernel
theorem dX1_numberOf_3 : decode cX1_numberOf 3 = .ok (.if_icmp .ne 5, 3) := by decide +kernel
theorem dX1_numberOf_6 : decode cX1_numberOf 6 = .ok (.iconst 0, 1) := by decide +kernel
theorem dX1_numberOf_7 : decode cX1_numberOf 7 = .ok (.ireturn, 1) := by decide +kernel
theorem dX1_numberOf_8 : decode cX1_numberOf 8 = .ok (.iload_n 0, 1) := by decide +kernel
theorem dX1_numberOf_9 : decode cX1_numberOf 9 = .ok (.bipush 6, 2) := by decide +kernel
theorem dX1_numberOf_11 : decode cX1_numberOf 11 = .ok (.if_icmp .ne 9, 3) := by decide +kernel
theorem dX1_numberOf_14 : decode cX1_numberOf 14 = .ok (.sipush 265, 3) := by decide +kernel
theorem dX1_numberOf_17 : decode cX1_numberOf 17 = .ok (.goto 13, 3) := by decide +kernel
theorem dX1_numberOf_20 : decode cX1_numberOf 20 = .ok (.iconst 1, 1) := by decide +kernel
theorem dX1_numberOf_21 : decode cX1_numberOf 21 = .ok (.bipush 24, 2) := by decide +kernel
theorem dX1_numberOf_23 : decode cX1_numberOf 23 = .ok (.iload_n 0, 1) := by decide +kernel
theorem dX1_numberOf_24 : decode cX1_numberOf 24 = .ok (.iconst 5, 1) := by decide +kernel
theorem dX1_numberOf_25 : decode cX1_numberOf 25 = .ok (.iadd, 1) := by decide +kernel
theorem dX1_numberOf_26 : decode cX1_numberOf 26 = .ok (.imul, 1) := by decide +kernel
theorem dX1_numberOf_27 : decode cX1_numberOf 27 = .ok (.iadd, 1) := by decide +kernel
theorem dX1_numberOf_28 : decode cX1_numberOf 28 = .ok (.iload_n 1, 1) := by decide +kernel
theorem dX1_numberOf_29 : decode cX1_numberOf 29 = .ok (.iadd, 1) := by decide +kernel
theorem dX1_numberOf_30 : decode cX1_numberOf 30 = .ok (.ireturn, 1) := by decide +kernel
theorem dX1_rowOf_0 : decode cX1_rowOf 0 = .ok (.iload_n 0, 1) := by decide +kernel
theorem dX1_rowOf_1 : decode cX1_rowOf 1 = .ok (.ifCond .ne 6, 3) := by decide +kernel
theorem dX1_rowOf_4 : decode cX1_rowOf 4 = .ok (.bipush (-6), 2) := by decide +kernel
theorem dX1_rowOf_6 : decode cX1_rowOf 6 = .ok (.ireturn, 1) := by decide +kernel
theorem dX1_rowOf_7 : decode cX1_rowOf 7 = .ok (.iload_n 0, 1) := by decide +kernel
theorem dX1_rowOf_8 : decode cX1_rowOf 8 = .ok (.iconst 1, 1) := by decide +kernel
theorem dX1_rowOf_9 : decode cX1_rowOf 9 = .ok (.isub, 1) := by decide +kernel
theorem dX1_rowOf_10 : decode cX1_rowOf 10 = .ok (.bipush 24, 2) := by decide +kernel
theorem dX1_rowOf_12 : decode cX1_rowOf 12 = .ok (.idiv, 1) := by decide +kernel
theorem dX1_rowOf_13 : decode cX1_rowOf 13 = .ok (.iconst 5, 1) := by decide +kernel
theorem dX1_rowOf_14 : decode cX1_rowOf 14 = .ok (.isub, 1) := by decide +kernel
theorem dX1_rowOf_15 : decode cX1_rowOf 15 = .ok (.ireturn, 1) := by decide +kernel
set_option maxRecDepth 20000 in
theorem ggX1_stepOf_X1_isPole : GoodIn wsX1_stepOf wsX1_isPole := goodIn_r _ [4] (by decide +kernel) (by decide +kernel)
set_option maxRecDepth 20000 in
theorem gX1_stepOf_X1_isPole : GoodIn wsX1_stepOf (va_wsS RX1 9 yX1_isPole wsX1_isPole) := goodIn_app (goodIn_of _ (by decide +kernel)) ggX1_stepOf_X1_isPole
theorem dX1_stepOf_0 : decode cX1_stepOf 0 = .ok (.iload_n 0, 1) := by decide +kernel
theorem dX1_stepOf_1 : decode cX1_stepOf 1 = .ok (.invokestatic 9, 3) := by decide +kernel
theorem dX1_stepOf_4 : decode cX1_stepOf 4 = .ok (.ifCond .eq 7, 3) := by decide +kernel
theorem dX1_stepOf_7 : decode cX1_stepOf 7 = .ok (.iconst 0, 1) := by decide +kernel
theorem dX1_stepOf_8 : decode cX1_stepOf 8 = .ok (.goto 9, 3) := by decide +kernel
theorem dX1_stepOf_11 : decode cX1_stepOf 11 = .ok (.iload_n 0, 1) := by decide +kernel
theorem dX1_stepOf_12 : decode cX1_stepOf 12 = .ok (.iconst 1, 1) := by decide +kernel
theorem dX1_stepOf_13 : decode cX1_stepOf 13 = .ok (.isub, 1) := by decide +kernel
theorem dX1_stepOf_14 : decode cX1_stepOf 14 = .ok (.bipush 24, 2) := by decide +kernel
theorem dX1_stepOf_16 : decode cX1_stepOf 16 = .ok (.irem, 1) := by decide +kernel
theorem dX1_stepOf_17 : decode cX1_stepOf 17 = .ok (.ireturn, 1) := by decide +kernel
theorem dX1_sine_0 : decode cX1_sine 0 = .ok (.getstatic 13, 3) := by decide +kernel
theorem dX1_sine_3 : decode cX1_sine 3 = .ok (.iload_n 0, 1) := by decide +kernel
theorem dX1_sine_4 : decode cX1_sine 4 = .ok (.iaload, 1) := by decide +kernel
theorem dX1_sine_5 : decode cX1_sine 5 = .ok (.ireturn, 1) := by decide +kernel
theorem dX1_cosine_0 : decode cX1_cosine 0 = .ok (.getstatic 13, 3) := by decide +kernel
theorem dX1_cosine_3 : decode cX1_cosine 3 = .ok (.iload_n 0, 1) := by decide +kernel
theorem dX1_cosine_4 : decode cX1_cosine 4 = .ok (.bipush 6, 2) := by decide +kernel
theorem dX1_cosine_6 : decode cX1_cosine 6 = .ok (.iadd, 1) := by decide +kernel
theorem dX1_cosine_7 : decode cX1_cosine 7 = .ok (.bipush 24, 2) := by decide +kernel
theorem dX1_cosine_9 : decode cX1_cosine 9 = .ok (.irem, 1) := by decide +kernel
theorem dX1_cosine_10 : decode cX1_cosine 10 = .ok (.iaload, 1) := by decide +kernel
theorem dX1_cosine_11 : decode cX1_cosine 11 = .ok (.ireturn, 1) := by decide +kernel
theorem dX1_rowCosine_0 : decode cX1_rowCosine 0 = .ok (.getstatic 13, 3) := by decide +kernel
theorem dX1_rowCosine_3 : decode cX1_rowCosine 3 = .ok (.bipush 6, 2) := by decide +kernel
theorem dX1_rowCosine_5 : decode cX1_rowCosine 5 = .ok (.iload_n 0, 1) := by decide +kernel
theorem dX1_rowCosine_6 : decode cX1_rowCosine 6 = .ok (.ifCond .ge 8, 3) := by decide +kernel
theorem dX1_rowCosine_9 : decode cX1_rowCosine 9 = .ok (.iload_n 0, 1) := by decide +kernel
theorem dX1_rowCosine_10 : decode cX1_rowCosine 10 = .ok (.ineg, 1) := by decide +kernel
theorem dX1_rowCosine_11 : decode cX1_rowCosine 11 = .ok (.goto 4, 3) := by decide +kernel
theorem dX1_rowCosine_14 : decode cX1_rowCosine 14 = .ok (.iload_n 0, 1) := by decide +kernel
theorem dX1_rowCosine_15 : decode cX1_rowCosine 15 = .ok (.iadd, 1) := by decide +kernel
theorem dX1_rowCosine_16 : decode cX1_rowCosine 16 = .ok (.iaload, 1) := by decide +kernel
theorem dX1_rowCosine_17 : decode cX1_rowCosine 17 = .ok (.ireturn, 1) := by decide +kernel
set_option maxRecDepth 20000 in
theorem ggX1_neighbourNumber_X1_isPole : GoodIn wsX1_neighbourNumber wsX1_isPole := goodIn_r _ [4] (by decide +kernel) (by decide +kernel)
set_option maxRecDepth 20000 in
theorem gX1_neighbourNumber_X1_isPole : GoodIn wsX1_neighbourNumber (va_wsS RX1 9 yX1_isPole wsX1_isPole) := goodIn_app (goodIn_of _ (by decide +kernel)) ggX1_neighbourNumber_X1_isPole
theorem dX1_neighbourNumber_0 : decode cX1_neighbourNumber 0 = .ok (.iload_n 0, 1) := by decide +kernel
theorem dX1_neighbourNumber_1 : decode cX1_neighbourNumber 1 = .ok (.invokestatic 9, 3) := by decide +kernel
theorem dX1_neighbourNumber_4 : decode cX1_neighbourNumber 4 = .ok (.ifCond .eq 8, 3) := by decide +kernel
theorem dX1_neighbourNumber_7 : decode cX1_neighbourNumber 7 = .ok (.bipush 24, 2) := by decide +kernel
theorem dX1_neighbourNumber_9 : decode cX1_neighbourNumber 9 = .ok (.goto 4, 3) := by decide +kernel
theorem dX1_neighbourNumber_12 : decode cX1_neighbourNumber 12 = .ok (.iconst 4, 1) := by decide +kernel
theorem dX1_neighbourNumber_13 : decode cX1_neighbourNumber 13 = .ok (.ireturn, 1) := by decide +kernel
set_option maxRecDepth 20000 in
theorem ggX1_neighbour_X1_stepOf : GoodIn wsX1_neighbour wsX1_stepOf := goodIn_r _ [11, 12, 13, 10, 14] (by decide +kernel) (by decide +kernel)
set_option maxRecDepth 20000 in
theorem gX1_neighbour_X1_stepOf : GoodIn wsX1_neighbour (va_wsS RX1 17 yX1_stepOf wsX1_stepOf) := goodIn_app (goodIn_of _ (by decide +kernel)) ggX1_neighbour_X1_stepOf
theorem dX1_neighbour_0 : decode cX1_neighbour 0 = .ok (.iload_n 0, 1) := by decide +kernel
theorem dX1_neighbour_1 : decode cX1_neighbour 1 = .ok (.ifCond .ne 7, 3) := by decide +kernel
theorem dX1_neighbour_4 : decode cX1_neighbour 4 = .ok (.iconst 1, 1) := by decide +kernel
theorem dX1_neighbour_5 : decode cX1_neighbour 5 = .ok (.iload_n 1, 1) := by decide +kernel
theorem dX1_neighbour_6 : decode cX1_neighbour 6 = .ok (.iadd, 1) := by decide +kernel
theorem dX1_neighbour_7 : decode cX1_neighbour 7 = .ok (.ireturn, 1) := by decide +kernel
theorem dX1_neighbour_8 : decode cX1_neighbour 8 = .ok (.iload_n 0, 1) := by decide +kernel
theorem dX1_neighbour_9 : decode cX1_neighbour 9 = .ok (.sipush 265, 3) := by decide +kernel
theorem dX1_neighbour_12 : decode cX1_neighbour 12 = .ok (.if_icmp .ne 9, 3) := by decide +kernel
theorem dX1_neighbour_15 : decode cX1_neighbour 15 = .ok (.sipush 241, 3) := by decide +kernel
theorem dX1_neighbour_18 : decode cX1_neighbour 18 = .ok (.iload_n 1, 1) := by decide +kernel
theorem dX1_neighbour_19 : decode cX1_neighbour 19 = .ok (.iadd, 1) := by decide +kernel
theorem dX1_neighbour_20 : decode cX1_neighbour 20 = .ok (.ireturn, 1) := by decide +kernel
theorem dX1_neighbour_21 : decode cX1_neighbour 21 = .ok (.iload_n 0, 1) := by decide +kernel
theorem dX1_neighbour_22 : decode cX1_neighbour 22 = .ok (.invokestatic 17, 3) := by decide +kernel
theorem dX1_neighbour_25 : decode cX1_neighbour 25 = .ok (.istore_n 2, 1) := by decide +kernel
theorem dX1_neighbour_26 : decode cX1_neighbour 26 = .ok (.iload_n 1, 1) := by decide +kernel
theorem dX1_neighbour_27 : decode cX1_neighbour 27 = .ok (.tableswitch 67 0 2 #[25, 34, 50], 25) := by decide +kernel
theorem dX1_neighbour_52 : decode cX1_neighbour 52 = .ok (.iconst 0, 1) := by decide +kernel
theorem dX1_neighbour_53 : decode cX1_neighbour 53 = .ok (.iload_n 0, 1) := by decide +kernel
theorem dX1_neighbour_54 : decode cX1_neighbour 54 = .ok (.bipush 24, 2) := by decide +kernel
theorem dX1_neighbour_56 : decode cX1_neighbour 56 = .ok (.isub, 1) := by decide +kernel
theorem dX1_neighbour_57 : decode cX1_neighbour 57 = .ok (.invokestatic 21, 3) := by decide +kernel
theorem dX1_neighbour_60 : decode cX1_neighbour 60 = .ok (.ireturn, 1) := by decide +kernel
theorem dX1_neighbour_61 : decode cX1_neighbour 61 = .ok (.iload_n 2, 1) := by decide +kernel
theorem dX1_neighbour_62 : decode cX1_neighbour 62 = .ok (.bipush 23, 2) := by decide +kernel
theorem dX1_neighbour_64 : decode cX1_neighbour 64 = .ok (.if_icmp .ne 9, 3) := by decide +kernel
theorem dX1_neighbour_67 : decode cX1_neighbour 67 = .ok (.iload_n 0, 1) := by decide +kernel
theorem dX1_neighbour_68 : decode cX1_neighbour 68 = .ok (.iload_n 2, 1) := by decide +kernel
theorem dX1_neighbour_69 : decode cX1_neighbour 69 = .ok (.isub, 1) := by decide +kernel
theorem dX1_neighbour_70 : decode cX1_neighbour 70 = .ok (.goto 6, 3) := by decide +kernel
theorem dX1_neighbour_73 : decode cX1_neighbour 73 = .ok (.iload_n 0, 1) := by decide +kernel
theorem dX1_neighbour_74 : decode cX1_neighbour 74 = .ok (.iconst 1, 1) := by decide +kernel
theorem dX1_neighbour_75 : decode cX1_neighbour 75 = .ok (.iadd, 1) := by decide +kernel
theorem dX1_neighbour_76 : decode cX1_neighbour 76 = .ok (.ireturn, 1) := by decide +kernel
theorem dX1_neighbour_77 : decode cX1_neighbour 77 = .ok (.iload_n 2, 1) := by decide +kernel
theorem dX1_neighbour_78 : decode cX1_neighbour 78 = .ok (.ifCond .ne 12, 3) := by decide +kernel
theorem dX1_neighbour_81 : decode cX1_neighbour 81 = .ok (.iload_n 0, 1) := by decide +kernel
theorem dX1_neighbour_82 : decode cX1_neighbour 82 = .ok (.bipush 24, 2) := by decide +kernel
theorem dX1_neighbour_84 : decode cX1_neighbour 84 = .ok (.iadd, 1) := by decide +kernel
theorem dX1_neighbour_85 : decode cX1_neighbour 85 = .ok (.iconst 1, 1) := by decide +kernel
theorem dX1_neighbour_86 : decode cX1_neighbour 86 = .ok (.isub, 1) := by decide +kernel
theorem dX1_neighbour_87 : decode cX1_neighbour 87 = .ok (.goto 6, 3) := by decide +kernel
theorem dX1_neighbour_90 : decode cX1_neighbour 90 = .ok (.iload_n 0, 1) := by decide +kernel
theorem dX1_neighbour_91 : decode cX1_neighbour 91 = .ok (.iconst 1, 1) := by decide +kernel
theorem dX1_neighbour_92 : decode cX1_neighbour 92 = .ok (.isub, 1) := by decide +kernel
theorem dX1_neighbour_93 : decode cX1_neighbour 93 = .ok (.ireturn, 1) := by decide +kernel
theorem dX1_neighbour_94 : decode cX1_neighbour 94 = .ok (.sipush 265, 3) := by decide +kernel
theorem dX1_neighbour_97 : decode cX1_neighbour 97 = .ok (.iload_n 0, 1) := by decide +kernel
theorem dX1_neighbour_98 : decode cX1_neighbour 98 = .ok (.bipush 24, 2) := by decide +kernel
theorem dX1_neighbour_100 : decode cX1_neighbour 100 = .ok (.iadd, 1) := by decide +kernel
theorem dX1_neighbour_101 : decode cX1_neighbour 101 = .ok (.invokestatic 27, 3) := by decide +kernel
theorem dX1_neighbour_104 : decode cX1_neighbour 104 = .ok (.ireturn, 1) := by decide +kernel
set_option maxRecDepth 20000 in
theorem ggX1_areNeighbours_X1_neighbourNumber : GoodIn wsX1_areNeighbours wsX1_neighbourNumber := goodIn_r _ [4, 5, 6, 3, 7] (by decide +kernel) (by decide +kernel)
set_option maxRecDepth 20000 in
theorem gX1_areNeighbours_X1_neighbourNumber : GoodIn wsX1_areNeighbours (va_wsS RX1 30 yX1_neighbourNumber wsX1_neighbourNumber) := goodIn_app (goodIn_of _ (by decide +kernel)) ggX1_areNeighbours_X1_neighbourNumber
set_option maxRecDepth 20000 in
theorem ggX1_areNeighbours_X1_neighbour : GoodIn wsX1_areNeighbours wsX1_neighbour := goodIn_r _ [10, 11, 12, 13, 14, 15, 16, 17, 18, 19, 3, 20, 5, 6, 7] (by decide +kernel) (by decide +kernel)
set_option maxRecDepth 20000 in
theorem gX1_areNeighbours_X1_neighbour : GoodIn wsX1_areNeighbours (va_wsS RX1 33 yX1_neighbour wsX1_neighbour) := goodIn_app (goodIn_of _ (by decide +kernel)) ggX1_areNeighbours_X1_neighbour
theorem dX1_areNeighbours_0 : decode cX1_areNeighbours 0 = .ok (.iconst 0, 1) := by decide +kernel
theorem dX1_areNeighbours_1 : decode cX1_areNeighbours 1 = .ok (.istore_n 2, 1) := by decide +kernel
theorem dX1_areNeighbours_2 : decode cX1_areNeighbours 2 = .ok (.iload_n 2, 1) := by decide +kernel
theorem dX1_areNeighbours_3 : decode cX1_areNeighbours 3 = .ok (.iload_n 0, 1) := by decide +kernel
theorem dX1_areNeighbours_4 : decode cX1_areNeighbours 4 = .ok (.invokestatic 30, 3) := by decide +kernel
theorem dX1_areNeighbours_7 : decode cX1_areNeighbours 7 = .ok (.if_icmp .ge 20, 3) := by decide +kernel
theorem dX1_areNeighbours_10 : decode cX1_areNeighbours 10 = .ok (.iload_n 0, 1) := by decide +kernel
theorem dX1_areNeighbours_11 : decode cX1_areNeighbours 11 = .ok (.iload_n 2, 1) := by decide +kernel
theorem dX1_areNeighbours_12 : decode cX1_areNeighbours 12 = .ok (.invokestatic 33, 3) := by decide +kernel
theorem dX1_areNeighbours_15 : decode cX1_areNeighbours 15 = .ok (.iload_n 1, 1) := by decide +kernel
theorem dX1_areNeighbours_16 : decode cX1_areNeighbours 16 = .ok (.if_icmp .ne 5, 3) := by decide +kernel
theorem dX1_areNeighbours_19 : decode cX1_areNeighbours 19 = .ok (.iconst 1, 1) := by decide +kernel
theorem dX1_areNeighbours_20 : decode cX1_areNeighbours 20 = .ok (.ireturn, 1) := by decide +kernel
theorem dX1_areNeighbours_21 : decode cX1_areNeighbours 21 = .ok (.iinc 2 1, 3) := by decide +kernel
theorem dX1_areNeighbours_24 : decode cX1_areNeighbours 24 = .ok (.goto (-22), 3) := by decide +kernel
theorem dX1_areNeighbours_27 : decode cX1_areNeighbours 27 = .ok (.iconst 0, 1) := by decide +kernel
theorem dX1_areNeighbours_28 : decode cX1_areNeighbours 28 = .ok (.ireturn, 1) := by decide +kernel
theorem dX2_init_0 : decode cX2_init 0 = .ok (.aload_n 0, 1) := by decide +kernel
theorem dX2_init_1 : decode cX2_init 1 = .ok (.invokespecial 1, 3) := by decide +kernel
theorem dX2_init_4 : decode cX2_init 4 = .ok (.return_, 1) := by decide +kernel
set_option maxRecDepth 20000 in
theorem ggX2_reckon_X2_gather : GoodIn wsX2_reckon wsX2_gather := goodIn_r _ [16, 4, 5, 3, 17, 18, 19, 20, 21, 22, 23, 24, 25, 26, 27, 28, 29, 30, 31, 32, 33, 34, 35, 36, 37, 8, 38, 39, 40, 41, 42, 43, 44, 45, 46, 64, 65, 66, 67, 68, 57, 58, 59, 60, 61, 62, 63] (by decide +kernel) (by decide +kernel)
set_option maxRecDepth 20000 in
theorem gX2_reckon_X2_gather : GoodIn wsX2_reckon (wsV RX2 7 RX2 yX2_gather wsX2_gather) := goodIn_app (goodIn_of _ (by decide +kernel)) ggX2_reckon_X2_gather
set_option maxRecDepth 20000 in
theorem ggX2_reckon_X2_goodIfFirstIs : GoodIn wsX2_reckon wsX2_goodIfFirstIs := goodIn_r _ [50, 4, 5, 51, 52, 15, 53, 64, 65, 66, 67, 68] (by decide +kernel) (by decide +kernel)
set_option maxRecDepth 20000 in
theorem gX2_reckon_X2_goodIfFirstIs : GoodIn wsX2_reckon (wsV RX2 21 RX2 yX2_goodIfFirstIs wsX2_goodIfFirstIs) := goodIn_app (goodIn_of _ (by decide +kernel)) ggX2_reckon_X2_goodIfFirstIs
set_option maxRecDepth 20000 in
theorem ggX2_reckon_X2_greatestDivisor : GoodIn wsX2_reckon wsX2_greatestDivisor := goodIn_r _ [56] (by decide +kernel) (by decide +kernel)
set_option maxRecDepth 20000 in
theorem gX2_reckon_X2_greatestDivisor : GoodIn wsX2_reckon (va_wsS RX2 35 yX2_greatestDivisor wsX2_greatestDivisor) := goodIn_app (goodIn_of _ (by decide +kernel)) ggX2_reckon_X2_greatestDivisor
theorem dX2_reckon_0 : decode cX2_reckon 0 = .ok (.aload_n 0, 1) := by decide +kernel
theorem dX2_reckon_1 : decode cX2_reckon 1 = .ok (.aload_n 1, 1) := by decide +kernel
theorem dX2_reckon_2 : decode cX2_reckon 2 = .ok (.invokevirtual 7, 3) := by decide +kernel
theorem dX2_reckon_5 : decode cX2_reckon 5 = .ok (.lconst 1, 1) := by decide +kernel
theorem dX2_reckon_6 : decode cX2_reckon 6 = .ok (.lstore_n 3, 1) := by decide +kernel
theorem dX2_reckon_7 : decode cX2_reckon 7 = .ok (.lconst 1, 1) := by decide +kernel
theorem dX2_reckon_8 : decode cX2_reckon 8 = .ok (.lstore 5, 2) := by decide +kernel
theorem dX2_reckon_10 : decode cX2_reckon 10 = .ok (.iconst 0, 1) := by decide +kernel
theorem dX2_reckon_11 : decode cX2_reckon 11 = .ok (.istore 7, 2) := by decide +kernel
theorem dX2_reckon_13 : decode cX2_reckon 13 = .ok (.iload 7, 2) := by decide +kernel
theorem dX2_reckon_15 : decode cX2_reckon 15 = .ok (.aload_n 1, 1) := by decide +kernel
theorem dX2_reckon_16 : decode cX2_reckon 16 = .ok (.getfield 13, 3) := by decide +kernel
theorem dX2_reckon_19 : decode cX2_reckon 19 = .ok (.if_icmp .ge 22, 3) := by decide +kernel
theorem dX2_reckon_22 : decode cX2_reckon 22 = .ok (.lload_n 3, 1) := by decide +kernel
theorem dX2_reckon_23 : decode cX2_reckon 23 = .ok (.ldc2_w 19, 3) := by decide +kernel
theorem dX2_reckon_26 : decode cX2_reckon 26 = .ok (.lmul, 1) := by decide +kernel
theorem dX2_reckon_27 : decode cX2_reckon 27 = .ok (.lstore_n 3, 1) := by decide +kernel
theorem dX2_reckon_28 : decode cX2_reckon 28 = .ok (.lload 5, 2) := by decide +kernel
theorem dX2_reckon_30 : decode cX2_reckon 30 = .ok (.iload_n 2, 1) := by decide +kernel
theorem dX2_reckon_31 : decode cX2_reckon 31 = .ok (.i2l, 1) := by decide +kernel
theorem dX2_reckon_32 : decode cX2_reckon 32 = .ok (.lmul, 1) := by decide +kernel
theorem dX2_reckon_33 : decode cX2_reckon 33 = .ok (.lstore 5, 2) := by decide +kernel
theorem dX2_reckon_35 : decode cX2_reckon 35 = .ok (.iinc 7 1, 3) := by decide +kernel
theorem dX2_reckon_38 : decode cX2_reckon 38 = .ok (.goto (-25), 3) := by decide +kernel
theorem dX2_reckon_41 : decode cX2_reckon 41 = .ok (.aload_n 0, 1) := by decide +kernel
theorem dX2_reckon_42 : decode cX2_reckon 42 = .ok (.iconst 1, 1) := by decide +kernel
theorem dX2_reckon_43 : decode cX2_reckon 43 = .ok (.aload_n 1, 1) := by decide +kernel
theorem dX2_reckon_44 : decode cX2_reckon 44 = .ok (.getfield 13, 3) := by decide +kernel
theorem dX2_reckon_47 : decode cX2_reckon 47 = .ok (.iload_n 2, 1) := by decide +kernel
theorem dX2_reckon_48 : decode cX2_reckon 48 = .ok (.invokevirtual 21, 3) := by decide +kernel
theorem dX2_reckon_51 : decode cX2_reckon 51 = .ok (.aload_n 0, 1) := by decide +kernel
theorem dX2_reckon_52 : decode cX2_reckon 52 = .ok (.iconst 0, 1) := by decide +kernel
theorem dX2_reckon_53 : decode cX2_reckon 53 = .ok (.aload_n 1, 1) := by decide +kernel
theorem dX2_reckon_54 : decode cX2_reckon 54 = .ok (.getfield 13, 3) := by decide +kernel
theorem dX2_reckon_57 : decode cX2_reckon 57 = .ok (.iload_n 2, 1) := by decide +kernel
theorem dX2_reckon_58 : decode cX2_reckon 58 = .ok (.invokevirtual 21, 3) := by decide +kernel
theorem dX2_reckon_61 : decode cX2_reckon 61 = .ok (.ladd, 1) := by decide +kernel
theorem dX2_reckon_62 : decode cX2_reckon 62 = .ok (.lstore 7, 2) := by decide +kernel
theorem dX2_reckon_64 : decode cX2_reckon 64 = .ok (.aload_n 0, 1) := by decide +kernel
theorem dX2_reckon_65 : decode cX2_reckon 65 = .ok (.getfield 25, 3) := by decide +kernel
theorem dX2_reckon_68 : decode cX2_reckon 68 = .ok (.ifCond .eq 24, 3) := by decide +kernel
theorem dX2_reckon_71 : decode cX2_reckon 71 = .ok (.aload_n 0, 1) := by decide +kernel
theorem dX2_reckon_72 : decode cX2_reckon 72 = .ok (.getfield 29, 3) := by decide +kernel
theorem dX2_reckon_75 : decode cX2_reckon 75 = .ok (.ifCond .ne 17, 3) := by decide +kernel
theorem dX2_reckon_78 : decode cX2_reckon 78 = .ok (.aload_n 0, 1) := by decide +kernel
theorem dX2_reckon_79 : decode cX2_reckon 79 = .ok (.getfield 32, 3) := by decide +kernel
theorem dX2_reckon_82 : decode cX2_reckon 82 = .ok (.ifCond .ne 10, 3) := by decide +kernel
theorem dX2_reckon_85 : decode cX2_reckon 85 = .ok (.lload 7, 2) := by decide +kernel
theorem dX2_reckon_87 : decode cX2_reckon 87 = .ok (.lload 5, 2) := by decide +kernel
theorem dX2_reckon_89 : decode cX2_reckon 89 = .ok (.lsub, 1) := by decide +kernel
theorem dX2_reckon_90 : decode cX2_reckon 90 = .ok (.lstore 7, 2) := by decide +kernel
theorem dX2_reckon_92 : decode cX2_reckon 92 = .ok (.lconst 1, 1) := by decide +kernel
theorem dX2_reckon_93 : decode cX2_reckon 93 = .ok (.lload 7, 2) := by decide +kernel
theorem dX2_reckon_95 : decode cX2_reckon 95 = .ok (.lload_n 3, 1) := by decide +kernel
theorem dX2_reckon_96 : decode cX2_reckon 96 = .ok (.invokestatic 35, 3) := by decide +kernel
theorem dX2_reckon_99 : decode cX2_reckon 99 = .ok (.invokestatic 39, 3) := by decide +kernel
theorem dX2_reckon_102 : decode cX2_reckon 102 = .ok (.lstore 9, 2) := by decide +kernel
theorem dX2_reckon_104 : decode cX2_reckon 104 = .ok (.aload_n 0, 1) := by decide +kernel
theorem dX2_reckon_105 : decode cX2_reckon 105 = .ok (.lload 7, 2) := by decide +kernel
theorem dX2_reckon_107 : decode cX2_reckon 107 = .ok (.lload 9, 2) := by decide +kernel
theorem dX2_reckon_109 : decode cX2_reckon 109 = .ok (.ldiv, 1) := by decide +kernel
theorem dX2_reckon_110 : decode cX2_reckon 110 = .ok (.putfield 44, 3) := by decide +kernel
theorem dX2_reckon_113 : decode cX2_reckon 113 = .ok (.aload_n 0, 1) := by decide +kernel
theorem dX2_reckon_114 : decode cX2_reckon 114 = .ok (.lload_n 3, 1) := by decide +kernel
theorem dX2_reckon_115 : decode cX2_reckon 115 = .ok (.lload 9, 2) := by decide +kernel
theorem dX2_reckon_117 : decode cX2_reckon 117 = .ok (.ldiv, 1) := by decide +kernel
theorem dX2_reckon_118 : decode cX2_reckon 118 = .ok (.putfield 48, 3) := by decide +kernel
theorem dX2_reckon_121 : decode cX2_reckon 121 = .ok (.return_, 1) := by decide +kernel
set_option maxRecDepth 20000 in
theorem ggX2_gather_X0_width : GoodIn wsX2_gather wsX0_width := goodIn_r _ [8, 9, 40, 41, 42, 43, 44, 45, 46] (by decide +kernel) (by decide +kernel)
set_option maxRecDepth 20000 in
theorem gX2_gather_X0_width : GoodIn wsX2_gather (wsV RX2 51 RX0 yX0_width wsX0_width) := goodIn_app (goodIn_of _ (by decide +kernel)) ggX2_gather_X0_width
set_option maxRecDepth 20000 in
theorem ggX2_gather_X0_isLand : GoodIn wsX2_gather wsX0_isLand := goodIn_r _ [13, 14, 40, 41, 42, 43, 44, 45, 46] (by decide +kernel) (by decide +kernel)
set_option maxRecDepth 20000 in
theorem gX2_gather_X0_isLand : GoodIn wsX2_gather (wsV RX2 57 RX0 yX0_isLand wsX0_isLand) := goodIn_app (goodIn_of _ (by decide +kernel)) ggX2_gather_X0_isLand
set_option maxRecDepth 20000 in
theorem ggX2_gather_X1_rowOf : GoodIn wsX2_gather wsX1_rowOf := goodIn_r _ [18] (by decide +kernel) (by decide +kernel)
set_option maxRecDepth 20000 in
theorem gX2_gather_X1_rowOf : GoodIn wsX2_gather (va_wsS RX2 61 yX1_rowOf wsX1_rowOf) := goodIn_app (goodIn_of _ (by decide +kernel)) ggX2_gather_X1_rowOf
set_option maxRecDepth 20000 in
theorem ggX2_gather_X0_isOnStrips : GoodIn wsX2_gather wsX0_isOnStrips := goodIn_r _ [22, 23, 24, 25, 26, 27, 40, 41, 42, 43, 44, 45, 46] (by decide +kernel) (by decide +kernel)
set_option maxRecDepth 20000 in
theorem gX2_gather_X0_isOnStrips : GoodIn wsX2_gather (wsV RX2 65 RX0 yX0_isOnStrips wsX0_isOnStrips) := goodIn_app (goodIn_of _ (by decide +kernel)) ggX2_gather_X0_isOnStrips
set_option maxRecDepth 20000 in
theorem ggX2_gather_X1_stepOf : GoodIn wsX2_gather wsX1_stepOf := goodIn_r _ [30, 31, 32, 17, 33] (by decide +kernel) (by decide +kernel)
set_option maxRecDepth 20000 in
theorem gX2_gather_X1_stepOf : GoodIn wsX2_gather (va_wsS RX2 68 yX1_stepOf wsX1_stepOf) := goodIn_app (goodIn_of _ (by decide +kernel)) ggX2_gather_X1_stepOf
set_option maxRecDepth 20000 in
theorem ggX2_gather_X1_isPole : GoodIn wsX2_gather wsX1_isPole := goodIn_r _ [33] (by decide +kernel) (by decide +kernel)
set_option maxRecDepth 20000 in
theorem gX2_gather_X1_isPole : GoodIn wsX2_gather (va_wsS RX2 71 yX1_isPole wsX1_isPole) := goodIn_app (goodIn_of _ (by decide +kernel)) ggX2_gather_X1_isPole
theorem dX2_gather_0 : decode cX2_gather 0 = .ok (.aload_n 0, 1) := by decide +kernel
theorem dX2_gather_1 : decode cX2_gather 1 = .ok (.iconst 0, 1) := by decide +kernel
theorem dX2_gather_2 : decode cX2_gather 2 = .ok (.putfield 29, 3) := by decide +kernel
theorem dX2_gather_5 : decode cX2_gather 5 = .ok (.aload_n 0, 1) := by decide +kernel
theorem dX2_gather_6 : decode cX2_gather 6 = .ok (.iconst 0, 1) := by decide +kernel
theorem dX2_gather_7 : decode cX2_gather 7 = .ok (.putfield 32, 3) := by decide +kernel
theorem dX2_gather_10 : decode cX2_gather 10 = .ok (.aload_n 0, 1) := by decide +kernel
theorem dX2_gather_11 : decode cX2_gather 11 = .ok (.iconst 0, 1) := by decide +kernel
theorem dX2_gather_12 : decode cX2_gather 12 = .ok (.putfield 25, 3) := by decide +kernel
theorem dX2_gather_15 : decode cX2_gather 15 = .ok (.aload_n 1, 1) := by decide +kernel
theorem dX2_gather_16 : decode cX2_gather 16 = .ok (.invokevirtual 51, 3) := by decide +kernel
theorem dX2_gather_19 : decode cX2_gather 19 = .ok (.istore_n 2, 1) := by decide +kernel
theorem dX2_gather_20 : decode cX2_gather 20 = .ok (.iconst 0, 1) := by decide +kernel
theorem dX2_gather_21 : decode cX2_gather 21 = .ok (.istore_n 3, 1) := by decide +kernel
theorem dX2_gather_22 : decode cX2_gather 22 = .ok (.iload_n 3, 1) := by decide +kernel
theorem dX2_gather_23 : decode cX2_gather 23 = .ok (.sipush 266, 3) := by decide +kernel
theorem dX2_gather_26 : decode cX2_gather 26 = .ok (.if_icmp .ge 92, 3) := by decide +kernel
theorem dX2_gather_29 : decode cX2_gather 29 = .ok (.aload_n 1, 1) := by decide +kernel
theorem dX2_gather_30 : decode cX2_gather 30 = .ok (.iload_n 3, 1) := by decide +kernel
theorem dX2_gather_31 : decode cX2_gather 31 = .ok (.invokevirtual 57, 3) := by decide +kernel
theorem dX2_gather_34 : decode cX2_gather 34 = .ok (.ifCond .eq 78, 3) := by decide +kernel
theorem dX2_gather_37 : decode cX2_gather 37 = .ok (.aload_n 1, 1) := by decide +kernel
theorem dX2_gather_38 : decode cX2_gather 38 = .ok (.iload_n 3, 1) := by decide +kernel
theorem dX2_gather_39 : decode cX2_gather 39 = .ok (.invokestatic 61, 3) := by decide +kernel
theorem dX2_gather_42 : decode cX2_gather 42 = .ok (.invokevirtual 65, 3) := by decide +kernel
theorem dX2_gather_45 : decode cX2_gather 45 = .ok (.ifCond .ne 6, 3) := by decide +kernel
theorem dX2_gather_48 : decode cX2_gather 48 = .ok (.goto 64, 3) := by decide +kernel
theorem dX2_gather_51 : decode cX2_gather 51 = .ok (.iload_n 3, 1) := by decide +kernel
theorem dX2_gather_52 : decode cX2_gather 52 = .ok (.invokestatic 68, 3) := by decide +kernel
theorem dX2_gather_55 : decode cX2_gather 55 = .ok (.istore 4, 2) := by decide +kernel
theorem dX2_gather_57 : decode cX2_gather 57 = .ok (.iload_n 3, 1) := by decide +kernel
theorem dX2_gather_58 : decode cX2_gather 58 = .ok (.invokestatic 71, 3) := by decide +kernel
theorem dX2_gather_61 : decode cX2_gather 61 = .ok (.ifCond .eq 11, 3) := by decide +kernel
theorem dX2_gather_64 : decode cX2_gather 64 = .ok (.aload_n 0, 1) := by decide +kernel
theorem dX2_gather_65 : decode cX2_gather 65 = .ok (.iconst 1, 1) := by decide +kernel
theorem dX2_gather_66 : decode cX2_gather 66 = .ok (.putfield 25, 3) := by decide +kernel
theorem dX2_gather_69 : decode cX2_gather 69 = .ok (.goto 43, 3) := by decide +kernel
theorem dX2_gather_72 : decode cX2_gather 72 = .ok (.iload 4, 2) := by decide +kernel
theorem dX2_gather_74 : decode cX2_gather 74 = .ok (.iload_n 2, 1) := by decide +kernel
theorem dX2_gather_75 : decode cX2_gather 75 = .ok (.irem, 1) := by decide +kernel
theorem dX2_gather_76 : decode cX2_gather 76 = .ok (.ifCond .ne 21, 3) := by decide +kernel
theorem dX2_gather_79 : decode cX2_gather 79 = .ok (.aload_n 0, 1) := by decide +kernel
theorem dX2_gather_80 : decode cX2_gather 80 = .ok (.dup, 1) := by decide +kernel
theorem dX2_gather_81 : decode cX2_gather 81 = .ok (.getfield 32, 3) := by decide +kernel
theorem dX2_gather_84 : decode cX2_gather 84 = .ok (.iconst 1, 1) := by decide +kernel
theorem dX2_gather_85 : decode cX2_gather 85 = .ok (.iload 4, 2) := by decide +kernel
theorem dX2_gather_87 : decode cX2_gather 87 = .ok (.iload_n 2, 1) := by decide +kernel
theorem dX2_gather_88 : decode cX2_gather 88 = .ok (.idiv, 1) := by decide +kernel
theorem dX2_gather_89 : decode cX2_gather 89 = .ok (.ishl, 1) := by decide +kernel
theorem dX2_gather_90 : decode cX2_gather 90 = .ok (.ior, 1) := by decide +kernel
theorem dX2_gather_91 : decode cX2_gather 91 = .ok (.putfield 32, 3) := by decide +kernel
theorem dX2_gather_94 : decode cX2_gather 94 = .ok (.goto 18, 3) := by decide +kernel
theorem dX2_gather_97 : decode cX2_gather 97 = .ok (.aload_n 0, 1) := by decide +kernel
theorem dX2_gather_98 : decode cX2_gather 98 = .ok (.dup, 1) := by decide +kernel
theorem dX2_gather_99 : decode cX2_gather 99 = .ok (.getfield 29, 3) := by decide +kernel
theorem dX2_gather_102 : decode cX2_gather 102 = .ok (.iconst 1, 1) := by decide +kernel
theorem dX2_gather_103 : decode cX2_gather 103 = .ok (.iload 4, 2) := by decide +kernel
theorem dX2_gather_105 : decode cX2_gather 105 = .ok (.iload_n 2, 1) := by decide +kernel
theorem dX2_gather_106 : decode cX2_gather 106 = .ok (.idiv, 1) := by decide +kernel
theorem dX2_gather_107 : decode cX2_gather 107 = .ok (.ishl, 1) := by decide +kernel
theorem dX2_gather_108 : decode cX2_gather 108 = .ok (.ior, 1) := by decide +kernel
theorem dX2_gather_109 : decode cX2_gather 109 = .ok (.putfield 29, 3) := by decide +kernel
theorem dX2_gather_112 : decode cX2_gather 112 = .ok (.iinc 3 1, 3) := by decide +kernel
theorem dX2_gather_115 : decode cX2_gather 115 = .ok (.goto (-93), 3) := by decide +kernel
theorem dX2_gather_118 : decode cX2_gather 118 = .ok (.return_, 1) := by decide +kernel
set_option maxRecDepth 20000 in
theorem ggX2_goodIfFirstIs_X2_hasBit : GoodIn wsX2_goodIfFirstIs wsX2_hasBit := goodIn_r _ [6] (by decide +kernel) (by decide +kernel)
set_option maxRecDepth 20000 in
theorem gX2_goodIfFirstIs_X2_hasBit : GoodIn wsX2_goodIfFirstIs (va_wsS RX2 74 yX2_hasBit wsX2_hasBit) := goodIn_app (goodIn_of _ (by decide +kernel)) ggX2_goodIfFirstIs_X2_hasBit
theorem dX2_goodIfFirstIs_0 : decode cX2_goodIfFirstIs 0 = .ok (.iload_n 1, 1) := by decide +kernel
theorem dX2_goodIfFirstIs_1 : decode cX2_goodIfFirstIs 1 = .ok (.ifCond .eq 11, 3) := by decide +kernel
theorem dX2_goodIfFirstIs_4 : decode cX2_goodIfFirstIs 4 = .ok (.bipush 10, 2) := by decide +kernel
theorem dX2_goodIfFirstIs_6 : decode cX2_goodIfFirstIs 6 = .ok (.iload_n 3, 1) := by decide +kernel
theorem dX2_goodIfFirstIs_7 : decode cX2_goodIfFirstIs 7 = .ok (.isub, 1) := by decide +kernel
theorem dX2_goodIfFirstIs_8 : decode cX2_goodIfFirstIs 8 = .ok (.i2l, 1) := by decide +kernel
theorem dX2_goodIfFirstIs_9 : decode cX2_goodIfFirstIs 9 = .ok (.goto 4, 3) := by decide +kernel
theorem dX2_goodIfFirstIs_12 : decode cX2_goodIfFirstIs 12 = .ok (.lconst 0, 1) := by decide +kernel
theorem dX2_goodIfFirstIs_13 : decode cX2_goodIfFirstIs 13 = .ok (.lstore 4, 2) := by decide +kernel
theorem dX2_goodIfFirstIs_15 : decode cX2_goodIfFirstIs 15 = .ok (.iload_n 1, 1) := by decide +kernel
theorem dX2_goodIfFirstIs_16 : decode cX2_goodIfFirstIs 16 = .ok (.ifCond .ne 14, 3) := by decide +kernel
theorem dX2_goodIfFirstIs_19 : decode cX2_goodIfFirstIs 19 = .ok (.aload_n 0, 1) := by decide +kernel
theorem dX2_goodIfFirstIs_20 : decode cX2_goodIfFirstIs 20 = .ok (.getfield 29, 3) := by decide +kernel
theorem dX2_goodIfFirstIs_23 : decode cX2_goodIfFirstIs 23 = .ok (.iconst 0, 1) := by decide +kernel
theorem dX2_goodIfFirstIs_24 : decode cX2_goodIfFirstIs 24 = .ok (.invokestatic 74, 3) := by decide +kernel
theorem dX2_goodIfFirstIs_27 : decode cX2_goodIfFirstIs 27 = .ok (.ifCond .eq 7, 3) := by decide +kernel
theorem dX2_goodIfFirstIs_30 : decode cX2_goodIfFirstIs 30 = .ok (.lconst 0, 1) := by decide +kernel
theorem dX2_goodIfFirstIs_31 : decode cX2_goodIfFirstIs 31 = .ok (.goto 5, 3) := by decide +kernel
theorem dX2_goodIfFirstIs_34 : decode cX2_goodIfFirstIs 34 = .ok (.iload_n 3, 1) := by decide +kernel
theorem dX2_goodIfFirstIs_35 : decode cX2_goodIfFirstIs 35 = .ok (.i2l, 1) := by decide +kernel
theorem dX2_goodIfFirstIs_36 : decode cX2_goodIfFirstIs 36 = .ok (.lstore 6, 2) := by decide +kernel
theorem dX2_goodIfFirstIs_38 : decode cX2_goodIfFirstIs 38 = .ok (.iconst 1, 1) := by decide +kernel
theorem dX2_goodIfFirstIs_39 : decode cX2_goodIfFirstIs 39 = .ok (.istore 8, 2) := by decide +kernel
theorem dX2_goodIfFirstIs_41 : decode cX2_goodIfFirstIs 41 = .ok (.iload 8, 2) := by decide +kernel
theorem dX2_goodIfFirstIs_43 : decode cX2_goodIfFirstIs 43 = .ok (.iload_n 2, 1) := by decide +kernel
theorem dX2_goodIfFirstIs_44 : decode cX2_goodIfFirstIs 44 = .ok (.if_icmp .ge 69, 3) := by decide +kernel
theorem dX2_goodIfFirstIs_47 : decode cX2_goodIfFirstIs 47 = .ok (.aload_n 0, 1) := by decide +kernel
theorem dX2_goodIfFirstIs_48 : decode cX2_goodIfFirstIs 48 = .ok (.getfield 32, 3) := by decide +kernel
theorem dX2_goodIfFirstIs_51 : decode cX2_goodIfFirstIs 51 = .ok (.iload 8, 2) := by decide +kernel
theorem dX2_goodIfFirstIs_53 : decode cX2_goodIfFirstIs 53 = .ok (.invokestatic 74, 3) := by decide +kernel
theorem dX2_goodIfFirstIs_56 : decode cX2_goodIfFirstIs 56 = .ok (.ifCond .eq 8, 3) := by decide +kernel
theorem dX2_goodIfFirstIs_59 : decode cX2_goodIfFirstIs 59 = .ok (.lload 4, 2) := by decide +kernel
theorem dX2_goodIfFirstIs_61 : decode cX2_goodIfFirstIs 61 = .ok (.goto 8, 3) := by decide +kernel
theorem dX2_goodIfFirstIs_64 : decode cX2_goodIfFirstIs 64 = .ok (.lload 4, 2) := by decide +kernel
theorem dX2_goodIfFirstIs_66 : decode cX2_goodIfFirstIs 66 = .ok (.lload 6, 2) := by decide +kernel
theorem dX2_goodIfFirstIs_68 : decode cX2_goodIfFirstIs 68 = .ok (.ladd, 1) := by decide +kernel
theorem dX2_goodIfFirstIs_69 : decode cX2_goodIfFirstIs 69 = .ok (.lstore 9, 2) := by decide +kernel
theorem dX2_goodIfFirstIs_71 : decode cX2_goodIfFirstIs 71 = .ok (.lload 4, 2) := by decide +kernel
theorem dX2_goodIfFirstIs_73 : decode cX2_goodIfFirstIs 73 = .ok (.lload 6, 2) := by decide +kernel
theorem dX2_goodIfFirstIs_75 : decode cX2_goodIfFirstIs 75 = .ok (.ladd, 1) := by decide +kernel
theorem dX2_goodIfFirstIs_76 : decode cX2_goodIfFirstIs 76 = .ok (.bipush 10, 2) := by decide +kernel
theorem dX2_goodIfFirstIs_78 : decode cX2_goodIfFirstIs 78 = .ok (.iload_n 3, 1) := by decide +kernel
theorem dX2_goodIfFirstIs_79 : decode cX2_goodIfFirstIs 79 = .ok (.isub, 1) := by decide +kernel
theorem dX2_goodIfFirstIs_80 : decode cX2_goodIfFirstIs 80 = .ok (.i2l, 1) := by decide +kernel
theorem dX2_goodIfFirstIs_81 : decode cX2_goodIfFirstIs 81 = .ok (.lmul, 1) := by decide +kernel
theorem dX2_goodIfFirstIs_82 : decode cX2_goodIfFirstIs 82 = .ok (.lstore 4, 2) := by decide +kernel
theorem dX2_goodIfFirstIs_84 : decode cX2_goodIfFirstIs 84 = .ok (.aload_n 0, 1) := by decide +kernel
theorem dX2_goodIfFirstIs_85 : decode cX2_goodIfFirstIs 85 = .ok (.getfield 29, 3) := by decide +kernel
theorem dX2_goodIfFirstIs_88 : decode cX2_goodIfFirstIs 88 = .ok (.iload 8, 2) := by decide +kernel
theorem dX2_goodIfFirstIs_90 : decode cX2_goodIfFirstIs 90 = .ok (.invokestatic 74, 3) := by decide +kernel
theorem dX2_goodIfFirstIs_93 : decode cX2_goodIfFirstIs 93 = .ok (.ifCond .eq 7, 3) := by decide +kernel
theorem dX2_goodIfFirstIs_96 : decode cX2_goodIfFirstIs 96 = .ok (.lconst 0, 1) := by decide +kernel
theorem dX2_goodIfFirstIs_97 : decode cX2_goodIfFirstIs 97 = .ok (.goto 8, 3) := by decide +kernel
theorem dX2_goodIfFirstIs_100 : decode cX2_goodIfFirstIs 100 = .ok (.lload 9, 2) := by decide +kernel
theorem dX2_goodIfFirstIs_102 : decode cX2_goodIfFirstIs 102 = .ok (.iload_n 3, 1) := by decide +kernel
theorem dX2_goodIfFirstIs_103 : decode cX2_goodIfFirstIs 103 = .ok (.i2l, 1) := by decide +kernel
theorem dX2_goodIfFirstIs_104 : decode cX2_goodIfFirstIs 104 = .ok (.lmul, 1) := by decide +kernel
theorem dX2_goodIfFirstIs_105 : decode cX2_goodIfFirstIs 105 = .ok (.lstore 6, 2) := by decide +kernel
theorem dX2_goodIfFirstIs_107 : decode cX2_goodIfFirstIs 107 = .ok (.iinc 8 1, 3) := by decide +kernel
theorem dX2_goodIfFirstIs_110 : decode cX2_goodIfFirstIs 110 = .ok (.goto (-69), 3) := by decide +kernel
theorem dX2_goodIfFirstIs_113 : decode cX2_goodIfFirstIs 113 = .ok (.iload_n 1, 1) := by decide +kernel
theorem dX2_goodIfFirstIs_114 : decode cX2_goodIfFirstIs 114 = .ok (.ifCond .ne 19, 3) := by decide +kernel
theorem dX2_goodIfFirstIs_117 : decode cX2_goodIfFirstIs 117 = .ok (.aload_n 0, 1) := by decide +kernel
theorem dX2_goodIfFirstIs_118 : decode cX2_goodIfFirstIs 118 = .ok (.getfield 32, 3) := by decide +kernel
theorem dX2_goodIfFirstIs_121 : decode cX2_goodIfFirstIs 121 = .ok (.iconst 0, 1) := by decide +kernel
theorem dX2_goodIfFirstIs_122 : decode cX2_goodIfFirstIs 122 = .ok (.invokestatic 74, 3) := by decide +kernel
theorem dX2_goodIfFirstIs_125 : decode cX2_goodIfFirstIs 125 = .ok (.ifCond .eq 8, 3) := by decide +kernel
theorem dX2_goodIfFirstIs_128 : decode cX2_goodIfFirstIs 128 = .ok (.lload 4, 2) := by decide +kernel
theorem dX2_goodIfFirstIs_130 : decode cX2_goodIfFirstIs 130 = .ok (.goto 8, 3) := by decide +kernel
theorem dX2_goodIfFirstIs_133 : decode cX2_goodIfFirstIs 133 = .ok (.lload 4, 2) := by decide +kernel
theorem dX2_goodIfFirstIs_135 : decode cX2_goodIfFirstIs 135 = .ok (.lload 6, 2) := by decide +kernel
theorem dX2_goodIfFirstIs_137 : decode cX2_goodIfFirstIs 137 = .ok (.ladd, 1) := by decide +kernel
theorem dX2_goodIfFirstIs_138 : decode cX2_goodIfFirstIs 138 = .ok (.lreturn, 1) := by decide +kernel
theorem dX2_hasBit_0 : decode cX2_hasBit 0 = .ok (.iload_n 0, 1) := by decide +kernel
theorem dX2_hasBit_1 : decode cX2_hasBit 1 = .ok (.iload_n 1, 1) := by decide +kernel
theorem dX2_hasBit_2 : decode cX2_hasBit 2 = .ok (.ishr, 1) := by decide +kernel
theorem dX2_hasBit_3 : decode cX2_hasBit 3 = .ok (.iconst 1, 1) := by decide +kernel
theorem dX2_hasBit_4 : decode cX2_hasBit 4 = .ok (.iand, 1) := by decide +kernel
theorem dX2_hasBit_5 : decode cX2_hasBit 5 = .ok (.ifCond .eq 7, 3) := by decide +kernel
theorem dX2_hasBit_8 : decode cX2_hasBit 8 = .ok (.iconst 1, 1) := by decide +kernel
theorem dX2_hasBit_9 : decode cX2_hasBit 9 = .ok (.goto 4, 3) := by decide +kernel
theorem dX2_hasBit_12 : decode cX2_hasBit 12 = .ok (.iconst 0, 1) := by decide +kernel
theorem dX2_hasBit_13 : decode cX2_hasBit 13 = .ok (.ireturn, 1) := by decide +kernel
theorem dX2_greatestDivisor_0 : decode cX2_greatestDivisor 0 = .ok (.lload_n 0, 1) := by decide +kernel
theorem dX2_greatestDivisor_1 : decode cX2_greatestDivisor 1 = .ok (.lstore 4, 2) := by decide +kernel
theorem dX2_greatestDivisor_3 : decode cX2_greatestDivisor 3 = .ok (.lload_n 2, 1) := by decide +kernel
theorem dX2_greatestDivisor_4 : decode cX2_greatestDivisor 4 = .ok (.lstore 6, 2) := by decide +kernel
theorem dX2_greatestDivisor_6 : decode cX2_greatestDivisor 6 = .ok (.iconst 0, 1) := by decide +kernel
theorem dX2_greatestDivisor_7 : decode cX2_greatestDivisor 7 = .ok (.istore 8, 2) := by decide +kernel
theorem dX2_greatestDivisor_9 : decode cX2_greatestDivisor 9 = .ok (.iload 8, 2) := by decide +kernel
theorem dX2_greatestDivisor_11 : decode cX2_greatestDivisor 11 = .ok (.sipush 200, 3) := by decide +kernel
theorem dX2_greatestDivisor_14 : decode cX2_greatestDivisor 14 = .ok (.if_icmp .ge 31, 3) := by decide +kernel
theorem dX2_greatestDivisor_17 : decode cX2_greatestDivisor 17 = .ok (.lload 6, 2) := by decide +kernel
theorem dX2_greatestDivisor_19 : decode cX2_greatestDivisor 19 = .ok (.lconst 0, 1) := by decide +kernel
theorem dX2_greatestDivisor_20 : decode cX2_greatestDivisor 20 = .ok (.lcmp, 1) := by decide +kernel
theorem dX2_greatestDivisor_21 : decode cX2_greatestDivisor 21 = .ok (.ifCond .eq 24, 3) := by decide +kernel
theorem dX2_greatestDivisor_24 : decode cX2_greatestDivisor 24 = .ok (.lload 4, 2) := by decide +kernel
theorem dX2_greatestDivisor_26 : decode cX2_greatestDivisor 26 = .ok (.lload 6, 2) := by decide +kernel
theorem dX2_greatestDivisor_28 : decode cX2_greatestDivisor 28 = .ok (.lrem, 1) := by decide +kernel
theorem dX2_greatestDivisor_29 : decode cX2_greatestDivisor 29 = .ok (.lstore 9, 2) := by decide +kernel
theorem dX2_greatestDivisor_31 : decode cX2_greatestDivisor 31 = .ok (.lload 6, 2) := by decide +kernel
theorem dX2_greatestDivisor_33 : decode cX2_greatestDivisor 33 = .ok (.lstore 4, 2) := by decide +kernel
theorem dX2_greatestDivisor_35 : decode cX2_greatestDivisor 35 = .ok (.lload 9, 2) := by decide +kernel
theorem dX2_greatestDivisor_37 : decode cX2_greatestDivisor 37 = .ok (.lstore 6, 2) := by decide +kernel
theorem dX2_greatestDivisor_39 : decode cX2_greatestDivisor 39 = .ok (.iinc 8 1, 3) := by decide +kernel
theorem dX2_greatestDivisor_42 : decode cX2_greatestDivisor 42 = .ok (.goto (-33), 3) := by decide +kernel
theorem dX2_greatestDivisor_45 : decode cX2_greatestDivisor 45 = .ok (.lload 4, 2) := by decide +kernel
theorem dX2_greatestDivisor_47 : decode cX2_greatestDivisor 47 = .ok (.lreturn, 1) := by decide +kernel
set_option maxRecDepth 20000 in
theorem ggX3_xOnStrip_X1_rowCosine : GoodIn wsX3_xOnStrip wsX1_rowCosine := goodIn_r _ [4, 5] (by decide +kernel) (by decide +kernel)
set_option maxRecDepth 20000 in
theorem gX3_xOnStrip_X1_rowCosine : GoodIn wsX3_xOnStrip (va_wsS RX3 9 yX1_rowCosine wsX1_rowCosine) := goodIn_app (goodIn_of _ (by decide +kernel)) ggX3_xOnStrip_X1_rowCosine
theorem dX3_xOnStrip_0 : decode cX3_xOnStrip 0 = .ok (.iconst 2, 1) := by decide +kernel
theorem dX3_xOnStrip_1 : decode cX3_xOnStrip 1 = .ok (.iload_n 2, 1) := by decide +kernel
theorem dX3_xOnStrip_2 : decode cX3_xOnStrip 2 = .ok (.imul, 1) := by decide +kernel
theorem dX3_xOnStrip_3 : decode cX3_xOnStrip 3 = .ok (.iconst 1, 1) := by decide +kernel
theorem dX3_xOnStrip_4 : decode cX3_xOnStrip 4 = .ok (.iadd, 1) := by decide +kernel
theorem dX3_xOnStrip_5 : decode cX3_xOnStrip 5 = .ok (.iload_n 1, 1) := by decide +kernel
theorem dX3_xOnStrip_6 : decode cX3_xOnStrip 6 = .ok (.imul, 1) := by decide +kernel
theorem dX3_xOnStrip_7 : decode cX3_xOnStrip 7 = .ok (.iload_n 0, 1) := by decide +kernel
theorem dX3_xOnStrip_8 : decode cX3_xOnStrip 8 = .ok (.imul, 1) := by decide +kernel
theorem dX3_xOnStrip_9 : decode cX3_xOnStrip 9 = .ok (.iconst 2, 1) := by decide +kernel
theorem dX3_xOnStrip_10 : decode cX3_xOnStrip 10 = .ok (.iload_n 3, 1) := by decide +kernel
theorem dX3_xOnStrip_11 : decode cX3_xOnStrip 11 = .ok (.imul, 1) := by decide +kernel
theorem dX3_xOnStrip_12 : decode cX3_xOnStrip 12 = .ok (.iload_n 1, 1) := by decide +kernel
theorem dX3_xOnStrip_13 : decode cX3_xOnStrip 13 = .ok (.isub, 1) := by decide +kernel
theorem dX3_xOnStrip_14 : decode cX3_xOnStrip 14 = .ok (.iload_n 0, 1) := by decide +kernel
theorem dX3_xOnStrip_15 : decode cX3_xOnStrip 15 = .ok (.imul, 1) := by decide +kernel
theorem dX3_xOnStrip_16 : decode cX3_xOnStrip 16 = .ok (.iload 4, 2) := by decide +kernel
theorem dX3_xOnStrip_18 : decode cX3_xOnStrip 18 = .ok (.invokestatic 9, 3) := by decide +kernel
theorem dX3_xOnStrip_21 : decode cX3_xOnStrip 21 = .ok (.imul, 1) := by decide +kernel
theorem dX3_xOnStrip_22 : decode cX3_xOnStrip 22 = .ok (.sipush 10000, 3) := by decide +kernel
theorem dX3_xOnStrip_25 : decode cX3_xOnStrip 25 = .ok (.idiv, 1) := by decide +kernel
theorem dX3_xOnStrip_26 : decode cX3_xOnStrip 26 = .ok (.iadd, 1) := by decide +kernel
theorem dX3_xOnStrip_27 : decode cX3_xOnStrip 27 = .ok (.ireturn, 1) := by decide +kernel
set_option maxRecDepth 20000 in
theorem ggX3_stripX_X3_xOnStrip : GoodIn wsX3_stripX wsX3_xOnStrip := goodIn_r _ [4, 5, 6, 7, 8, 9] (by decide +kernel) (by decide +kernel)
set_option maxRecDepth 20000 in
theorem gX3_stripX_X3_xOnStrip : GoodIn wsX3_stripX (va_wsS RX3 15 yX3_xOnStrip wsX3_xOnStrip) := goodIn_app (goodIn_of _ (by decide +kernel)) ggX3_stripX_X3_xOnStrip
theorem dX3_stripX_0 : decode cX3_stripX 0 = .ok (.iload_n 3, 1) := by decide +kernel
theorem dX3_stripX_1 : decode cX3_stripX 1 = .ok (.iload_n 1, 1) := by decide +kernel
theorem dX3_stripX_2 : decode cX3_stripX 2 = .ok (.idiv, 1) := by decide +kernel
theorem dX3_stripX_3 : decode cX3_stripX 3 = .ok (.istore 4, 2) := by decide +kernel
theorem dX3_stripX_5 : decode cX3_stripX 5 = .ok (.iload_n 0, 1) := by decide +kernel
theorem dX3_stripX_6 : decode cX3_stripX 6 = .ok (.iload_n 1, 1) := by decide +kernel
theorem dX3_stripX_7 : decode cX3_stripX 7 = .ok (.iload 4, 2) := by decide +kernel
theorem dX3_stripX_9 : decode cX3_stripX 9 = .ok (.iload_n 3, 1) := by decide +kernel
theorem dX3_stripX_10 : decode cX3_stripX 10 = .ok (.iload_n 1, 1) := by decide +kernel
theorem dX3_stripX_11 : decode cX3_stripX 11 = .ok (.iload 4, 2) := by decide +kernel
theorem dX3_stripX_13 : decode cX3_stripX 13 = .ok (.imul, 1) := by decide +kernel
theorem dX3_stripX_14 : decode cX3_stripX 14 = .ok (.isub, 1) := by decide +kernel
theorem dX3_stripX_15 : decode cX3_stripX 15 = .ok (.iload_n 2, 1) := by decide +kernel
theorem dX3_stripX_16 : decode cX3_stripX 16 = .ok (.invokestatic 15, 3) := by decide +kernel
theorem dX3_stripX_19 : decode cX3_stripX 19 = .ok (.ireturn, 1) := by decide +kernel
theorem dX3_stripY_0 : decode cX3_stripY 0 = .ok (.iconst 2, 1) := by decide +kernel
theorem dX3_stripY_1 : decode cX3_stripY 1 = .ok (.iload_n 0, 1) := by decide +kernel
theorem dX3_stripY_2 : decode cX3_stripY 2 = .ok (.imul, 1) := by decide +kernel
theorem dX3_stripY_3 : decode cX3_stripY 3 = .ok (.iload_n 1, 1) := by decide +kernel
theorem dX3_stripY_4 : decode cX3_stripY 4 = .ok (.bipush 6, 2) := by decide +kernel
theorem dX3_stripY_6 : decode cX3_stripY 6 = .ok (.iadd, 1) := by decide +kernel
theorem dX3_stripY_7 : decode cX3_stripY 7 = .ok (.imul, 1) := by decide +kernel
theorem dX3_stripY_8 : decode cX3_stripY 8 = .ok (.ireturn, 1) := by decide +kernel
set_option maxRecDepth 20000 in
theorem ggX3_twinX_X0_width : GoodIn wsX3_twinX wsX0_width := goodIn_r _ [7, 8, 18, 19, 20, 21, 22, 23, 24] (by decide +kernel) (by decide +kernel)
set_option maxRecDepth 20000 in
theorem gX3_twinX_X0_width : GoodIn wsX3_twinX (wsV RX3 21 RX0 yX0_width wsX0_width) := goodIn_app (goodIn_of _ (by decide +kernel)) ggX3_twinX_X0_width
set_option maxRecDepth 20000 in
theorem ggX3_twinX_X3_xOnStrip : GoodIn wsX3_twinX wsX3_xOnStrip := goodIn_r _ [12, 13, 14, 15, 16, 17] (by decide +kernel) (by decide +kernel)
set_option maxRecDepth 20000 in
theorem gX3_twinX_X3_xOnStrip : GoodIn wsX3_twinX (va_wsS RX3 15 yX3_xOnStrip wsX3_xOnStrip) := goodIn_app (goodIn_of _ (by decide +kernel)) ggX3_twinX_X3_xOnStrip
theorem dX3_twinX_0 : decode cX3_twinX 0 = .ok (.aload_n 0, 1) := by decide +kernel
theorem dX3_twinX_1 : decode cX3_twinX 1 = .ok (.invokevirtual 21, 3) := by decide +kernel
theorem dX3_twinX_4 : decode cX3_twinX 4 = .ok (.istore_n 3, 1) := by decide +kernel
theorem dX3_twinX_5 : decode cX3_twinX 5 = .ok (.iload_n 2, 1) := by decide +kernel
theorem dX3_twinX_6 : decode cX3_twinX 6 = .ok (.iload_n 3, 1) := by decide +kernel
theorem dX3_twinX_7 : decode cX3_twinX 7 = .ok (.irem, 1) := by decide +kernel
theorem dX3_twinX_8 : decode cX3_twinX 8 = .ok (.ifCond .eq 6, 3) := by decide +kernel
theorem dX3_twinX_11 : decode cX3_twinX 11 = .ok (.bipush (-4), 2) := by decide +kernel
theorem dX3_twinX_13 : decode cX3_twinX 13 = .ok (.ireturn, 1) := by decide +kernel
theorem dX3_twinX_14 : decode cX3_twinX 14 = .ok (.iload_n 2, 1) := by decide +kernel
theorem dX3_twinX_15 : decode cX3_twinX 15 = .ok (.ifCond .ne 12, 3) := by decide +kernel
theorem dX3_twinX_18 : decode cX3_twinX 18 = .ok (.aload_n 0, 1) := by decide +kernel
theorem dX3_twinX_19 : decode cX3_twinX 19 = .ok (.getfield 27, 3) := by decide +kernel
theorem dX3_twinX_22 : decode cX3_twinX 22 = .ok (.iconst 1, 1) := by decide +kernel
theorem dX3_twinX_23 : decode cX3_twinX 23 = .ok (.isub, 1) := by decide +kernel
theorem dX3_twinX_24 : decode cX3_twinX 24 = .ok (.goto 8, 3) := by decide +kernel
theorem dX3_twinX_27 : decode cX3_twinX 27 = .ok (.iload_n 2, 1) := by decide +kernel
theorem dX3_twinX_28 : decode cX3_twinX 28 = .ok (.iload_n 3, 1) := by decide +kernel
theorem dX3_twinX_29 : decode cX3_twinX 29 = .ok (.idiv, 1) := by decide +kernel
theorem dX3_twinX_30 : decode cX3_twinX 30 = .ok (.iconst 1, 1) := by decide +kernel
theorem dX3_twinX_31 : decode cX3_twinX 31 = .ok (.isub, 1) := by decide +kernel
theorem dX3_twinX_32 : decode cX3_twinX 32 = .ok (.istore 4, 2) := by decide +kernel
theorem dX3_twinX_34 : decode cX3_twinX 34 = .ok (.aload_n 0, 1) := by decide +kernel
theorem dX3_twinX_35 : decode cX3_twinX 35 = .ok (.getfield 31, 3) := by decide +kernel
theorem dX3_twinX_38 : decode cX3_twinX 38 = .ok (.iload_n 3, 1) := by decide +kernel
theorem dX3_twinX_39 : decode cX3_twinX 39 = .ok (.iload 4, 2) := by decide +kernel
theorem dX3_twinX_41 : decode cX3_twinX 41 = .ok (.iload_n 3, 1) := by decide +kernel
theorem dX3_twinX_42 : decode cX3_twinX 42 = .ok (.iload_n 1, 1) := by decide +kernel
theorem dX3_twinX_43 : decode cX3_twinX 43 = .ok (.invokestatic 15, 3) := by decide +kernel
theorem dX3_twinX_46 : decode cX3_twinX 46 = .ok (.ireturn, 1) := by decide +kernel
set_option maxRecDepth 20000 in
theorem ggX3_capX_X3_capRadius : GoodIn wsX3_capX wsX3_capRadius := goodIn_r _ [4, 5, 6, 7, 8, 9, 19, 20, 21, 22, 23, 24, 25] (by decide +kernel) (by decide +kernel)
set_option maxRecDepth 20000 in
theorem gX3_capX_X3_capRadius : GoodIn wsX3_capX (va_wsS RX3 34 yX3_capRadius wsX3_capRadius) := goodIn_app (goodIn_of _ (by decide +kernel)) ggX3_capX_X3_capRadius
set_option maxRecDepth 20000 in
theorem ggX3_capX_X1_sine : GoodIn wsX3_capX wsX1_sine := goodIn_r _ [13, 14] (by decide +kernel) (by decide +kernel)
set_option maxRecDepth 20000 in
theorem gX3_capX_X1_sine : GoodIn wsX3_capX (va_wsS RX3 38 yX1_sine wsX1_sine) := goodIn_app (goodIn_of _ (by decide +kernel)) ggX3_capX_X1_sine
set_option maxRecDepth 20000 in
theorem ggX3_capX_X3_capMiddle : GoodIn wsX3_capX wsX3_capMiddle := goodIn_r _ [17, 5, 18, 19, 20, 21, 22, 23, 24, 25] (by decide +kernel) (by decide +kernel)
set_option maxRecDepth 20000 in
theorem gX3_capX_X3_capMiddle : GoodIn wsX3_capX (va_wsS RX3 41 yX3_capMiddle wsX3_capMiddle) := goodIn_app (goodIn_of _ (by decide +kernel)) ggX3_capX_X3_capMiddle
theorem dX3_capX_0 : decode cX3_capX 0 = .ok (.aload_n 0, 1) := by decide +kernel
theorem dX3_capX_1 : decode cX3_capX 1 = .ok (.iload_n 1, 1) := by decide +kernel
theorem dX3_capX_2 : decode cX3_capX 2 = .ok (.invokestatic 34, 3) := by decide +kernel
theorem dX3_capX_5 : decode cX3_capX 5 = .ok (.iload_n 2, 1) := by decide +kernel
theorem dX3_capX_6 : decode cX3_capX 6 = .ok (.invokestatic 38, 3) := by decide +kernel
theorem dX3_capX_9 : decode cX3_capX 9 = .ok (.imul, 1) := by decide +kernel
theorem dX3_capX_10 : decode cX3_capX 10 = .ok (.sipush 10000, 3) := by decide +kernel
theorem dX3_capX_13 : decode cX3_capX 13 = .ok (.idiv, 1) := by decide +kernel
theorem dX3_capX_14 : decode cX3_capX 14 = .ok (.istore_n 3, 1) := by decide +kernel
theorem dX3_capX_15 : decode cX3_capX 15 = .ok (.aload_n 0, 1) := by decide +kernel
theorem dX3_capX_16 : decode cX3_capX 16 = .ok (.invokestatic 41, 3) := by decide +kernel
theorem dX3_capX_19 : decode cX3_capX 19 = .ok (.iload_n 1, 1) := by decide +kernel
theorem dX3_capX_20 : decode cX3_capX 20 = .ok (.ifCond .le 7, 3) := by decide +kernel
theorem dX3_capX_23 : decode cX3_capX 23 = .ok (.iload_n 3, 1) := by decide +kernel
theorem dX3_capX_24 : decode cX3_capX 24 = .ok (.goto 5, 3) := by decide +kernel
theorem dX3_capX_27 : decode cX3_capX 27 = .ok (.iload_n 3, 1) := by decide +kernel
theorem dX3_capX_28 : decode cX3_capX 28 = .ok (.ineg, 1) := by decide +kernel
theorem dX3_capX_29 : decode cX3_capX 29 = .ok (.iadd, 1) := by decide +kernel
theorem dX3_capX_30 : decode cX3_capX 30 = .ok (.ireturn, 1) := by decide +kernel
set_option maxRecDepth 20000 in
theorem ggX3_capY_X3_capMiddle : GoodIn wsX3_capY wsX3_capMiddle := goodIn_r _ [4, 5, 6, 19, 20, 21, 22, 23, 24, 25] (by decide +kernel) (by decide +kernel)
set_option maxRecDepth 20000 in
theorem gX3_capY_X3_capMiddle : GoodIn wsX3_capY (va_wsS RX3 41 yX3_capMiddle wsX3_capMiddle) := goodIn_app (goodIn_of _ (by decide +kernel)) ggX3_capY_X3_capMiddle
set_option maxRecDepth 20000 in
theorem ggX3_capY_X3_capRadius : GoodIn wsX3_capY wsX3_capRadius := goodIn_r _ [9, 5, 10, 11, 12, 13, 19, 20, 21, 22, 23, 24, 25] (by decide +kernel) (by decide +kernel)
set_option maxRecDepth 20000 in
theorem gX3_capY_X3_capRadius : GoodIn wsX3_capY (va_wsS RX3 34 yX3_capRadius wsX3_capRadius) := goodIn_app (goodIn_of _ (by decide +kernel)) ggX3_capY_X3_capRadius
set_option maxRecDepth 20000 in
theorem ggX3_capY_X1_cosine : GoodIn wsX3_capY wsX1_cosine := goodIn_r _ [17, 18] (by decide +kernel) (by decide +kernel)
set_option maxRecDepth 20000 in
theorem gX3_capY_X1_cosine : GoodIn wsX3_capY (va_wsS RX3 45 yX1_cosine wsX1_cosine) := goodIn_app (goodIn_of _ (by decide +kernel)) ggX3_capY_X1_cosine
theorem dX3_capY_0 : decode cX3_capY 0 = .ok (.aload_n 0, 1) := by decide +kernel
theorem dX3_capY_1 : decode cX3_capY 1 = .ok (.invokestatic 41, 3) := by decide +kernel
theorem dX3_capY_4 : decode cX3_capY 4 = .ok (.aload_n 0, 1) := by decide +kernel
theorem dX3_capY_5 : decode cX3_capY 5 = .ok (.iload_n 1, 1) := by decide +kernel
theorem dX3_capY_6 : decode cX3_capY 6 = .ok (.invokestatic 34, 3) := by decide +kernel
theorem dX3_capY_9 : decode cX3_capY 9 = .ok (.iload_n 2, 1) := by decide +kernel
theorem dX3_capY_10 : decode cX3_capY 10 = .ok (.invokestatic 45, 3) := by decide +kernel
theorem dX3_capY_13 : decode cX3_capY 13 = .ok (.imul, 1) := by decide +kernel
theorem dX3_capY_14 : decode cX3_capY 14 = .ok (.sipush 10000, 3) := by decide +kernel
theorem dX3_capY_17 : decode cX3_capY 17 = .ok (.idiv, 1) := by decide +kernel
theorem dX3_capY_18 : decode cX3_capY 18 = .ok (.iadd, 1) := by decide +kernel
theorem dX3_capY_19 : decode cX3_capY 19 = .ok (.ireturn, 1) := by decide +kernel
theorem dX3_capMiddle_0 : decode cX3_capMiddle 0 = .ok (.iconst 2, 1) := by decide +kernel
theorem dX3_capMiddle_1 : decode cX3_capMiddle 1 = .ok (.aload_n 0, 1) := by decide +kernel
theorem dX3_capMiddle_2 : decode cX3_capMiddle 2 = .ok (.getfield 31, 3) := by decide +kernel
theorem dX3_capMiddle_5 : decode cX3_capMiddle 5 = .ok (.imul, 1) := by decide +kernel
theorem dX3_capMiddle_6 : decode cX3_capMiddle 6 = .ok (.aload_n 0, 1) := by decide +kernel
theorem dX3_capMiddle_7 : decode cX3_capMiddle 7 = .ok (.getfield 48, 3) := by decide +kernel
theorem dX3_capMiddle_10 : decode cX3_capMiddle 10 = .ok (.imul, 1) := by decide +kernel
theorem dX3_capMiddle_11 : decode cX3_capMiddle 11 = .ok (.ireturn, 1) := by decide +kernel
theorem dX3_capRadius_0 : decode cX3_capRadius 0 = .ok (.iconst 2, 1) := by decide +kernel
theorem dX3_capRadius_1 : decode cX3_capRadius 1 = .ok (.aload_n 0, 1) := by decide +kernel
theorem dX3_capRadius_2 : decode cX3_capRadius 2 = .ok (.getfield 31, 3) := by decide +kernel
theorem dX3_capRadius_5 : decode cX3_capRadius 5 = .ok (.imul, 1) := by decide +kernel
theorem dX3_capRadius_6 : decode cX3_capRadius 6 = .ok (.bipush 6, 2) := by decide +kernel
theorem dX3_capRadius_8 : decode cX3_capRadius 8 = .ok (.iload_n 1, 1) := by decide +kernel
theorem dX3_capRadius_9 : decode cX3_capRadius 9 = .ok (.invokestatic 51, 3) := by decide +kernel
theorem dX3_capRadius_12 : decode cX3_capRadius 12 = .ok (.isub, 1) := by decide +kernel
theorem dX3_capRadius_13 : decode cX3_capRadius 13 = .ok (.imul, 1) := by decide +kernel
theorem dX3_capRadius_14 : decode cX3_capRadius 14 = .ok (.ireturn, 1) := by decide +kernel
set_option maxRecDepth 20000 in
theorem ggX3_foundOnStrips_X0_width : GoodIn wsX3_foundOnStrips wsX0_width := goodIn_r _ [14, 15, 34, 35, 36, 37, 38, 39, 40] (by decide +kernel) (by decide +kernel)
set_option maxRecDepth 20000 in
theorem gX3_foundOnStrips_X0_width : GoodIn wsX3_foundOnStrips (wsV RX3 21 RX0 yX0_width wsX0_width) := goodIn_app (goodIn_of _ (by decide +kernel)) ggX3_foundOnStrips_X0_width
set_option maxRecDepth 20000 in
theorem ggX3_foundOnStrips_X0_isOnStrips : GoodIn wsX3_foundOnStrips wsX0_isOnStrips := goodIn_r _ [19, 20, 8, 5, 9, 21, 34, 35, 36, 37, 38, 39, 40] (by decide +kernel) (by decide +kernel)
set_option maxRecDepth 20000 in
theorem gX3_foundOnStrips_X0_isOnStrips : GoodIn wsX3_foundOnStrips (wsV RX3 60 RX0 yX0_isOnStrips wsX0_isOnStrips) := goodIn_app (goodIn_of _ (by decide +kernel)) ggX3_foundOnStrips_X0_isOnStrips
set_option maxRecDepth 20000 in
theorem ggX3_foundOnStrips_X1_rowCosine : GoodIn wsX3_foundOnStrips wsX1_rowCosine := goodIn_r _ [25, 26] (by decide +kernel) (by decide +kernel)
set_option maxRecDepth 20000 in
theorem gX3_foundOnStrips_X1_rowCosine : GoodIn wsX3_foundOnStrips (va_wsS RX3 9 yX1_rowCosine wsX1_rowCosine) := goodIn_app (goodIn_of _ (by decide +kernel)) ggX3_foundOnStrips_X1_rowCosine
set_option maxRecDepth 20000 in
theorem ggX3_foundOnStrips_X3_xOnStrip : GoodIn wsX3_foundOnStrips wsX3_xOnStrip := goodIn_r _ [30, 22, 23, 24, 25, 26] (by decide +kernel) (by decide +kernel)
set_option maxRecDepth 20000 in
theorem gX3_foundOnStrips_X3_xOnStrip : GoodIn wsX3_foundOnStrips (va_wsS RX3 15 yX3_xOnStrip wsX3_xOnStrip) := goodIn_app (goodIn_of _ (by decide +kernel)) ggX3_foundOnStrips_X3_xOnStrip
set_option maxRecDepth 20000 in
theorem ggX3_foundOnStrips_X1_numberOf : GoodIn wsX3_foundOnStrips wsX1_numberOf := goodIn_r _ [33] (by decide +kernel) (by decide +kernel)
set_option maxRecDepth 20000 in
theorem gX3_foundOnStrips_X1_numberOf : GoodIn wsX3_foundOnStrips (va_wsS RX3 64 yX1_numberOf wsX1_numberOf) := goodIn_app (goodIn_of _ (by decide +kernel)) ggX3_foundOnStrips_X1_numberOf
theorem dX3_foundOnStrips_0 : decode cX3_foundOnStrips 0 = .ok (.aload_n 0, 1) := by decide +kernel
theorem dX3_foundOnStrips_1 : decode cX3_foundOnStrips 1 = .ok (.getfield 31, 3) := by decide +kernel
theorem dX3_foundOnStrips_4 : decode cX3_foundOnStrips 4 = .ok (.istore_n 3, 1) := by decide +kernel
theorem dX3_foundOnStrips_5 : decode cX3_foundOnStrips 5 = .ok (.aload_n 0, 1) := by decide +kernel
theorem dX3_foundOnStrips_6 : decode cX3_foundOnStrips 6 = .ok (.invokevirtual 21, 3) := by decide +kernel
theorem dX3_foundOnStrips_9 : decode cX3_foundOnStrips 9 = .ok (.istore 4, 2) := by decide +kernel
theorem dX3_foundOnStrips_11 : decode cX3_foundOnStrips 11 = .ok (.iload_n 2, 1) := by decide +kernel
theorem dX3_foundOnStrips_12 : decode cX3_foundOnStrips 12 = .ok (.iload_n 3, 1) := by decide +kernel
theorem dX3_foundOnStrips_13 : decode cX3_foundOnStrips 13 = .ok (.iadd, 1) := by decide +kernel
theorem dX3_foundOnStrips_14 : decode cX3_foundOnStrips 14 = .ok (.iconst 2, 1) := by decide +kernel
theorem dX3_foundOnStrips_15 : decode cX3_foundOnStrips 15 = .ok (.iload_n 3, 1) := by decide +kernel
theorem dX3_foundOnStrips_16 : decode cX3_foundOnStrips 16 = .ok (.imul, 1) := by decide +kernel
theorem dX3_foundOnStrips_17 : decode cX3_foundOnStrips 17 = .ok (.idiv, 1) := by decide +kernel
theorem dX3_foundOnStrips_18 : decode cX3_foundOnStrips 18 = .ok (.bipush 6, 2) := by decide +kernel
theorem dX3_foundOnStrips_20 : decode cX3_foundOnStrips 20 = .ok (.isub, 1) := by decide +kernel
theorem dX3_foundOnStrips_21 : decode cX3_foundOnStrips 21 = .ok (.istore 5, 2) := by decide +kernel
theorem dX3_foundOnStrips_23 : decode cX3_foundOnStrips 23 = .ok (.iload_n 1, 1) := by decide +kernel
theorem dX3_foundOnStrips_24 : decode cX3_foundOnStrips 24 = .ok (.iconst 2, 1) := by decide +kernel
theorem dX3_foundOnStrips_25 : decode cX3_foundOnStrips 25 = .ok (.iload 4, 2) := by decide +kernel
theorem dX3_foundOnStrips_27 : decode cX3_foundOnStrips 27 = .ok (.imul, 1) := by decide +kernel
theorem dX3_foundOnStrips_28 : decode cX3_foundOnStrips 28 = .ok (.iload_n 3, 1) := by decide +kernel
theorem dX3_foundOnStrips_29 : decode cX3_foundOnStrips 29 = .ok (.imul, 1) := by decide +kernel
theorem dX3_foundOnStrips_30 : decode cX3_foundOnStrips 30 = .ok (.idiv, 1) := by decide +kernel
theorem dX3_foundOnStrips_31 : decode cX3_foundOnStrips 31 = .ok (.aload_n 0, 1) := by decide +kernel
theorem dX3_foundOnStrips_32 : decode cX3_foundOnStrips 32 = .ok (.getfield 27, 3) := by decide +kernel
theorem dX3_foundOnStrips_35 : decode cX3_foundOnStrips 35 = .ok (.iconst 1, 1) := by decide +kernel
theorem dX3_foundOnStrips_36 : decode cX3_foundOnStrips 36 = .ok (.isub, 1) := by decide +kernel
theorem dX3_foundOnStrips_37 : decode cX3_foundOnStrips 37 = .ok (.invokestatic 56, 3) := by decide +kernel
theorem dX3_foundOnStrips_40 : decode cX3_foundOnStrips 40 = .ok (.istore 6, 2) := by decide +kernel
theorem dX3_foundOnStrips_42 : decode cX3_foundOnStrips 42 = .ok (.iload_n 1, 1) := by decide +kernel
theorem dX3_foundOnStrips_43 : decode cX3_foundOnStrips 43 = .ok (.iconst 2, 1) := by decide +kernel
theorem dX3_foundOnStrips_44 : decode cX3_foundOnStrips 44 = .ok (.iload 6, 2) := by decide +kernel
theorem dX3_foundOnStrips_46 : decode cX3_foundOnStrips 46 = .ok (.imul, 1) := by decide +kernel
theorem dX3_foundOnStrips_47 : decode cX3_foundOnStrips 47 = .ok (.iconst 1, 1) := by decide +kernel
theorem dX3_foundOnStrips_48 : decode cX3_foundOnStrips 48 = .ok (.iadd, 1) := by decide +kernel
theorem dX3_foundOnStrips_49 : decode cX3_foundOnStrips 49 = .ok (.iload 4, 2) := by decide +kernel
theorem dX3_foundOnStrips_51 : decode cX3_foundOnStrips 51 = .ok (.imul, 1) := by decide +kernel
theorem dX3_foundOnStrips_52 : decode cX3_foundOnStrips 52 = .ok (.iload_n 3, 1) := by decide +kernel
theorem dX3_foundOnStrips_53 : decode cX3_foundOnStrips 53 = .ok (.imul, 1) := by decide +kernel
theorem dX3_foundOnStrips_54 : decode cX3_foundOnStrips 54 = .ok (.isub, 1) := by decide +kernel
theorem dX3_foundOnStrips_55 : decode cX3_foundOnStrips 55 = .ok (.invokestatic 51, 3) := by decide +kernel
theorem dX3_foundOnStrips_58 : decode cX3_foundOnStrips 58 = .ok (.istore 7, 2) := by decide +kernel
theorem dX3_foundOnStrips_60 : decode cX3_foundOnStrips 60 = .ok (.aload_n 0, 1) := by decide +kernel
theorem dX3_foundOnStrips_61 : decode cX3_foundOnStrips 61 = .ok (.iload 5, 2) := by decide +kernel
theorem dX3_foundOnStrips_63 : decode cX3_foundOnStrips 63 = .ok (.invokevirtual 60, 3) := by decide +kernel
theorem dX3_foundOnStrips_66 : decode cX3_foundOnStrips 66 = .ok (.ifCond .eq 22, 3) := by decide +kernel
theorem dX3_foundOnStrips_69 : decode cX3_foundOnStrips 69 = .ok (.iload 7, 2) := by decide +kernel
theorem dX3_foundOnStrips_71 : decode cX3_foundOnStrips 71 = .ok (.iload 4, 2) := by decide +kernel
theorem dX3_foundOnStrips_73 : decode cX3_foundOnStrips 73 = .ok (.iload_n 3, 1) := by decide +kernel
theorem dX3_foundOnStrips_74 : decode cX3_foundOnStrips 74 = .ok (.imul, 1) := by decide +kernel
theorem dX3_foundOnStrips_75 : decode cX3_foundOnStrips 75 = .ok (.iload 5, 2) := by decide +kernel
theorem dX3_foundOnStrips_77 : decode cX3_foundOnStrips 77 = .ok (.invokestatic 9, 3) := by decide +kernel
theorem dX3_foundOnStrips_80 : decode cX3_foundOnStrips 80 = .ok (.imul, 1) := by decide +kernel
theorem dX3_foundOnStrips_81 : decode cX3_foundOnStrips 81 = .ok (.sipush 10000, 3) := by decide +kernel
theorem dX3_foundOnStrips_84 : decode cX3_foundOnStrips 84 = .ok (.idiv, 1) := by decide +kernel
theorem dX3_foundOnStrips_85 : decode cX3_foundOnStrips 85 = .ok (.if_icmp .le 6, 3) := by decide +kernel
theorem dX3_foundOnStrips_88 : decode cX3_foundOnStrips 88 = .ok (.bipush (-4), 2) := by decide +kernel
theorem dX3_foundOnStrips_90 : decode cX3_foundOnStrips 90 = .ok (.ireturn, 1) := by decide +kernel
theorem dX3_foundOnStrips_91 : decode cX3_foundOnStrips 91 = .ok (.iconst 0, 1) := by decide +kernel
theorem dX3_foundOnStrips_92 : decode cX3_foundOnStrips 92 = .ok (.istore 8, 2) := by decide +kernel
theorem dX3_foundOnStrips_94 : decode cX3_foundOnStrips 94 = .ok (.iconst 1, 1) := by decide +kernel
theorem dX3_foundOnStrips_95 : decode cX3_foundOnStrips 95 = .ok (.istore 9, 2) := by decide +kernel
theorem dX3_foundOnStrips_97 : decode cX3_foundOnStrips 97 = .ok (.iload 9, 2) := by decide +kernel
theorem dX3_foundOnStrips_99 : decode cX3_foundOnStrips 99 = .ok (.iload 4, 2) := by decide +kernel
theorem dX3_foundOnStrips_101 : decode cX3_foundOnStrips 101 = .ok (.if_icmp .gt 54, 3) := by decide +kernel
theorem dX3_foundOnStrips_104 : decode cX3_foundOnStrips 104 = .ok (.iload_n 1, 1) := by decide +kernel
theorem dX3_foundOnStrips_105 : decode cX3_foundOnStrips 105 = .ok (.iload_n 3, 1) := by decide +kernel
theorem dX3_foundOnStrips_106 : decode cX3_foundOnStrips 106 = .ok (.iload 4, 2) := by decide +kernel
theorem dX3_foundOnStrips_108 : decode cX3_foundOnStrips 108 = .ok (.iload 6, 2) := by decide +kernel
theorem dX3_foundOnStrips_110 : decode cX3_foundOnStrips 110 = .ok (.iload 8, 2) := by decide +kernel
theorem dX3_foundOnStrips_112 : decode cX3_foundOnStrips 112 = .ok (.iload 5, 2) := by decide +kernel
theorem dX3_foundOnStrips_114 : decode cX3_foundOnStrips 114 = .ok (.invokestatic 15, 3) := by decide +kernel
theorem dX3_foundOnStrips_117 : decode cX3_foundOnStrips 117 = .ok (.isub, 1) := by decide +kernel
theorem dX3_foundOnStrips_118 : decode cX3_foundOnStrips 118 = .ok (.invokestatic 51, 3) := by decide +kernel
theorem dX3_foundOnStrips_121 : decode cX3_foundOnStrips 121 = .ok (.istore 10, 2) := by decide +kernel
theorem dX3_foundOnStrips_123 : decode cX3_foundOnStrips 123 = .ok (.iload_n 1, 1) := by decide +kernel
theorem dX3_foundOnStrips_124 : decode cX3_foundOnStrips 124 = .ok (.iload_n 3, 1) := by decide +kernel
theorem dX3_foundOnStrips_125 : decode cX3_foundOnStrips 125 = .ok (.iload 4, 2) := by decide +kernel
theorem dX3_foundOnStrips_127 : decode cX3_foundOnStrips 127 = .ok (.iload 6, 2) := by decide +kernel
theorem dX3_foundOnStrips_129 : decode cX3_foundOnStrips 129 = .ok (.iload 9, 2) := by decide +kernel
theorem dX3_foundOnStrips_131 : decode cX3_foundOnStrips 131 = .ok (.iload 5, 2) := by decide +kernel
theorem dX3_foundOnStrips_133 : decode cX3_foundOnStrips 133 = .ok (.invokestatic 15, 3) := by decide +kernel
theorem dX3_foundOnStrips_136 : decode cX3_foundOnStrips 136 = .ok (.isub, 1) := by decide +kernel
theorem dX3_foundOnStrips_137 : decode cX3_foundOnStrips 137 = .ok (.invokestatic 51, 3) := by decide +kernel
theorem dX3_foundOnStrips_140 : decode cX3_foundOnStrips 140 = .ok (.iload 10, 2) := by decide +kernel
theorem dX3_foundOnStrips_142 : decode cX3_foundOnStrips 142 = .ok (.if_icmp .ge 7, 3) := by decide +kernel
theorem dX3_foundOnStrips_145 : decode cX3_foundOnStrips 145 = .ok (.iload 9, 2) := by decide +kernel
theorem dX3_foundOnStrips_147 : decode cX3_foundOnStrips 147 = .ok (.istore 8, 2) := by decide +kernel
theorem dX3_foundOnStrips_149 : decode cX3_foundOnStrips 149 = .ok (.iinc 9 1, 3) := by decide +kernel
theorem dX3_foundOnStrips_152 : decode cX3_foundOnStrips 152 = .ok (.goto (-55), 3) := by decide +kernel
theorem dX3_foundOnStrips_155 : decode cX3_foundOnStrips 155 = .ok (.iload 5, 2) := by decide +kernel
theorem dX3_foundOnStrips_157 : decode cX3_foundOnStrips 157 = .ok (.iload 4, 2) := by decide +kernel
theorem dX3_foundOnStrips_159 : decode cX3_foundOnStrips 159 = .ok (.iload 6, 2) := by decide +kernel
theorem dX3_foundOnStrips_161 : decode cX3_foundOnStrips 161 = .ok (.imul, 1) := by decide +kernel
theorem dX3_foundOnStrips_162 : decode cX3_foundOnStrips 162 = .ok (.iload 8, 2) := by decide +kernel
theorem dX3_foundOnStrips_164 : decode cX3_foundOnStrips 164 = .ok (.iadd, 1) := by decide +kernel
theorem dX3_foundOnStrips_165 : decode cX3_foundOnStrips 165 = .ok (.bipush 24, 2) := by decide +kernel
theorem dX3_foundOnStrips_167 : decode cX3_foundOnStrips 167 = .ok (.irem, 1) := by decide +kernel
theorem dX3_foundOnStrips_168 : decode cX3_foundOnStrips 168 = .ok (.invokestatic 64, 3) := by decide +kernel
theorem dX3_foundOnStrips_171 : decode cX3_foundOnStrips 171 = .ok (.ireturn, 1) := by decide +kernel
set_option maxRecDepth 20000 in
theorem ggX3_foundOnCap_X1_rowOf : GoodIn wsX3_foundOnCap wsX1_rowOf := goodIn_r _ [6] (by decide +kernel) (by decide +kernel)
set_option maxRecDepth 20000 in
theorem gX3_foundOnCap_X1_rowOf : GoodIn wsX3_foundOnCap (va_wsS RX3 68 yX1_rowOf wsX1_rowOf) := goodIn_app (goodIn_of _ (by decide +kernel)) ggX3_foundOnCap_X1_rowOf
set_option maxRecDepth 20000 in
theorem ggX3_foundOnCap_X1_stepOf : GoodIn wsX3_foundOnCap wsX1_stepOf := goodIn_r _ [9, 10, 11, 5, 12] (by decide +kernel) (by decide +kernel)
set_option maxRecDepth 20000 in
theorem gX3_foundOnCap_X1_stepOf : GoodIn wsX3_foundOnCap (va_wsS RX3 71 yX1_stepOf wsX1_stepOf) := goodIn_app (goodIn_of _ (by decide +kernel)) ggX3_foundOnCap_X1_stepOf
set_option maxRecDepth 20000 in
theorem ggX3_foundOnCap_X3_capX : GoodIn wsX3_foundOnCap wsX3_capX := goodIn_r _ [16, 17, 18, 15, 19, 20, 21, 22, 23, 24, 25, 26, 5, 27, 28, 29, 30, 31, 1, 38, 39, 40, 41, 42, 43, 44] (by decide +kernel) (by decide +kernel)
set_option maxRecDepth 20000 in
theorem gX3_foundOnCap_X3_capX : GoodIn wsX3_foundOnCap (va_wsS RX3 74 yX3_capX wsX3_capX) := goodIn_app (goodIn_of _ (by decide +kernel)) ggX3_foundOnCap_X3_capX
set_option maxRecDepth 20000 in
theorem ggX3_foundOnCap_X3_capY : GoodIn wsX3_foundOnCap wsX3_capY := goodIn_r _ [34, 29, 30, 15, 31, 20, 1, 17, 18, 19, 21, 22, 23, 24, 35, 36, 5, 37, 28, 38, 39, 40, 41, 42, 43, 44] (by decide +kernel) (by decide +kernel)
set_option maxRecDepth 20000 in
theorem gX3_foundOnCap_X3_capY : GoodIn wsX3_foundOnCap (va_wsS RX3 78 yX3_capY wsX3_capY) := goodIn_app (goodIn_of _ (by decide +kernel)) ggX3_foundOnCap_X3_capY
theorem dX3_foundOnCap_0 : decode cX3_foundOnCap 0 = .ok (.iload_n 1, 1) := by decide +kernel
theorem dX3_foundOnCap_1 : decode cX3_foundOnCap 1 = .ok (.ifCond .eq 17, 3) := by decide +kernel
theorem dX3_foundOnCap_4 : decode cX3_foundOnCap 4 = .ok (.sipush 265, 3) := by decide +kernel
theorem dX3_foundOnCap_7 : decode cX3_foundOnCap 7 = .ok (.bipush 24, 2) := by decide +kernel
theorem dX3_foundOnCap_9 : decode cX3_foundOnCap 9 = .ok (.aload_n 0, 1) := by decide +kernel
theorem dX3_foundOnCap_10 : decode cX3_foundOnCap 10 = .ok (.getfield 48, 3) := by decide +kernel
theorem dX3_foundOnCap_13 : decode cX3_foundOnCap 13 = .ok (.imul, 1) := by decide +kernel
theorem dX3_foundOnCap_14 : decode cX3_foundOnCap 14 = .ok (.isub, 1) := by decide +kernel
theorem dX3_foundOnCap_15 : decode cX3_foundOnCap 15 = .ok (.goto 4, 3) := by decide +kernel
theorem dX3_foundOnCap_18 : decode cX3_foundOnCap 18 = .ok (.iconst 0, 1) := by decide +kernel
theorem dX3_foundOnCap_19 : decode cX3_foundOnCap 19 = .ok (.istore 4, 2) := by decide +kernel
theorem dX3_foundOnCap_21 : decode cX3_foundOnCap 21 = .ok (.iload 4, 2) := by decide +kernel
theorem dX3_foundOnCap_23 : decode cX3_foundOnCap 23 = .ok (.bipush 24, 2) := by decide +kernel
theorem dX3_foundOnCap_25 : decode cX3_foundOnCap 25 = .ok (.aload_n 0, 1) := by decide +kernel
theorem dX3_foundOnCap_26 : decode cX3_foundOnCap 26 = .ok (.getfield 48, 3) := by decide +kernel
theorem dX3_foundOnCap_29 : decode cX3_foundOnCap 29 = .ok (.imul, 1) := by decide +kernel
theorem dX3_foundOnCap_30 : decode cX3_foundOnCap 30 = .ok (.iadd, 1) := by decide +kernel
theorem dX3_foundOnCap_31 : decode cX3_foundOnCap 31 = .ok (.istore 5, 2) := by decide +kernel
theorem dX3_foundOnCap_33 : decode cX3_foundOnCap 33 = .ok (.iload 4, 2) := by decide +kernel
theorem dX3_foundOnCap_35 : decode cX3_foundOnCap 35 = .ok (.istore 6, 2) := by decide +kernel
theorem dX3_foundOnCap_37 : decode cX3_foundOnCap 37 = .ok (.ldc 67, 2) := by decide +kernel
theorem dX3_foundOnCap_39 : decode cX3_foundOnCap 39 = .ok (.istore 7, 2) := by decide +kernel
theorem dX3_foundOnCap_41 : decode cX3_foundOnCap 41 = .ok (.iload 4, 2) := by decide +kernel
theorem dX3_foundOnCap_43 : decode cX3_foundOnCap 43 = .ok (.istore 8, 2) := by decide +kernel
theorem dX3_foundOnCap_45 : decode cX3_foundOnCap 45 = .ok (.iload 8, 2) := by decide +kernel
theorem dX3_foundOnCap_47 : decode cX3_foundOnCap 47 = .ok (.iload 5, 2) := by decide +kernel
theorem dX3_foundOnCap_49 : decode cX3_foundOnCap 49 = .ok (.if_icmp .gt 75, 3) := by decide +kernel
theorem dX3_foundOnCap_52 : decode cX3_foundOnCap 52 = .ok (.iload 8, 2) := by decide +kernel
theorem dX3_foundOnCap_54 : decode cX3_foundOnCap 54 = .ok (.invokestatic 68, 3) := by decide +kernel
theorem dX3_foundOnCap_57 : decode cX3_foundOnCap 57 = .ok (.istore 9, 2) := by decide +kernel
theorem dX3_foundOnCap_59 : decode cX3_foundOnCap 59 = .ok (.iload 8, 2) := by decide +kernel
theorem dX3_foundOnCap_61 : decode cX3_foundOnCap 61 = .ok (.invokestatic 71, 3) := by decide +kernel
theorem dX3_foundOnCap_64 : decode cX3_foundOnCap 64 = .ok (.istore 10, 2) := by decide +kernel
theorem dX3_foundOnCap_66 : decode cX3_foundOnCap 66 = .ok (.iload_n 2, 1) := by decide +kernel
theorem dX3_foundOnCap_67 : decode cX3_foundOnCap 67 = .ok (.aload_n 0, 1) := by decide +kernel
theorem dX3_foundOnCap_68 : decode cX3_foundOnCap 68 = .ok (.iload 9, 2) := by decide +kernel
theorem dX3_foundOnCap_70 : decode cX3_foundOnCap 70 = .ok (.iload 10, 2) := by decide +kernel
theorem dX3_foundOnCap_72 : decode cX3_foundOnCap 72 = .ok (.invokestatic 74, 3) := by decide +kernel
theorem dX3_foundOnCap_75 : decode cX3_foundOnCap 75 = .ok (.isub, 1) := by decide +kernel
theorem dX3_foundOnCap_76 : decode cX3_foundOnCap 76 = .ok (.istore 11, 2) := by decide +kernel
theorem dX3_foundOnCap_78 : decode cX3_foundOnCap 78 = .ok (.iload_n 3, 1) := by decide +kernel
theorem dX3_foundOnCap_79 : decode cX3_foundOnCap 79 = .ok (.aload_n 0, 1) := by decide +kernel
theorem dX3_foundOnCap_80 : decode cX3_foundOnCap 80 = .ok (.iload 9, 2) := by decide +kernel
theorem dX3_foundOnCap_82 : decode cX3_foundOnCap 82 = .ok (.iload 10, 2) := by decide +kernel
theorem dX3_foundOnCap_84 : decode cX3_foundOnCap 84 = .ok (.invokestatic 78, 3) := by decide +kernel
theorem dX3_foundOnCap_87 : decode cX3_foundOnCap 87 = .ok (.isub, 1) := by decide +kernel
theorem dX3_foundOnCap_88 : decode cX3_foundOnCap 88 = .ok (.istore 12, 2) := by decide +kernel
theorem dX3_foundOnCap_90 : decode cX3_foundOnCap 90 = .ok (.iload 11, 2) := by decide +kernel
theorem dX3_foundOnCap_92 : decode cX3_foundOnCap 92 = .ok (.iload 11, 2) := by decide +kernel
theorem dX3_foundOnCap_94 : decode cX3_foundOnCap 94 = .ok (.imul, 1) := by decide +kernel
theorem dX3_foundOnCap_95 : decode cX3_foundOnCap 95 = .ok (.iload 12, 2) := by decide +kernel
theorem dX3_foundOnCap_97 : decode cX3_foundOnCap 97 = .ok (.iload 12, 2) := by decide +kernel
theorem dX3_foundOnCap_99 : decode cX3_foundOnCap 99 = .ok (.imul, 1) := by decide +kernel
theorem dX3_foundOnCap_100 : decode cX3_foundOnCap 100 = .ok (.iadd, 1) := by decide +kernel
theorem dX3_foundOnCap_101 : decode cX3_foundOnCap 101 = .ok (.istore 13, 2) := by decide +kernel
theorem dX3_foundOnCap_103 : decode cX3_foundOnCap 103 = .ok (.iload 13, 2) := by decide +kernel
theorem dX3_foundOnCap_105 : decode cX3_foundOnCap 105 = .ok (.iload 7, 2) := by decide +kernel
theorem dX3_foundOnCap_107 : decode cX3_foundOnCap 107 = .ok (.if_icmp .ge 11, 3) := by decide +kernel
theorem dX3_foundOnCap_110 : decode cX3_foundOnCap 110 = .ok (.iload 13, 2) := by decide +kernel
theorem dX3_foundOnCap_112 : decode cX3_foundOnCap 112 = .ok (.istore 7, 2) := by decide +kernel
theorem dX3_foundOnCap_114 : decode cX3_foundOnCap 114 = .ok (.iload 8, 2) := by decide +kernel
theorem dX3_foundOnCap_116 : decode cX3_foundOnCap 116 = .ok (.istore 6, 2) := by decide +kernel
theorem dX3_foundOnCap_118 : decode cX3_foundOnCap 118 = .ok (.iinc 8 1, 3) := by decide +kernel
theorem dX3_foundOnCap_121 : decode cX3_foundOnCap 121 = .ok (.goto (-76), 3) := by decide +kernel
theorem dX3_foundOnCap_124 : decode cX3_foundOnCap 124 = .ok (.iload 6, 2) := by decide +kernel
theorem dX3_foundOnCap_126 : decode cX3_foundOnCap 126 = .ok (.ireturn, 1) := by decide +kernel
set_option maxRecDepth 20000 in
theorem ggX3_straight_X0_width : GoodIn wsX3_straight wsX0_width := goodIn_r _ [10, 11, 37, 38, 39, 40, 41, 42, 43] (by decide +kernel) (by decide +kernel)
set_option maxRecDepth 20000 in
theorem gX3_straight_X0_width : GoodIn wsX3_straight (wsV RX3 21 RX0 yX0_width wsX0_width) := goodIn_app (goodIn_of _ (by decide +kernel)) ggX3_straight_X0_width
set_option maxRecDepth 20000 in
theorem ggX3_straight_X1_rowOf : GoodIn wsX3_straight wsX1_rowOf := goodIn_r _ [15] (by decide +kernel) (by decide +kernel)
set_option maxRecDepth 20000 in
theorem gX3_straight_X1_rowOf : GoodIn wsX3_straight (va_wsS RX3 68 yX1_rowOf wsX1_rowOf) := goodIn_app (goodIn_of _ (by decide +kernel)) ggX3_straight_X1_rowOf
set_option maxRecDepth 20000 in
theorem ggX3_straight_X1_stepOf : GoodIn wsX3_straight wsX1_stepOf := goodIn_r _ [18, 19, 20, 14, 21] (by decide +kernel) (by decide +kernel)
set_option maxRecDepth 20000 in
theorem gX3_straight_X1_stepOf : GoodIn wsX3_straight (va_wsS RX3 71 yX1_stepOf wsX1_stepOf) := goodIn_app (goodIn_of _ (by decide +kernel)) ggX3_straight_X1_stepOf
set_option maxRecDepth 20000 in
theorem ggX3_straight_X3_western : GoodIn wsX3_straight wsX3_western := goodIn_r _ [25] (by decide +kernel) (by decide +kernel)
set_option maxRecDepth 20000 in
theorem gX3_straight_X3_western : GoodIn wsX3_straight (va_wsS RX3 81 yX3_western wsX3_western) := goodIn_app (goodIn_of _ (by decide +kernel)) ggX3_straight_X3_western
set_option maxRecDepth 20000 in
theorem ggX3_straight_X3_xOnStrip : GoodIn wsX3_straight wsX3_xOnStrip := goodIn_r _ [28, 29, 30, 14, 31, 32] (by decide +kernel) (by decide +kernel)
set_option maxRecDepth 20000 in
theorem gX3_straight_X3_xOnStrip : GoodIn wsX3_straight (va_wsS RX3 15 yX3_xOnStrip wsX3_xOnStrip) := goodIn_app (goodIn_of _ (by decide +kernel)) ggX3_straight_X3_xOnStrip
set_option maxRecDepth 20000 in
theorem ggX3_straight_X1_isPole : GoodIn wsX3_straight wsX1_isPole := goodIn_r _ [21] (by decide +kernel) (by decide +kernel)
set_option maxRecDepth 20000 in
theorem gX3_straight_X1_isPole : GoodIn wsX3_straight (va_wsS RX3 84 yX1_isPole wsX1_isPole) := goodIn_app (goodIn_of _ (by decide +kernel)) ggX3_straight_X1_isPole
set_option maxRecDepth 20000 in
theorem ggX3_straight_X3_root : GoodIn wsX3_straight wsX3_root := goodIn_r _ [36] (by decide +kernel) (by decide +kernel)
set_option maxRecDepth 20000 in
theorem gX3_straight_X3_root : GoodIn wsX3_straight (va_wsS RX3 87 yX3_root wsX3_root) := goodIn_app (goodIn_of _ (by decide +kernel)) ggX3_straight_X3_root
theorem dX3_straight_0 : decode cX3_straight 0 = .ok (.aload_n 0, 1) := by decide +kernel
theorem dX3_straight_1 : decode cX3_straight 1 = .ok (.getfield 31, 3) := by decide +kernel
theorem dX3_straight_4 : decode cX3_straight 4 = .ok (.istore_n 3, 1) := by decide +kernel
theorem dX3_straight_5 : decode cX3_straight 5 = .ok (.aload_n 0, 1) := by decide +kernel
theorem dX3_straight_6 : decode cX3_straight 6 = .ok (.invokevirtual 21, 3) := by decide +kernel
theorem dX3_straight_9 : decode cX3_straight 9 = .ok (.istore 4, 2) := by decide +kernel
theorem dX3_straight_11 : decode cX3_straight 11 = .ok (.iload_n 1, 1) := by decide +kernel
theorem dX3_straight_12 : decode cX3_straight 12 = .ok (.invokestatic 68, 3) := by decide +kernel
theorem dX3_straight_15 : decode cX3_straight 15 = .ok (.istore 5, 2) := by decide +kernel
theorem dX3_straight_17 : decode cX3_straight 17 = .ok (.iload_n 2, 1) := by decide +kernel
theorem dX3_straight_18 : decode cX3_straight 18 = .ok (.invokestatic 68, 3) := by decide +kernel
theorem dX3_straight_21 : decode cX3_straight 21 = .ok (.istore 6, 2) := by decide +kernel
theorem dX3_straight_23 : decode cX3_straight 23 = .ok (.iload 5, 2) := by decide +kernel
theorem dX3_straight_25 : decode cX3_straight 25 = .ok (.iload 6, 2) := by decide +kernel
theorem dX3_straight_27 : decode cX3_straight 27 = .ok (.if_icmp .ne 64, 3) := by decide +kernel
theorem dX3_straight_30 : decode cX3_straight 30 = .ok (.iload_n 1, 1) := by decide +kernel
theorem dX3_straight_31 : decode cX3_straight 31 = .ok (.invokestatic 71, 3) := by decide +kernel
theorem dX3_straight_34 : decode cX3_straight 34 = .ok (.iload_n 2, 1) := by decide +kernel
theorem dX3_straight_35 : decode cX3_straight 35 = .ok (.invokestatic 71, 3) := by decide +kernel
theorem dX3_straight_38 : decode cX3_straight 38 = .ok (.invokestatic 81, 3) := by decide +kernel
theorem dX3_straight_41 : decode cX3_straight 41 = .ok (.istore 7, 2) := by decide +kernel
theorem dX3_straight_43 : decode cX3_straight 43 = .ok (.iload 7, 2) := by decide +kernel
theorem dX3_straight_45 : decode cX3_straight 45 = .ok (.iload 4, 2) := by decide +kernel
theorem dX3_straight_47 : decode cX3_straight 47 = .ok (.idiv, 1) := by decide +kernel
theorem dX3_straight_48 : decode cX3_straight 48 = .ok (.istore 8, 2) := by decide +kernel
theorem dX3_straight_50 : decode cX3_straight 50 = .ok (.iload 7, 2) := by decide +kernel
theorem dX3_straight_52 : decode cX3_straight 52 = .ok (.iload 4, 2) := by decide +kernel
theorem dX3_straight_54 : decode cX3_straight 54 = .ok (.iload 8, 2) := by decide +kernel
theorem dX3_straight_56 : decode cX3_straight 56 = .ok (.imul, 1) := by decide +kernel
theorem dX3_straight_57 : decode cX3_straight 57 = .ok (.isub, 1) := by decide +kernel
theorem dX3_straight_58 : decode cX3_straight 58 = .ok (.istore 9, 2) := by decide +kernel
theorem dX3_straight_60 : decode cX3_straight 60 = .ok (.iload_n 3, 1) := by decide +kernel
theorem dX3_straight_61 : decode cX3_straight 61 = .ok (.iload 4, 2) := by decide +kernel
theorem dX3_straight_63 : decode cX3_straight 63 = .ok (.iload 8, 2) := by decide +kernel
theorem dX3_straight_65 : decode cX3_straight 65 = .ok (.iload 9, 2) := by decide +kernel
theorem dX3_straight_67 : decode cX3_straight 67 = .ok (.iconst 1, 1) := by decide +kernel
theorem dX3_straight_68 : decode cX3_straight 68 = .ok (.iadd, 1) := by decide +kernel
theorem dX3_straight_69 : decode cX3_straight 69 = .ok (.iload 5, 2) := by decide +kernel
theorem dX3_straight_71 : decode cX3_straight 71 = .ok (.invokestatic 15, 3) := by decide +kernel
theorem dX3_straight_74 : decode cX3_straight 74 = .ok (.iload_n 3, 1) := by decide +kernel
theorem dX3_straight_75 : decode cX3_straight 75 = .ok (.iload 4, 2) := by decide +kernel
theorem dX3_straight_77 : decode cX3_straight 77 = .ok (.iload 8, 2) := by decide +kernel
theorem dX3_straight_79 : decode cX3_straight 79 = .ok (.iload 9, 2) := by decide +kernel
theorem dX3_straight_81 : decode cX3_straight 81 = .ok (.iload 5, 2) := by decide +kernel
theorem dX3_straight_83 : decode cX3_straight 83 = .ok (.invokestatic 15, 3) := by decide +kernel
theorem dX3_straight_86 : decode cX3_straight 86 = .ok (.isub, 1) := by decide +kernel
theorem dX3_straight_87 : decode cX3_straight 87 = .ok (.invokestatic 51, 3) := by decide +kernel
theorem dX3_straight_90 : decode cX3_straight 90 = .ok (.ireturn, 1) := by decide +kernel
theorem dX3_straight_91 : decode cX3_straight 91 = .ok (.iload_n 1, 1) := by decide +kernel
theorem dX3_straight_92 : decode cX3_straight 92 = .ok (.invokestatic 84, 3) := by decide +kernel
theorem dX3_straight_95 : decode cX3_straight 95 = .ok (.ifCond .eq 7, 3) := by decide +kernel
theorem dX3_straight_98 : decode cX3_straight 98 = .ok (.iload_n 2, 1) := by decide +kernel
theorem dX3_straight_99 : decode cX3_straight 99 = .ok (.goto 4, 3) := by decide +kernel
theorem dX3_straight_102 : decode cX3_straight 102 = .ok (.iload_n 1, 1) := by decide +kernel
theorem dX3_straight_103 : decode cX3_straight 103 = .ok (.invokestatic 71, 3) := by decide +kernel
theorem dX3_straight_106 : decode cX3_straight 106 = .ok (.istore 7, 2) := by decide +kernel
theorem dX3_straight_108 : decode cX3_straight 108 = .ok (.iload 7, 2) := by decide +kernel
theorem dX3_straight_110 : decode cX3_straight 110 = .ok (.iload 4, 2) := by decide +kernel
theorem dX3_straight_112 : decode cX3_straight 112 = .ok (.idiv, 1) := by decide +kernel
theorem dX3_straight_113 : decode cX3_straight 113 = .ok (.istore 8, 2) := by decide +kernel
theorem dX3_straight_115 : decode cX3_straight 115 = .ok (.iload 7, 2) := by decide +kernel
theorem dX3_straight_117 : decode cX3_straight 117 = .ok (.iload 4, 2) := by decide +kernel
theorem dX3_straight_119 : decode cX3_straight 119 = .ok (.iload 8, 2) := by decide +kernel
theorem dX3_straight_121 : decode cX3_straight 121 = .ok (.imul, 1) := by decide +kernel
theorem dX3_straight_122 : decode cX3_straight 122 = .ok (.isub, 1) := by decide +kernel
theorem dX3_straight_123 : decode cX3_straight 123 = .ok (.istore 9, 2) := by decide +kernel
theorem dX3_straight_125 : decode cX3_straight 125 = .ok (.iload_n 3, 1) := by decide +kernel
theorem dX3_straight_126 : decode cX3_straight 126 = .ok (.iload 4, 2) := by decide +kernel
theorem dX3_straight_128 : decode cX3_straight 128 = .ok (.iload 8, 2) := by decide +kernel
theorem dX3_straight_130 : decode cX3_straight 130 = .ok (.iload 9, 2) := by decide +kernel
theorem dX3_straight_132 : decode cX3_straight 132 = .ok (.iload 5, 2) := by decide +kernel
theorem dX3_straight_134 : decode cX3_straight 134 = .ok (.invokestatic 15, 3) := by decide +kernel
theorem dX3_straight_137 : decode cX3_straight 137 = .ok (.iload_n 3, 1) := by decide +kernel
theorem dX3_straight_138 : decode cX3_straight 138 = .ok (.iload 4, 2) := by decide +kernel
theorem dX3_straight_140 : decode cX3_straight 140 = .ok (.iload 8, 2) := by decide +kernel
theorem dX3_straight_142 : decode cX3_straight 142 = .ok (.iload 9, 2) := by decide +kernel
theorem dX3_straight_144 : decode cX3_straight 144 = .ok (.iload 6, 2) := by decide +kernel
theorem dX3_straight_146 : decode cX3_straight 146 = .ok (.invokestatic 15, 3) := by decide +kernel
theorem dX3_straight_149 : decode cX3_straight 149 = .ok (.isub, 1) := by decide +kernel
theorem dX3_straight_150 : decode cX3_straight 150 = .ok (.istore 10, 2) := by decide +kernel
theorem dX3_straight_152 : decode cX3_straight 152 = .ok (.iload 10, 2) := by decide +kernel
theorem dX3_straight_154 : decode cX3_straight 154 = .ok (.iload 10, 2) := by decide +kernel
theorem dX3_straight_156 : decode cX3_straight 156 = .ok (.imul, 1) := by decide +kernel
theorem dX3_straight_157 : decode cX3_straight 157 = .ok (.iconst 4, 1) := by decide +kernel
theorem dX3_straight_158 : decode cX3_straight 158 = .ok (.iload_n 3, 1) := by decide +kernel
theorem dX3_straight_159 : decode cX3_straight 159 = .ok (.imul, 1) := by decide +kernel
theorem dX3_straight_160 : decode cX3_straight 160 = .ok (.iload_n 3, 1) := by decide +kernel
theorem dX3_straight_161 : decode cX3_straight 161 = .ok (.imul, 1) := by decide +kernel
theorem dX3_straight_162 : decode cX3_straight 162 = .ok (.iadd, 1) := by decide +kernel
theorem dX3_straight_163 : decode cX3_straight 163 = .ok (.invokestatic 87, 3) := by decide +kernel
theorem dX3_straight_166 : decode cX3_straight 166 = .ok (.ireturn, 1) := by decide +kernel
theorem dX3_western_0 : decode cX3_western 0 = .ok (.iload_n 0, 1) := by decide +kernel
theorem dX3_western_1 : decode cX3_western 1 = .ok (.iconst 1, 1) := by decide +kernel
theorem dX3_western_2 : decode cX3_western 2 = .ok (.iadd, 1) := by decide +kernel
theorem dX3_western_3 : decode cX3_western 3 = .ok (.bipush 24, 2) := by decide +kernel
theorem dX3_western_5 : decode cX3_western 5 = .ok (.irem, 1) := by decide +kernel
theorem dX3_western_6 : decode cX3_western 6 = .ok (.iload_n 1, 1) := by decide +kernel
theorem dX3_western_7 : decode cX3_western 7 = .ok (.if_icmp .ne 7, 3) := by decide +kernel
theorem dX3_western_10 : decode cX3_western 10 = .ok (.iload_n 0, 1) := by decide +kernel
theorem dX3_western_11 : decode cX3_western 11 = .ok (.goto 4, 3) := by decide +kernel
theorem dX3_western_14 : decode cX3_western 14 = .ok (.iload_n 1, 1) := by decide +kernel
theorem dX3_western_15 : decode cX3_western 15 = .ok (.ireturn, 1) := by decide +kernel
theorem dX3_root_0 : decode cX3_root 0 = .ok (.iconst 0, 1) := by decide +kernel
theorem dX3_root_1 : decode cX3_root 1 = .ok (.istore_n 1, 1) := by decide +kernel
theorem dX3_root_2 : decode cX3_root 2 = .ok (.sipush 4096, 3) := by decide +kernel
theorem dX3_root_5 : decode cX3_root 5 = .ok (.istore_n 2, 1) := by decide +kernel
theorem dX3_root_6 : decode cX3_root 6 = .ok (.iload_n 2, 1) := by decide +kernel
theorem dX3_root_7 : decode cX3_root 7 = .ok (.ifCond .le 23, 3) := by decide +kernel
theorem dX3_root_10 : decode cX3_root 10 = .ok (.iload_n 1, 1) := by decide +kernel
theorem dX3_root_11 : decode cX3_root 11 = .ok (.iload_n 2, 1) := by decide +kernel
theorem dX3_root_12 : decode cX3_root 12 = .ok (.iadd, 1) := by decide +kernel
theorem dX3_root_13 : decode cX3_root 13 = .ok (.istore_n 3, 1) := by decide +kernel
theorem dX3_root_14 : decode cX3_root 14 = .ok (.iload_n 3, 1) := by decide +kernel
theorem dX3_root_15 : decode cX3_root 15 = .ok (.iload_n 3, 1) := by decide +kernel
theorem dX3_root_16 : decode cX3_root 16 = .ok (.imul, 1) := by decide +kernel
theorem dX3_root_17 : decode cX3_root 17 = .ok (.iload_n 0, 1) := by decide +kernel
theorem dX3_root_18 : decode cX3_root 18 = .ok (.if_icmp .gt 5, 3) := by decide +kernel
theorem dX3_root_21 : decode cX3_root 21 = .ok (.iload_n 3, 1) := by decide +kernel
theorem dX3_root_22 : decode cX3_root 22 = .ok (.istore_n 1, 1) := by decide +kernel
theorem dX3_root_23 : decode cX3_root 23 = .ok (.iload_n 2, 1) := by decide +kernel
theorem dX3_root_24 : decode cX3_root 24 = .ok (.iconst 1, 1) := by decide +kernel
theorem dX3_root_25 : decode cX3_root 25 = .ok (.ishr, 1) := by decide +kernel
theorem dX3_root_26 : decode cX3_root 26 = .ok (.istore_n 2, 1) := by decide +kernel
theorem dX3_root_27 : decode cX3_root 27 = .ok (.goto (-21), 3) := by decide +kernel
theorem dX3_root_30 : decode cX3_root 30 = .ok (.iload_n 1, 1) := by decide +kernel
theorem dX3_root_31 : decode cX3_root 31 = .ok (.ireturn, 1) := by decide +kernel
set_option maxRecDepth 20000 in
theorem ggX4_init_X0_init : GoodIn wsX4_init wsX0_init := goodIn_r _ [9, 10, 2, 3, 11, 12, 13, 14, 15, 16, 17, 18, 22, 23, 24, 25, 26, 27, 28] (by decide +kernel) (by decide +kernel)
set_option maxRecDepth 20000 in
theorem gX4_init_X0_init_n15 : GoodIn wsX4_init (wsX0_init) := ggX4_init_X0_init
theorem dX4_init_0 : decode cX4_init 0 = .ok (.aload_n 0, 1) := by decide +kernel
theorem dX4_init_1 : decode cX4_init 1 = .ok (.invokespecial 1, 3) := by decide +kernel
theorem dX4_init_4 : decode cX4_init 4 = .ok (.aload_n 0, 1) := by decide +kernel
theorem dX4_init_5 : decode cX4_init 5 = .ok (.bipush 6, 2) := by decide +kernel
theorem dX4_init_7 : decode cX4_init 7 = .ok (.anewarray 9, 3) := by decide +kernel
theorem dX4_init_10 : decode cX4_init 10 = .ok (.putfield 11, 3) := by decide +kernel
theorem dX4_init_13 : decode cX4_init 13 = .ok (.iconst 0, 1) := by decide +kernel
theorem dX4_init_14 : decode cX4_init 14 = .ok (.istore_n 1, 1) := by decide +kernel
theorem dX4_init_15 : decode cX4_init 15 = .ok (.iload_n 1, 1) := by decide +kernel
theorem dX4_init_16 : decode cX4_init 16 = .ok (.bipush 6, 2) := by decide +kernel
theorem dX4_init_18 : decode cX4_init 18 = .ok (.if_icmp .ge 22, 3) := by decide +kernel
theorem dX4_init_21 : decode cX4_init 21 = .ok (.aload_n 0, 1) := by decide +kernel
theorem dX4_init_22 : decode cX4_init 22 = .ok (.getfield 11, 3) := by decide +kernel
theorem dX4_init_25 : decode cX4_init 25 = .ok (.iload_n 1, 1) := by decide +kernel
theorem dX4_init_26 : decode cX4_init 26 = .ok (.new 9, 3) := by decide +kernel
theorem dX4_init_29 : decode cX4_init 29 = .ok (.dup, 1) := by decide +kernel
theorem dX4_init_30 : decode cX4_init 30 = .ok (.invokespecial 15, 3) := by decide +kernel
theorem dX4_init_33 : decode cX4_init 33 = .ok (.aastore, 1) := by decide +kernel
theorem dX4_init_34 : decode cX4_init 34 = .ok (.iinc 1 1, 3) := by decide +kernel
theorem dX4_init_37 : decode cX4_init 37 = .ok (.goto (-22), 3) := by decide +kernel
theorem dX4_init_40 : decode cX4_init 40 = .ok (.return_, 1) := by decide +kernel
set_option maxRecDepth 20000 in
theorem ggX4_keep_X0_become : GoodIn wsX4_keep wsX0_become := goodIn_r _ [8, 9, 10, 11, 12, 13, 14, 15, 16, 17, 18, 19, 23, 24, 25, 26, 27, 28, 29] (by decide +kernel) (by decide +kernel)
set_option maxRecDepth 20000 in
theorem gX4_keep_X0_become : GoodIn wsX4_keep (wsV RX4 23 RX0 yX0_become wsX0_become) := goodIn_app (goodIn_of _ (by decide +kernel)) ggX4_keep_X0_become
theorem dX4_keep_0 : decode cX4_keep 0 = .ok (.aload_n 0, 1) := by decide +kernel
theorem dX4_keep_1 : decode cX4_keep 1 = .ok (.getfield 11, 3) := by decide +kernel
theorem dX4_keep_4 : decode cX4_keep 4 = .ok (.aload_n 0, 1) := by decide +kernel
theorem dX4_keep_5 : decode cX4_keep 5 = .ok (.getfield 16, 3) := by decide +kernel
theorem dX4_keep_8 : decode cX4_keep 8 = .ok (.aload_n 0, 1) := by decide +kernel
theorem dX4_keep_9 : decode cX4_keep 9 = .ok (.getfield 20, 3) := by decide +kernel
theorem dX4_keep_12 : decode cX4_keep 12 = .ok (.iadd, 1) := by decide +kernel
theorem dX4_keep_13 : decode cX4_keep 13 = .ok (.bipush 6, 2) := by decide +kernel
theorem dX4_keep_15 : decode cX4_keep 15 = .ok (.irem, 1) := by decide +kernel
theorem dX4_keep_16 : decode cX4_keep 16 = .ok (.aaload, 1) := by decide +kernel
theorem dX4_keep_17 : decode cX4_keep 17 = .ok (.aload_n 1, 1) := by decide +kernel
theorem dX4_keep_18 : decode cX4_keep 18 = .ok (.invokevirtual 23, 3) := by decide +kernel
theorem dX4_keep_21 : decode cX4_keep 21 = .ok (.aload_n 0, 1) := by decide +kernel
theorem dX4_keep_22 : decode cX4_keep 22 = .ok (.getfield 20, 3) := by decide +kernel
theorem dX4_keep_25 : decode cX4_keep 25 = .ok (.bipush 6, 2) := by decide +kernel
theorem dX4_keep_27 : decode cX4_keep 27 = .ok (.if_icmp .ge 16, 3) := by decide +kernel
theorem dX4_keep_30 : decode cX4_keep 30 = .ok (.aload_n 0, 1) := by decide +kernel
theorem dX4_keep_31 : decode cX4_keep 31 = .ok (.dup, 1) := by decide +kernel
theorem dX4_keep_32 : decode cX4_keep 32 = .ok (.getfield 20, 3) := by decide +kernel
theorem dX4_keep_35 : decode cX4_keep 35 = .ok (.iconst 1, 1) := by decide +kernel
theorem dX4_keep_36 : decode cX4_keep 36 = .ok (.iadd, 1) := by decide +kernel
theorem dX4_keep_37 : decode cX4_keep 37 = .ok (.putfield 20, 3) := by decide +kernel
theorem dX4_keep_40 : decode cX4_keep 40 = .ok (.goto 16, 3) := by decide +kernel
theorem dX4_keep_43 : decode cX4_keep 43 = .ok (.aload_n 0, 1) := by decide +kernel
theorem dX4_keep_44 : decode cX4_keep 44 = .ok (.aload_n 0, 1) := by decide +kernel
theorem dX4_keep_45 : decode cX4_keep 45 = .ok (.getfield 16, 3) := by decide +kernel
theorem dX4_keep_48 : decode cX4_keep 48 = .ok (.iconst 1, 1) := by decide +kernel
theorem dX4_keep_49 : decode cX4_keep 49 = .ok (.iadd, 1) := by decide +kernel
theorem dX4_keep_50 : decode cX4_keep 50 = .ok (.bipush 6, 2) := by decide +kernel
theorem dX4_keep_52 : decode cX4_keep 52 = .ok (.irem, 1) := by decide +kernel
theorem dX4_keep_53 : decode cX4_keep 53 = .ok (.putfield 16, 3) := by decide +kernel
theorem dX4_keep_56 : decode cX4_keep 56 = .ok (.return_, 1) := by decide +kernel
set_option maxRecDepth 20000 in
theorem ggX4_takeBack_X0_become : GoodIn wsX4_takeBack wsX0_become := goodIn_r _ [8, 9, 10, 11, 12, 13, 14, 15, 16, 17, 18, 19, 23, 24, 25, 26, 27, 28, 29] (by decide +kernel) (by decide +kernel)
set_option maxRecDepth 20000 in
theorem gX4_takeBack_X0_become : GoodIn wsX4_takeBack (wsV RX4 23 RX0 yX0_become wsX0_become) := goodIn_app (goodIn_of _ (by decide +kernel)) ggX4_takeBack_X0_become
theorem dX4_takeBack_0 : decode cX4_takeBack 0 = .ok (.aload_n 0, 1) := by decide +kernel
theorem dX4_takeBack_1 : decode cX4_takeBack 1 = .ok (.dup, 1) := by decide +kernel
theorem dX4_takeBack_2 : decode cX4_takeBack 2 = .ok (.getfield 20, 3) := by decide +kernel
theorem dX4_takeBack_5 : decode cX4_takeBack 5 = .ok (.iconst 1, 1) := by decide +kernel
theorem dX4_takeBack_6 : decode cX4_takeBack 6 = .ok (.isub, 1) := by decide +kernel
theorem dX4_takeBack_7 : decode cX4_takeBack 7 = .ok (.putfield 20, 3) := by decide +kernel
theorem dX4_takeBack_10 : decode cX4_takeBack 10 = .ok (.aload_n 1, 1) := by decide +kernel
theorem dX4_takeBack_11 : decode cX4_takeBack 11 = .ok (.aload_n 0, 1) := by decide +kernel
theorem dX4_takeBack_12 : decode cX4_takeBack 12 = .ok (.getfield 11, 3) := by decide +kernel
theorem dX4_takeBack_15 : decode cX4_takeBack 15 = .ok (.aload_n 0, 1) := by decide +kernel
theorem dX4_takeBack_16 : decode cX4_takeBack 16 = .ok (.getfield 16, 3) := by decide +kernel
theorem dX4_takeBack_19 : decode cX4_takeBack 19 = .ok (.aload_n 0, 1) := by decide +kernel
theorem dX4_takeBack_20 : decode cX4_takeBack 20 = .ok (.getfield 20, 3) := by decide +kernel
theorem dX4_takeBack_23 : decode cX4_takeBack 23 = .ok (.iadd, 1) := by decide +kernel
theorem dX4_takeBack_24 : decode cX4_takeBack 24 = .ok (.bipush 6, 2) := by decide +kernel
theorem dX4_takeBack_26 : decode cX4_takeBack 26 = .ok (.irem, 1) := by decide +kernel
theorem dX4_takeBack_27 : decode cX4_takeBack 27 = .ok (.aaload, 1) := by decide +kernel
theorem dX4_takeBack_28 : decode cX4_takeBack 28 = .ok (.invokevirtual 23, 3) := by decide +kernel
theorem dX4_takeBack_31 : decode cX4_takeBack 31 = .ok (.return_, 1) := by decide +kernel
set_option maxRecDepth 20000 in
theorem ggX4_become_X0_become : GoodIn wsX4_become wsX0_become := goodIn_r _ [8, 9, 10, 11, 12, 13, 14, 15, 16, 17, 18, 19, 23, 24, 25, 26, 27, 28, 29] (by decide +kernel) (by decide +kernel)
set_option maxRecDepth 20000 in
theorem gX4_become_X0_become : GoodIn wsX4_become (wsV RX4 23 RX0 yX0_become wsX0_become) := goodIn_app (goodIn_of _ (by decide +kernel)) ggX4_become_X0_become
theorem dX4_become_0 : decode cX4_become 0 = .ok (.iconst 0, 1) := by decide +kernel
theorem dX4_become_1 : decode cX4_become 1 = .ok (.istore_n 2, 1) := by decide +kernel
theorem dX4_become_2 : decode cX4_become 2 = .ok (.iload_n 2, 1) := by decide +kernel
theorem dX4_become_3 : decode cX4_become 3 = .ok (.bipush 6, 2) := by decide +kernel
theorem dX4_become_5 : decode cX4_become 5 = .ok (.if_icmp .ge 24, 3) := by decide +kernel
theorem dX4_become_8 : decode cX4_become 8 = .ok (.aload_n 0, 1) := by decide +kernel
theorem dX4_become_9 : decode cX4_become 9 = .ok (.getfield 11, 3) := by decide +kernel
theorem dX4_become_12 : decode cX4_become 12 = .ok (.iload_n 2, 1) := by decide +kernel
theorem dX4_become_13 : decode cX4_become 13 = .ok (.aaload, 1) := by decide +kernel
theorem dX4_become_14 : decode cX4_become 14 = .ok (.aload_n 1, 1) := by decide +kernel
theorem dX4_become_15 : decode cX4_become 15 = .ok (.getfield 11, 3) := by decide +kernel
theorem dX4_become_18 : decode cX4_become 18 = .ok (.iload_n 2, 1) := by decide +kernel
theorem dX4_become_19 : decode cX4_become 19 = .ok (.aaload, 1) := by decide +kernel
theorem dX4_become_20 : decode cX4_become 20 = .ok (.invokevirtual 23, 3) := by decide +kernel
theorem dX4_become_23 : decode cX4_become 23 = .ok (.iinc 2 1, 3) := by decide +kernel
theorem dX4_become_26 : decode cX4_become 26 = .ok (.goto (-24), 3) := by decide +kernel
theorem dX4_become_29 : decode cX4_become 29 = .ok (.aload_n 0, 1) := by decide +kernel
theorem dX4_become_30 : decode cX4_become 30 = .ok (.aload_n 1, 1) := by decide +kernel
theorem dX4_become_31 : decode cX4_become 31 = .ok (.getfield 16, 3) := by decide +kernel
theorem dX4_become_34 : decode cX4_become 34 = .ok (.putfield 16, 3) := by decide +kernel
theorem dX4_become_37 : decode cX4_become 37 = .ok (.aload_n 0, 1) := by decide +kernel
theorem dX4_become_38 : decode cX4_become 38 = .ok (.aload_n 1, 1) := by decide +kernel
theorem dX4_become_39 : decode cX4_become 39 = .ok (.getfield 20, 3) := by decide +kernel
theorem dX4_become_42 : decode cX4_become 42 = .ok (.putfield 20, 3) := by decide +kernel
theorem dX4_become_45 : decode cX4_become 45 = .ok (.return_, 1) := by decide +kernel
theorem dX5_init_0 : decode cX5_init 0 = .ok (.aload_n 0, 1) := by decide +kernel
theorem dX5_init_1 : decode cX5_init 1 = .ok (.invokespecial 3, 3) := by decide +kernel
theorem dX5_init_4 : decode cX5_init 4 = .ok (.aload_n 0, 1) := by decide +kernel
theorem dX5_init_5 : decode cX5_init 5 = .ok (.sipush 266, 3) := by decide +kernel
theorem dX5_init_8 : decode cX5_init 8 = .ok (.newarray .int, 2) := by decide +kernel
theorem dX5_init_10 : decode cX5_init 10 = .ok (.putfield 11, 3) := by decide +kernel
theorem dX5_init_13 : decode cX5_init 13 = .ok (.aload_n 0, 1) := by decide +kernel
theorem dX5_init_14 : decode cX5_init 14 = .ok (.sipush 266, 3) := by decide +kernel
theorem dX5_init_17 : decode cX5_init 17 = .ok (.newarray .int, 2) := by decide +kernel
theorem dX5_init_19 : decode cX5_init 19 = .ok (.putfield 17, 3) := by decide +kernel
theorem dX5_init_22 : decode cX5_init 22 = .ok (.return_, 1) := by decide +kernel
set_option maxRecDepth 20000 in
theorem ggX5_chart_X0_isLand : GoodIn wsX5_chart wsX0_isLand := goodIn_r _ [7, 8, 38, 39, 40, 41, 42, 43, 44] (by decide +kernel) (by decide +kernel)
set_option maxRecDepth 20000 in
theorem gX5_chart_X0_isLand : GoodIn wsX5_chart (wsV RX5 20 RX0 yX0_isLand wsX0_isLand) := goodIn_app (goodIn_of _ (by decide +kernel)) ggX5_chart_X0_isLand
set_option maxRecDepth 20000 in
theorem ggX5_chart_X5_fill : GoodIn wsX5_chart wsX5_fill := goodIn_r _ [13, 14, 1, 15, 16, 17, 18, 19, 20, 21, 22, 23, 24, 25, 26, 27, 28, 29, 30, 31, 32, 33, 34, 35, 36, 37] (by decide +kernel) (by decide +kernel)
set_option maxRecDepth 20000 in
theorem gX5_chart_X5_fill : GoodIn wsX5_chart (wsV RX5 30 RX5 yX5_fill wsX5_fill) := goodIn_app (goodIn_of _ (by decide +kernel)) ggX5_chart_X5_fill
theorem dX5_chart_0 : decode cX5_chart 0 = .ok (.iconst 0, 1) := by decide +kernel
theorem dX5_chart_1 : decode cX5_chart 1 = .ok (.istore_n 2, 1) := by decide +kernel
theorem dX5_chart_2 : decode cX5_chart 2 = .ok (.iload_n 2, 1) := by decide +kernel
theorem dX5_chart_3 : decode cX5_chart 3 = .ok (.sipush 266, 3) := by decide +kernel
theorem dX5_chart_6 : decode cX5_chart 6 = .ok (.if_icmp .ge 29, 3) := by decide +kernel
theorem dX5_chart_9 : decode cX5_chart 9 = .ok (.aload_n 0, 1) := by decide +kernel
theorem dX5_chart_10 : decode cX5_chart 10 = .ok (.getfield 11, 3) := by decide +kernel
theorem dX5_chart_13 : decode cX5_chart 13 = .ok (.iload_n 2, 1) := by decide +kernel
theorem dX5_chart_14 : decode cX5_chart 14 = .ok (.aload_n 1, 1) := by decide +kernel
theorem dX5_chart_15 : decode cX5_chart 15 = .ok (.iload_n 2, 1) := by decide +kernel
theorem dX5_chart_16 : decode cX5_chart 16 = .ok (.invokevirtual 20, 3) := by decide +kernel
theorem dX5_chart_19 : decode cX5_chart 19 = .ok (.ifCond .eq 8, 3) := by decide +kernel
theorem dX5_chart_22 : decode cX5_chart 22 = .ok (.bipush (-4), 2) := by decide +kernel
theorem dX5_chart_24 : decode cX5_chart 24 = .ok (.goto 4, 3) := by decide +kernel
theorem dX5_chart_27 : decode cX5_chart 27 = .ok (.iconst (-1), 1) := by decide +kernel
theorem dX5_chart_28 : decode cX5_chart 28 = .ok (.iastore, 1) := by decide +kernel
theorem dX5_chart_29 : decode cX5_chart 29 = .ok (.iinc 2 1, 3) := by decide +kernel
theorem dX5_chart_32 : decode cX5_chart 32 = .ok (.goto (-30), 3) := by decide +kernel
theorem dX5_chart_35 : decode cX5_chart 35 = .ok (.aload_n 0, 1) := by decide +kernel
theorem dX5_chart_36 : decode cX5_chart 36 = .ok (.iconst 0, 1) := by decide +kernel
theorem dX5_chart_37 : decode cX5_chart 37 = .ok (.putfield 26, 3) := by decide +kernel
theorem dX5_chart_40 : decode cX5_chart 40 = .ok (.iconst 0, 1) := by decide +kernel
theorem dX5_chart_41 : decode cX5_chart 41 = .ok (.istore_n 2, 1) := by decide +kernel
theorem dX5_chart_42 : decode cX5_chart 42 = .ok (.iload_n 2, 1) := by decide +kernel
theorem dX5_chart_43 : decode cX5_chart 43 = .ok (.sipush 266, 3) := by decide +kernel
theorem dX5_chart_46 : decode cX5_chart 46 = .ok (.if_icmp .ge 38, 3) := by decide +kernel
theorem dX5_chart_49 : decode cX5_chart 49 = .ok (.aload_n 0, 1) := by decide +kernel
theorem dX5_chart_50 : decode cX5_chart 50 = .ok (.getfield 11, 3) := by decide +kernel
theorem dX5_chart_53 : decode cX5_chart 53 = .ok (.iload_n 2, 1) := by decide +kernel
theorem dX5_chart_54 : decode cX5_chart 54 = .ok (.iaload, 1) := by decide +kernel
theorem dX5_chart_55 : decode cX5_chart 55 = .ok (.iconst (-1), 1) := by decide +kernel
theorem dX5_chart_56 : decode cX5_chart 56 = .ok (.if_icmp .ne 22, 3) := by decide +kernel
theorem dX5_chart_59 : decode cX5_chart 59 = .ok (.aload_n 0, 1) := by decide +kernel
theorem dX5_chart_60 : decode cX5_chart 60 = .ok (.iload_n 2, 1) := by decide +kernel
theorem dX5_chart_61 : decode cX5_chart 61 = .ok (.aload_n 0, 1) := by decide +kernel
theorem dX5_chart_62 : decode cX5_chart 62 = .ok (.getfield 26, 3) := by decide +kernel
theorem dX5_chart_65 : decode cX5_chart 65 = .ok (.invokevirtual 30, 3) := by decide +kernel
theorem dX5_chart_68 : decode cX5_chart 68 = .ok (.aload_n 0, 1) := by decide +kernel
theorem dX5_chart_69 : decode cX5_chart 69 = .ok (.dup, 1) := by decide +kernel
theorem dX5_chart_70 : decode cX5_chart 70 = .ok (.getfield 26, 3) := by decide +kernel
theorem dX5_chart_73 : decode cX5_chart 73 = .ok (.iconst 1, 1) := by decide +kernel
theorem dX5_chart_74 : decode cX5_chart 74 = .ok (.iadd, 1) := by decide +kernel
theorem dX5_chart_75 : decode cX5_chart 75 = .ok (.putfield 26, 3) := by decide +kernel
theorem dX5_chart_78 : decode cX5_chart 78 = .ok (.iinc 2 1, 3) := by decide +kernel
theorem dX5_chart_81 : decode cX5_chart 81 = .ok (.goto (-39), 3) := by decide +kernel
theorem dX5_chart_84 : decode cX5_chart 84 = .ok (.return_, 1) := by decide +kernel
set_option maxRecDepth 20000 in
theorem ggX5_fill_X1_neighbourNumber : GoodIn wsX5_fill wsX1_neighbourNumber := goodIn_r _ [6, 7, 8, 5, 9] (by decide +kernel) (by decide +kernel)
set_option maxRecDepth 20000 in
theorem gX5_fill_X1_neighbourNumber : GoodIn wsX5_fill (va_wsS RX5 34 yX1_neighbourNumber wsX1_neighbourNumber) := goodIn_app (goodIn_of _ (by decide +kernel)) ggX5_fill_X1_neighbourNumber
set_option maxRecDepth 20000 in
theorem ggX5_fill_X1_neighbour : GoodIn wsX5_fill wsX1_neighbour := goodIn_r _ [12, 13, 14, 15, 16, 17, 18, 19, 20, 21, 5, 22, 7, 8, 9] (by decide +kernel) (by decide +kernel)
set_option maxRecDepth 20000 in
theorem gX5_fill_X1_neighbour : GoodIn wsX5_fill (va_wsS RX5 38 yX1_neighbour wsX1_neighbour) := goodIn_app (goodIn_of _ (by decide +kernel)) ggX5_fill_X1_neighbour
theorem dX5_fill_0 : decode cX5_fill 0 = .ok (.iconst 1, 1) := by decide +kernel
theorem dX5_fill_1 : decode cX5_fill 1 = .ok (.istore_n 3, 1) := by decide +kernel
theorem dX5_fill_2 : decode cX5_fill 2 = .ok (.aload_n 0, 1) := by decide +kernel
theorem dX5_fill_3 : decode cX5_fill 3 = .ok (.getfield 17, 3) := by decide +kernel
theorem dX5_fill_6 : decode cX5_fill 6 = .ok (.iconst 0, 1) := by decide +kernel
theorem dX5_fill_7 : decode cX5_fill 7 = .ok (.iload_n 1, 1) := by decide +kernel
theorem dX5_fill_8 : decode cX5_fill 8 = .ok (.iastore, 1) := by decide +kernel
theorem dX5_fill_9 : decode cX5_fill 9 = .ok (.aload_n 0, 1) := by decide +kernel
theorem dX5_fill_10 : decode cX5_fill 10 = .ok (.getfield 11, 3) := by decide +kernel
theorem dX5_fill_13 : decode cX5_fill 13 = .ok (.iload_n 1, 1) := by decide +kernel
theorem dX5_fill_14 : decode cX5_fill 14 = .ok (.iload_n 2, 1) := by decide +kernel
theorem dX5_fill_15 : decode cX5_fill 15 = .ok (.iastore, 1) := by decide +kernel
theorem dX5_fill_16 : decode cX5_fill 16 = .ok (.iconst 0, 1) := by decide +kernel
theorem dX5_fill_17 : decode cX5_fill 17 = .ok (.istore 4, 2) := by decide +kernel
theorem dX5_fill_19 : decode cX5_fill 19 = .ok (.iload 4, 2) := by decide +kernel
theorem dX5_fill_21 : decode cX5_fill 21 = .ok (.iload_n 3, 1) := by decide +kernel
theorem dX5_fill_22 : decode cX5_fill 22 = .ok (.if_icmp .ge 91, 3) := by decide +kernel
theorem dX5_fill_25 : decode cX5_fill 25 = .ok (.iload 4, 2) := by decide +kernel
theorem dX5_fill_27 : decode cX5_fill 27 = .ok (.sipush 266, 3) := by decide +kernel
theorem dX5_fill_30 : decode cX5_fill 30 = .ok (.if_icmp .ge 83, 3) := by decide +kernel
theorem dX5_fill_33 : decode cX5_fill 33 = .ok (.aload_n 0, 1) := by decide +kernel
theorem dX5_fill_34 : decode cX5_fill 34 = .ok (.getfield 17, 3) := by decide +kernel
theorem dX5_fill_37 : decode cX5_fill 37 = .ok (.iload 4, 2) := by decide +kernel
theorem dX5_fill_39 : decode cX5_fill 39 = .ok (.iaload, 1) := by decide +kernel
theorem dX5_fill_40 : decode cX5_fill 40 = .ok (.istore 5, 2) := by decide +kernel
theorem dX5_fill_42 : decode cX5_fill 42 = .ok (.iconst 0, 1) := by decide +kernel
theorem dX5_fill_43 : decode cX5_fill 43 = .ok (.istore 6, 2) := by decide +kernel
theorem dX5_fill_45 : decode cX5_fill 45 = .ok (.iload 6, 2) := by decide +kernel
theorem dX5_fill_47 : decode cX5_fill 47 = .ok (.iload 5, 2) := by decide +kernel
theorem dX5_fill_49 : decode cX5_fill 49 = .ok (.invokestatic 34, 3) := by decide +kernel
theorem dX5_fill_52 : decode cX5_fill 52 = .ok (.if_icmp .ge 55, 3) := by decide +kernel
theorem dX5_fill_55 : decode cX5_fill 55 = .ok (.iload 5, 2) := by decide +kernel
theorem dX5_fill_57 : decode cX5_fill 57 = .ok (.iload 6, 2) := by decide +kernel
theorem dX5_fill_59 : decode cX5_fill 59 = .ok (.invokestatic 38, 3) := by decide +kernel
theorem dX5_fill_62 : decode cX5_fill 62 = .ok (.istore 7, 2) := by decide +kernel
theorem dX5_fill_64 : decode cX5_fill 64 = .ok (.aload_n 0, 1) := by decide +kernel
theorem dX5_fill_65 : decode cX5_fill 65 = .ok (.getfield 11, 3) := by decide +kernel
theorem dX5_fill_68 : decode cX5_fill 68 = .ok (.iload 7, 2) := by decide +kernel
theorem dX5_fill_70 : decode cX5_fill 70 = .ok (.iaload, 1) := by decide +kernel
theorem dX5_fill_71 : decode cX5_fill 71 = .ok (.iconst (-1), 1) := by decide +kernel
theorem dX5_fill_72 : decode cX5_fill 72 = .ok (.if_icmp .ne 29, 3) := by decide +kernel
theorem dX5_fill_75 : decode cX5_fill 75 = .ok (.iload_n 3, 1) := by decide +kernel
theorem dX5_fill_76 : decode cX5_fill 76 = .ok (.sipush 266, 3) := by decide +kernel
theorem dX5_fill_79 : decode cX5_fill 79 = .ok (.if_icmp .ge 22, 3) := by decide +kernel
theorem dX5_fill_82 : decode cX5_fill 82 = .ok (.aload_n 0, 1) := by decide +kernel
theorem dX5_fill_83 : decode cX5_fill 83 = .ok (.getfield 11, 3) := by decide +kernel
theorem dX5_fill_86 : decode cX5_fill 86 = .ok (.iload 7, 2) := by decide +kernel
theorem dX5_fill_88 : decode cX5_fill 88 = .ok (.iload_n 2, 1) := by decide +kernel
theorem dX5_fill_89 : decode cX5_fill 89 = .ok (.iastore, 1) := by decide +kernel
theorem dX5_fill_90 : decode cX5_fill 90 = .ok (.aload_n 0, 1) := by decide +kernel
theorem dX5_fill_91 : decode cX5_fill 91 = .ok (.getfield 17, 3) := by decide +kernel
theorem dX5_fill_94 : decode cX5_fill 94 = .ok (.iload_n 3, 1) := by decide +kernel
theorem dX5_fill_95 : decode cX5_fill 95 = .ok (.iload 7, 2) := by decide +kernel
theorem dX5_fill_97 : decode cX5_fill 97 = .ok (.iastore, 1) := by decide +kernel
theorem dX5_fill_98 : decode cX5_fill 98 = .ok (.iinc 3 1, 3) := by decide +kernel
theorem dX5_fill_101 : decode cX5_fill 101 = .ok (.iinc 6 1, 3) := by decide +kernel
theorem dX5_fill_104 : decode cX5_fill 104 = .ok (.goto (-59), 3) := by decide +kernel
theorem dX5_fill_107 : decode cX5_fill 107 = .ok (.iinc 4 1, 3) := by decide +kernel
theorem dX5_fill_110 : decode cX5_fill 110 = .ok (.goto (-91), 3) := by decide +kernel
theorem dX5_fill_113 : decode cX5_fill 113 = .ok (.return_, 1) := by decide +kernel
theorem dX5_sizeOf_0 : decode cX5_sizeOf 0 = .ok (.iconst 0, 1) := by decide +kernel
theorem dX5_sizeOf_1 : decode cX5_sizeOf 1 = .ok (.istore_n 2, 1) := by decide +kernel
theorem dX5_sizeOf_2 : decode cX5_sizeOf 2 = .ok (.aload_n 0, 1) := by decide +kernel
theorem dX5_sizeOf_3 : decode cX5_sizeOf 3 = .ok (.getfield 11, 3) := by decide +kernel
theorem dX5_sizeOf_6 : decode cX5_sizeOf 6 = .ok (.astore_n 3, 1) := by decide +kernel
theorem dX5_sizeOf_7 : decode cX5_sizeOf 7 = .ok (.aload_n 3, 1) := by decide +kernel
theorem dX5_sizeOf_8 : decode cX5_sizeOf 8 = .ok (.arraylength, 1) := by decide +kernel
theorem dX5_sizeOf_9 : decode cX5_sizeOf 9 = .ok (.istore 4, 2) := by decide +kernel
theorem dX5_sizeOf_11 : decode cX5_sizeOf 11 = .ok (.iconst 0, 1) := by decide +kernel
theorem dX5_sizeOf_12 : decode cX5_sizeOf 12 = .ok (.istore 5, 2) := by decide +kernel
theorem dX5_sizeOf_14 : decode cX5_sizeOf 14 = .ok (.iload 5, 2) := by decide +kernel
theorem dX5_sizeOf_16 : decode cX5_sizeOf 16 = .ok (.iload 4, 2) := by decide +kernel
theorem dX5_sizeOf_18 : decode cX5_sizeOf 18 = .ok (.if_icmp .ge 24, 3) := by decide +kernel
theorem dX5_sizeOf_21 : decode cX5_sizeOf 21 = .ok (.aload_n 3, 1) := by decide +kernel
theorem dX5_sizeOf_22 : decode cX5_sizeOf 22 = .ok (.iload 5, 2) := by decide +kernel
theorem dX5_sizeOf_24 : decode cX5_sizeOf 24 = .ok (.iaload, 1) := by decide +kernel
theorem dX5_sizeOf_25 : decode cX5_sizeOf 25 = .ok (.istore 6, 2) := by decide +kernel
theorem dX5_sizeOf_27 : decode cX5_sizeOf 27 = .ok (.iload 6, 2) := by decide +kernel
theorem dX5_sizeOf_29 : decode cX5_sizeOf 29 = .ok (.iload_n 1, 1) := by decide +kernel
theorem dX5_sizeOf_30 : decode cX5_sizeOf 30 = .ok (.if_icmp .ne 6, 3) := by decide +kernel
theorem dX5_sizeOf_33 : decode cX5_sizeOf 33 = .ok (.iinc 2 1, 3) := by decide +kernel
theorem dX5_sizeOf_36 : decode cX5_sizeOf 36 = .ok (.iinc 5 1, 3) := by decide +kernel
theorem dX5_sizeOf_39 : decode cX5_sizeOf 39 = .ok (.goto (-25), 3) := by decide +kernel
theorem dX5_sizeOf_42 : decode cX5_sizeOf 42 = .ok (.iload_n 2, 1) := by decide +kernel
theorem dX5_sizeOf_43 : decode cX5_sizeOf 43 = .ok (.ireturn, 1) := by decide +kernel
theorem dX5_leastOf_0 : decode cX5_leastOf 0 = .ok (.iconst 0, 1) := by decide +kernel
theorem dX5_leastOf_1 : decode cX5_leastOf 1 = .ok (.istore_n 2, 1) := by decide +kernel
theorem dX5_leastOf_2 : decode cX5_leastOf 2 = .ok (.iload_n 2, 1) := by decide +kernel
theorem dX5_leastOf_3 : decode cX5_leastOf 3 = .ok (.sipush 265, 3) := by decide +kernel
theorem dX5_leastOf_6 : decode cX5_leastOf 6 = .ok (.if_icmp .ge 19, 3) := by decide +kernel
theorem dX5_leastOf_9 : decode cX5_leastOf 9 = .ok (.aload_n 0, 1) := by decide +kernel
theorem dX5_leastOf_10 : decode cX5_leastOf 10 = .ok (.getfield 11, 3) := by decide +kernel
theorem dX5_leastOf_13 : decode cX5_leastOf 13 = .ok (.iload_n 2, 1) := by decide +kernel
theorem dX5_leastOf_14 : decode cX5_leastOf 14 = .ok (.iaload, 1) := by decide +kernel
theorem dX5_leastOf_15 : decode cX5_leastOf 15 = .ok (.iload_n 1, 1) := by decide +kernel
theorem dX5_leastOf_16 : decode cX5_leastOf 16 = .ok (.if_icmp .eq 9, 3) := by decide +kernel
theorem dX5_leastOf_19 : decode cX5_leastOf 19 = .ok (.iinc 2 1, 3) := by decide +kernel
theorem dX5_leastOf_22 : decode cX5_leastOf 22 = .ok (.goto (-20), 3) := by decide +kernel
theorem dX5_leastOf_25 : decode cX5_leastOf 25 = .ok (.iload_n 2, 1) := by decide +kernel
theorem dX5_leastOf_26 : decode cX5_leastOf 26 = .ok (.ireturn, 1) := by decide +kernel
theorem dX5_greatestOf_0 : decode cX5_greatestOf 0 = .ok (.sipush 265, 3) := by decide +kernel
theorem dX5_greatestOf_3 : decode cX5_greatestOf 3 = .ok (.istore_n 2, 1) := by decide +kernel
theorem dX5_greatestOf_4 : decode cX5_greatestOf 4 = .ok (.iload_n 2, 1) := by decide +kernel
theorem dX5_greatestOf_5 : decode cX5_greatestOf 5 = .ok (.ifCond .le 19, 3) := by decide +kernel
theorem dX5_greatestOf_8 : decode cX5_greatestOf 8 = .ok (.aload_n 0, 1) := by decide +kernel
theorem dX5_greatestOf_9 : decode cX5_greatestOf 9 = .ok (.getfield 11, 3) := by decide +kernel
theorem dX5_greatestOf_12 : decode cX5_greatestOf 12 = .ok (.iload_n 2, 1) := by decide +kernel
theorem dX5_greatestOf_13 : decode cX5_greatestOf 13 = .ok (.iaload, 1) := by decide +kernel
theorem dX5_greatestOf_14 : decode cX5_greatestOf 14 = .ok (.iload_n 1, 1) := by decide +kernel
theorem dX5_greatestOf_15 : decode cX5_greatestOf 15 = .ok (.if_icmp .eq 9, 3) := by decide +kernel
theorem dX5_greatestOf_18 : decode cX5_greatestOf 18 = .ok (.iinc 2 (-1), 3) := by decide +kernel
theorem dX5_greatestOf_21 : decode cX5_greatestOf 21 = .ok (.goto (-17), 3) := by decide +kernel
theorem dX5_greatestOf_24 : decode cX5_greatestOf 24 = .ok (.iload_n 2, 1) := by decide +kernel
theorem dX5_greatestOf_25 : decode cX5_greatestOf 25 = .ok (.ireturn, 1) := by decide +kernel
theorem dX6_init_0 : decode cX6_init 0 = .ok (.aload_n 0, 1) := by decide +kernel
theorem dX6_init_1 : decode cX6_init 1 = .ok (.invokespecial 3, 3) := by decide +kernel
theorem dX6_init_4 : decode cX6_init 4 = .ok (.aload_n 0, 1) := by decide +kernel
theorem dX6_init_5 : decode cX6_init 5 = .ok (.bipush 30, 2) := by decide +kernel
theorem dX6_init_7 : decode cX6_init 7 = .ok (.newarray .long, 2) := by decide +kernel
theorem dX6_init_9 : decode cX6_init 9 = .ok (.putfield 11, 3) := by decide +kernel
theorem dX6_init_12 : decode cX6_init 12 = .ok (.return_, 1) := by decide +kernel
set_option maxRecDepth 20000 in
theorem ggX6_renew_J7_fill_d0a16 : GoodIn wsX6_renew wsJ7_fill_d0a16 := goodIn_r _ [8] (by decide +kernel) (by decide +kernel)
set_option maxRecDepth 20000 in
theorem gX6_renew_J7_fill_d0a16 : GoodIn wsX6_renew (va_wsS RX6 15 yJ7_fill_d0a16 wsJ7_fill_d0a16) := goodIn_app (goodIn_of _ (by decide +kernel)) ggX6_renew_J7_fill_d0a16
theorem dX6_renew_0 : decode cX6_renew 0 = .ok (.aload_n 0, 1) := by decide +kernel
theorem dX6_renew_1 : decode cX6_renew 1 = .ok (.getfield 11, 3) := by decide +kernel
theorem dX6_renew_4 : decode cX6_renew 4 = .ok (.lconst 0, 1) := by decide +kernel
theorem dX6_renew_5 : decode cX6_renew 5 = .ok (.invokestatic 15, 3) := by decide +kernel
theorem dX6_renew_8 : decode cX6_renew 8 = .ok (.aload_n 0, 1) := by decide +kernel
theorem dX6_renew_9 : decode cX6_renew 9 = .ok (.iconst 1, 1) := by decide +kernel
theorem dX6_renew_10 : decode cX6_renew 10 = .ok (.putfield 21, 3) := by decide +kernel
theorem dX6_renew_13 : decode cX6_renew 13 = .ok (.aload_n 0, 1) := by decide +kernel
theorem dX6_renew_14 : decode cX6_renew 14 = .ok (.iload_n 1, 1) := by decide +kernel
theorem dX6_renew_15 : decode cX6_renew 15 = .ok (.putfield 25, 3) := by decide +kernel
theorem dX6_renew_18 : decode cX6_renew 18 = .ok (.aload_n 0, 1) := by decide +kernel
theorem dX6_renew_19 : decode cX6_renew 19 = .ok (.iload_n 2, 1) := by decide +kernel
theorem dX6_renew_20 : decode cX6_renew 20 = .ok (.putfield 29, 3) := by decide +kernel
theorem dX6_renew_23 : decode cX6_renew 23 = .ok (.return_, 1) := by decide +kernel
set_option maxRecDepth 20000 in
theorem ggX6_refusal_X6_hasItems : GoodIn wsX6_refusal wsX6_hasItems := goodIn_r _ [7, 8, 9, 10, 11, 12] (by decide +kernel) (by decide +kernel)
set_option maxRecDepth 20000 in
theorem gX6_refusal_X6_hasItems : GoodIn wsX6_refusal (wsV RX6 32 RX6 yX6_hasItems wsX6_hasItems) := goodIn_app (goodIn_of _ (by decide +kernel)) ggX6_refusal_X6_hasItems
theorem dX6_refusal_0 : decode cX6_refusal 0 = .ok (.aload_n 0, 1) := by decide +kernel
theorem dX6_refusal_1 : decode cX6_refusal 1 = .ok (.getfield 21, 3) := by decide +kernel
theorem dX6_refusal_4 : decode cX6_refusal 4 = .ok (.ifCond .ne 6, 3) := by decide +kernel
theorem dX6_refusal_7 : decode cX6_refusal 7 = .ok (.bipush (-11), 2) := by decide +kernel
theorem dX6_refusal_9 : decode cX6_refusal 9 = .ok (.ireturn, 1) := by decide +kernel
theorem dX6_refusal_10 : decode cX6_refusal 10 = .ok (.aload_n 0, 1) := by decide +kernel
theorem dX6_refusal_11 : decode cX6_refusal 11 = .ok (.getfield 25, 3) := by decide +kernel
theorem dX6_refusal_14 : decode cX6_refusal 14 = .ok (.iload_n 1, 1) := by decide +kernel
theorem dX6_refusal_15 : decode cX6_refusal 15 = .ok (.if_icmp .eq 6, 3) := by decide +kernel
theorem dX6_refusal_18 : decode cX6_refusal 18 = .ok (.bipush (-12), 2) := by decide +kernel
theorem dX6_refusal_20 : decode cX6_refusal 20 = .ok (.ireturn, 1) := by decide +kernel
theorem dX6_refusal_21 : decode cX6_refusal 21 = .ok (.aload_n 0, 1) := by decide +kernel
theorem dX6_refusal_22 : decode cX6_refusal 22 = .ok (.iload_n 2, 1) := by decide +kernel
theorem dX6_refusal_23 : decode cX6_refusal 23 = .ok (.iload_n 3, 1) := by decide +kernel
theorem dX6_refusal_24 : decode cX6_refusal 24 = .ok (.invokevirtual 32, 3) := by decide +kernel
theorem dX6_refusal_27 : decode cX6_refusal 27 = .ok (.ifCond .eq 7, 3) := by decide +kernel
theorem dX6_refusal_30 : decode cX6_refusal 30 = .ok (.iconst 0, 1) := by decide +kernel
theorem dX6_refusal_31 : decode cX6_refusal 31 = .ok (.goto 5, 3) := by decide +kernel
theorem dX6_refusal_34 : decode cX6_refusal 34 = .ok (.bipush (-13), 2) := by decide +kernel
theorem dX6_refusal_36 : decode cX6_refusal 36 = .ok (.ireturn, 1) := by decide +kernel
theorem dX6_hasItems_0 : decode cX6_hasItems 0 = .ok (.iload_n 2, 1) := by decide +kernel
theorem dX6_hasItems_1 : decode cX6_hasItems 1 = .ok (.ifCond .lt 29, 3) := by decide +kernel
theorem dX6_hasItems_4 : decode cX6_hasItems 4 = .ok (.iload_n 1, 1) := by decide +kernel
theorem dX6_hasItems_5 : decode cX6_hasItems 5 = .ok (.ifCond .lt 25, 3) := by decide +kernel
theorem dX6_hasItems_8 : decode cX6_hasItems 8 = .ok (.iload_n 1, 1) := by decide +kernel
theorem dX6_hasItems_9 : decode cX6_hasItems 9 = .ok (.aload_n 0, 1) := by decide +kernel
theorem dX6_hasItems_10 : decode cX6_hasItems 10 = .ok (.getfield 29, 3) := by decide +kernel
theorem dX6_hasItems_13 : decode cX6_hasItems 13 = .ok (.if_icmp .gt 17, 3) := by decide +kernel
theorem dX6_hasItems_16 : decode cX6_hasItems 16 = .ok (.iload_n 2, 1) := by decide +kernel
theorem dX6_hasItems_17 : decode cX6_hasItems 17 = .ok (.aload_n 0, 1) := by decide +kernel
theorem dX6_hasItems_18 : decode cX6_hasItems 18 = .ok (.getfield 29, 3) := by decide +kernel
theorem dX6_hasItems_21 : decode cX6_hasItems 21 = .ok (.iload_n 1, 1) := by decide +kernel
theorem dX6_hasItems_22 : decode cX6_hasItems 22 = .ok (.isub, 1) := by decide +kernel
theorem dX6_hasItems_23 : decode cX6_hasItems 23 = .ok (.if_icmp .gt 7, 3) := by decide +kernel
theorem dX6_hasItems_26 : decode cX6_hasItems 26 = .ok (.iconst 1, 1) := by decide +kernel
theorem dX6_hasItems_27 : decode cX6_hasItems 27 = .ok (.goto 4, 3) := by decide +kernel
theorem dX6_hasItems_30 : decode cX6_hasItems 30 = .ok (.iconst 0, 1) := by decide +kernel
theorem dX6_hasItems_31 : decode cX6_hasItems 31 = .ok (.ireturn, 1) := by decide +kernel
theorem dX6_put_0 : decode cX6_put 0 = .ok (.aload_n 0, 1) := by decide +kernel
theorem dX6_put_1 : decode cX6_put 1 = .ok (.getfield 25, 3) := by decide +kernel
theorem dX6_put_4 : decode cX6_put 4 = .ok (.tableswitch 66 0 2 #[28, 41, 54], 28) := by decide +kernel
theorem dX6_put_32 : decode cX6_put 32 = .ok (.aload_n 0, 1) := by decide +kernel
theorem dX6_put_33 : decode cX6_put 33 = .ok (.getfield 11, 3) := by decide +kernel
theorem dX6_put_36 : decode cX6_put 36 = .ok (.iload_n 1, 1) := by decide +kernel
theorem dX6_put_37 : decode cX6_put 37 = .ok (.lload_n 2, 1) := by decide +kernel
theorem dX6_put_38 : decode cX6_put 38 = .ok (.l2i, 1) := by decide +kernel
theorem dX6_put_39 : decode cX6_put 39 = .ok (.i2b, 1) := by decide +kernel
theorem dX6_put_40 : decode cX6_put 40 = .ok (.i2l, 1) := by decide +kernel
theorem dX6_put_41 : decode cX6_put 41 = .ok (.lastore, 1) := by decide +kernel
theorem dX6_put_42 : decode cX6_put 42 = .ok (.goto 35, 3) := by decide +kernel
theorem dX6_put_45 : decode cX6_put 45 = .ok (.aload_n 0, 1) := by decide +kernel
theorem dX6_put_46 : decode cX6_put 46 = .ok (.getfield 11, 3) := by decide +kernel
theorem dX6_put_49 : decode cX6_put 49 = .ok (.iload_n 1, 1) := by decide +kernel
theorem dX6_put_50 : decode cX6_put 50 = .ok (.lload_n 2, 1) := by decide +kernel
theorem dX6_put_51 : decode cX6_put 51 = .ok (.l2i, 1) := by decide +kernel
theorem dX6_put_52 : decode cX6_put 52 = .ok (.i2s, 1) := by decide +kernel
theorem dX6_put_53 : decode cX6_put 53 = .ok (.i2l, 1) := by decide +kernel
theorem dX6_put_54 : decode cX6_put 54 = .ok (.lastore, 1) := by decide +kernel
theorem dX6_put_55 : decode cX6_put 55 = .ok (.goto 22, 3) := by decide +kernel
theorem dX6_put_58 : decode cX6_put 58 = .ok (.aload_n 0, 1) := by decide +kernel
theorem dX6_put_59 : decode cX6_put 59 = .ok (.getfield 11, 3) := by decide +kernel
theorem dX6_put_62 : decode cX6_put 62 = .ok (.iload_n 1, 1) := by decide +kernel
theorem dX6_put_63 : decode cX6_put 63 = .ok (.lload_n 2, 1) := by decide +kernel
theorem dX6_put_64 : decode cX6_put 64 = .ok (.l2i, 1) := by decide +kernel
theorem dX6_put_65 : decode cX6_put 65 = .ok (.i2l, 1) := by decide +kernel
theorem dX6_put_66 : decode cX6_put 66 = .ok (.lastore, 1) := by decide +kernel
theorem dX6_put_67 : decode cX6_put 67 = .ok (.goto 10, 3) := by decide +kernel
theorem dX6_put_70 : decode cX6_put 70 = .ok (.aload_n 0, 1) := by decide +kernel
theorem dX6_put_71 : decode cX6_put 71 = .ok (.getfield 11, 3) := by decide +kernel
theorem dX6_put_74 : decode cX6_put 74 = .ok (.iload_n 1, 1) := by decide +kernel
theorem dX6_put_75 : decode cX6_put 75 = .ok (.lload_n 2, 1) := by decide +kernel
theorem dX6_put_76 : decode cX6_put 76 = .ok (.lastore, 1) := by decide +kernel
theorem dX6_put_77 : decode cX6_put 77 = .ok (.return_, 1) := by decide +kernel
theorem dX6_tellsPlaceAt_0 : decode cX6_tellsPlaceAt 0 = .ok (.aload_n 0, 1) := by decide +kernel
theorem dX6_tellsPlaceAt_1 : decode cX6_tellsPlaceAt 1 = .ok (.getfield 11, 3) := by decide +kernel
theorem dX6_tellsPlaceAt_4 : decode cX6_tellsPlaceAt 4 = .ok (.iload_n 1, 1) := by decide +kernel
theorem dX6_tellsPlaceAt_5 : decode cX6_tellsPlaceAt 5 = .ok (.laload, 1) := by decide +kernel
theorem dX6_tellsPlaceAt_6 : decode cX6_tellsPlaceAt 6 = .ok (.lstore_n 2, 1) := by decide +kernel
theorem dX6_tellsPlaceAt_7 : decode cX6_tellsPlaceAt 7 = .ok (.aload_n 0, 1) := by decide +kernel
theorem dX6_tellsPlaceAt_8 : decode cX6_tellsPlaceAt 8 = .ok (.getfield 11, 3) := by decide +kernel
theorem dX6_tellsPlaceAt_11 : decode cX6_tellsPlaceAt 11 = .ok (.iload_n 1, 1) := by decide +kernel
theorem dX6_tellsPlaceAt_12 : decode cX6_tellsPlaceAt 12 = .ok (.iconst 1, 1) := by decide +kernel
theorem dX6_tellsPlaceAt_13 : decode cX6_tellsPlaceAt 13 = .ok (.iadd, 1) := by decide +kernel
theorem dX6_tellsPlaceAt_14 : decode cX6_tellsPlaceAt 14 = .ok (.laload, 1) := by decide +kernel
theorem dX6_tellsPlaceAt_15 : decode cX6_tellsPlaceAt 15 = .ok (.lstore 4, 2) := by decide +kernel
theorem dX6_tellsPlaceAt_17 : decode cX6_tellsPlaceAt 17 = .ok (.lload_n 2, 1) := by decide +kernel
theorem dX6_tellsPlaceAt_18 : decode cX6_tellsPlaceAt 18 = .ok (.ldc2_w 38, 3) := by decide +kernel
theorem dX6_tellsPlaceAt_21 : decode cX6_tellsPlaceAt 21 = .ok (.lcmp, 1) := by decide +kernel
theorem dX6_tellsPlaceAt_22 : decode cX6_tellsPlaceAt 22 = .ok (.ifCond .lt 31, 3) := by decide +kernel
theorem dX6_tellsPlaceAt_25 : decode cX6_tellsPlaceAt 25 = .ok (.lload_n 2, 1) := by decide +kernel
theorem dX6_tellsPlaceAt_26 : decode cX6_tellsPlaceAt 26 = .ok (.ldc2_w 40, 3) := by decide +kernel
theorem dX6_tellsPlaceAt_29 : decode cX6_tellsPlaceAt 29 = .ok (.lcmp, 1) := by decide +kernel
theorem dX6_tellsPlaceAt_30 : decode cX6_tellsPlaceAt 30 = .ok (.ifCond .gt 23, 3) := by decide +kernel
theorem dX6_tellsPlaceAt_33 : decode cX6_tellsPlaceAt 33 = .ok (.lload 4, 2) := by decide +kernel
theorem dX6_tellsPlaceAt_35 : decode cX6_tellsPlaceAt 35 = .ok (.lconst 0, 1) := by decide +kernel
theorem dX6_tellsPlaceAt_36 : decode cX6_tellsPlaceAt 36 = .ok (.lcmp, 1) := by decide +kernel
theorem dX6_tellsPlaceAt_37 : decode cX6_tellsPlaceAt 37 = .ok (.ifCond .lt 16, 3) := by decide +kernel
theorem dX6_tellsPlaceAt_40 : decode cX6_tellsPlaceAt 40 = .ok (.lload 4, 2) := by decide +kernel
theorem dX6_tellsPlaceAt_42 : decode cX6_tellsPlaceAt 42 = .ok (.ldc2_w 42, 3) := by decide +kernel
theorem dX6_tellsPlaceAt_45 : decode cX6_tellsPlaceAt 45 = .ok (.lcmp, 1) := by decide +kernel
theorem dX6_tellsPlaceAt_46 : decode cX6_tellsPlaceAt 46 = .ok (.ifCond .ge 7, 3) := by decide +kernel
theorem dX6_tellsPlaceAt_49 : decode cX6_tellsPlaceAt 49 = .ok (.iconst 1, 1) := by decide +kernel
theorem dX6_tellsPlaceAt_50 : decode cX6_tellsPlaceAt 50 = .ok (.goto 4, 3) := by decide +kernel
theorem dX6_tellsPlaceAt_53 : decode cX6_tellsPlaceAt 53 = .ok (.iconst 0, 1) := by decide +kernel
theorem dX6_tellsPlaceAt_54 : decode cX6_tellsPlaceAt 54 = .ok (.ireturn, 1) := by decide +kernel
set_option maxRecDepth 20000 in
theorem ggX6_agreesWith_X1_numberOf : GoodIn wsX6_agreesWith wsX1_numberOf := goodIn_r _ [5] (by decide +kernel) (by decide +kernel)
set_option maxRecDepth 20000 in
theorem gX6_agreesWith_X1_numberOf : GoodIn wsX6_agreesWith (va_wsS RX6 44 yX1_numberOf wsX1_numberOf) := goodIn_app (goodIn_of _ (by decide +kernel)) ggX6_agreesWith_X1_numberOf
set_option maxRecDepth 20000 in
theorem ggX6_agreesWith_X1_stepOf : GoodIn wsX6_agreesWith wsX1_stepOf := goodIn_r _ [8, 9, 10, 4, 11] (by decide +kernel) (by decide +kernel)
set_option maxRecDepth 20000 in
theorem gX6_agreesWith_X1_stepOf : GoodIn wsX6_agreesWith (va_wsS RX6 48 yX1_stepOf wsX1_stepOf) := goodIn_app (goodIn_of _ (by decide +kernel)) ggX6_agreesWith_X1_stepOf
set_option maxRecDepth 20000 in
theorem ggX6_agreesWith_X3_stripX : GoodIn wsX6_agreesWith wsX3_stripX := goodIn_r _ [15, 16, 17, 14, 18, 19, 20, 4, 21, 22] (by decide +kernel) (by decide +kernel)
set_option maxRecDepth 20000 in
theorem gX6_agreesWith_X3_stripX : GoodIn wsX6_agreesWith (va_wsS RX6 52 yX3_stripX wsX3_stripX) := goodIn_app (goodIn_of _ (by decide +kernel)) ggX6_agreesWith_X3_stripX
theorem dX6_agreesWith_0 : decode cX6_agreesWith 0 = .ok (.iload_n 3, 1) := by decide +kernel
theorem dX6_agreesWith_1 : decode cX6_agreesWith 1 = .ok (.istore 5, 2) := by decide +kernel
theorem dX6_agreesWith_3 : decode cX6_agreesWith 3 = .ok (.iload 5, 2) := by decide +kernel
theorem dX6_agreesWith_5 : decode cX6_agreesWith 5 = .ok (.iload_n 3, 1) := by decide +kernel
theorem dX6_agreesWith_6 : decode cX6_agreesWith 6 = .ok (.iconst 3, 1) := by decide +kernel
theorem dX6_agreesWith_7 : decode cX6_agreesWith 7 = .ok (.iload 4, 2) := by decide +kernel
theorem dX6_agreesWith_9 : decode cX6_agreesWith 9 = .ok (.imul, 1) := by decide +kernel
theorem dX6_agreesWith_10 : decode cX6_agreesWith 10 = .ok (.iadd, 1) := by decide +kernel
theorem dX6_agreesWith_11 : decode cX6_agreesWith 11 = .ok (.if_icmp .ge 64, 3) := by decide +kernel
theorem dX6_agreesWith_14 : decode cX6_agreesWith 14 = .ok (.aload_n 0, 1) := by decide +kernel
theorem dX6_agreesWith_15 : decode cX6_agreesWith 15 = .ok (.getfield 11, 3) := by decide +kernel
theorem dX6_agreesWith_18 : decode cX6_agreesWith 18 = .ok (.iload 5, 2) := by decide +kernel
theorem dX6_agreesWith_20 : decode cX6_agreesWith 20 = .ok (.laload, 1) := by decide +kernel
theorem dX6_agreesWith_21 : decode cX6_agreesWith 21 = .ok (.l2i, 1) := by decide +kernel
theorem dX6_agreesWith_22 : decode cX6_agreesWith 22 = .ok (.istore 6, 2) := by decide +kernel
theorem dX6_agreesWith_24 : decode cX6_agreesWith 24 = .ok (.iload 6, 2) := by decide +kernel
theorem dX6_agreesWith_26 : decode cX6_agreesWith 26 = .ok (.aload_n 0, 1) := by decide +kernel
theorem dX6_agreesWith_27 : decode cX6_agreesWith 27 = .ok (.getfield 11, 3) := by decide +kernel
theorem dX6_agreesWith_30 : decode cX6_agreesWith 30 = .ok (.iload 5, 2) := by decide +kernel
theorem dX6_agreesWith_32 : decode cX6_agreesWith 32 = .ok (.iconst 1, 1) := by decide +kernel
theorem dX6_agreesWith_33 : decode cX6_agreesWith 33 = .ok (.iadd, 1) := by decide +kernel
theorem dX6_agreesWith_34 : decode cX6_agreesWith 34 = .ok (.laload, 1) := by decide +kernel
theorem dX6_agreesWith_35 : decode cX6_agreesWith 35 = .ok (.l2i, 1) := by decide +kernel
theorem dX6_agreesWith_36 : decode cX6_agreesWith 36 = .ok (.invokestatic 44, 3) := by decide +kernel
theorem dX6_agreesWith_39 : decode cX6_agreesWith 39 = .ok (.invokestatic 48, 3) := by decide +kernel
theorem dX6_agreesWith_42 : decode cX6_agreesWith 42 = .ok (.istore 7, 2) := by decide +kernel
theorem dX6_agreesWith_44 : decode cX6_agreesWith 44 = .ok (.iload_n 1, 1) := by decide +kernel
theorem dX6_agreesWith_45 : decode cX6_agreesWith 45 = .ok (.iload_n 2, 1) := by decide +kernel
theorem dX6_agreesWith_46 : decode cX6_agreesWith 46 = .ok (.iload 6, 2) := by decide +kernel
theorem dX6_agreesWith_48 : decode cX6_agreesWith 48 = .ok (.iload 7, 2) := by decide +kernel
theorem dX6_agreesWith_50 : decode cX6_agreesWith 50 = .ok (.invokestatic 52, 3) := by decide +kernel
theorem dX6_agreesWith_53 : decode cX6_agreesWith 53 = .ok (.i2l, 1) := by decide +kernel
theorem dX6_agreesWith_54 : decode cX6_agreesWith 54 = .ok (.aload_n 0, 1) := by decide +kernel
theorem dX6_agreesWith_55 : decode cX6_agreesWith 55 = .ok (.getfield 11, 3) := by decide +kernel
theorem dX6_agreesWith_58 : decode cX6_agreesWith 58 = .ok (.iload 5, 2) := by decide +kernel
theorem dX6_agreesWith_60 : decode cX6_agreesWith 60 = .ok (.iconst 2, 1) := by decide +kernel
theorem dX6_agreesWith_61 : decode cX6_agreesWith 61 = .ok (.iadd, 1) := by decide +kernel
theorem dX6_agreesWith_62 : decode cX6_agreesWith 62 = .ok (.laload, 1) := by decide +kernel
theorem dX6_agreesWith_63 : decode cX6_agreesWith 63 = .ok (.lcmp, 1) := by decide +kernel
theorem dX6_agreesWith_64 : decode cX6_agreesWith 64 = .ok (.ifCond .eq 5, 3) := by decide +kernel
theorem dX6_agreesWith_67 : decode cX6_agreesWith 67 = .ok (.iconst 0, 1) := by decide +kernel
theorem dX6_agreesWith_68 : decode cX6_agreesWith 68 = .ok (.ireturn, 1) := by decide +kernel
theorem dX6_agreesWith_69 : decode cX6_agreesWith 69 = .ok (.iinc 5 3, 3) := by decide +kernel
theorem dX6_agreesWith_72 : decode cX6_agreesWith 72 = .ok (.goto (-69), 3) := by decide +kernel
theorem dX6_agreesWith_75 : decode cX6_agreesWith 75 = .ok (.iconst 1, 1) := by decide +kernel
theorem dX6_agreesWith_76 : decode cX6_agreesWith 76 = .ok (.ireturn, 1) := by decide +kernel
theorem dX7_init_0 : decode cX7_init 0 = .ok (.aload_n 0, 1) := by decide +kernel
theorem dX7_init_1 : decode cX7_init 1 = .ok (.invokespecial 1, 3) := by decide +kernel
theorem dX7_init_4 : decode cX7_init 4 = .ok (.aload_n 0, 1) := by decide +kernel
theorem dX7_init_5 : decode cX7_init 5 = .ok (.bipush 90, 2) := by decide +kernel
theorem dX7_init_7 : decode cX7_init 7 = .ok (.newarray .int, 2) := by decide +kernel
theorem dX7_init_9 : decode cX7_init 9 = .ok (.putfield 9, 3) := by decide +kernel
theorem dX7_init_12 : decode cX7_init 12 = .ok (.aload_n 0, 1) := by decide +kernel
theorem dX7_init_13 : decode cX7_init 13 = .ok (.iconst 5, 1) := by decide +kernel
theorem dX7_init_14 : decode cX7_init 14 = .ok (.newarray .long, 2) := by decide +kernel
theorem dX7_init_16 : decode cX7_init 16 = .ok (.putfield 15, 3) := by decide +kernel
theorem dX7_init_19 : decode cX7_init 19 = .ok (.return_, 1) := by decide +kernel
set_option maxRecDepth 20000 in
theorem ggX7_understand_J7_fill_d0a16 : GoodIn wsX7_understand wsJ7_fill_d0a16 := goodIn_r _ [6] (by decide +kernel) (by decide +kernel)
set_option maxRecDepth 20000 in
theorem gX7_understand_J7_fill_d0a16 : GoodIn wsX7_understand (va_wsS RX7 19 yJ7_fill_d0a16 wsJ7_fill_d0a16) := goodIn_app (goodIn_of _ (by decide +kernel)) ggX7_understand_J7_fill_d0a16
set_option maxRecDepth 20000 in
theorem ggX7_understand_X7_understandRow : GoodIn wsX7_understand wsX7_understandRow := goodIn_r _ [11, 2, 12, 13, 14, 10, 15, 16, 17, 18, 19, 20, 21, 22, 23, 24, 25, 26, 1, 27, 28, 29, 30, 31, 32, 33, 34, 35, 36, 37, 38, 39, 40, 41, 42, 43, 44, 45, 46] (by decide +kernel) (by decide +kernel)
set_option maxRecDepth 20000 in
theorem gX7_understand_X7_understandRow : GoodIn wsX7_understand (wsV RX7 29 RX7 yX7_understandRow wsX7_understandRow) := goodIn_app (goodIn_of _ (by decide +kernel)) ggX7_understand_X7_understandRow
set_option maxRecDepth 20000 in
theorem ggX7_understand_X7_next : GoodIn wsX7_understand wsX7_next := goodIn_r _ [19, 2, 20, 21, 42, 43, 44, 45, 46] (by decide +kernel) (by decide +kernel)
set_option maxRecDepth 20000 in
theorem gX7_understand_X7_next : GoodIn wsX7_understand (wsV RX7 33 RX7 yX7_next wsX7_next) := goodIn_app (goodIn_of _ (by decide +kernel)) ggX7_understand_X7_next
set_option maxRecDepth 20000 in
theorem ggX7_understand_X7_takes : GoodIn wsX7_understand wsX7_takes := goodIn_r _ [15, 2, 16, 17, 18, 10, 19, 20, 21, 42, 43, 44, 45, 46] (by decide +kernel) (by decide +kernel)
set_option maxRecDepth 20000 in
theorem gX7_understand_X7_takes : GoodIn wsX7_understand (wsV RX7 36 RX7 yX7_takes wsX7_takes) := goodIn_app (goodIn_of _ (by decide +kernel)) ggX7_understand_X7_takes
theorem dX7_understand_0 : decode cX7_understand 0 = .ok (.aload_n 0, 1) := by decide +kernel
theorem dX7_understand_1 : decode cX7_understand 1 = .ok (.getfield 15, 3) := by decide +kernel
theorem dX7_understand_4 : decode cX7_understand 4 = .ok (.lconst 0, 1) := by decide +kernel
theorem dX7_understand_5 : decode cX7_understand 5 = .ok (.invokestatic 19, 3) := by decide +kernel
theorem dX7_understand_8 : decode cX7_understand 8 = .ok (.aload_n 0, 1) := by decide +kernel
theorem dX7_understand_9 : decode cX7_understand 9 = .ok (.iconst 0, 1) := by decide +kernel
theorem dX7_understand_10 : decode cX7_understand 10 = .ok (.putfield 25, 3) := by decide +kernel
theorem dX7_understand_13 : decode cX7_understand 13 = .ok (.iconst 0, 1) := by decide +kernel
theorem dX7_understand_14 : decode cX7_understand 14 = .ok (.istore_n 1, 1) := by decide +kernel
theorem dX7_understand_15 : decode cX7_understand 15 = .ok (.iload_n 1, 1) := by decide +kernel
theorem dX7_understand_16 : decode cX7_understand 16 = .ok (.bipush 90, 2) := by decide +kernel
theorem dX7_understand_18 : decode cX7_understand 18 = .ok (.if_icmp .gt 45, 3) := by decide +kernel
theorem dX7_understand_21 : decode cX7_understand 21 = .ok (.aload_n 0, 1) := by decide +kernel
theorem dX7_understand_22 : decode cX7_understand 22 = .ok (.invokevirtual 29, 3) := by decide +kernel
theorem dX7_understand_25 : decode cX7_understand 25 = .ok (.istore_n 2, 1) := by decide +kernel
theorem dX7_understand_26 : decode cX7_understand 26 = .ok (.iload_n 2, 1) := by decide +kernel
theorem dX7_understand_27 : decode cX7_understand 27 = .ok (.iconst (-1), 1) := by decide +kernel
theorem dX7_understand_28 : decode cX7_understand 28 = .ok (.if_icmp .eq 5, 3) := by decide +kernel
theorem dX7_understand_31 : decode cX7_understand 31 = .ok (.iload_n 2, 1) := by decide +kernel
theorem dX7_understand_32 : decode cX7_understand 32 = .ok (.ireturn, 1) := by decide +kernel
theorem dX7_understand_33 : decode cX7_understand 33 = .ok (.aload_n 0, 1) := by decide +kernel
theorem dX7_understand_34 : decode cX7_understand 34 = .ok (.invokevirtual 33, 3) := by decide +kernel
theorem dX7_understand_37 : decode cX7_understand 37 = .ok (.iconst (-1), 1) := by decide +kernel
theorem dX7_understand_38 : decode cX7_understand 38 = .ok (.if_icmp .ne 5, 3) := by decide +kernel
theorem dX7_understand_41 : decode cX7_understand 41 = .ok (.iconst (-1), 1) := by decide +kernel
theorem dX7_understand_42 : decode cX7_understand 42 = .ok (.ireturn, 1) := by decide +kernel
theorem dX7_understand_43 : decode cX7_understand 43 = .ok (.aload_n 0, 1) := by decide +kernel
theorem dX7_understand_44 : decode cX7_understand 44 = .ok (.bipush 59, 2) := by decide +kernel
theorem dX7_understand_46 : decode cX7_understand 46 = .ok (.invokevirtual 36, 3) := by decide +kernel
theorem dX7_understand_49 : decode cX7_understand 49 = .ok (.ifCond .ne 8, 3) := by decide +kernel
theorem dX7_understand_52 : decode cX7_understand 52 = .ok (.aload_n 0, 1) := by decide +kernel
theorem dX7_understand_53 : decode cX7_understand 53 = .ok (.getfield 25, 3) := by decide +kernel
theorem dX7_understand_56 : decode cX7_understand 56 = .ok (.ireturn, 1) := by decide +kernel
theorem dX7_understand_57 : decode cX7_understand 57 = .ok (.iinc 1 1, 3) := by decide +kernel
theorem dX7_understand_60 : decode cX7_understand 60 = .ok (.goto (-45), 3) := by decide +kernel
theorem dX7_understand_63 : decode cX7_understand 63 = .ok (.aload_n 0, 1) := by decide +kernel
theorem dX7_understand_64 : decode cX7_understand 64 = .ok (.getfield 25, 3) := by decide +kernel
theorem dX7_understand_67 : decode cX7_understand 67 = .ok (.ireturn, 1) := by decide +kernel
set_option maxRecDepth 20000 in
theorem ggX7_understandRow_X7_takes : GoodIn wsX7_understandRow wsX7_takes := goodIn_r _ [6, 1, 7, 8, 9, 5, 10, 11, 12, 34, 35, 36, 37, 38] (by decide +kernel) (by decide +kernel)
set_option maxRecDepth 20000 in
theorem gX7_understandRow_X7_takes : GoodIn wsX7_understandRow (wsV RX7 36 RX7 yX7_takes wsX7_takes) := goodIn_app (goodIn_of _ (by decide +kernel)) ggX7_understandRow_X7_takes
set_option maxRecDepth 20000 in
theorem ggX7_understandRow_X7_next : GoodIn wsX7_understandRow wsX7_next := goodIn_r _ [10, 1, 11, 12, 34, 35, 36, 37, 38] (by decide +kernel) (by decide +kernel)
set_option maxRecDepth 20000 in
theorem gX7_understandRow_X7_next : GoodIn wsX7_understandRow (wsV RX7 33 RX7 yX7_next wsX7_next) := goodIn_app (goodIn_of _ (by decide +kernel)) ggX7_understandRow_X7_next
set_option maxRecDepth 20000 in
theorem ggX7_understandRow_X7_understandRun : GoodIn wsX7_understandRow wsX7_understandRun := goodIn_r _ [16, 17, 18, 19, 20, 21, 5, 22, 1, 12, 11, 7, 8, 9, 10, 23, 24, 25, 2, 3, 4, 6, 26, 27, 28, 29, 30, 31, 32, 33, 34, 35, 36, 37, 38] (by decide +kernel) (by decide +kernel)
set_option maxRecDepth 20000 in
theorem gX7_understandRow_X7_understandRun : GoodIn wsX7_understandRow (wsV RX7 40 RX7 yX7_understandRun wsX7_understandRun) := goodIn_app (goodIn_of _ (by decide +kernel)) ggX7_understandRow_X7_understandRun
theorem dX7_understandRow_0 : decode cX7_understandRow 0 = .ok (.aload_n 0, 1) := by decide +kernel
theorem dX7_understandRow_1 : decode cX7_understandRow 1 = .ok (.bipush 45, 2) := by decide +kernel
theorem dX7_understandRow_3 : decode cX7_understandRow 3 = .ok (.invokevirtual 36, 3) := by decide +kernel
theorem dX7_understandRow_6 : decode cX7_understandRow 6 = .ok (.istore_n 1, 1) := by decide +kernel
theorem dX7_understandRow_7 : decode cX7_understandRow 7 = .ok (.aload_n 0, 1) := by decide +kernel
theorem dX7_understandRow_8 : decode cX7_understandRow 8 = .ok (.invokevirtual 33, 3) := by decide +kernel
theorem dX7_understandRow_11 : decode cX7_understandRow 11 = .ok (.bipush 48, 2) := by decide +kernel
theorem dX7_understandRow_13 : decode cX7_understandRow 13 = .ok (.isub, 1) := by decide +kernel
theorem dX7_understandRow_14 : decode cX7_understandRow 14 = .ok (.istore_n 2, 1) := by decide +kernel
theorem dX7_understandRow_15 : decode cX7_understandRow 15 = .ok (.iload_n 2, 1) := by decide +kernel
theorem dX7_understandRow_16 : decode cX7_understandRow 16 = .ok (.ifCond .lt 9, 3) := by decide +kernel
theorem dX7_understandRow_19 : decode cX7_understandRow 19 = .ok (.iload_n 2, 1) := by decide +kernel
theorem dX7_understandRow_20 : decode cX7_understandRow 20 = .ok (.bipush 6, 2) := by decide +kernel
theorem dX7_understandRow_22 : decode cX7_understandRow 22 = .ok (.if_icmp .le 8, 3) := by decide +kernel
theorem dX7_understandRow_25 : decode cX7_understandRow 25 = .ok (.aload_n 0, 1) := by decide +kernel
theorem dX7_understandRow_26 : decode cX7_understandRow 26 = .ok (.getfield 25, 3) := by decide +kernel
theorem dX7_understandRow_29 : decode cX7_understandRow 29 = .ok (.ireturn, 1) := by decide +kernel
theorem dX7_understandRow_30 : decode cX7_understandRow 30 = .ok (.aload_n 0, 1) := by decide +kernel
theorem dX7_understandRow_31 : decode cX7_understandRow 31 = .ok (.dup, 1) := by decide +kernel
theorem dX7_understandRow_32 : decode cX7_understandRow 32 = .ok (.getfield 25, 3) := by decide +kernel
theorem dX7_understandRow_35 : decode cX7_understandRow 35 = .ok (.iconst 1, 1) := by decide +kernel
theorem dX7_understandRow_36 : decode cX7_understandRow 36 = .ok (.iadd, 1) := by decide +kernel
theorem dX7_understandRow_37 : decode cX7_understandRow 37 = .ok (.putfield 25, 3) := by decide +kernel
theorem dX7_understandRow_40 : decode cX7_understandRow 40 = .ok (.aload_n 0, 1) := by decide +kernel
theorem dX7_understandRow_41 : decode cX7_understandRow 41 = .ok (.bipush 58, 2) := by decide +kernel
theorem dX7_understandRow_43 : decode cX7_understandRow 43 = .ok (.invokevirtual 36, 3) := by decide +kernel
theorem dX7_understandRow_46 : decode cX7_understandRow 46 = .ok (.ifCond .ne 8, 3) := by decide +kernel
theorem dX7_understandRow_49 : decode cX7_understandRow 49 = .ok (.aload_n 0, 1) := by decide +kernel
theorem dX7_understandRow_50 : decode cX7_understandRow 50 = .ok (.getfield 25, 3) := by decide +kernel
theorem dX7_understandRow_53 : decode cX7_understandRow 53 = .ok (.ireturn, 1) := by decide +kernel
theorem dX7_understandRow_54 : decode cX7_understandRow 54 = .ok (.iconst 0, 1) := by decide +kernel
theorem dX7_understandRow_55 : decode cX7_understandRow 55 = .ok (.istore_n 3, 1) := by decide +kernel
theorem dX7_understandRow_56 : decode cX7_understandRow 56 = .ok (.iload_n 3, 1) := by decide +kernel
theorem dX7_understandRow_57 : decode cX7_understandRow 57 = .ok (.bipush 90, 2) := by decide +kernel
theorem dX7_understandRow_59 : decode cX7_understandRow 59 = .ok (.if_icmp .gt 45, 3) := by decide +kernel
theorem dX7_understandRow_62 : decode cX7_understandRow 62 = .ok (.aload_n 0, 1) := by decide +kernel
theorem dX7_understandRow_63 : decode cX7_understandRow 63 = .ok (.iload_n 1, 1) := by decide +kernel
theorem dX7_understandRow_64 : decode cX7_understandRow 64 = .ok (.ifCond .eq 8, 3) := by decide +kernel
theorem dX7_understandRow_67 : decode cX7_understandRow 67 = .ok (.iload_n 2, 1) := by decide +kernel
theorem dX7_understandRow_68 : decode cX7_understandRow 68 = .ok (.ineg, 1) := by decide +kernel
theorem dX7_understandRow_69 : decode cX7_understandRow 69 = .ok (.goto 4, 3) := by decide +kernel
theorem dX7_understandRow_72 : decode cX7_understandRow 72 = .ok (.iload_n 2, 1) := by decide +kernel
theorem dX7_understandRow_73 : decode cX7_understandRow 73 = .ok (.invokevirtual 40, 3) := by decide +kernel
theorem dX7_understandRow_76 : decode cX7_understandRow 76 = .ok (.istore 4, 2) := by decide +kernel
theorem dX7_understandRow_78 : decode cX7_understandRow 78 = .ok (.iload 4, 2) := by decide +kernel
theorem dX7_understandRow_80 : decode cX7_understandRow 80 = .ok (.iconst (-1), 1) := by decide +kernel
theorem dX7_understandRow_81 : decode cX7_understandRow 81 = .ok (.if_icmp .eq 6, 3) := by decide +kernel
theorem dX7_understandRow_84 : decode cX7_understandRow 84 = .ok (.iload 4, 2) := by decide +kernel
theorem dX7_understandRow_86 : decode cX7_understandRow 86 = .ok (.ireturn, 1) := by decide +kernel
theorem dX7_understandRow_87 : decode cX7_understandRow 87 = .ok (.aload_n 0, 1) := by decide +kernel
theorem dX7_understandRow_88 : decode cX7_understandRow 88 = .ok (.bipush 44, 2) := by decide +kernel
theorem dX7_understandRow_90 : decode cX7_understandRow 90 = .ok (.invokevirtual 36, 3) := by decide +kernel
theorem dX7_understandRow_93 : decode cX7_understandRow 93 = .ok (.ifCond .ne 5, 3) := by decide +kernel
theorem dX7_understandRow_96 : decode cX7_understandRow 96 = .ok (.iconst (-1), 1) := by decide +kernel
theorem dX7_understandRow_97 : decode cX7_understandRow 97 = .ok (.ireturn, 1) := by decide +kernel
theorem dX7_understandRow_98 : decode cX7_understandRow 98 = .ok (.iinc 3 1, 3) := by decide +kernel
theorem dX7_understandRow_101 : decode cX7_understandRow 101 = .ok (.goto (-45), 3) := by decide +kernel
theorem dX7_understandRow_104 : decode cX7_understandRow 104 = .ok (.aload_n 0, 1) := by decide +kernel
theorem dX7_understandRow_105 : decode cX7_understandRow 105 = .ok (.getfield 25, 3) := by decide +kernel
theorem dX7_understandRow_108 : decode cX7_understandRow 108 = .ok (.ireturn, 1) := by decide +kernel
set_option maxRecDepth 20000 in
theorem ggX7_understandRun_X7_understandNumber : GoodIn wsX7_understandRun wsX7_understandNumber := goodIn_r _ [7, 8, 9, 1, 10, 11, 12, 13, 6, 14, 15, 16, 17, 30, 31, 32, 33, 34] (by decide +kernel) (by decide +kernel)
set_option maxRecDepth 20000 in
theorem gX7_understandRun_X7_understandNumber : GoodIn wsX7_understandRun (wsV RX7 44 RX7 yX7_understandNumber wsX7_understandNumber) := goodIn_app (goodIn_of _ (by decide +kernel)) ggX7_understandRun_X7_understandNumber
set_option maxRecDepth 20000 in
theorem ggX7_understandRun_X7_takes : GoodIn wsX7_understandRun wsX7_takes := goodIn_r _ [21, 8, 11, 12, 13, 6, 14, 10, 9, 30, 31, 32, 33, 34] (by decide +kernel) (by decide +kernel)
set_option maxRecDepth 20000 in
theorem gX7_understandRun_X7_takes : GoodIn wsX7_understandRun (wsV RX7 36 RX7 yX7_takes wsX7_takes) := goodIn_app (goodIn_of _ (by decide +kernel)) ggX7_understandRun_X7_takes
set_option maxRecDepth 20000 in
theorem ggX7_understandRun_J9_floorMod_7cf53 : GoodIn wsX7_understandRun wsJ9_floorMod_7cf53 := goodIn_r _ [25] (by decide +kernel) (by decide +kernel)
set_option maxRecDepth 20000 in
theorem gX7_understandRun_J9_floorMod_7cf53 : GoodIn wsX7_understandRun (va_wsS RX7 52 yJ9_floorMod_7cf53 wsJ9_floorMod_7cf53) := goodIn_app (goodIn_of _ (by decide +kernel)) ggX7_understandRun_J9_floorMod_7cf53
set_option maxRecDepth 20000 in
theorem ggX7_understandRun_X1_numberOf : GoodIn wsX7_understandRun wsX1_numberOf := goodIn_r _ [29] (by decide +kernel) (by decide +kernel)
set_option maxRecDepth 20000 in
theorem gX7_understandRun_X1_numberOf : GoodIn wsX7_understandRun (va_wsS RX7 58 yX1_numberOf wsX1_numberOf) := goodIn_app (goodIn_of _ (by decide +kernel)) ggX7_understandRun_X1_numberOf
theorem dX7_understandRun_0 : decode cX7_understandRun 0 = .ok (.aload_n 0, 1) := by decide +kernel
theorem dX7_understandRun_1 : decode cX7_understandRun 1 = .ok (.invokevirtual 44, 3) := by decide +kernel
theorem dX7_understandRun_4 : decode cX7_understandRun 4 = .ok (.istore_n 2, 1) := by decide +kernel
theorem dX7_understandRun_5 : decode cX7_understandRun 5 = .ok (.iload_n 2, 1) := by decide +kernel
theorem dX7_understandRun_6 : decode cX7_understandRun 6 = .ok (.iconst (-1), 1) := by decide +kernel
theorem dX7_understandRun_7 : decode cX7_understandRun 7 = .ok (.if_icmp .eq 5, 3) := by decide +kernel
theorem dX7_understandRun_10 : decode cX7_understandRun 10 = .ok (.iload_n 2, 1) := by decide +kernel
theorem dX7_understandRun_11 : decode cX7_understandRun 11 = .ok (.ireturn, 1) := by decide +kernel
theorem dX7_understandRun_12 : decode cX7_understandRun 12 = .ok (.aload_n 0, 1) := by decide +kernel
theorem dX7_understandRun_13 : decode cX7_understandRun 13 = .ok (.getfield 47, 3) := by decide +kernel
theorem dX7_understandRun_16 : decode cX7_understandRun 16 = .ok (.istore_n 3, 1) := by decide +kernel
theorem dX7_understandRun_17 : decode cX7_understandRun 17 = .ok (.aload_n 0, 1) := by decide +kernel
theorem dX7_understandRun_18 : decode cX7_understandRun 18 = .ok (.bipush 45, 2) := by decide +kernel
theorem dX7_understandRun_20 : decode cX7_understandRun 20 = .ok (.invokevirtual 36, 3) := by decide +kernel
theorem dX7_understandRun_23 : decode cX7_understandRun 23 = .ok (.ifCond .eq 15, 3) := by decide +kernel
theorem dX7_understandRun_26 : decode cX7_understandRun 26 = .ok (.aload_n 0, 1) := by decide +kernel
theorem dX7_understandRun_27 : decode cX7_understandRun 27 = .ok (.invokevirtual 44, 3) := by decide +kernel
theorem dX7_understandRun_30 : decode cX7_understandRun 30 = .ok (.istore_n 2, 1) := by decide +kernel
theorem dX7_understandRun_31 : decode cX7_understandRun 31 = .ok (.iload_n 2, 1) := by decide +kernel
theorem dX7_understandRun_32 : decode cX7_understandRun 32 = .ok (.iconst (-1), 1) := by decide +kernel
theorem dX7_understandRun_33 : decode cX7_understandRun 33 = .ok (.if_icmp .eq 5, 3) := by decide +kernel
theorem dX7_understandRun_36 : decode cX7_understandRun 36 = .ok (.iload_n 2, 1) := by decide +kernel
theorem dX7_understandRun_37 : decode cX7_understandRun 37 = .ok (.ireturn, 1) := by decide +kernel
theorem dX7_understandRun_38 : decode cX7_understandRun 38 = .ok (.aload_n 0, 1) := by decide +kernel
theorem dX7_understandRun_39 : decode cX7_understandRun 39 = .ok (.getfield 47, 3) := by decide +kernel
theorem dX7_understandRun_42 : decode cX7_understandRun 42 = .ok (.iload_n 3, 1) := by decide +kernel
theorem dX7_understandRun_43 : decode cX7_understandRun 43 = .ok (.isub, 1) := by decide +kernel
theorem dX7_understandRun_44 : decode cX7_understandRun 44 = .ok (.bipush 24, 2) := by decide +kernel
theorem dX7_understandRun_46 : decode cX7_understandRun 46 = .ok (.invokestatic 52, 3) := by decide +kernel
theorem dX7_understandRun_49 : decode cX7_understandRun 49 = .ok (.istore 4, 2) := by decide +kernel
theorem dX7_understandRun_51 : decode cX7_understandRun 51 = .ok (.iconst 0, 1) := by decide +kernel
theorem dX7_understandRun_52 : decode cX7_understandRun 52 = .ok (.istore 5, 2) := by decide +kernel
theorem dX7_understandRun_54 : decode cX7_understandRun 54 = .ok (.iload 5, 2) := by decide +kernel
theorem dX7_understandRun_56 : decode cX7_understandRun 56 = .ok (.iload 4, 2) := by decide +kernel
theorem dX7_understandRun_58 : decode cX7_understandRun 58 = .ok (.if_icmp .gt 42, 3) := by decide +kernel
theorem dX7_understandRun_61 : decode cX7_understandRun 61 = .ok (.iload_n 1, 1) := by decide +kernel
theorem dX7_understandRun_62 : decode cX7_understandRun 62 = .ok (.iload_n 3, 1) := by decide +kernel
theorem dX7_understandRun_63 : decode cX7_understandRun 63 = .ok (.iload 5, 2) := by decide +kernel
theorem dX7_understandRun_65 : decode cX7_understandRun 65 = .ok (.iadd, 1) := by decide +kernel
theorem dX7_understandRun_66 : decode cX7_understandRun 66 = .ok (.bipush 24, 2) := by decide +kernel
theorem dX7_understandRun_68 : decode cX7_understandRun 68 = .ok (.irem, 1) := by decide +kernel
theorem dX7_understandRun_69 : decode cX7_understandRun 69 = .ok (.invokestatic 58, 3) := by decide +kernel
theorem dX7_understandRun_72 : decode cX7_understandRun 72 = .ok (.istore 6, 2) := by decide +kernel
theorem dX7_understandRun_74 : decode cX7_understandRun 74 = .ok (.aload_n 0, 1) := by decide +kernel
theorem dX7_understandRun_75 : decode cX7_understandRun 75 = .ok (.getfield 15, 3) := by decide +kernel
theorem dX7_understandRun_78 : decode cX7_understandRun 78 = .ok (.iload 6, 2) := by decide +kernel
theorem dX7_understandRun_80 : decode cX7_understandRun 80 = .ok (.bipush 6, 2) := by decide +kernel
theorem dX7_understandRun_82 : decode cX7_understandRun 82 = .ok (.ishr, 1) := by decide +kernel
theorem dX7_understandRun_83 : decode cX7_understandRun 83 = .ok (.dup2, 1) := by decide +kernel
theorem dX7_understandRun_84 : decode cX7_understandRun 84 = .ok (.laload, 1) := by decide +kernel
theorem dX7_understandRun_85 : decode cX7_understandRun 85 = .ok (.lconst 1, 1) := by decide +kernel
theorem dX7_understandRun_86 : decode cX7_understandRun 86 = .ok (.iload 6, 2) := by decide +kernel
theorem dX7_understandRun_88 : decode cX7_understandRun 88 = .ok (.bipush 63, 2) := by decide +kernel
theorem dX7_understandRun_90 : decode cX7_understandRun 90 = .ok (.iand, 1) := by decide +kernel
theorem dX7_understandRun_91 : decode cX7_understandRun 91 = .ok (.lshl, 1) := by decide +kernel
theorem dX7_understandRun_92 : decode cX7_understandRun 92 = .ok (.lor, 1) := by decide +kernel
theorem dX7_understandRun_93 : decode cX7_understandRun 93 = .ok (.lastore, 1) := by decide +kernel
theorem dX7_understandRun_94 : decode cX7_understandRun 94 = .ok (.iinc 5 1, 3) := by decide +kernel
theorem dX7_understandRun_97 : decode cX7_understandRun 97 = .ok (.goto (-43), 3) := by decide +kernel
theorem dX7_understandRun_100 : decode cX7_understandRun 100 = .ok (.iconst (-1), 1) := by decide +kernel
theorem dX7_understandRun_101 : decode cX7_understandRun 101 = .ok (.ireturn, 1) := by decide +kernel
set_option maxRecDepth 20000 in
theorem ggX7_understandNumber_X7_next : GoodIn wsX7_understandNumber wsX7_next := goodIn_r _ [9, 1, 4, 2, 13, 14, 15, 16, 17] (by decide +kernel) (by decide +kernel)
set_option maxRecDepth 20000 in
theorem gX7_understandNumber_X7_next : GoodIn wsX7_understandNumber (wsV RX7 33 RX7 yX7_next wsX7_next) := goodIn_app (goodIn_of _ (by decide +kernel)) ggX7_understandNumber_X7_next
set_option maxRecDepth 20000 in
theorem ggX7_understandNumber_X7_isFigure : GoodIn wsX7_understandNumber wsX7_isFigure := goodIn_r _ [12] (by decide +kernel) (by decide +kernel)
set_option maxRecDepth 20000 in
theorem gX7_understandNumber_X7_isFigure : GoodIn wsX7_understandNumber (va_wsS RX7 61 yX7_isFigure wsX7_isFigure) := goodIn_app (goodIn_of _ (by decide +kernel)) ggX7_understandNumber_X7_isFigure
theorem dX7_understandNumber_0 : decode cX7_understandNumber 0 = .ok (.aload_n 0, 1) := by decide +kernel
theorem dX7_understandNumber_1 : decode cX7_understandNumber 1 = .ok (.invokevirtual 33, 3) := by decide +kernel
theorem dX7_understandNumber_4 : decode cX7_understandNumber 4 = .ok (.invokestatic 61, 3) := by decide +kernel
theorem dX7_understandNumber_7 : decode cX7_understandNumber 7 = .ok (.ifCond .ne 8, 3) := by decide +kernel
theorem dX7_understandNumber_10 : decode cX7_understandNumber 10 = .ok (.aload_n 0, 1) := by decide +kernel
theorem dX7_understandNumber_11 : decode cX7_understandNumber 11 = .ok (.getfield 25, 3) := by decide +kernel
theorem dX7_understandNumber_14 : decode cX7_understandNumber 14 = .ok (.ireturn, 1) := by decide +kernel
theorem dX7_understandNumber_15 : decode cX7_understandNumber 15 = .ok (.aload_n 0, 1) := by decide +kernel
theorem dX7_understandNumber_16 : decode cX7_understandNumber 16 = .ok (.getfield 25, 3) := by decide +kernel
theorem dX7_understandNumber_19 : decode cX7_understandNumber 19 = .ok (.istore_n 1, 1) := by decide +kernel
theorem dX7_understandNumber_20 : decode cX7_understandNumber 20 = .ok (.aload_n 0, 1) := by decide +kernel
theorem dX7_understandNumber_21 : decode cX7_understandNumber 21 = .ok (.aload_n 0, 1) := by decide +kernel
theorem dX7_understandNumber_22 : decode cX7_understandNumber 22 = .ok (.getfield 9, 3) := by decide +kernel
theorem dX7_understandNumber_25 : decode cX7_understandNumber 25 = .ok (.aload_n 0, 1) := by decide +kernel
theorem dX7_understandNumber_26 : decode cX7_understandNumber 26 = .ok (.getfield 25, 3) := by decide +kernel
theorem dX7_understandNumber_29 : decode cX7_understandNumber 29 = .ok (.iaload, 1) := by decide +kernel
theorem dX7_understandNumber_30 : decode cX7_understandNumber 30 = .ok (.bipush 48, 2) := by decide +kernel
theorem dX7_understandNumber_32 : decode cX7_understandNumber 32 = .ok (.isub, 1) := by decide +kernel
theorem dX7_understandNumber_33 : decode cX7_understandNumber 33 = .ok (.putfield 47, 3) := by decide +kernel
theorem dX7_understandNumber_36 : decode cX7_understandNumber 36 = .ok (.aload_n 0, 1) := by decide +kernel
theorem dX7_understandNumber_37 : decode cX7_understandNumber 37 = .ok (.dup, 1) := by decide +kernel
theorem dX7_understandNumber_38 : decode cX7_understandNumber 38 = .ok (.getfield 25, 3) := by decide +kernel
theorem dX7_understandNumber_41 : decode cX7_understandNumber 41 = .ok (.iconst 1, 1) := by decide +kernel
theorem dX7_understandNumber_42 : decode cX7_understandNumber 42 = .ok (.iadd, 1) := by decide +kernel
theorem dX7_understandNumber_43 : decode cX7_understandNumber 43 = .ok (.putfield 25, 3) := by decide +kernel
theorem dX7_understandNumber_46 : decode cX7_understandNumber 46 = .ok (.aload_n 0, 1) := by decide +kernel
theorem dX7_understandNumber_47 : decode cX7_understandNumber 47 = .ok (.getfield 25, 3) := by decide +kernel
theorem dX7_understandNumber_50 : decode cX7_understandNumber 50 = .ok (.aload_n 0, 1) := by decide +kernel
theorem dX7_understandNumber_51 : decode cX7_understandNumber 51 = .ok (.getfield 64, 3) := by decide +kernel
theorem dX7_understandNumber_54 : decode cX7_understandNumber 54 = .ok (.if_icmp .ge 52, 3) := by decide +kernel
theorem dX7_understandNumber_57 : decode cX7_understandNumber 57 = .ok (.aload_n 0, 1) := by decide +kernel
theorem dX7_understandNumber_58 : decode cX7_understandNumber 58 = .ok (.getfield 9, 3) := by decide +kernel
theorem dX7_understandNumber_61 : decode cX7_understandNumber 61 = .ok (.aload_n 0, 1) := by decide +kernel
theorem dX7_understandNumber_62 : decode cX7_understandNumber 62 = .ok (.getfield 25, 3) := by decide +kernel
theorem dX7_understandNumber_65 : decode cX7_understandNumber 65 = .ok (.iaload, 1) := by decide +kernel
theorem dX7_understandNumber_66 : decode cX7_understandNumber 66 = .ok (.invokestatic 61, 3) := by decide +kernel
theorem dX7_understandNumber_69 : decode cX7_understandNumber 69 = .ok (.ifCond .eq 37, 3) := by decide +kernel
theorem dX7_understandNumber_72 : decode cX7_understandNumber 72 = .ok (.aload_n 0, 1) := by decide +kernel
theorem dX7_understandNumber_73 : decode cX7_understandNumber 73 = .ok (.bipush 10, 2) := by decide +kernel
theorem dX7_understandNumber_75 : decode cX7_understandNumber 75 = .ok (.aload_n 0, 1) := by decide +kernel
theorem dX7_understandNumber_76 : decode cX7_understandNumber 76 = .ok (.getfield 47, 3) := by decide +kernel
theorem dX7_understandNumber_79 : decode cX7_understandNumber 79 = .ok (.imul, 1) := by decide +kernel
theorem dX7_understandNumber_80 : decode cX7_understandNumber 80 = .ok (.aload_n 0, 1) := by decide +kernel
theorem dX7_understandNumber_81 : decode cX7_understandNumber 81 = .ok (.getfield 9, 3) := by decide +kernel
theorem dX7_understandNumber_84 : decode cX7_understandNumber 84 = .ok (.aload_n 0, 1) := by decide +kernel
theorem dX7_understandNumber_85 : decode cX7_understandNumber 85 = .ok (.getfield 25, 3) := by decide +kernel
theorem dX7_understandNumber_88 : decode cX7_understandNumber 88 = .ok (.iaload, 1) := by decide +kernel
theorem dX7_understandNumber_89 : decode cX7_understandNumber 89 = .ok (.iadd, 1) := by decide +kernel
theorem dX7_understandNumber_90 : decode cX7_understandNumber 90 = .ok (.bipush 48, 2) := by decide +kernel
theorem dX7_understandNumber_92 : decode cX7_understandNumber 92 = .ok (.isub, 1) := by decide +kernel
theorem dX7_understandNumber_93 : decode cX7_understandNumber 93 = .ok (.putfield 47, 3) := by decide +kernel
theorem dX7_understandNumber_96 : decode cX7_understandNumber 96 = .ok (.aload_n 0, 1) := by decide +kernel
theorem dX7_understandNumber_97 : decode cX7_understandNumber 97 = .ok (.dup, 1) := by decide +kernel
theorem dX7_understandNumber_98 : decode cX7_understandNumber 98 = .ok (.getfield 25, 3) := by decide +kernel
theorem dX7_understandNumber_101 : decode cX7_understandNumber 101 = .ok (.iconst 1, 1) := by decide +kernel
theorem dX7_understandNumber_102 : decode cX7_understandNumber 102 = .ok (.iadd, 1) := by decide +kernel
theorem dX7_understandNumber_103 : decode cX7_understandNumber 103 = .ok (.putfield 25, 3) := by decide +kernel
theorem dX7_understandNumber_106 : decode cX7_understandNumber 106 = .ok (.aload_n 0, 1) := by decide +kernel
theorem dX7_understandNumber_107 : decode cX7_understandNumber 107 = .ok (.getfield 47, 3) := by decide +kernel
theorem dX7_understandNumber_110 : decode cX7_understandNumber 110 = .ok (.bipush 24, 2) := by decide +kernel
theorem dX7_understandNumber_112 : decode cX7_understandNumber 112 = .ok (.if_icmp .ge 7, 3) := by decide +kernel
theorem dX7_understandNumber_115 : decode cX7_understandNumber 115 = .ok (.iconst (-1), 1) := by decide +kernel
theorem dX7_understandNumber_116 : decode cX7_understandNumber 116 = .ok (.goto 4, 3) := by decide +kernel
theorem dX7_understandNumber_119 : decode cX7_understandNumber 119 = .ok (.iload_n 1, 1) := by decide +kernel
theorem dX7_understandNumber_120 : decode cX7_understandNumber 120 = .ok (.ireturn, 1) := by decide +kernel
theorem dX7_isFigure_0 : decode cX7_isFigure 0 = .ok (.iload_n 0, 1) := by decide +kernel
theorem dX7_isFigure_1 : decode cX7_isFigure 1 = .ok (.bipush 48, 2) := by decide +kernel
theorem dX7_isFigure_3 : decode cX7_isFigure 3 = .ok (.if_icmp .lt 13, 3) := by decide +kernel
theorem dX7_isFigure_6 : decode cX7_isFigure 6 = .ok (.iload_n 0, 1) := by decide +kernel
theorem dX7_isFigure_7 : decode cX7_isFigure 7 = .ok (.bipush 57, 2) := by decide +kernel
theorem dX7_isFigure_9 : decode cX7_isFigure 9 = .ok (.if_icmp .gt 7, 3) := by decide +kernel
theorem dX7_isFigure_12 : decode cX7_isFigure 12 = .ok (.iconst 1, 1) := by decide +kernel
theorem dX7_isFigure_13 : decode cX7_isFigure 13 = .ok (.goto 4, 3) := by decide +kernel
theorem dX7_isFigure_16 : decode cX7_isFigure 16 = .ok (.iconst 0, 1) := by decide +kernel
theorem dX7_isFigure_17 : decode cX7_isFigure 17 = .ok (.ireturn, 1) := by decide +kernel
theorem dX7_next_0 : decode cX7_next 0 = .ok (.aload_n 0, 1) := by decide +kernel
theorem dX7_next_1 : decode cX7_next 1 = .ok (.getfield 25, 3) := by decide +kernel
theorem dX7_next_4 : decode cX7_next 4 = .ok (.aload_n 0, 1) := by decide +kernel
theorem dX7_next_5 : decode cX7_next 5 = .ok (.getfield 64, 3) := by decide +kernel
theorem dX7_next_8 : decode cX7_next 8 = .ok (.if_icmp .ge 30, 3) := by decide +kernel
theorem dX7_next_11 : decode cX7_next 11 = .ok (.aload_n 0, 1) := by decide +kernel
theorem dX7_next_12 : decode cX7_next 12 = .ok (.getfield 9, 3) := by decide +kernel
theorem dX7_next_15 : decode cX7_next 15 = .ok (.aload_n 0, 1) := by decide +kernel
theorem dX7_next_16 : decode cX7_next 16 = .ok (.getfield 25, 3) := by decide +kernel
theorem dX7_next_19 : decode cX7_next 19 = .ok (.iaload, 1) := by decide +kernel
theorem dX7_next_20 : decode cX7_next 20 = .ok (.bipush 32, 2) := by decide +kernel
theorem dX7_next_22 : decode cX7_next 22 = .ok (.if_icmp .ne 16, 3) := by decide +kernel
theorem dX7_next_25 : decode cX7_next 25 = .ok (.aload_n 0, 1) := by decide +kernel
theorem dX7_next_26 : decode cX7_next 26 = .ok (.dup, 1) := by decide +kernel
theorem dX7_next_27 : decode cX7_next 27 = .ok (.getfield 25, 3) := by decide +kernel
theorem dX7_next_30 : decode cX7_next 30 = .ok (.iconst 1, 1) := by decide +kernel
theorem dX7_next_31 : decode cX7_next 31 = .ok (.iadd, 1) := by decide +kernel
theorem dX7_next_32 : decode cX7_next 32 = .ok (.putfield 25, 3) := by decide +kernel
theorem dX7_next_35 : decode cX7_next 35 = .ok (.goto (-35), 3) := by decide +kernel
theorem dX7_next_38 : decode cX7_next 38 = .ok (.aload_n 0, 1) := by decide +kernel
theorem dX7_next_39 : decode cX7_next 39 = .ok (.getfield 25, 3) := by decide +kernel
theorem dX7_next_42 : decode cX7_next 42 = .ok (.aload_n 0, 1) := by decide +kernel
theorem dX7_next_43 : decode cX7_next 43 = .ok (.getfield 64, 3) := by decide +kernel
theorem dX7_next_46 : decode cX7_next 46 = .ok (.if_icmp .ge 15, 3) := by decide +kernel
theorem dX7_next_49 : decode cX7_next 49 = .ok (.aload_n 0, 1) := by decide +kernel
theorem dX7_next_50 : decode cX7_next 50 = .ok (.getfield 9, 3) := by decide +kernel
theorem dX7_next_53 : decode cX7_next 53 = .ok (.aload_n 0, 1) := by decide +kernel
theorem dX7_next_54 : decode cX7_next 54 = .ok (.getfield 25, 3) := by decide +kernel
theorem dX7_next_57 : decode cX7_next 57 = .ok (.iaload, 1) := by decide +kernel
theorem dX7_next_58 : decode cX7_next 58 = .ok (.goto 4, 3) := by decide +kernel
theorem dX7_next_61 : decode cX7_next 61 = .ok (.iconst (-1), 1) := by decide +kernel
theorem dX7_next_62 : decode cX7_next 62 = .ok (.ireturn, 1) := by decide +kernel
set_option maxRecDepth 20000 in
theorem ggX7_takes_X7_next : GoodIn wsX7_takes wsX7_next := goodIn_r _ [6, 1, 7, 8, 9, 10, 11, 12, 13] (by decide +kernel) (by decide +kernel)
set_option maxRecDepth 20000 in
theorem gX7_takes_X7_next : GoodIn wsX7_takes (wsV RX7 33 RX7 yX7_next wsX7_next) := goodIn_app (goodIn_of _ (by decide +kernel)) ggX7_takes_X7_next
theorem dX7_takes_0 : decode cX7_takes 0 = .ok (.aload_n 0, 1) := by decide +kernel
theorem dX7_takes_1 : decode cX7_takes 1 = .ok (.invokevirtual 33, 3) := by decide +kernel
theorem dX7_takes_4 : decode cX7_takes 4 = .ok (.iload_n 1, 1) := by decide +kernel
theorem dX7_takes_5 : decode cX7_takes 5 = .ok (.if_icmp .ne 7, 3) := by decide +kernel
theorem dX7_takes_8 : decode cX7_takes 8 = .ok (.iconst 1, 1) := by decide +kernel
theorem dX7_takes_9 : decode cX7_takes 9 = .ok (.goto 4, 3) := by decide +kernel
theorem dX7_takes_12 : decode cX7_takes 12 = .ok (.iconst 0, 1) := by decide +kernel
theorem dX7_takes_13 : decode cX7_takes 13 = .ok (.istore_n 2, 1) := by decide +kernel
theorem dX7_takes_14 : decode cX7_takes 14 = .ok (.iload_n 2, 1) := by decide +kernel
theorem dX7_takes_15 : decode cX7_takes 15 = .ok (.ifCond .eq 13, 3) := by decide +kernel
theorem dX7_takes_18 : decode cX7_takes 18 = .ok (.aload_n 0, 1) := by decide +kernel
theorem dX7_takes_19 : decode cX7_takes 19 = .ok (.dup, 1) := by decide +kernel
theorem dX7_takes_20 : decode cX7_takes 20 = .ok (.getfield 25, 3) := by decide +kernel
theorem dX7_takes_23 : decode cX7_takes 23 = .ok (.iconst 1, 1) := by decide +kernel
theorem dX7_takes_24 : decode cX7_takes 24 = .ok (.iadd, 1) := by decide +kernel
theorem dX7_takes_25 : decode cX7_takes 25 = .ok (.putfield 25, 3) := by decide +kernel
theorem dX7_takes_28 : decode cX7_takes 28 = .ok (.iload_n 2, 1) := by decide +kernel
theorem dX7_takes_29 : decode cX7_takes 29 = .ok (.ireturn, 1) := by decide +kernel
theorem dX8_init_0 : decode cX8_init 0 = .ok (.aload_n 0, 1) := by decide +kernel
theorem dX8_init_1 : decode cX8_init 1 = .ok (.invokespecial 5, 3) := by decide +kernel
theorem dX8_init_4 : decode cX8_init 4 = .ok (.aload_n 0, 1) := by decide +kernel
theorem dX8_init_5 : decode cX8_init 5 = .ok (.sipush 266, 3) := by decide +kernel
theorem dX8_init_8 : decode cX8_init 8 = .ok (.newarray .int, 2) := by decide +kernel
theorem dX8_init_10 : decode cX8_init 10 = .ok (.putfield 13, 3) := by decide +kernel
theorem dX8_init_13 : decode cX8_init 13 = .ok (.aload_n 0, 1) := by decide +kernel
theorem dX8_init_14 : decode cX8_init 14 = .ok (.sipush 1105, 3) := by decide +kernel
theorem dX8_init_17 : decode cX8_init 17 = .ok (.newarray .long, 2) := by decide +kernel
theorem dX8_init_19 : decode cX8_init 19 = .ok (.putfield 17, 3) := by decide +kernel
theorem dX8_init_22 : decode cX8_init 22 = .ok (.return_, 1) := by decide +kernel
theorem dX8_farOf_0 : decode cX8_farOf 0 = .ok (.iload_n 0, 1) := by decide +kernel
theorem dX8_farOf_1 : decode cX8_farOf 1 = .ok (.bipush 9, 2) := by decide +kernel
theorem dX8_farOf_3 : decode cX8_farOf 3 = .ok (.ishr, 1) := by decide +kernel
theorem dX8_farOf_4 : decode cX8_farOf 4 = .ok (.ireturn, 1) := by decide +kernel
theorem dX8_stepsOf_0 : decode cX8_stepsOf 0 = .ok (.iload_n 0, 1) := by decide +kernel
theorem dX8_stepsOf_1 : decode cX8_stepsOf 1 = .ok (.sipush 511, 3) := by decide +kernel
theorem dX8_stepsOf_4 : decode cX8_stepsOf 4 = .ok (.iand, 1) := by decide +kernel
theorem dX8_stepsOf_5 : decode cX8_stepsOf 5 = .ok (.ireturn, 1) := by decide +kernel
set_option maxRecDepth 20000 in
theorem ggX8_spread_J7_fill_53178 : GoodIn wsX8_spread wsJ7_fill_53178 := goodIn_r _ [8] (by decide +kernel) (by decide +kernel)
set_option maxRecDepth 20000 in
theorem gX8_spread_J7_fill_53178 : GoodIn wsX8_spread (va_wsS RX8 22 yJ7_fill_53178 wsJ7_fill_53178) := goodIn_app (goodIn_of _ (by decide +kernel)) ggX8_spread_J7_fill_53178
set_option maxRecDepth 20000 in
theorem ggX8_spread_X0_isLand : GoodIn wsX8_spread wsX0_isLand := goodIn_r _ [13, 14, 67, 68, 69, 70, 71, 72, 73] (by decide +kernel) (by decide +kernel)
set_option maxRecDepth 20000 in
theorem gX8_spread_X0_isLand : GoodIn wsX8_spread (wsV RX8 32 RX0 yX0_isLand wsX0_isLand) := goodIn_app (goodIn_of _ (by decide +kernel)) ggX8_spread_X0_isLand
set_option maxRecDepth 20000 in
theorem ggX8_spread_X8_reach : GoodIn wsX8_spread wsX8_reach := goodIn_r _ [19, 1, 3, 20, 64, 65, 66] (by decide +kernel) (by decide +kernel)
set_option maxRecDepth 20000 in
theorem gX8_spread_X8_reach : GoodIn wsX8_spread (wsV RX8 38 RX8 yX8_reach wsX8_reach) := goodIn_app (goodIn_of _ (by decide +kernel)) ggX8_spread_X8_reach
set_option maxRecDepth 20000 in
theorem ggX8_spread_X8_takeLeast : GoodIn wsX8_spread wsX8_takeLeast := goodIn_r _ [24, 20, 3, 64, 65, 66] (by decide +kernel) (by decide +kernel)
set_option maxRecDepth 20000 in
theorem gX8_spread_X8_takeLeast : GoodIn wsX8_spread (wsV RX8 42 RX8 yX8_takeLeast wsX8_takeLeast) := goodIn_app (goodIn_of _ (by decide +kernel)) ggX8_spread_X8_takeLeast
set_option maxRecDepth 20000 in
theorem ggX8_spread_X8_goOn : GoodIn wsX8_spread wsX8_goOn := goodIn_r _ [28, 1, 29, 30, 31, 32, 33, 34, 35, 36, 37, 38, 39, 40, 41, 42, 43, 44, 45, 46, 47, 48, 49, 50, 18, 51, 52, 53, 54, 55, 56, 57, 12, 58, 59, 60, 61, 62, 63, 9, 10, 11, 13, 14, 15, 16, 17, 19, 3, 20, 64, 65, 66, 67, 68, 69, 70, 71, 72, 73] (by decide +kernel) (by decide +kernel)
set_option maxRecDepth 20000 in
theorem gX8_spread_X8_goOn : GoodIn wsX8_spread (wsV RX8 48 RX8 yX8_goOn wsX8_goOn) := goodIn_app (goodIn_of _ (by decide +kernel)) ggX8_spread_X8_goOn
theorem dX8_spread_0 : decode cX8_spread 0 = .ok (.aload_n 0, 1) := by decide +kernel
theorem dX8_spread_1 : decode cX8_spread 1 = .ok (.getfield 13, 3) := by decide +kernel
theorem dX8_spread_4 : decode cX8_spread 4 = .ok (.ldc 21, 2) := by decide +kernel
theorem dX8_spread_6 : decode cX8_spread 6 = .ok (.invokestatic 22, 3) := by decide +kernel
theorem dX8_spread_9 : decode cX8_spread 9 = .ok (.aload_n 0, 1) := by decide +kernel
theorem dX8_spread_10 : decode cX8_spread 10 = .ok (.iconst 0, 1) := by decide +kernel
theorem dX8_spread_11 : decode cX8_spread 11 = .ok (.putfield 28, 3) := by decide +kernel
theorem dX8_spread_14 : decode cX8_spread 14 = .ok (.aload_n 1, 1) := by decide +kernel
theorem dX8_spread_15 : decode cX8_spread 15 = .ok (.iload_n 2, 1) := by decide +kernel
theorem dX8_spread_16 : decode cX8_spread 16 = .ok (.invokevirtual 32, 3) := by decide +kernel
theorem dX8_spread_19 : decode cX8_spread 19 = .ok (.ifCond .ne 11, 3) := by decide +kernel
theorem dX8_spread_22 : decode cX8_spread 22 = .ok (.aload_n 1, 1) := by decide +kernel
theorem dX8_spread_23 : decode cX8_spread 23 = .ok (.iload_n 3, 1) := by decide +kernel
theorem dX8_spread_24 : decode cX8_spread 24 = .ok (.invokevirtual 32, 3) := by decide +kernel
theorem dX8_spread_27 : decode cX8_spread 27 = .ok (.ifCond .eq 4, 3) := by decide +kernel
theorem dX8_spread_30 : decode cX8_spread 30 = .ok (.return_, 1) := by decide +kernel
theorem dX8_spread_31 : decode cX8_spread 31 = .ok (.aload_n 0, 1) := by decide +kernel
theorem dX8_spread_32 : decode cX8_spread 32 = .ok (.iload_n 2, 1) := by decide +kernel
theorem dX8_spread_33 : decode cX8_spread 33 = .ok (.iconst 0, 1) := by decide +kernel
theorem dX8_spread_34 : decode cX8_spread 34 = .ok (.invokevirtual 38, 3) := by decide +kernel
theorem dX8_spread_37 : decode cX8_spread 37 = .ok (.iconst 0, 1) := by decide +kernel
theorem dX8_spread_38 : decode cX8_spread 38 = .ok (.istore 4, 2) := by decide +kernel
theorem dX8_spread_40 : decode cX8_spread 40 = .ok (.iload 4, 2) := by decide +kernel
theorem dX8_spread_42 : decode cX8_spread 42 = .ok (.sipush 1105, 3) := by decide +kernel
theorem dX8_spread_45 : decode cX8_spread 45 = .ok (.if_icmp .ge 61, 3) := by decide +kernel
theorem dX8_spread_48 : decode cX8_spread 48 = .ok (.aload_n 0, 1) := by decide +kernel
theorem dX8_spread_49 : decode cX8_spread 49 = .ok (.getfield 28, 3) := by decide +kernel
theorem dX8_spread_52 : decode cX8_spread 52 = .ok (.ifCond .le 54, 3) := by decide +kernel
theorem dX8_spread_55 : decode cX8_spread 55 = .ok (.aload_n 0, 1) := by decide +kernel
theorem dX8_spread_56 : decode cX8_spread 56 = .ok (.invokevirtual 42, 3) := by decide +kernel
theorem dX8_spread_59 : decode cX8_spread 59 = .ok (.lstore 5, 2) := by decide +kernel
theorem dX8_spread_61 : decode cX8_spread 61 = .ok (.lload 5, 2) := by decide +kernel
theorem dX8_spread_63 : decode cX8_spread 63 = .ok (.ldc2_w 46, 3) := by decide +kernel
theorem dX8_spread_66 : decode cX8_spread 66 = .ok (.land, 1) := by decide +kernel
theorem dX8_spread_67 : decode cX8_spread 67 = .ok (.l2i, 1) := by decide +kernel
theorem dX8_spread_68 : decode cX8_spread 68 = .ok (.istore 7, 2) := by decide +kernel
theorem dX8_spread_70 : decode cX8_spread 70 = .ok (.iload 7, 2) := by decide +kernel
theorem dX8_spread_72 : decode cX8_spread 72 = .ok (.iload_n 3, 1) := by decide +kernel
theorem dX8_spread_73 : decode cX8_spread 73 = .ok (.if_icmp .ne 4, 3) := by decide +kernel
theorem dX8_spread_76 : decode cX8_spread 76 = .ok (.return_, 1) := by decide +kernel
theorem dX8_spread_77 : decode cX8_spread 77 = .ok (.aload_n 0, 1) := by decide +kernel
theorem dX8_spread_78 : decode cX8_spread 78 = .ok (.getfield 13, 3) := by decide +kernel
theorem dX8_spread_81 : decode cX8_spread 81 = .ok (.iload 7, 2) := by decide +kernel
theorem dX8_spread_83 : decode cX8_spread 83 = .ok (.iaload, 1) := by decide +kernel
theorem dX8_spread_84 : decode cX8_spread 84 = .ok (.lload 5, 2) := by decide +kernel
theorem dX8_spread_86 : decode cX8_spread 86 = .ok (.bipush 9, 2) := by decide +kernel
theorem dX8_spread_88 : decode cX8_spread 88 = .ok (.lshr, 1) := by decide +kernel
theorem dX8_spread_89 : decode cX8_spread 89 = .ok (.l2i, 1) := by decide +kernel
theorem dX8_spread_90 : decode cX8_spread 90 = .ok (.if_icmp .ne 10, 3) := by decide +kernel
theorem dX8_spread_93 : decode cX8_spread 93 = .ok (.aload_n 0, 1) := by decide +kernel
theorem dX8_spread_94 : decode cX8_spread 94 = .ok (.aload_n 1, 1) := by decide +kernel
theorem dX8_spread_95 : decode cX8_spread 95 = .ok (.iload 7, 2) := by decide +kernel
theorem dX8_spread_97 : decode cX8_spread 97 = .ok (.invokevirtual 48, 3) := by decide +kernel
theorem dX8_spread_100 : decode cX8_spread 100 = .ok (.iinc 4 1, 3) := by decide +kernel
theorem dX8_spread_103 : decode cX8_spread 103 = .ok (.goto (-63), 3) := by decide +kernel
theorem dX8_spread_106 : decode cX8_spread 106 = .ok (.return_, 1) := by decide +kernel
set_option maxRecDepth 20000 in
theorem ggX8_goOn_X1_neighbourNumber : GoodIn wsX8_goOn wsX1_neighbourNumber := goodIn_r _ [5, 6, 7, 4, 8] (by decide +kernel) (by decide +kernel)
set_option maxRecDepth 20000 in
theorem gX8_goOn_X1_neighbourNumber : GoodIn wsX8_goOn (va_wsS RX8 52 yX1_neighbourNumber wsX1_neighbourNumber) := goodIn_app (goodIn_of _ (by decide +kernel)) ggX8_goOn_X1_neighbourNumber
set_option maxRecDepth 20000 in
theorem ggX8_goOn_X1_neighbour : GoodIn wsX8_goOn wsX1_neighbour := goodIn_r _ [11, 12, 13, 14, 15, 16, 17, 18, 19, 20, 4, 21, 6, 7, 8] (by decide +kernel) (by decide +kernel)
set_option maxRecDepth 20000 in
theorem gX8_goOn_X1_neighbour : GoodIn wsX8_goOn (va_wsS RX8 56 yX1_neighbour wsX1_neighbour) := goodIn_app (goodIn_of _ (by decide +kernel)) ggX8_goOn_X1_neighbour
set_option maxRecDepth 20000 in
theorem ggX8_goOn_X8_stepCost : GoodIn wsX8_goOn wsX8_stepCost := goodIn_r _ [25, 26, 27, 4, 28, 29, 30, 31, 32, 33, 34, 35, 36, 37, 38, 53, 54, 55, 56, 57, 58, 59] (by decide +kernel) (by decide +kernel)
set_option maxRecDepth 20000 in
theorem gX8_goOn_X8_stepCost : GoodIn wsX8_goOn (va_wsS RX8 60 yX8_stepCost wsX8_stepCost) := goodIn_app (goodIn_of _ (by decide +kernel)) ggX8_goOn_X8_stepCost
set_option maxRecDepth 20000 in
theorem ggX8_goOn_X0_isLand : GoodIn wsX8_goOn wsX0_isLand := goodIn_r _ [42, 43, 53, 54, 55, 56, 57, 58, 59] (by decide +kernel) (by decide +kernel)
set_option maxRecDepth 20000 in
theorem gX8_goOn_X0_isLand : GoodIn wsX8_goOn (wsV RX8 32 RX0 yX0_isLand wsX0_isLand) := goodIn_app (goodIn_of _ (by decide +kernel)) ggX8_goOn_X0_isLand
set_option maxRecDepth 20000 in
theorem ggX8_goOn_X8_reach : GoodIn wsX8_goOn wsX8_reach := goodIn_r _ [47, 1, 48, 49, 50, 51, 52] (by decide +kernel) (by decide +kernel)
set_option maxRecDepth 20000 in
theorem gX8_goOn_X8_reach : GoodIn wsX8_goOn (wsV RX8 38 RX8 yX8_reach wsX8_reach) := goodIn_app (goodIn_of _ (by decide +kernel)) ggX8_goOn_X8_reach
theorem dX8_goOn_0 : decode cX8_goOn 0 = .ok (.iconst 0, 1) := by decide +kernel
theorem dX8_goOn_1 : decode cX8_goOn 1 = .ok (.istore_n 3, 1) := by decide +kernel
theorem dX8_goOn_2 : decode cX8_goOn 2 = .ok (.iload_n 3, 1) := by decide +kernel
theorem dX8_goOn_3 : decode cX8_goOn 3 = .ok (.iload_n 2, 1) := by decide +kernel
theorem dX8_goOn_4 : decode cX8_goOn 4 = .ok (.invokestatic 52, 3) := by decide +kernel
theorem dX8_goOn_7 : decode cX8_goOn 7 = .ok (.if_icmp .ge 61, 3) := by decide +kernel
theorem dX8_goOn_10 : decode cX8_goOn 10 = .ok (.iload_n 2, 1) := by decide +kernel
theorem dX8_goOn_11 : decode cX8_goOn 11 = .ok (.iload_n 3, 1) := by decide +kernel
theorem dX8_goOn_12 : decode cX8_goOn 12 = .ok (.invokestatic 56, 3) := by decide +kernel
theorem dX8_goOn_15 : decode cX8_goOn 15 = .ok (.istore 4, 2) := by decide +kernel
theorem dX8_goOn_17 : decode cX8_goOn 17 = .ok (.aload_n 0, 1) := by decide +kernel
theorem dX8_goOn_18 : decode cX8_goOn 18 = .ok (.getfield 13, 3) := by decide +kernel
theorem dX8_goOn_21 : decode cX8_goOn 21 = .ok (.iload_n 2, 1) := by decide +kernel
theorem dX8_goOn_22 : decode cX8_goOn 22 = .ok (.iaload, 1) := by decide +kernel
theorem dX8_goOn_23 : decode cX8_goOn 23 = .ok (.aload_n 1, 1) := by decide +kernel
theorem dX8_goOn_24 : decode cX8_goOn 24 = .ok (.iload_n 2, 1) := by decide +kernel
theorem dX8_goOn_25 : decode cX8_goOn 25 = .ok (.iload 4, 2) := by decide +kernel
theorem dX8_goOn_27 : decode cX8_goOn 27 = .ok (.invokestatic 60, 3) := by decide +kernel
theorem dX8_goOn_30 : decode cX8_goOn 30 = .ok (.iadd, 1) := by decide +kernel
theorem dX8_goOn_31 : decode cX8_goOn 31 = .ok (.istore 5, 2) := by decide +kernel
theorem dX8_goOn_33 : decode cX8_goOn 33 = .ok (.aload_n 1, 1) := by decide +kernel
theorem dX8_goOn_34 : decode cX8_goOn 34 = .ok (.iload 4, 2) := by decide +kernel
theorem dX8_goOn_36 : decode cX8_goOn 36 = .ok (.invokevirtual 32, 3) := by decide +kernel
theorem dX8_goOn_39 : decode cX8_goOn 39 = .ok (.ifCond .ne 23, 3) := by decide +kernel
theorem dX8_goOn_42 : decode cX8_goOn 42 = .ok (.iload 5, 2) := by decide +kernel
theorem dX8_goOn_44 : decode cX8_goOn 44 = .ok (.aload_n 0, 1) := by decide +kernel
theorem dX8_goOn_45 : decode cX8_goOn 45 = .ok (.getfield 13, 3) := by decide +kernel
theorem dX8_goOn_48 : decode cX8_goOn 48 = .ok (.iload 4, 2) := by decide +kernel
theorem dX8_goOn_50 : decode cX8_goOn 50 = .ok (.iaload, 1) := by decide +kernel
theorem dX8_goOn_51 : decode cX8_goOn 51 = .ok (.if_icmp .ge 11, 3) := by decide +kernel
theorem dX8_goOn_54 : decode cX8_goOn 54 = .ok (.aload_n 0, 1) := by decide +kernel
theorem dX8_goOn_55 : decode cX8_goOn 55 = .ok (.iload 4, 2) := by decide +kernel
theorem dX8_goOn_57 : decode cX8_goOn 57 = .ok (.iload 5, 2) := by decide +kernel
theorem dX8_goOn_59 : decode cX8_goOn 59 = .ok (.invokevirtual 38, 3) := by decide +kernel
theorem dX8_goOn_62 : decode cX8_goOn 62 = .ok (.iinc 3 1, 3) := by decide +kernel
theorem dX8_goOn_65 : decode cX8_goOn 65 = .ok (.goto (-63), 3) := by decide +kernel
theorem dX8_goOn_68 : decode cX8_goOn 68 = .ok (.return_, 1) := by decide +kernel
set_option maxRecDepth 20000 in
theorem ggX8_stepCost_X1_rowOf : GoodIn wsX8_stepCost wsX1_rowOf := goodIn_r _ [4] (by decide +kernel) (by decide +kernel)
set_option maxRecDepth 20000 in
theorem gX8_stepCost_X1_rowOf : GoodIn wsX8_stepCost (va_wsS RX8 64 yX1_rowOf wsX1_rowOf) := goodIn_app (goodIn_of _ (by decide +kernel)) ggX8_stepCost_X1_rowOf
set_option maxRecDepth 20000 in
theorem ggX8_stepCost_X0_far : GoodIn wsX8_stepCost wsX0_far := goodIn_r _ [9, 10, 11, 12, 3, 13, 14, 15, 16, 17, 18, 19, 20, 21] (by decide +kernel) (by decide +kernel)
set_option maxRecDepth 20000 in
theorem gX8_stepCost_X0_far : GoodIn wsX8_stepCost (wsV RX8 67 RX0 yX0_far wsX0_far) := goodIn_app (goodIn_of _ (by decide +kernel)) ggX8_stepCost_X0_far
theorem dX8_stepCost_0 : decode cX8_stepCost 0 = .ok (.aload_n 0, 1) := by decide +kernel
theorem dX8_stepCost_1 : decode cX8_stepCost 1 = .ok (.iload_n 1, 1) := by decide +kernel
theorem dX8_stepCost_2 : decode cX8_stepCost 2 = .ok (.invokestatic 64, 3) := by decide +kernel
theorem dX8_stepCost_5 : decode cX8_stepCost 5 = .ok (.iload_n 2, 1) := by decide +kernel
theorem dX8_stepCost_6 : decode cX8_stepCost 6 = .ok (.invokestatic 64, 3) := by decide +kernel
theorem dX8_stepCost_9 : decode cX8_stepCost 9 = .ok (.invokevirtual 67, 3) := by decide +kernel
theorem dX8_stepCost_12 : decode cX8_stepCost 12 = .ok (.bipush 9, 2) := by decide +kernel
theorem dX8_stepCost_14 : decode cX8_stepCost 14 = .ok (.ishl, 1) := by decide +kernel
theorem dX8_stepCost_15 : decode cX8_stepCost 15 = .ok (.iconst 1, 1) := by decide +kernel
theorem dX8_stepCost_16 : decode cX8_stepCost 16 = .ok (.iadd, 1) := by decide +kernel
theorem dX8_stepCost_17 : decode cX8_stepCost 17 = .ok (.ireturn, 1) := by decide +kernel
set_option maxRecDepth 20000 in
theorem ggX8_leastFirstStep_X1_neighbourNumber : GoodIn wsX8_leastFirstStep wsX1_neighbourNumber := goodIn_r _ [6, 7, 8, 5, 9] (by decide +kernel) (by decide +kernel)
set_option maxRecDepth 20000 in
theorem gX8_leastFirstStep_X1_neighbourNumber : GoodIn wsX8_leastFirstStep (va_wsS RX8 52 yX1_neighbourNumber wsX1_neighbourNumber) := goodIn_app (goodIn_of _ (by decide +kernel)) ggX8_leastFirstStep_X1_neighbourNumber
set_option maxRecDepth 20000 in
theorem ggX8_leastFirstStep_X1_neighbour : GoodIn wsX8_leastFirstStep wsX1_neighbour := goodIn_r _ [12, 13, 14, 15, 16, 17, 18, 19, 20, 21, 5, 22, 7, 8, 9] (by decide +kernel) (by decide +kernel)
set_option maxRecDepth 20000 in
theorem gX8_leastFirstStep_X1_neighbour : GoodIn wsX8_leastFirstStep (va_wsS RX8 56 yX1_neighbour wsX1_neighbour) := goodIn_app (goodIn_of _ (by decide +kernel)) ggX8_leastFirstStep_X1_neighbour
set_option maxRecDepth 20000 in
theorem ggX8_leastFirstStep_X8_stepCost : GoodIn wsX8_leastFirstStep wsX8_stepCost := goodIn_r _ [26, 27, 28, 5, 29, 30, 31, 32, 33, 34, 35, 36, 37, 38, 39, 43, 44, 45, 46, 47, 48, 49] (by decide +kernel) (by decide +kernel)
set_option maxRecDepth 20000 in
theorem gX8_leastFirstStep_X8_stepCost : GoodIn wsX8_leastFirstStep (va_wsS RX8 60 yX8_stepCost wsX8_stepCost) := goodIn_app (goodIn_of _ (by decide +kernel)) ggX8_leastFirstStep_X8_stepCost
theorem dX8_leastFirstStep_0 : decode cX8_leastFirstStep 0 = .ok (.bipush (-4), 2) := by decide +kernel
theorem dX8_leastFirstStep_2 : decode cX8_leastFirstStep 2 = .ok (.istore_n 3, 1) := by decide +kernel
theorem dX8_leastFirstStep_3 : decode cX8_leastFirstStep 3 = .ok (.iconst 0, 1) := by decide +kernel
theorem dX8_leastFirstStep_4 : decode cX8_leastFirstStep 4 = .ok (.istore 4, 2) := by decide +kernel
theorem dX8_leastFirstStep_6 : decode cX8_leastFirstStep 6 = .ok (.iload 4, 2) := by decide +kernel
theorem dX8_leastFirstStep_8 : decode cX8_leastFirstStep 8 = .ok (.iload_n 2, 1) := by decide +kernel
theorem dX8_leastFirstStep_9 : decode cX8_leastFirstStep 9 = .ok (.invokestatic 52, 3) := by decide +kernel
theorem dX8_leastFirstStep_12 : decode cX8_leastFirstStep 12 = .ok (.if_icmp .ge 80, 3) := by decide +kernel
theorem dX8_leastFirstStep_15 : decode cX8_leastFirstStep 15 = .ok (.iload_n 2, 1) := by decide +kernel
theorem dX8_leastFirstStep_16 : decode cX8_leastFirstStep 16 = .ok (.iload 4, 2) := by decide +kernel
theorem dX8_leastFirstStep_18 : decode cX8_leastFirstStep 18 = .ok (.invokestatic 56, 3) := by decide +kernel
theorem dX8_leastFirstStep_21 : decode cX8_leastFirstStep 21 = .ok (.istore 5, 2) := by decide +kernel
theorem dX8_leastFirstStep_23 : decode cX8_leastFirstStep 23 = .ok (.aload_n 0, 1) := by decide +kernel
theorem dX8_leastFirstStep_24 : decode cX8_leastFirstStep 24 = .ok (.getfield 13, 3) := by decide +kernel
theorem dX8_leastFirstStep_27 : decode cX8_leastFirstStep 27 = .ok (.iload 5, 2) := by decide +kernel
theorem dX8_leastFirstStep_29 : decode cX8_leastFirstStep 29 = .ok (.iaload, 1) := by decide +kernel
theorem dX8_leastFirstStep_30 : decode cX8_leastFirstStep 30 = .ok (.ldc 21, 2) := by decide +kernel
theorem dX8_leastFirstStep_32 : decode cX8_leastFirstStep 32 = .ok (.if_icmp .eq 31, 3) := by decide +kernel
theorem dX8_leastFirstStep_35 : decode cX8_leastFirstStep 35 = .ok (.aload_n 0, 1) := by decide +kernel
theorem dX8_leastFirstStep_36 : decode cX8_leastFirstStep 36 = .ok (.getfield 13, 3) := by decide +kernel
theorem dX8_leastFirstStep_39 : decode cX8_leastFirstStep 39 = .ok (.iload 5, 2) := by decide +kernel
theorem dX8_leastFirstStep_41 : decode cX8_leastFirstStep 41 = .ok (.iaload, 1) := by decide +kernel
theorem dX8_leastFirstStep_42 : decode cX8_leastFirstStep 42 = .ok (.aload_n 1, 1) := by decide +kernel
theorem dX8_leastFirstStep_43 : decode cX8_leastFirstStep 43 = .ok (.iload_n 2, 1) := by decide +kernel
theorem dX8_leastFirstStep_44 : decode cX8_leastFirstStep 44 = .ok (.iload 5, 2) := by decide +kernel
theorem dX8_leastFirstStep_46 : decode cX8_leastFirstStep 46 = .ok (.invokestatic 60, 3) := by decide +kernel
theorem dX8_leastFirstStep_49 : decode cX8_leastFirstStep 49 = .ok (.iadd, 1) := by decide +kernel
theorem dX8_leastFirstStep_50 : decode cX8_leastFirstStep 50 = .ok (.aload_n 0, 1) := by decide +kernel
theorem dX8_leastFirstStep_51 : decode cX8_leastFirstStep 51 = .ok (.getfield 13, 3) := by decide +kernel
theorem dX8_leastFirstStep_54 : decode cX8_leastFirstStep 54 = .ok (.iload_n 2, 1) := by decide +kernel
theorem dX8_leastFirstStep_55 : decode cX8_leastFirstStep 55 = .ok (.iaload, 1) := by decide +kernel
theorem dX8_leastFirstStep_56 : decode cX8_leastFirstStep 56 = .ok (.if_icmp .ne 7, 3) := by decide +kernel
theorem dX8_leastFirstStep_59 : decode cX8_leastFirstStep 59 = .ok (.iconst 1, 1) := by decide +kernel
theorem dX8_leastFirstStep_60 : decode cX8_leastFirstStep 60 = .ok (.goto 4, 3) := by decide +kernel
theorem dX8_leastFirstStep_63 : decode cX8_leastFirstStep 63 = .ok (.iconst 0, 1) := by decide +kernel
theorem dX8_leastFirstStep_64 : decode cX8_leastFirstStep 64 = .ok (.istore 6, 2) := by decide +kernel
theorem dX8_leastFirstStep_66 : decode cX8_leastFirstStep 66 = .ok (.iload 6, 2) := by decide +kernel
theorem dX8_leastFirstStep_68 : decode cX8_leastFirstStep 68 = .ok (.ifCond .eq 18, 3) := by decide +kernel
theorem dX8_leastFirstStep_71 : decode cX8_leastFirstStep 71 = .ok (.iload_n 3, 1) := by decide +kernel
theorem dX8_leastFirstStep_72 : decode cX8_leastFirstStep 72 = .ok (.bipush (-4), 2) := by decide +kernel
theorem dX8_leastFirstStep_74 : decode cX8_leastFirstStep 74 = .ok (.if_icmp .eq 9, 3) := by decide +kernel
theorem dX8_leastFirstStep_77 : decode cX8_leastFirstStep 77 = .ok (.iload 5, 2) := by decide +kernel
theorem dX8_leastFirstStep_79 : decode cX8_leastFirstStep 79 = .ok (.iload_n 3, 1) := by decide +kernel
theorem dX8_leastFirstStep_80 : decode cX8_leastFirstStep 80 = .ok (.if_icmp .ge 6, 3) := by decide +kernel
theorem dX8_leastFirstStep_83 : decode cX8_leastFirstStep 83 = .ok (.iload 5, 2) := by decide +kernel
theorem dX8_leastFirstStep_85 : decode cX8_leastFirstStep 85 = .ok (.istore_n 3, 1) := by decide +kernel
theorem dX8_leastFirstStep_86 : decode cX8_leastFirstStep 86 = .ok (.iinc 4 1, 3) := by decide +kernel
theorem dX8_leastFirstStep_89 : decode cX8_leastFirstStep 89 = .ok (.goto (-83), 3) := by decide +kernel
theorem dX8_leastFirstStep_92 : decode cX8_leastFirstStep 92 = .ok (.iload_n 3, 1) := by decide +kernel
theorem dX8_leastFirstStep_93 : decode cX8_leastFirstStep 93 = .ok (.ireturn, 1) := by decide +kernel
theorem dX8_reach_0 : decode cX8_reach 0 = .ok (.aload_n 0, 1) := by decide +kernel
theorem dX8_reach_1 : decode cX8_reach 1 = .ok (.getfield 13, 3) := by decide +kernel
theorem dX8_reach_4 : decode cX8_reach 4 = .ok (.iload_n 1, 1) := by decide +kernel
theorem dX8_reach_5 : decode cX8_reach 5 = .ok (.iload_n 2, 1) := by decide +kernel
theorem dX8_reach_6 : decode cX8_reach 6 = .ok (.iastore, 1) := by decide +kernel
theorem dX8_reach_7 : decode cX8_reach 7 = .ok (.aload_n 0, 1) := by decide +kernel
theorem dX8_reach_8 : decode cX8_reach 8 = .ok (.getfield 28, 3) := by decide +kernel
theorem dX8_reach_11 : decode cX8_reach 11 = .ok (.sipush 1105, 3) := by decide +kernel
theorem dX8_reach_14 : decode cX8_reach 14 = .ok (.if_icmp .lt 4, 3) := by decide +kernel
theorem dX8_reach_17 : decode cX8_reach 17 = .ok (.return_, 1) := by decide +kernel
theorem dX8_reach_18 : decode cX8_reach 18 = .ok (.iload_n 2, 1) := by decide +kernel
theorem dX8_reach_19 : decode cX8_reach 19 = .ok (.i2l, 1) := by decide +kernel
theorem dX8_reach_20 : decode cX8_reach 20 = .ok (.bipush 9, 2) := by decide +kernel
theorem dX8_reach_22 : decode cX8_reach 22 = .ok (.lshl, 1) := by decide +kernel
theorem dX8_reach_23 : decode cX8_reach 23 = .ok (.iload_n 1, 1) := by decide +kernel
theorem dX8_reach_24 : decode cX8_reach 24 = .ok (.i2l, 1) := by decide +kernel
theorem dX8_reach_25 : decode cX8_reach 25 = .ok (.ladd, 1) := by decide +kernel
theorem dX8_reach_26 : decode cX8_reach 26 = .ok (.lstore_n 3, 1) := by decide +kernel
theorem dX8_reach_27 : decode cX8_reach 27 = .ok (.aload_n 0, 1) := by decide +kernel
theorem dX8_reach_28 : decode cX8_reach 28 = .ok (.getfield 28, 3) := by decide +kernel
theorem dX8_reach_31 : decode cX8_reach 31 = .ok (.istore 5, 2) := by decide +kernel
theorem dX8_reach_33 : decode cX8_reach 33 = .ok (.aload_n 0, 1) := by decide +kernel
theorem dX8_reach_34 : decode cX8_reach 34 = .ok (.dup, 1) := by decide +kernel
theorem dX8_reach_35 : decode cX8_reach 35 = .ok (.getfield 28, 3) := by decide +kernel
theorem dX8_reach_38 : decode cX8_reach 38 = .ok (.iconst 1, 1) := by decide +kernel
theorem dX8_reach_39 : decode cX8_reach 39 = .ok (.iadd, 1) := by decide +kernel
theorem dX8_reach_40 : decode cX8_reach 40 = .ok (.putfield 28, 3) := by decide +kernel
theorem dX8_reach_43 : decode cX8_reach 43 = .ok (.iload 5, 2) := by decide +kernel
theorem dX8_reach_45 : decode cX8_reach 45 = .ok (.ifCond .le 48, 3) := by decide +kernel
theorem dX8_reach_48 : decode cX8_reach 48 = .ok (.aload_n 0, 1) := by decide +kernel
theorem dX8_reach_49 : decode cX8_reach 49 = .ok (.getfield 17, 3) := by decide +kernel
theorem dX8_reach_52 : decode cX8_reach 52 = .ok (.iload 5, 2) := by decide +kernel
theorem dX8_reach_54 : decode cX8_reach 54 = .ok (.iconst 1, 1) := by decide +kernel
theorem dX8_reach_55 : decode cX8_reach 55 = .ok (.isub, 1) := by decide +kernel
theorem dX8_reach_56 : decode cX8_reach 56 = .ok (.iconst 2, 1) := by decide +kernel
theorem dX8_reach_57 : decode cX8_reach 57 = .ok (.idiv, 1) := by decide +kernel
theorem dX8_reach_58 : decode cX8_reach 58 = .ok (.laload, 1) := by decide +kernel
theorem dX8_reach_59 : decode cX8_reach 59 = .ok (.lload_n 3, 1) := by decide +kernel
theorem dX8_reach_60 : decode cX8_reach 60 = .ok (.lcmp, 1) := by decide +kernel
theorem dX8_reach_61 : decode cX8_reach 61 = .ok (.ifCond .le 32, 3) := by decide +kernel
theorem dX8_reach_64 : decode cX8_reach 64 = .ok (.aload_n 0, 1) := by decide +kernel
theorem dX8_reach_65 : decode cX8_reach 65 = .ok (.getfield 17, 3) := by decide +kernel
theorem dX8_reach_68 : decode cX8_reach 68 = .ok (.iload 5, 2) := by decide +kernel
theorem dX8_reach_70 : decode cX8_reach 70 = .ok (.aload_n 0, 1) := by decide +kernel
theorem dX8_reach_71 : decode cX8_reach 71 = .ok (.getfield 17, 3) := by decide +kernel
theorem dX8_reach_74 : decode cX8_reach 74 = .ok (.iload 5, 2) := by decide +kernel
theorem dX8_reach_76 : decode cX8_reach 76 = .ok (.iconst 1, 1) := by decide +kernel
theorem dX8_reach_77 : decode cX8_reach 77 = .ok (.isub, 1) := by decide +kernel
theorem dX8_reach_78 : decode cX8_reach 78 = .ok (.iconst 2, 1) := by decide +kernel
theorem dX8_reach_79 : decode cX8_reach 79 = .ok (.idiv, 1) := by decide +kernel
theorem dX8_reach_80 : decode cX8_reach 80 = .ok (.laload, 1) := by decide +kernel
theorem dX8_reach_81 : decode cX8_reach 81 = .ok (.lastore, 1) := by decide +kernel
theorem dX8_reach_82 : decode cX8_reach 82 = .ok (.iload 5, 2) := by decide +kernel
theorem dX8_reach_84 : decode cX8_reach 84 = .ok (.iconst 1, 1) := by decide +kernel
theorem dX8_reach_85 : decode cX8_reach 85 = .ok (.isub, 1) := by decide +kernel
theorem dX8_reach_86 : decode cX8_reach 86 = .ok (.iconst 2, 1) := by decide +kernel
theorem dX8_reach_87 : decode cX8_reach 87 = .ok (.idiv, 1) := by decide +kernel
theorem dX8_reach_88 : decode cX8_reach 88 = .ok (.istore 5, 2) := by decide +kernel
theorem dX8_reach_90 : decode cX8_reach 90 = .ok (.goto (-47), 3) := by decide +kernel
theorem dX8_reach_93 : decode cX8_reach 93 = .ok (.aload_n 0, 1) := by decide +kernel
theorem dX8_reach_94 : decode cX8_reach 94 = .ok (.getfield 17, 3) := by decide +kernel
theorem dX8_reach_97 : decode cX8_reach 97 = .ok (.iload 5, 2) := by decide +kernel
theorem dX8_reach_99 : decode cX8_reach 99 = .ok (.lload_n 3, 1) := by decide +kernel
theorem dX8_reach_100 : decode cX8_reach 100 = .ok (.lastore, 1) := by decide +kernel
theorem dX8_reach_101 : decode cX8_reach 101 = .ok (.return_, 1) := by decide +kernel
theorem dX8_takeLeast_0 : decode cX8_takeLeast 0 = .ok (.aload_n 0, 1) := by decide +kernel
theorem dX8_takeLeast_1 : decode cX8_takeLeast 1 = .ok (.getfield 17, 3) := by decide +kernel
theorem dX8_takeLeast_4 : decode cX8_takeLeast 4 = .ok (.iconst 0, 1) := by decide +kernel
theorem dX8_takeLeast_5 : decode cX8_takeLeast 5 = .ok (.laload, 1) := by decide +kernel
theorem dX8_takeLeast_6 : decode cX8_takeLeast 6 = .ok (.lstore_n 1, 1) := by decide +kernel
theorem dX8_takeLeast_7 : decode cX8_takeLeast 7 = .ok (.aload_n 0, 1) := by decide +kernel
theorem dX8_takeLeast_8 : decode cX8_takeLeast 8 = .ok (.dup, 1) := by decide +kernel
theorem dX8_takeLeast_9 : decode cX8_takeLeast 9 = .ok (.getfield 28, 3) := by decide +kernel
theorem dX8_takeLeast_12 : decode cX8_takeLeast 12 = .ok (.iconst 1, 1) := by decide +kernel
theorem dX8_takeLeast_13 : decode cX8_takeLeast 13 = .ok (.isub, 1) := by decide +kernel
theorem dX8_takeLeast_14 : decode cX8_takeLeast 14 = .ok (.putfield 28, 3) := by decide +kernel
theorem dX8_takeLeast_17 : decode cX8_takeLeast 17 = .ok (.aload_n 0, 1) := by decide +kernel
theorem dX8_takeLeast_18 : decode cX8_takeLeast 18 = .ok (.getfield 17, 3) := by decide +kernel
theorem dX8_takeLeast_21 : decode cX8_takeLeast 21 = .ok (.aload_n 0, 1) := by decide +kernel
theorem dX8_takeLeast_22 : decode cX8_takeLeast 22 = .ok (.getfield 28, 3) := by decide +kernel
theorem dX8_takeLeast_25 : decode cX8_takeLeast 25 = .ok (.laload, 1) := by decide +kernel
theorem dX8_takeLeast_26 : decode cX8_takeLeast 26 = .ok (.lstore_n 3, 1) := by decide +kernel
theorem dX8_takeLeast_27 : decode cX8_takeLeast 27 = .ok (.iconst 0, 1) := by decide +kernel
theorem dX8_takeLeast_28 : decode cX8_takeLeast 28 = .ok (.istore 5, 2) := by decide +kernel
theorem dX8_takeLeast_30 : decode cX8_takeLeast 30 = .ok (.iconst 1, 1) := by decide +kernel
theorem dX8_takeLeast_31 : decode cX8_takeLeast 31 = .ok (.istore 6, 2) := by decide +kernel
theorem dX8_takeLeast_33 : decode cX8_takeLeast 33 = .ok (.iload 6, 2) := by decide +kernel
theorem dX8_takeLeast_35 : decode cX8_takeLeast 35 = .ok (.aload_n 0, 1) := by decide +kernel
theorem dX8_takeLeast_36 : decode cX8_takeLeast 36 = .ok (.getfield 28, 3) := by decide +kernel
theorem dX8_takeLeast_39 : decode cX8_takeLeast 39 = .ok (.if_icmp .ge 81, 3) := by decide +kernel
theorem dX8_takeLeast_42 : decode cX8_takeLeast 42 = .ok (.iload 6, 2) := by decide +kernel
theorem dX8_takeLeast_44 : decode cX8_takeLeast 44 = .ok (.iconst 1, 1) := by decide +kernel
theorem dX8_takeLeast_45 : decode cX8_takeLeast 45 = .ok (.iadd, 1) := by decide +kernel
theorem dX8_takeLeast_46 : decode cX8_takeLeast 46 = .ok (.aload_n 0, 1) := by decide +kernel
theorem dX8_takeLeast_47 : decode cX8_takeLeast 47 = .ok (.getfield 28, 3) := by decide +kernel
theorem dX8_takeLeast_50 : decode cX8_takeLeast 50 = .ok (.if_icmp .ge 26, 3) := by decide +kernel
theorem dX8_takeLeast_53 : decode cX8_takeLeast 53 = .ok (.aload_n 0, 1) := by decide +kernel
theorem dX8_takeLeast_54 : decode cX8_takeLeast 54 = .ok (.getfield 17, 3) := by decide +kernel
theorem dX8_takeLeast_57 : decode cX8_takeLeast 57 = .ok (.iload 6, 2) := by decide +kernel
theorem dX8_takeLeast_59 : decode cX8_takeLeast 59 = .ok (.iconst 1, 1) := by decide +kernel
theorem dX8_takeLeast_60 : decode cX8_takeLeast 60 = .ok (.iadd, 1) := by decide +kernel
theorem dX8_takeLeast_61 : decode cX8_takeLeast 61 = .ok (.laload, 1) := by decide +kernel
theorem dX8_takeLeast_62 : decode cX8_takeLeast 62 = .ok (.aload_n 0, 1) := by decide +kernel
theorem dX8_takeLeast_63 : decode cX8_takeLeast 63 = .ok (.getfield 17, 3) := by decide +kernel
theorem dX8_takeLeast_66 : decode cX8_takeLeast 66 = .ok (.iload 6, 2) := by decide +kernel
theorem dX8_takeLeast_68 : decode cX8_takeLeast 68 = .ok (.laload, 1) := by decide +kernel
theorem dX8_takeLeast_69 : decode cX8_takeLeast 69 = .ok (.lcmp, 1) := by decide +kernel
theorem dX8_takeLeast_70 : decode cX8_takeLeast 70 = .ok (.ifCond .ge 6, 3) := by decide +kernel
theorem dX8_takeLeast_73 : decode cX8_takeLeast 73 = .ok (.iinc 6 1, 3) := by decide +kernel
theorem dX8_takeLeast_76 : decode cX8_takeLeast 76 = .ok (.aload_n 0, 1) := by decide +kernel
theorem dX8_takeLeast_77 : decode cX8_takeLeast 77 = .ok (.getfield 17, 3) := by decide +kernel
theorem dX8_takeLeast_80 : decode cX8_takeLeast 80 = .ok (.iload 6, 2) := by decide +kernel
theorem dX8_takeLeast_82 : decode cX8_takeLeast 82 = .ok (.laload, 1) := by decide +kernel
theorem dX8_takeLeast_83 : decode cX8_takeLeast 83 = .ok (.lload_n 3, 1) := by decide +kernel
theorem dX8_takeLeast_84 : decode cX8_takeLeast 84 = .ok (.lcmp, 1) := by decide +kernel
theorem dX8_takeLeast_85 : decode cX8_takeLeast 85 = .ok (.ifCond .lt 6, 3) := by decide +kernel
theorem dX8_takeLeast_88 : decode cX8_takeLeast 88 = .ok (.goto 32, 3) := by decide +kernel
theorem dX8_takeLeast_91 : decode cX8_takeLeast 91 = .ok (.aload_n 0, 1) := by decide +kernel
theorem dX8_takeLeast_92 : decode cX8_takeLeast 92 = .ok (.getfield 17, 3) := by decide +kernel
theorem dX8_takeLeast_95 : decode cX8_takeLeast 95 = .ok (.iload 5, 2) := by decide +kernel
theorem dX8_takeLeast_97 : decode cX8_takeLeast 97 = .ok (.aload_n 0, 1) := by decide +kernel
theorem dX8_takeLeast_98 : decode cX8_takeLeast 98 = .ok (.getfield 17, 3) := by decide +kernel
theorem dX8_takeLeast_101 : decode cX8_takeLeast 101 = .ok (.iload 6, 2) := by decide +kernel
theorem dX8_takeLeast_103 : decode cX8_takeLeast 103 = .ok (.laload, 1) := by decide +kernel
theorem dX8_takeLeast_104 : decode cX8_takeLeast 104 = .ok (.lastore, 1) := by decide +kernel
theorem dX8_takeLeast_105 : decode cX8_takeLeast 105 = .ok (.iload 6, 2) := by decide +kernel
theorem dX8_takeLeast_107 : decode cX8_takeLeast 107 = .ok (.istore 5, 2) := by decide +kernel
theorem dX8_takeLeast_109 : decode cX8_takeLeast 109 = .ok (.iconst 2, 1) := by decide +kernel
theorem dX8_takeLeast_110 : decode cX8_takeLeast 110 = .ok (.iload 5, 2) := by decide +kernel
theorem dX8_takeLeast_112 : decode cX8_takeLeast 112 = .ok (.imul, 1) := by decide +kernel
theorem dX8_takeLeast_113 : decode cX8_takeLeast 113 = .ok (.iconst 1, 1) := by decide +kernel
theorem dX8_takeLeast_114 : decode cX8_takeLeast 114 = .ok (.iadd, 1) := by decide +kernel
theorem dX8_takeLeast_115 : decode cX8_takeLeast 115 = .ok (.istore 6, 2) := by decide +kernel
theorem dX8_takeLeast_117 : decode cX8_takeLeast 117 = .ok (.goto (-84), 3) := by decide +kernel
theorem dX8_takeLeast_120 : decode cX8_takeLeast 120 = .ok (.aload_n 0, 1) := by decide +kernel
theorem dX8_takeLeast_121 : decode cX8_takeLeast 121 = .ok (.getfield 17, 3) := by decide +kernel
theorem dX8_takeLeast_124 : decode cX8_takeLeast 124 = .ok (.iload 5, 2) := by decide +kernel
theorem dX8_takeLeast_126 : decode cX8_takeLeast 126 = .ok (.lload_n 3, 1) := by decide +kernel
theorem dX8_takeLeast_127 : decode cX8_takeLeast 127 = .ok (.lastore, 1) := by decide +kernel
theorem dX8_takeLeast_128 : decode cX8_takeLeast 128 = .ok (.lload_n 1, 1) := by decide +kernel
theorem dX8_takeLeast_129 : decode cX8_takeLeast 129 = .ok (.lreturn, 1) := by decide +kernel
theorem dX9_init_0 : decode cX9_init 0 = .ok (.aload_n 0, 1) := by decide +kernel
theorem dX9_init_1 : decode cX9_init 1 = .ok (.invokespecial 1, 3) := by decide +kernel
theorem dX9_init_4 : decode cX9_init 4 = .ok (.return_, 1) := by decide +kernel
set_option maxRecDepth 20000 in
theorem ggX9_seek_X1_neighbourNumber : GoodIn wsX9_seek wsX1_neighbourNumber := goodIn_r _ [5, 6, 7, 4, 8] (by decide +kernel) (by decide +kernel)
set_option maxRecDepth 20000 in
theorem gX9_seek_X1_neighbourNumber : GoodIn wsX9_seek (va_wsS RX9 15 yX1_neighbourNumber wsX1_neighbourNumber) := goodIn_app (goodIn_of _ (by decide +kernel)) ggX9_seek_X1_neighbourNumber
set_option maxRecDepth 20000 in
theorem ggX9_seek_X1_neighbour : GoodIn wsX9_seek wsX1_neighbour := goodIn_r _ [11, 12, 13, 14, 15, 16, 17, 18, 19, 20, 4, 21, 6, 7, 8] (by decide +kernel) (by decide +kernel)
set_option maxRecDepth 20000 in
theorem gX9_seek_X1_neighbour : GoodIn wsX9_seek (va_wsS RX9 19 yX1_neighbour wsX1_neighbour) := goodIn_app (goodIn_of _ (by decide +kernel)) ggX9_seek_X1_neighbour
set_option maxRecDepth 20000 in
theorem ggX9_seek_X0_areOnStrips : GoodIn wsX9_seek wsX0_areOnStrips := goodIn_r _ [26, 27, 28, 4, 29, 30, 31, 32, 25, 33, 34, 35, 14, 36, 37, 83, 84, 85, 86, 87, 88, 89] (by decide +kernel) (by decide +kernel)
set_option maxRecDepth 20000 in
theorem gX9_seek_X0_areOnStrips : GoodIn wsX9_seek (wsV RX9 23 RX0 yX0_areOnStrips wsX0_areOnStrips) := goodIn_app (goodIn_of _ (by decide +kernel)) ggX9_seek_X0_areOnStrips
set_option maxRecDepth 20000 in
theorem ggX9_seek_X9_consider : GoodIn wsX9_seek wsX9_consider := goodIn_r _ [42, 43, 35, 14, 36, 1, 44, 45, 46, 28, 4, 29, 47, 48, 49, 25, 50, 51, 52, 53, 54, 55, 56, 57, 58, 59, 60, 61, 62, 63, 64, 65, 66, 67, 68, 20, 21, 6, 7, 8, 69, 70, 71, 72, 73, 74, 75, 76, 77, 78, 79, 80, 81, 82, 83, 84, 85, 86, 87, 88, 89] (by decide +kernel) (by decide +kernel)
set_option maxRecDepth 20000 in
theorem gX9_seek_X9_consider : GoodIn wsX9_seek (wsV RX9 29 RX9 yX9_consider wsX9_consider) := goodIn_app (goodIn_of _ (by decide +kernel)) ggX9_seek_X9_consider
theorem dX9_seek_0 : decode cX9_seek 0 = .ok (.aload_n 0, 1) := by decide +kernel
theorem dX9_seek_1 : decode cX9_seek 1 = .ok (.iconst (-1), 1) := by decide +kernel
theorem dX9_seek_2 : decode cX9_seek 2 = .ok (.putfield 7, 3) := by decide +kernel
theorem dX9_seek_5 : decode cX9_seek 5 = .ok (.iconst 0, 1) := by decide +kernel
theorem dX9_seek_6 : decode cX9_seek 6 = .ok (.istore_n 2, 1) := by decide +kernel
theorem dX9_seek_7 : decode cX9_seek 7 = .ok (.iload_n 2, 1) := by decide +kernel
theorem dX9_seek_8 : decode cX9_seek 8 = .ok (.sipush 266, 3) := by decide +kernel
theorem dX9_seek_11 : decode cX9_seek 11 = .ok (.if_icmp .ge 56, 3) := by decide +kernel
theorem dX9_seek_14 : decode cX9_seek 14 = .ok (.iconst 0, 1) := by decide +kernel
theorem dX9_seek_15 : decode cX9_seek 15 = .ok (.istore_n 3, 1) := by decide +kernel
theorem dX9_seek_16 : decode cX9_seek 16 = .ok (.iload_n 3, 1) := by decide +kernel
theorem dX9_seek_17 : decode cX9_seek 17 = .ok (.iload_n 2, 1) := by decide +kernel
theorem dX9_seek_18 : decode cX9_seek 18 = .ok (.invokestatic 15, 3) := by decide +kernel
theorem dX9_seek_21 : decode cX9_seek 21 = .ok (.if_icmp .ge 40, 3) := by decide +kernel
theorem dX9_seek_24 : decode cX9_seek 24 = .ok (.iload_n 2, 1) := by decide +kernel
theorem dX9_seek_25 : decode cX9_seek 25 = .ok (.iload_n 3, 1) := by decide +kernel
theorem dX9_seek_26 : decode cX9_seek 26 = .ok (.invokestatic 19, 3) := by decide +kernel
theorem dX9_seek_29 : decode cX9_seek 29 = .ok (.istore 4, 2) := by decide +kernel
theorem dX9_seek_31 : decode cX9_seek 31 = .ok (.iload 4, 2) := by decide +kernel
theorem dX9_seek_33 : decode cX9_seek 33 = .ok (.iload_n 2, 1) := by decide +kernel
theorem dX9_seek_34 : decode cX9_seek 34 = .ok (.if_icmp .le 21, 3) := by decide +kernel
theorem dX9_seek_37 : decode cX9_seek 37 = .ok (.aload_n 1, 1) := by decide +kernel
theorem dX9_seek_38 : decode cX9_seek 38 = .ok (.iload_n 2, 1) := by decide +kernel
theorem dX9_seek_39 : decode cX9_seek 39 = .ok (.iload 4, 2) := by decide +kernel
theorem dX9_seek_41 : decode cX9_seek 41 = .ok (.invokevirtual 23, 3) := by decide +kernel
theorem dX9_seek_44 : decode cX9_seek 44 = .ok (.ifCond .eq 11, 3) := by decide +kernel
theorem dX9_seek_47 : decode cX9_seek 47 = .ok (.aload_n 0, 1) := by decide +kernel
theorem dX9_seek_48 : decode cX9_seek 48 = .ok (.aload_n 1, 1) := by decide +kernel
theorem dX9_seek_49 : decode cX9_seek 49 = .ok (.iload_n 2, 1) := by decide +kernel
theorem dX9_seek_50 : decode cX9_seek 50 = .ok (.iload 4, 2) := by decide +kernel
theorem dX9_seek_52 : decode cX9_seek 52 = .ok (.invokevirtual 29, 3) := by decide +kernel
theorem dX9_seek_55 : decode cX9_seek 55 = .ok (.iinc 3 1, 3) := by decide +kernel
theorem dX9_seek_58 : decode cX9_seek 58 = .ok (.goto (-42), 3) := by decide +kernel
theorem dX9_seek_61 : decode cX9_seek 61 = .ok (.iinc 2 1, 3) := by decide +kernel
theorem dX9_seek_64 : decode cX9_seek 64 = .ok (.goto (-57), 3) := by decide +kernel
theorem dX9_seek_67 : decode cX9_seek 67 = .ok (.return_, 1) := by decide +kernel
set_option maxRecDepth 20000 in
theorem ggX9_consider_X1_rowOf : GoodIn wsX9_consider wsX1_rowOf := goodIn_r _ [11] (by decide +kernel) (by decide +kernel)
set_option maxRecDepth 20000 in
theorem gX9_consider_X1_rowOf : GoodIn wsX9_consider (va_wsS RX9 33 yX1_rowOf wsX1_rowOf) := goodIn_app (goodIn_of _ (by decide +kernel)) ggX9_consider_X1_rowOf
set_option maxRecDepth 20000 in
theorem ggX9_consider_X0_far : GoodIn wsX9_consider wsX0_far := goodIn_r _ [16, 17, 18, 19, 10, 20, 21, 54, 55, 56, 57, 58, 59, 60] (by decide +kernel) (by decide +kernel)
set_option maxRecDepth 20000 in
theorem gX9_consider_X0_far : GoodIn wsX9_consider (wsV RX9 36 RX0 yX0_far wsX0_far) := goodIn_app (goodIn_of _ (by decide +kernel)) ggX9_consider_X0_far
set_option maxRecDepth 20000 in
theorem ggX9_consider_X3_straight : GoodIn wsX9_consider wsX3_straight := goodIn_r _ [25, 26, 27, 2, 3, 4, 28, 29, 30, 15, 31, 32, 33, 9, 10, 11, 34, 35, 36, 37, 38, 39, 40, 41, 24, 42, 43, 44, 45, 46, 19, 20, 21, 47, 48, 49, 50, 54, 55, 56, 57, 58, 59, 60] (by decide +kernel) (by decide +kernel)
set_option maxRecDepth 20000 in
theorem gX9_consider_X3_straight : GoodIn wsX9_consider (va_wsS RX9 39 yX3_straight wsX3_straight) := goodIn_app (goodIn_of _ (by decide +kernel)) ggX9_consider_X3_straight
theorem dX9_consider_0 : decode cX9_consider 0 = .ok (.aload_n 1, 1) := by decide +kernel
theorem dX9_consider_1 : decode cX9_consider 1 = .ok (.iload_n 2, 1) := by decide +kernel
theorem dX9_consider_2 : decode cX9_consider 2 = .ok (.invokestatic 33, 3) := by decide +kernel
theorem dX9_consider_5 : decode cX9_consider 5 = .ok (.iload_n 3, 1) := by decide +kernel
theorem dX9_consider_6 : decode cX9_consider 6 = .ok (.invokestatic 33, 3) := by decide +kernel
theorem dX9_consider_9 : decode cX9_consider 9 = .ok (.invokevirtual 36, 3) := by decide +kernel
theorem dX9_consider_12 : decode cX9_consider 12 = .ok (.istore 4, 2) := by decide +kernel
theorem dX9_consider_14 : decode cX9_consider 14 = .ok (.aload_n 1, 1) := by decide +kernel
theorem dX9_consider_15 : decode cX9_consider 15 = .ok (.iload_n 2, 1) := by decide +kernel
theorem dX9_consider_16 : decode cX9_consider 16 = .ok (.iload_n 3, 1) := by decide +kernel
theorem dX9_consider_17 : decode cX9_consider 17 = .ok (.invokestatic 39, 3) := by decide +kernel
theorem dX9_consider_20 : decode cX9_consider 20 = .ok (.iload 4, 2) := by decide +kernel
theorem dX9_consider_22 : decode cX9_consider 22 = .ok (.isub, 1) := by decide +kernel
theorem dX9_consider_23 : decode cX9_consider 23 = .ok (.invokestatic 45, 3) := by decide +kernel
theorem dX9_consider_26 : decode cX9_consider 26 = .ok (.istore 5, 2) := by decide +kernel
theorem dX9_consider_28 : decode cX9_consider 28 = .ok (.iload 5, 2) := by decide +kernel
theorem dX9_consider_30 : decode cX9_consider 30 = .ok (.aload_n 0, 1) := by decide +kernel
theorem dX9_consider_31 : decode cX9_consider 31 = .ok (.getfield 7, 3) := by decide +kernel
theorem dX9_consider_34 : decode cX9_consider 34 = .ok (.if_icmp .le 19, 3) := by decide +kernel
theorem dX9_consider_37 : decode cX9_consider 37 = .ok (.aload_n 0, 1) := by decide +kernel
theorem dX9_consider_38 : decode cX9_consider 38 = .ok (.iload 5, 2) := by decide +kernel
theorem dX9_consider_40 : decode cX9_consider 40 = .ok (.putfield 7, 3) := by decide +kernel
theorem dX9_consider_43 : decode cX9_consider 43 = .ok (.aload_n 0, 1) := by decide +kernel
theorem dX9_consider_44 : decode cX9_consider 44 = .ok (.iload_n 2, 1) := by decide +kernel
theorem dX9_consider_45 : decode cX9_consider 45 = .ok (.putfield 50, 3) := by decide +kernel
theorem dX9_consider_48 : decode cX9_consider 48 = .ok (.aload_n 0, 1) := by decide +kernel
theorem dX9_consider_49 : decode cX9_consider 49 = .ok (.iload_n 3, 1) := by decide +kernel
theorem dX9_consider_50 : decode cX9_consider 50 = .ok (.putfield 53, 3) := by decide +kernel
theorem dX9_consider_53 : decode cX9_consider 53 = .ok (.return_, 1) := by decide +kernel
