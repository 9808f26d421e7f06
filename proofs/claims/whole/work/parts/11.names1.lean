theorem dX0_has_0 : decode cX0_has 0 = .ok (.lload_n 0, 1) := by decide +kernel
theorem dX0_has_1 : decode cX0_has 1 = .ok (.iload_n 2, 1) := by decide +kernel
theorem dX0_has_2 : decode cX0_has 2 = .ok (.lushr, 1) := by decide +kernel
theorem dX0_has_3 : decode cX0_has 3 = .ok (.lconst 1, 1) := by decide +kernel
theorem dX0_has_4 : decode cX0_has 4 = .ok (.land, 1) := by decide +kernel
theorem dX0_has_5 : decode cX0_has 5 = .ok (.lconst 0, 1) := by decide +kernel
theorem dX0_has_6 : decode cX0_has 6 = .ok (.lcmp, 1) := by decide +kernel
theorem dX0_has_7 : decode cX0_has 7 = .ok (.ifCond .eq 7, 3) := by decide +kernel
theorem dX0_has_10 : decode cX0_has 10 = .ok (.iconst 1, 1) := by decide +kernel
theorem dX0_has_11 : decode cX0_has 11 = .ok (.goto 4, 3) := by decide +kernel
theorem dX0_has_14 : decode cX0_has 14 = .ok (.iconst 0, 1) := by decide +kernel
theorem dX0_has_15 : decode cX0_has 15 = .ok (.ireturn, 1) := by decide +kernel
theorem dX0_with_0 : decode cX0_with 0 = .ok (.lload_n 0, 1) := by decide +kernel
theorem dX0_with_1 : decode cX0_with 1 = .ok (.lconst 1, 1) := by decide +kernel
theorem dX0_with_2 : decode cX0_with 2 = .ok (.iload_n 2, 1) := by decide +kernel
theorem dX0_with_3 : decode cX0_with 3 = .ok (.lshl, 1) := by decide +kernel
theorem dX0_with_4 : decode cX0_with 4 = .ok (.lor, 1) := by decide +kernel
theorem dX0_with_5 : decode cX0_with 5 = .ok (.lreturn, 1) := by decide +kernel
theorem dX0_within_0 : decode cX0_within 0 = .ok (.lload_n 0, 1) := by decide +kernel
theorem dX0_within_1 : decode cX0_within 1 = .ok (.lload_n 2, 1) := by decide +kernel
theorem dX0_within_2 : decode cX0_within 2 = .ok (.ldc2_w 9, 3) := by decide +kernel
theorem dX0_within_5 : decode cX0_within 5 = .ok (.lxor, 1) := by decide +kernel
theorem dX0_within_6 : decode cX0_within 6 = .ok (.land, 1) := by decide +kernel
theorem dX0_within_7 : decode cX0_within 7 = .ok (.lconst 0, 1) := by decide +kernel
theorem dX0_within_8 : decode cX0_within 8 = .ok (.lcmp, 1) := by decide +kernel
theorem dX0_within_9 : decode cX0_within 9 = .ok (.ifCond .ne 7, 3) := by decide +kernel
theorem dX0_within_12 : decode cX0_within 12 = .ok (.iconst 1, 1) := by decide +kernel
theorem dX0_within_13 : decode cX0_within 13 = .ok (.goto 4, 3) := by decide +kernel
theorem dX0_within_16 : decode cX0_within 16 = .ok (.iconst 0, 1) := by decide +kernel
theorem dX0_within_17 : decode cX0_within 17 = .ok (.ireturn, 1) := by decide +kernel
set_option maxRecDepth 20000 in
theorem ggX0_least_X0_nth : GoodIn wsX0_least wsX0_nth := goodIn_r _ [4, 5, 6, 7, 8, 9, 10, 11, 12, 13, 3, 14] rfl (by decide +kernel)
set_option maxRecDepth 20000 in
theorem gX0_least_X0_nth : GoodIn wsX0_least (va_wsS RX0 11 yX0_nth wsX0_nth) := goodIn_app (goodIn_of _ (by decide +kernel)) ggX0_least_X0_nth
theorem dX0_least_0 : decode cX0_least 0 = .ok (.lload_n 0, 1) := by decide +kernel
theorem dX0_least_1 : decode cX0_least 1 = .ok (.iconst 0, 1) := by decide +kernel
theorem dX0_least_2 : decode cX0_least 2 = .ok (.invokestatic 11, 3) := by decide +kernel
theorem dX0_least_5 : decode cX0_least 5 = .ok (.ireturn, 1) := by decide +kernel
set_option maxRecDepth 20000 in
theorem ggX0_nth_J13_bitCount_95d88 : GoodIn wsX0_nth wsJ13_bitCount_95d88 := goodIn_r _ [4, 5, 6, 7] rfl (by decide +kernel)
set_option maxRecDepth 20000 in
theorem gX0_nth_J13_bitCount_95d88 : GoodIn wsX0_nth (va_wsS RX0 17 yJ13_bitCount_95d88 wsJ13_bitCount_95d88) := goodIn_app (goodIn_of _ (by decide +kernel)) ggX0_nth_J13_bitCount_95d88
set_option maxRecDepth 20000 in
theorem ggX0_nth_X0_has : GoodIn wsX0_nth wsX0_has := goodIn_r _ [11] rfl (by decide +kernel)
set_option maxRecDepth 20000 in
theorem gX0_nth_X0_has : GoodIn wsX0_nth (va_wsS RX0 23 yX0_has wsX0_has) := goodIn_app (goodIn_of _ (by decide +kernel)) ggX0_nth_X0_has
theorem dX0_nth_0 : decode cX0_nth 0 = .ok (.iload_n 2, 1) := by decide +kernel
theorem dX0_nth_1 : decode cX0_nth 1 = .ok (.ifCond .lt 11, 3) := by decide +kernel
theorem dX0_nth_4 : decode cX0_nth 4 = .ok (.iload_n 2, 1) := by decide +kernel
theorem dX0_nth_5 : decode cX0_nth 5 = .ok (.lload_n 0, 1) := by decide +kernel
theorem dX0_nth_6 : decode cX0_nth 6 = .ok (.invokestatic 17, 3) := by decide +kernel
theorem dX0_nth_9 : decode cX0_nth 9 = .ok (.if_icmp .lt 5, 3) := by decide +kernel
theorem dX0_nth_12 : decode cX0_nth 12 = .ok (.iconst (-1), 1) := by decide +kernel
theorem dX0_nth_13 : decode cX0_nth 13 = .ok (.ireturn, 1) := by decide +kernel
theorem dX0_nth_14 : decode cX0_nth 14 = .ok (.iconst 0, 1) := by decide +kernel
theorem dX0_nth_15 : decode cX0_nth 15 = .ok (.istore_n 3, 1) := by decide +kernel
theorem dX0_nth_16 : decode cX0_nth 16 = .ok (.iconst 0, 1) := by decide +kernel
theorem dX0_nth_17 : decode cX0_nth 17 = .ok (.istore 4, 2) := by decide +kernel
theorem dX0_nth_19 : decode cX0_nth 19 = .ok (.iload 4, 2) := by decide +kernel
theorem dX0_nth_21 : decode cX0_nth 21 = .ok (.bipush 64, 2) := by decide +kernel
theorem dX0_nth_23 : decode cX0_nth 23 = .ok (.if_icmp .ge 32, 3) := by decide +kernel
theorem dX0_nth_26 : decode cX0_nth 26 = .ok (.lload_n 0, 1) := by decide +kernel
theorem dX0_nth_27 : decode cX0_nth 27 = .ok (.iload 4, 2) := by decide +kernel
theorem dX0_nth_29 : decode cX0_nth 29 = .ok (.invokestatic 23, 3) := by decide +kernel
theorem dX0_nth_32 : decode cX0_nth 32 = .ok (.ifCond .ne 6, 3) := by decide +kernel
theorem dX0_nth_35 : decode cX0_nth 35 = .ok (.goto 14, 3) := by decide +kernel
theorem dX0_nth_38 : decode cX0_nth 38 = .ok (.iload_n 3, 1) := by decide +kernel
theorem dX0_nth_39 : decode cX0_nth 39 = .ok (.iload_n 2, 1) := by decide +kernel
theorem dX0_nth_40 : decode cX0_nth 40 = .ok (.if_icmp .ne 6, 3) := by decide +kernel
theorem dX0_nth_43 : decode cX0_nth 43 = .ok (.iload 4, 2) := by decide +kernel
theorem dX0_nth_45 : decode cX0_nth 45 = .ok (.ireturn, 1) := by decide +kernel
theorem dX0_nth_46 : decode cX0_nth 46 = .ok (.iinc 3 1, 3) := by decide +kernel
theorem dX0_nth_49 : decode cX0_nth 49 = .ok (.iinc 4 1, 3) := by decide +kernel
theorem dX0_nth_52 : decode cX0_nth 52 = .ok (.goto (-33), 3) := by decide +kernel
theorem dX0_nth_55 : decode cX0_nth 55 = .ok (.iconst (-1), 1) := by decide +kernel
theorem dX0_nth_56 : decode cX0_nth 56 = .ok (.ireturn, 1) := by decide +kernel
theorem dX1_init_0 : decode cX1_init 0 = .ok (.aload_n 0, 1) := by decide +kernel
theorem dX1_init_1 : decode cX1_init 1 = .ok (.invokespecial 3, 3) := by decide +kernel
theorem dX1_init_4 : decode cX1_init 4 = .ok (.aload_n 0, 1) := by decide +kernel
theorem dX1_init_5 : decode cX1_init 5 = .ok (.sipush 160, 3) := by decide +kernel
theorem dX1_init_8 : decode cX1_init 8 = .ok (.newarray .int, 2) := by decide +kernel
theorem dX1_init_10 : decode cX1_init 10 = .ok (.putfield 9, 3) := by decide +kernel
theorem dX1_init_13 : decode cX1_init 13 = .ok (.aload_n 0, 1) := by decide +kernel
theorem dX1_init_14 : decode cX1_init 14 = .ok (.sipush 160, 3) := by decide +kernel
theorem dX1_init_17 : decode cX1_init 17 = .ok (.newarray .int, 2) := by decide +kernel
theorem dX1_init_19 : decode cX1_init 19 = .ok (.putfield 15, 3) := by decide +kernel
theorem dX1_init_22 : decode cX1_init 22 = .ok (.aload_n 0, 1) := by decide +kernel
theorem dX1_init_23 : decode cX1_init 23 = .ok (.aload_n 1, 1) := by decide +kernel
theorem dX1_init_24 : decode cX1_init 24 = .ok (.putfield 18, 3) := by decide +kernel
theorem dX1_init_27 : decode cX1_init 27 = .ok (.aload_n 0, 1) := by decide +kernel
theorem dX1_init_28 : decode cX1_init 28 = .ok (.aload_n 2, 1) := by decide +kernel
theorem dX1_init_29 : decode cX1_init 29 = .ok (.putfield 22, 3) := by decide +kernel
theorem dX1_init_32 : decode cX1_init 32 = .ok (.return_, 1) := by decide +kernel
set_option maxRecDepth 20000 in
theorem ggX1_tellAll_X1_tell : GoodIn wsX1_tellAll wsX1_tell := goodIn_r _ [5, 6, 7, 8, 9, 10, 11, 12, 13, 14, 15, 16, 17, 18, 4, 19, 20, 21, 22, 23, 24, 25, 26, 27, 28, 29, 30, 31, 32, 33, 34, 35, 36, 37, 38, 39, 40, 41, 42, 43, 44, 45, 46, 47, 48, 49, 50, 51, 52, 53, 54, 55, 56, 57, 58, 59, 60, 61, 62, 63, 64, 65, 66, 67, 68, 69, 70, 71, 72, 73, 74, 75, 76, 77, 78, 79, 80, 81, 82, 83, 84, 85, 86, 87, 88, 89, 90, 91, 92, 93, 94, 95, 96, 97, 98, 99, 100, 101, 102, 103, 104, 105, 106, 107, 108, 109, 110, 111] rfl (by decide +kernel)
set_option maxRecDepth 20000 in
theorem gX1_tellAll_X1_tell : GoodIn wsX1_tellAll (wsV RX1 26 RX1 yX1_tell wsX1_tell) := goodIn_app (goodIn_of _ (by decide +kernel)) ggX1_tellAll_X1_tell
theorem dX1_tellAll_0 : decode cX1_tellAll 0 = .ok (.iconst 0, 1) := by decide +kernel
theorem dX1_tellAll_1 : decode cX1_tellAll 1 = .ok (.istore_n 1, 1) := by decide +kernel
theorem dX1_tellAll_2 : decode cX1_tellAll 2 = .ok (.iload_n 1, 1) := by decide +kernel
theorem dX1_tellAll_3 : decode cX1_tellAll 3 = .ok (.bipush 10, 2) := by decide +kernel
theorem dX1_tellAll_5 : decode cX1_tellAll 5 = .ok (.if_icmp .ge 14, 3) := by decide +kernel
theorem dX1_tellAll_8 : decode cX1_tellAll 8 = .ok (.aload_n 0, 1) := by decide +kernel
theorem dX1_tellAll_9 : decode cX1_tellAll 9 = .ok (.iload_n 1, 1) := by decide +kernel
theorem dX1_tellAll_10 : decode cX1_tellAll 10 = .ok (.invokevirtual 26, 3) := by decide +kernel
theorem dX1_tellAll_13 : decode cX1_tellAll 13 = .ok (.iinc 1 1, 3) := by decide +kernel
theorem dX1_tellAll_16 : decode cX1_tellAll 16 = .ok (.goto (-14), 3) := by decide +kernel
theorem dX1_tellAll_19 : decode cX1_tellAll 19 = .ok (.return_, 1) := by decide +kernel
set_option maxRecDepth 20000 in
theorem ggX1_tell_X6_size : GoodIn wsX1_tell wsX6_size := goodIn_r _ [9, 10, 91, 92, 93, 94, 95, 96] rfl (by decide +kernel)
set_option maxRecDepth 20000 in
theorem gX1_tell_X6_size : GoodIn wsX1_tell (wsV RX1 30 RX6 yX6_size wsX6_size) := goodIn_app (goodIn_of _ (by decide +kernel)) ggX1_tell_X6_size
set_option maxRecDepth 20000 in
theorem ggX1_tell_X1_leftOf : GoodIn wsX1_tell wsX1_leftOf := goodIn_r _ [15, 1, 2, 16, 17, 18, 19, 8, 20, 21, 22, 23, 24, 25, 26, 27, 28, 29, 30, 31, 32, 33, 34, 35, 36, 37, 38, 39, 40, 41, 42, 43, 44, 87, 88, 89, 90, 91, 92, 93, 94, 95, 96, 97, 98, 99, 100, 101, 102, 103, 104, 105, 106, 107] rfl (by decide +kernel)
set_option maxRecDepth 20000 in
theorem gX1_tell_X1_leftOf : GoodIn wsX1_tell (wsV RX1 36 RX1 yX1_leftOf wsX1_leftOf) := goodIn_app (goodIn_of _ (by decide +kernel)) ggX1_tell_X1_leftOf
set_option maxRecDepth 20000 in
theorem ggX1_tell_X4_plainOnes : GoodIn wsX1_tell wsX4_plainOnes := goodIn_r _ [48, 49, 97, 98, 99, 100, 101, 102, 103, 104, 105, 106, 107] rfl (by decide +kernel)
set_option maxRecDepth 20000 in
theorem gX1_tell_X4_plainOnes : GoodIn wsX1_tell (wsV RX1 40 RX4 yX4_plainOnes wsX4_plainOnes) := goodIn_app (goodIn_of _ (by decide +kernel)) ggX1_tell_X4_plainOnes
set_option maxRecDepth 20000 in
theorem ggX1_tell_X1_tellFound : GoodIn wsX1_tell wsX1_tellFound := goodIn_r _ [53, 2, 1, 37, 38, 39, 26, 40, 41, 54, 55, 56, 8, 57, 58, 59, 60, 61, 62, 63, 64, 65, 66, 67, 31, 68, 69, 70, 71, 72, 73, 30, 32, 87, 88, 89, 90, 97, 98, 99, 100, 101, 102, 103, 104, 105, 106, 107, 91, 92, 93, 94, 95, 96] rfl (by decide +kernel)
set_option maxRecDepth 20000 in
theorem gX1_tell_X1_tellFound : GoodIn wsX1_tell (wsV RX1 46 RX1 yX1_tellFound wsX1_tellFound) := goodIn_app (goodIn_of _ (by decide +kernel)) ggX1_tell_X1_tellFound
set_option maxRecDepth 20000 in
theorem ggX1_tell_X1_tellPicked : GoodIn wsX1_tell wsX1_tellPicked := goodIn_r _ [77, 2, 1, 23, 24, 25, 26, 27, 28, 29, 30, 31, 32, 37, 38, 39, 40, 41, 78, 79, 80, 14, 81, 82, 83, 84, 85, 86, 54, 55, 56, 8, 57, 58, 59, 60, 61, 62, 63, 64, 65, 66, 67, 68, 69, 70, 71, 72, 73, 87, 88, 89, 90, 97, 98, 99, 100, 101, 102, 103, 104, 105, 106, 107, 91, 92, 93, 94, 95, 96] rfl (by decide +kernel)
set_option maxRecDepth 20000 in
theorem gX1_tell_X1_tellPicked : GoodIn wsX1_tell (wsV RX1 50 RX1 yX1_tellPicked wsX1_tellPicked) := goodIn_app (goodIn_of _ (by decide +kernel)) ggX1_tell_X1_tellPicked
theorem dX1_tell_0 : decode cX1_tell 0 = .ok (.iconst 0, 1) := by decide +kernel
theorem dX1_tell_1 : decode cX1_tell 1 = .ok (.istore_n 2, 1) := by decide +kernel
theorem dX1_tell_2 : decode cX1_tell 2 = .ok (.iload_n 2, 1) := by decide +kernel
theorem dX1_tell_3 : decode cX1_tell 3 = .ok (.aload_n 0, 1) := by decide +kernel
theorem dX1_tell_4 : decode cX1_tell 4 = .ok (.getfield 18, 3) := by decide +kernel
theorem dX1_tell_7 : decode cX1_tell 7 = .ok (.invokevirtual 30, 3) := by decide +kernel
theorem dX1_tell_10 : decode cX1_tell 10 = .ok (.if_icmp .ge 66, 3) := by decide +kernel
theorem dX1_tell_13 : decode cX1_tell 13 = .ok (.aload_n 0, 1) := by decide +kernel
theorem dX1_tell_14 : decode cX1_tell 14 = .ok (.iload_n 2, 1) := by decide +kernel
theorem dX1_tell_15 : decode cX1_tell 15 = .ok (.iload_n 1, 1) := by decide +kernel
theorem dX1_tell_16 : decode cX1_tell 16 = .ok (.invokevirtual 36, 3) := by decide +kernel
theorem dX1_tell_19 : decode cX1_tell 19 = .ok (.lstore_n 3, 1) := by decide +kernel
theorem dX1_tell_20 : decode cX1_tell 20 = .ok (.lload_n 3, 1) := by decide +kernel
theorem dX1_tell_21 : decode cX1_tell 21 = .ok (.aload_n 0, 1) := by decide +kernel
theorem dX1_tell_22 : decode cX1_tell 22 = .ok (.getfield 22, 3) := by decide +kernel
theorem dX1_tell_25 : decode cX1_tell 25 = .ok (.invokevirtual 40, 3) := by decide +kernel
theorem dX1_tell_28 : decode cX1_tell 28 = .ok (.land, 1) := by decide +kernel
theorem dX1_tell_29 : decode cX1_tell 29 = .ok (.lstore 5, 2) := by decide +kernel
theorem dX1_tell_31 : decode cX1_tell 31 = .ok (.aload_n 0, 1) := by decide +kernel
theorem dX1_tell_32 : decode cX1_tell 32 = .ok (.getfield 9, 3) := by decide +kernel
theorem dX1_tell_35 : decode cX1_tell 35 = .ok (.iload_n 2, 1) := by decide +kernel
theorem dX1_tell_36 : decode cX1_tell 36 = .ok (.bipush 10, 2) := by decide +kernel
theorem dX1_tell_38 : decode cX1_tell 38 = .ok (.imul, 1) := by decide +kernel
theorem dX1_tell_39 : decode cX1_tell 39 = .ok (.iload_n 1, 1) := by decide +kernel
theorem dX1_tell_40 : decode cX1_tell 40 = .ok (.iadd, 1) := by decide +kernel
theorem dX1_tell_41 : decode cX1_tell 41 = .ok (.aload_n 0, 1) := by decide +kernel
theorem dX1_tell_42 : decode cX1_tell 42 = .ok (.iload_n 2, 1) := by decide +kernel
theorem dX1_tell_43 : decode cX1_tell 43 = .ok (.iload_n 1, 1) := by decide +kernel
theorem dX1_tell_44 : decode cX1_tell 44 = .ok (.lload_n 3, 1) := by decide +kernel
theorem dX1_tell_45 : decode cX1_tell 45 = .ok (.lload 5, 2) := by decide +kernel
theorem dX1_tell_47 : decode cX1_tell 47 = .ok (.invokevirtual 46, 3) := by decide +kernel
theorem dX1_tell_50 : decode cX1_tell 50 = .ok (.iastore, 1) := by decide +kernel
theorem dX1_tell_51 : decode cX1_tell 51 = .ok (.aload_n 0, 1) := by decide +kernel
theorem dX1_tell_52 : decode cX1_tell 52 = .ok (.getfield 15, 3) := by decide +kernel
theorem dX1_tell_55 : decode cX1_tell 55 = .ok (.iload_n 2, 1) := by decide +kernel
theorem dX1_tell_56 : decode cX1_tell 56 = .ok (.bipush 10, 2) := by decide +kernel
theorem dX1_tell_58 : decode cX1_tell 58 = .ok (.imul, 1) := by decide +kernel
theorem dX1_tell_59 : decode cX1_tell 59 = .ok (.iload_n 1, 1) := by decide +kernel
theorem dX1_tell_60 : decode cX1_tell 60 = .ok (.iadd, 1) := by decide +kernel
theorem dX1_tell_61 : decode cX1_tell 61 = .ok (.aload_n 0, 1) := by decide +kernel
theorem dX1_tell_62 : decode cX1_tell 62 = .ok (.iload_n 2, 1) := by decide +kernel
theorem dX1_tell_63 : decode cX1_tell 63 = .ok (.iload_n 1, 1) := by decide +kernel
theorem dX1_tell_64 : decode cX1_tell 64 = .ok (.lload 5, 2) := by decide +kernel
theorem dX1_tell_66 : decode cX1_tell 66 = .ok (.invokevirtual 50, 3) := by decide +kernel
theorem dX1_tell_69 : decode cX1_tell 69 = .ok (.iastore, 1) := by decide +kernel
theorem dX1_tell_70 : decode cX1_tell 70 = .ok (.iinc 2 1, 3) := by decide +kernel
theorem dX1_tell_73 : decode cX1_tell 73 = .ok (.goto (-71), 3) := by decide +kernel
theorem dX1_tell_76 : decode cX1_tell 76 = .ok (.return_, 1) := by decide +kernel
set_option maxRecDepth 20000 in
theorem ggX1_tellFound_X4_named : GoodIn wsX1_tellFound wsX4_named := goodIn_r _ [7, 8, 37, 38, 39, 40, 41, 42, 43, 44, 45, 46, 47] rfl (by decide +kernel)
set_option maxRecDepth 20000 in
theorem gX1_tellFound_X4_named : GoodIn wsX1_tellFound (wsV RX1 54 RX4 yX4_named wsX4_named) := goodIn_app (goodIn_of _ (by decide +kernel)) ggX1_tellFound_X4_named
set_option maxRecDepth 20000 in
theorem ggX1_tellFound_X6_superOf : GoodIn wsX1_tellFound wsX6_superOf := goodIn_r _ [13, 14, 48, 49, 50, 51, 52, 53] rfl (by decide +kernel)
set_option maxRecDepth 20000 in
theorem gX1_tellFound_X6_superOf : GoodIn wsX1_tellFound (wsV RX1 58 RX6 yX6_superOf wsX6_superOf) := goodIn_app (goodIn_of _ (by decide +kernel)) ggX1_tellFound_X6_superOf
set_option maxRecDepth 20000 in
theorem ggX1_tellFound_J13_bitCount_95d88 : GoodIn wsX1_tellFound wsJ13_bitCount_95d88 := goodIn_r _ [18, 19, 20, 21] rfl (by decide +kernel)
set_option maxRecDepth 20000 in
theorem gX1_tellFound_J13_bitCount_95d88 : GoodIn wsX1_tellFound (va_wsS RX1 62 yJ13_bitCount_95d88 wsJ13_bitCount_95d88) := goodIn_app (goodIn_of _ (by decide +kernel)) ggX1_tellFound_J13_bitCount_95d88
set_option maxRecDepth 20000 in
theorem ggX1_tellFound_X0_least : GoodIn wsX1_tellFound wsX0_least := goodIn_r _ [25, 26, 27, 24, 28, 29, 16, 17, 18, 19, 20, 21, 30, 31, 32] rfl (by decide +kernel)
set_option maxRecDepth 20000 in
theorem gX1_tellFound_X0_least : GoodIn wsX1_tellFound (va_wsS RX1 68 yX0_least wsX0_least) := goodIn_app (goodIn_of _ (by decide +kernel)) ggX1_tellFound_X0_least
theorem dX1_tellFound_0 : decode cX1_tellFound 0 = .ok (.iload_n 1, 1) := by decide +kernel
theorem dX1_tellFound_1 : decode cX1_tellFound 1 = .ok (.istore 7, 2) := by decide +kernel
theorem dX1_tellFound_3 : decode cX1_tellFound 3 = .ok (.iconst 0, 1) := by decide +kernel
theorem dX1_tellFound_4 : decode cX1_tellFound 4 = .ok (.istore 8, 2) := by decide +kernel
theorem dX1_tellFound_6 : decode cX1_tellFound 6 = .ok (.iload 8, 2) := by decide +kernel
theorem dX1_tellFound_8 : decode cX1_tellFound 8 = .ok (.bipush 16, 2) := by decide +kernel
theorem dX1_tellFound_10 : decode cX1_tellFound 10 = .ok (.if_icmp .ge 47, 3) := by decide +kernel
theorem dX1_tellFound_13 : decode cX1_tellFound 13 = .ok (.iload 7, 2) := by decide +kernel
theorem dX1_tellFound_15 : decode cX1_tellFound 15 = .ok (.iconst (-1), 1) := by decide +kernel
theorem dX1_tellFound_16 : decode cX1_tellFound 16 = .ok (.if_icmp .eq 41, 3) := by decide +kernel
theorem dX1_tellFound_19 : decode cX1_tellFound 19 = .ok (.aload_n 0, 1) := by decide +kernel
theorem dX1_tellFound_20 : decode cX1_tellFound 20 = .ok (.getfield 22, 3) := by decide +kernel
theorem dX1_tellFound_23 : decode cX1_tellFound 23 = .ok (.iload 7, 2) := by decide +kernel
theorem dX1_tellFound_25 : decode cX1_tellFound 25 = .ok (.iload_n 2, 1) := by decide +kernel
theorem dX1_tellFound_26 : decode cX1_tellFound 26 = .ok (.invokevirtual 54, 3) := by decide +kernel
theorem dX1_tellFound_29 : decode cX1_tellFound 29 = .ok (.istore 9, 2) := by decide +kernel
theorem dX1_tellFound_31 : decode cX1_tellFound 31 = .ok (.iload 9, 2) := by decide +kernel
theorem dX1_tellFound_33 : decode cX1_tellFound 33 = .ok (.iconst (-1), 1) := by decide +kernel
theorem dX1_tellFound_34 : decode cX1_tellFound 34 = .ok (.if_icmp .eq 6, 3) := by decide +kernel
theorem dX1_tellFound_37 : decode cX1_tellFound 37 = .ok (.iload 9, 2) := by decide +kernel
theorem dX1_tellFound_39 : decode cX1_tellFound 39 = .ok (.ireturn, 1) := by decide +kernel
theorem dX1_tellFound_40 : decode cX1_tellFound 40 = .ok (.aload_n 0, 1) := by decide +kernel
theorem dX1_tellFound_41 : decode cX1_tellFound 41 = .ok (.getfield 18, 3) := by decide +kernel
theorem dX1_tellFound_44 : decode cX1_tellFound 44 = .ok (.iload 7, 2) := by decide +kernel
theorem dX1_tellFound_46 : decode cX1_tellFound 46 = .ok (.invokevirtual 58, 3) := by decide +kernel
theorem dX1_tellFound_49 : decode cX1_tellFound 49 = .ok (.istore 7, 2) := by decide +kernel
theorem dX1_tellFound_51 : decode cX1_tellFound 51 = .ok (.iinc 8 1, 3) := by decide +kernel
theorem dX1_tellFound_54 : decode cX1_tellFound 54 = .ok (.goto (-48), 3) := by decide +kernel
theorem dX1_tellFound_57 : decode cX1_tellFound 57 = .ok (.lload 5, 2) := by decide +kernel
theorem dX1_tellFound_59 : decode cX1_tellFound 59 = .ok (.invokestatic 62, 3) := by decide +kernel
theorem dX1_tellFound_62 : decode cX1_tellFound 62 = .ok (.iconst 1, 1) := by decide +kernel
theorem dX1_tellFound_63 : decode cX1_tellFound 63 = .ok (.if_icmp .ne 8, 3) := by decide +kernel
theorem dX1_tellFound_66 : decode cX1_tellFound 66 = .ok (.lload 5, 2) := by decide +kernel
theorem dX1_tellFound_68 : decode cX1_tellFound 68 = .ok (.goto 4, 3) := by decide +kernel
theorem dX1_tellFound_71 : decode cX1_tellFound 71 = .ok (.lload_n 3, 1) := by decide +kernel
theorem dX1_tellFound_72 : decode cX1_tellFound 72 = .ok (.invokestatic 68, 3) := by decide +kernel
theorem dX1_tellFound_75 : decode cX1_tellFound 75 = .ok (.ireturn, 1) := by decide +kernel
set_option maxRecDepth 20000 in
theorem ggX1_tellPicked_X4_passersOf : GoodIn wsX1_tellPicked wsX4_passersOf := goodIn_r _ [7, 8, 53, 54, 55, 56, 57, 58, 59, 60, 61, 62, 63] rfl (by decide +kernel)
set_option maxRecDepth 20000 in
theorem gX1_tellPicked_X4_passersOf : GoodIn wsX1_tellPicked (wsV RX1 73 RX4 yX4_passersOf wsX4_passersOf) := goodIn_app (goodIn_of _ (by decide +kernel)) ggX1_tellPicked_X4_passersOf
set_option maxRecDepth 20000 in
theorem ggX1_tellPicked_X0_has : GoodIn wsX1_tellPicked wsX0_has := goodIn_r _ [12] rfl (by decide +kernel)
set_option maxRecDepth 20000 in
theorem gX1_tellPicked_X0_has : GoodIn wsX1_tellPicked (va_wsS RX1 77 yX0_has wsX0_has) := goodIn_app (goodIn_of _ (by decide +kernel)) ggX1_tellPicked_X0_has
set_option maxRecDepth 20000 in
theorem ggX1_tellPicked_X4_named : GoodIn wsX1_tellPicked wsX4_named := goodIn_r _ [16, 17, 53, 54, 55, 56, 57, 58, 59, 60, 61, 62, 63] rfl (by decide +kernel)
set_option maxRecDepth 20000 in
theorem gX1_tellPicked_X4_named : GoodIn wsX1_tellPicked (wsV RX1 54 RX4 yX4_named wsX4_named) := goodIn_app (goodIn_of _ (by decide +kernel)) ggX1_tellPicked_X4_named
set_option maxRecDepth 20000 in
theorem ggX1_tellPicked_X1_plainOrBare : GoodIn wsX1_tellPicked wsX1_plainOrBare := goodIn_r _ [22, 1, 23, 24, 25, 6, 26, 27, 49, 50, 51, 52, 53, 54, 55, 56, 57, 58, 59, 60, 61, 62, 63] rfl (by decide +kernel)
set_option maxRecDepth 20000 in
theorem gX1_tellPicked_X1_plainOrBare : GoodIn wsX1_tellPicked (wsV RX1 81 RX1 yX1_plainOrBare wsX1_plainOrBare) := goodIn_app (goodIn_of _ (by decide +kernel)) ggX1_tellPicked_X1_plainOrBare
set_option maxRecDepth 20000 in
theorem ggX1_tellPicked_X6_superOf : GoodIn wsX1_tellPicked wsX6_superOf := goodIn_r _ [32, 33, 64, 65, 66, 67, 68, 69] rfl (by decide +kernel)
set_option maxRecDepth 20000 in
theorem gX1_tellPicked_X6_superOf : GoodIn wsX1_tellPicked (wsV RX1 58 RX6 yX6_superOf wsX6_superOf) := goodIn_app (goodIn_of _ (by decide +kernel)) ggX1_tellPicked_X6_superOf
set_option maxRecDepth 20000 in
theorem ggX1_tellPicked_J13_bitCount_95d88 : GoodIn wsX1_tellPicked wsJ13_bitCount_95d88 := goodIn_r _ [37, 38, 39, 40] rfl (by decide +kernel)
set_option maxRecDepth 20000 in
theorem gX1_tellPicked_J13_bitCount_95d88 : GoodIn wsX1_tellPicked (va_wsS RX1 62 yJ13_bitCount_95d88 wsJ13_bitCount_95d88) := goodIn_app (goodIn_of _ (by decide +kernel)) ggX1_tellPicked_J13_bitCount_95d88
set_option maxRecDepth 20000 in
theorem ggX1_tellPicked_X0_least : GoodIn wsX1_tellPicked wsX0_least := goodIn_r _ [43, 44, 45, 11, 46, 47, 35, 36, 37, 38, 39, 40, 48, 10, 12] rfl (by decide +kernel)
set_option maxRecDepth 20000 in
theorem gX1_tellPicked_X0_least : GoodIn wsX1_tellPicked (va_wsS RX1 68 yX0_least wsX0_least) := goodIn_app (goodIn_of _ (by decide +kernel)) ggX1_tellPicked_X0_least
theorem dX1_tellPicked_0 : decode cX1_tellPicked 0 = .ok (.aload_n 0, 1) := by decide +kernel
theorem dX1_tellPicked_1 : decode cX1_tellPicked 1 = .ok (.getfield 22, 3) := by decide +kernel
theorem dX1_tellPicked_4 : decode cX1_tellPicked 4 = .ok (.iload_n 2, 1) := by decide +kernel
theorem dX1_tellPicked_5 : decode cX1_tellPicked 5 = .ok (.invokevirtual 73, 3) := by decide +kernel
theorem dX1_tellPicked_8 : decode cX1_tellPicked 8 = .ok (.lstore 5, 2) := by decide +kernel
theorem dX1_tellPicked_10 : decode cX1_tellPicked 10 = .ok (.iload_n 1, 1) := by decide +kernel
theorem dX1_tellPicked_11 : decode cX1_tellPicked 11 = .ok (.istore 7, 2) := by decide +kernel
theorem dX1_tellPicked_13 : decode cX1_tellPicked 13 = .ok (.iconst 0, 1) := by decide +kernel
theorem dX1_tellPicked_14 : decode cX1_tellPicked 14 = .ok (.istore 8, 2) := by decide +kernel
theorem dX1_tellPicked_16 : decode cX1_tellPicked 16 = .ok (.iload 8, 2) := by decide +kernel
theorem dX1_tellPicked_18 : decode cX1_tellPicked 18 = .ok (.bipush 16, 2) := by decide +kernel
theorem dX1_tellPicked_20 : decode cX1_tellPicked 20 = .ok (.if_icmp .ge 51, 3) := by decide +kernel
theorem dX1_tellPicked_23 : decode cX1_tellPicked 23 = .ok (.iload 7, 2) := by decide +kernel
theorem dX1_tellPicked_25 : decode cX1_tellPicked 25 = .ok (.iconst (-1), 1) := by decide +kernel
theorem dX1_tellPicked_26 : decode cX1_tellPicked 26 = .ok (.if_icmp .eq 45, 3) := by decide +kernel
theorem dX1_tellPicked_29 : decode cX1_tellPicked 29 = .ok (.lload 5, 2) := by decide +kernel
theorem dX1_tellPicked_31 : decode cX1_tellPicked 31 = .ok (.iload 7, 2) := by decide +kernel
theorem dX1_tellPicked_33 : decode cX1_tellPicked 33 = .ok (.invokestatic 77, 3) := by decide +kernel
theorem dX1_tellPicked_36 : decode cX1_tellPicked 36 = .ok (.ifCond .eq 18, 3) := by decide +kernel
theorem dX1_tellPicked_39 : decode cX1_tellPicked 39 = .ok (.aload_n 0, 1) := by decide +kernel
theorem dX1_tellPicked_40 : decode cX1_tellPicked 40 = .ok (.aload_n 0, 1) := by decide +kernel
theorem dX1_tellPicked_41 : decode cX1_tellPicked 41 = .ok (.getfield 22, 3) := by decide +kernel
theorem dX1_tellPicked_44 : decode cX1_tellPicked 44 = .ok (.iload 7, 2) := by decide +kernel
theorem dX1_tellPicked_46 : decode cX1_tellPicked 46 = .ok (.iload_n 2, 1) := by decide +kernel
theorem dX1_tellPicked_47 : decode cX1_tellPicked 47 = .ok (.invokevirtual 54, 3) := by decide +kernel
theorem dX1_tellPicked_50 : decode cX1_tellPicked 50 = .ok (.invokevirtual 81, 3) := by decide +kernel
theorem dX1_tellPicked_53 : decode cX1_tellPicked 53 = .ok (.ireturn, 1) := by decide +kernel
theorem dX1_tellPicked_54 : decode cX1_tellPicked 54 = .ok (.aload_n 0, 1) := by decide +kernel
theorem dX1_tellPicked_55 : decode cX1_tellPicked 55 = .ok (.getfield 18, 3) := by decide +kernel
theorem dX1_tellPicked_58 : decode cX1_tellPicked 58 = .ok (.iload 7, 2) := by decide +kernel
theorem dX1_tellPicked_60 : decode cX1_tellPicked 60 = .ok (.invokevirtual 58, 3) := by decide +kernel
theorem dX1_tellPicked_63 : decode cX1_tellPicked 63 = .ok (.istore 7, 2) := by decide +kernel
theorem dX1_tellPicked_65 : decode cX1_tellPicked 65 = .ok (.iinc 8 1, 3) := by decide +kernel
theorem dX1_tellPicked_68 : decode cX1_tellPicked 68 = .ok (.goto (-52), 3) := by decide +kernel
theorem dX1_tellPicked_71 : decode cX1_tellPicked 71 = .ok (.lload_n 3, 1) := by decide +kernel
theorem dX1_tellPicked_72 : decode cX1_tellPicked 72 = .ok (.lconst 0, 1) := by decide +kernel
theorem dX1_tellPicked_73 : decode cX1_tellPicked 73 = .ok (.lcmp, 1) := by decide +kernel
theorem dX1_tellPicked_74 : decode cX1_tellPicked 74 = .ok (.ifCond .ne 6, 3) := by decide +kernel
theorem dX1_tellPicked_77 : decode cX1_tellPicked 77 = .ok (.bipush (-4), 2) := by decide +kernel
theorem dX1_tellPicked_79 : decode cX1_tellPicked 79 = .ok (.ireturn, 1) := by decide +kernel
theorem dX1_tellPicked_80 : decode cX1_tellPicked 80 = .ok (.lload_n 3, 1) := by decide +kernel
theorem dX1_tellPicked_81 : decode cX1_tellPicked 81 = .ok (.invokestatic 62, 3) := by decide +kernel
theorem dX1_tellPicked_84 : decode cX1_tellPicked 84 = .ok (.iconst 1, 1) := by decide +kernel
theorem dX1_tellPicked_85 : decode cX1_tellPicked 85 = .ok (.if_icmp .ne 10, 3) := by decide +kernel
theorem dX1_tellPicked_88 : decode cX1_tellPicked 88 = .ok (.lload_n 3, 1) := by decide +kernel
theorem dX1_tellPicked_89 : decode cX1_tellPicked 89 = .ok (.invokestatic 68, 3) := by decide +kernel
theorem dX1_tellPicked_92 : decode cX1_tellPicked 92 = .ok (.goto 5, 3) := by decide +kernel
theorem dX1_tellPicked_95 : decode cX1_tellPicked 95 = .ok (.bipush (-5), 2) := by decide +kernel
theorem dX1_tellPicked_97 : decode cX1_tellPicked 97 = .ok (.ireturn, 1) := by decide +kernel
set_option maxRecDepth 20000 in
theorem ggX1_plainOrBare_X4_sortOf : GoodIn wsX1_plainOrBare wsX4_sortOf := goodIn_r _ [6, 7, 12, 13, 14, 15, 16, 17, 18, 19, 20, 21, 22] rfl (by decide +kernel)
set_option maxRecDepth 20000 in
theorem gX1_plainOrBare_X4_sortOf : GoodIn wsX1_plainOrBare (wsV RX1 84 RX4 yX4_sortOf wsX4_sortOf) := goodIn_app (goodIn_of _ (by decide +kernel)) ggX1_plainOrBare_X4_sortOf
theorem dX1_plainOrBare_0 : decode cX1_plainOrBare 0 = .ok (.aload_n 0, 1) := by decide +kernel
theorem dX1_plainOrBare_1 : decode cX1_plainOrBare 1 = .ok (.getfield 22, 3) := by decide +kernel
theorem dX1_plainOrBare_4 : decode cX1_plainOrBare 4 = .ok (.iload_n 1, 1) := by decide +kernel
theorem dX1_plainOrBare_5 : decode cX1_plainOrBare 5 = .ok (.invokevirtual 84, 3) := by decide +kernel
theorem dX1_plainOrBare_8 : decode cX1_plainOrBare 8 = .ok (.ifCond .ne 7, 3) := by decide +kernel
theorem dX1_plainOrBare_11 : decode cX1_plainOrBare 11 = .ok (.iload_n 1, 1) := by decide +kernel
theorem dX1_plainOrBare_12 : decode cX1_plainOrBare 12 = .ok (.goto 5, 3) := by decide +kernel
theorem dX1_plainOrBare_15 : decode cX1_plainOrBare 15 = .ok (.bipush (-4), 2) := by decide +kernel
theorem dX1_plainOrBare_17 : decode cX1_plainOrBare 17 = .ok (.ireturn, 1) := by decide +kernel
set_option maxRecDepth 20000 in
theorem ggX1_leftOf_X6_facesAbove : GoodIn wsX1_leftOf wsX6_facesAbove := goodIn_r _ [8, 9, 10, 37, 38, 39, 40, 41, 42] rfl (by decide +kernel)
set_option maxRecDepth 20000 in
theorem gX1_leftOf_X6_facesAbove : GoodIn wsX1_leftOf (wsV RX1 87 RX6 yX6_facesAbove wsX6_facesAbove) := goodIn_app (goodIn_of _ (by decide +kernel)) ggX1_leftOf_X6_facesAbove
set_option maxRecDepth 20000 in
theorem ggX1_leftOf_X4_passersOf : GoodIn wsX1_leftOf wsX4_passersOf := goodIn_r _ [15, 16, 43, 44, 45, 46, 47, 48, 49, 50, 51, 52, 53] rfl (by decide +kernel)
set_option maxRecDepth 20000 in
theorem gX1_leftOf_X4_passersOf : GoodIn wsX1_leftOf (wsV RX1 73 RX4 yX4_passersOf wsX4_passersOf) := goodIn_app (goodIn_of _ (by decide +kernel)) ggX1_leftOf_X4_passersOf
set_option maxRecDepth 20000 in
theorem ggX1_leftOf_X0_has : GoodIn wsX1_leftOf wsX0_has := goodIn_r _ [20] rfl (by decide +kernel)
set_option maxRecDepth 20000 in
theorem gX1_leftOf_X0_has : GoodIn wsX1_leftOf (va_wsS RX1 77 yX0_has wsX0_has) := goodIn_app (goodIn_of _ (by decide +kernel)) ggX1_leftOf_X0_has
set_option maxRecDepth 20000 in
theorem ggX1_leftOf_X6_above : GoodIn wsX1_leftOf wsX6_above := goodIn_r _ [24, 9, 37, 38, 39, 40, 41, 42] rfl (by decide +kernel)
set_option maxRecDepth 20000 in
theorem gX1_leftOf_X6_above : GoodIn wsX1_leftOf (wsV RX1 90 RX6 yX6_above wsX6_above) := goodIn_app (goodIn_of _ (by decide +kernel)) ggX1_leftOf_X6_above
set_option maxRecDepth 20000 in
theorem ggX1_leftOf_X4_named : GoodIn wsX1_leftOf wsX4_named := goodIn_r _ [28, 29, 43, 44, 45, 46, 47, 48, 49, 50, 51, 52, 53] rfl (by decide +kernel)
set_option maxRecDepth 20000 in
theorem gX1_leftOf_X4_named : GoodIn wsX1_leftOf (wsV RX1 54 RX4 yX4_named wsX4_named) := goodIn_app (goodIn_of _ (by decide +kernel)) ggX1_leftOf_X4_named
set_option maxRecDepth 20000 in
theorem ggX1_leftOf_X0_with : GoodIn wsX1_leftOf wsX0_with := goodIn_r _ [32] rfl (by decide +kernel)
set_option maxRecDepth 20000 in
theorem gX1_leftOf_X0_with : GoodIn wsX1_leftOf (va_wsS RX1 95 yX0_with wsX0_with) := goodIn_app (goodIn_of _ (by decide +kernel)) ggX1_leftOf_X0_with
theorem dX1_leftOf_0 : decode cX1_leftOf 0 = .ok (.aload_n 0, 1) := by decide +kernel
theorem dX1_leftOf_1 : decode cX1_leftOf 1 = .ok (.getfield 18, 3) := by decide +kernel
theorem dX1_leftOf_4 : decode cX1_leftOf 4 = .ok (.iload_n 1, 1) := by decide +kernel
theorem dX1_leftOf_5 : decode cX1_leftOf 5 = .ok (.invokevirtual 87, 3) := by decide +kernel
theorem dX1_leftOf_8 : decode cX1_leftOf 8 = .ok (.aload_n 0, 1) := by decide +kernel
theorem dX1_leftOf_9 : decode cX1_leftOf 9 = .ok (.getfield 22, 3) := by decide +kernel
theorem dX1_leftOf_12 : decode cX1_leftOf 12 = .ok (.iload_n 2, 1) := by decide +kernel
theorem dX1_leftOf_13 : decode cX1_leftOf 13 = .ok (.invokevirtual 73, 3) := by decide +kernel
theorem dX1_leftOf_16 : decode cX1_leftOf 16 = .ok (.land, 1) := by decide +kernel
theorem dX1_leftOf_17 : decode cX1_leftOf 17 = .ok (.lstore_n 3, 1) := by decide +kernel
theorem dX1_leftOf_18 : decode cX1_leftOf 18 = .ok (.lload_n 3, 1) := by decide +kernel
theorem dX1_leftOf_19 : decode cX1_leftOf 19 = .ok (.lconst 0, 1) := by decide +kernel
theorem dX1_leftOf_20 : decode cX1_leftOf 20 = .ok (.lcmp, 1) := by decide +kernel
theorem dX1_leftOf_21 : decode cX1_leftOf 21 = .ok (.ifCond .ne 5, 3) := by decide +kernel
theorem dX1_leftOf_24 : decode cX1_leftOf 24 = .ok (.lconst 0, 1) := by decide +kernel
theorem dX1_leftOf_25 : decode cX1_leftOf 25 = .ok (.lreturn, 1) := by decide +kernel
theorem dX1_leftOf_26 : decode cX1_leftOf 26 = .ok (.lconst 0, 1) := by decide +kernel
theorem dX1_leftOf_27 : decode cX1_leftOf 27 = .ok (.lstore 5, 2) := by decide +kernel
theorem dX1_leftOf_29 : decode cX1_leftOf 29 = .ok (.iconst 0, 1) := by decide +kernel
theorem dX1_leftOf_30 : decode cX1_leftOf 30 = .ok (.istore 7, 2) := by decide +kernel
theorem dX1_leftOf_32 : decode cX1_leftOf 32 = .ok (.iload 7, 2) := by decide +kernel
theorem dX1_leftOf_34 : decode cX1_leftOf 34 = .ok (.iload_n 1, 1) := by decide +kernel
theorem dX1_leftOf_35 : decode cX1_leftOf 35 = .ok (.if_icmp .ge 32, 3) := by decide +kernel
theorem dX1_leftOf_38 : decode cX1_leftOf 38 = .ok (.lload_n 3, 1) := by decide +kernel
theorem dX1_leftOf_39 : decode cX1_leftOf 39 = .ok (.iload 7, 2) := by decide +kernel
theorem dX1_leftOf_41 : decode cX1_leftOf 41 = .ok (.invokestatic 77, 3) := by decide +kernel
theorem dX1_leftOf_44 : decode cX1_leftOf 44 = .ok (.ifCond .eq 17, 3) := by decide +kernel
theorem dX1_leftOf_47 : decode cX1_leftOf 47 = .ok (.lload 5, 2) := by decide +kernel
theorem dX1_leftOf_49 : decode cX1_leftOf 49 = .ok (.aload_n 0, 1) := by decide +kernel
theorem dX1_leftOf_50 : decode cX1_leftOf 50 = .ok (.getfield 18, 3) := by decide +kernel
theorem dX1_leftOf_53 : decode cX1_leftOf 53 = .ok (.iload 7, 2) := by decide +kernel
theorem dX1_leftOf_55 : decode cX1_leftOf 55 = .ok (.invokevirtual 90, 3) := by decide +kernel
theorem dX1_leftOf_58 : decode cX1_leftOf 58 = .ok (.lor, 1) := by decide +kernel
theorem dX1_leftOf_59 : decode cX1_leftOf 59 = .ok (.lstore 5, 2) := by decide +kernel
theorem dX1_leftOf_61 : decode cX1_leftOf 61 = .ok (.iinc 7 1, 3) := by decide +kernel
theorem dX1_leftOf_64 : decode cX1_leftOf 64 = .ok (.goto (-32), 3) := by decide +kernel
theorem dX1_leftOf_67 : decode cX1_leftOf 67 = .ok (.lconst 0, 1) := by decide +kernel
theorem dX1_leftOf_68 : decode cX1_leftOf 68 = .ok (.lstore 7, 2) := by decide +kernel
theorem dX1_leftOf_70 : decode cX1_leftOf 70 = .ok (.iconst 0, 1) := by decide +kernel
theorem dX1_leftOf_71 : decode cX1_leftOf 71 = .ok (.istore 9, 2) := by decide +kernel
theorem dX1_leftOf_73 : decode cX1_leftOf 73 = .ok (.iload 9, 2) := by decide +kernel
theorem dX1_leftOf_75 : decode cX1_leftOf 75 = .ok (.iload_n 1, 1) := by decide +kernel
theorem dX1_leftOf_76 : decode cX1_leftOf 76 = .ok (.if_icmp .ge 42, 3) := by decide +kernel
theorem dX1_leftOf_79 : decode cX1_leftOf 79 = .ok (.lload_n 3, 1) := by decide +kernel
theorem dX1_leftOf_80 : decode cX1_leftOf 80 = .ok (.lload 5, 2) := by decide +kernel
theorem dX1_leftOf_82 : decode cX1_leftOf 82 = .ok (.ldc2_w 93, 3) := by decide +kernel
theorem dX1_leftOf_85 : decode cX1_leftOf 85 = .ok (.lxor, 1) := by decide +kernel
theorem dX1_leftOf_86 : decode cX1_leftOf 86 = .ok (.land, 1) := by decide +kernel
theorem dX1_leftOf_87 : decode cX1_leftOf 87 = .ok (.iload 9, 2) := by decide +kernel
theorem dX1_leftOf_89 : decode cX1_leftOf 89 = .ok (.invokestatic 77, 3) := by decide +kernel
theorem dX1_leftOf_92 : decode cX1_leftOf 92 = .ok (.ifCond .eq 20, 3) := by decide +kernel
theorem dX1_leftOf_95 : decode cX1_leftOf 95 = .ok (.lload 7, 2) := by decide +kernel
theorem dX1_leftOf_97 : decode cX1_leftOf 97 = .ok (.aload_n 0, 1) := by decide +kernel
theorem dX1_leftOf_98 : decode cX1_leftOf 98 = .ok (.getfield 22, 3) := by decide +kernel
theorem dX1_leftOf_101 : decode cX1_leftOf 101 = .ok (.iload 9, 2) := by decide +kernel
theorem dX1_leftOf_103 : decode cX1_leftOf 103 = .ok (.iload_n 2, 1) := by decide +kernel
theorem dX1_leftOf_104 : decode cX1_leftOf 104 = .ok (.invokevirtual 54, 3) := by decide +kernel
theorem dX1_leftOf_107 : decode cX1_leftOf 107 = .ok (.invokestatic 95, 3) := by decide +kernel
theorem dX1_leftOf_110 : decode cX1_leftOf 110 = .ok (.lstore 7, 2) := by decide +kernel
theorem dX1_leftOf_112 : decode cX1_leftOf 112 = .ok (.iinc 9 1, 3) := by decide +kernel
theorem dX1_leftOf_115 : decode cX1_leftOf 115 = .ok (.goto (-42), 3) := by decide +kernel
theorem dX1_leftOf_118 : decode cX1_leftOf 118 = .ok (.lload 7, 2) := by decide +kernel
theorem dX1_leftOf_120 : decode cX1_leftOf 120 = .ok (.lreturn, 1) := by decide +kernel
theorem dX1_find_0 : decode cX1_find 0 = .ok (.aload_n 0, 1) := by decide +kernel
theorem dX1_find_1 : decode cX1_find 1 = .ok (.getfield 9, 3) := by decide +kernel
theorem dX1_find_4 : decode cX1_find 4 = .ok (.iload_n 1, 1) := by decide +kernel
theorem dX1_find_5 : decode cX1_find 5 = .ok (.bipush 10, 2) := by decide +kernel
theorem dX1_find_7 : decode cX1_find 7 = .ok (.imul, 1) := by decide +kernel
theorem dX1_find_8 : decode cX1_find 8 = .ok (.iload_n 2, 1) := by decide +kernel
theorem dX1_find_9 : decode cX1_find 9 = .ok (.iadd, 1) := by decide +kernel
theorem dX1_find_10 : decode cX1_find 10 = .ok (.iaload, 1) := by decide +kernel
theorem dX1_find_11 : decode cX1_find 11 = .ok (.ireturn, 1) := by decide +kernel
set_option maxRecDepth 20000 in
theorem ggX1_choose_X4_sortOf : GoodIn wsX1_choose wsX4_sortOf := goodIn_r _ [8, 9, 14, 15, 16, 17, 18, 19, 20, 21, 22, 23, 24] rfl (by decide +kernel)
set_option maxRecDepth 20000 in
theorem gX1_choose_X4_sortOf : GoodIn wsX1_choose (wsV RX1 84 RX4 yX4_sortOf wsX4_sortOf) := goodIn_app (goodIn_of _ (by decide +kernel)) ggX1_choose_X4_sortOf
theorem dX1_choose_0 : decode cX1_choose 0 = .ok (.aload_n 0, 1) := by decide +kernel
theorem dX1_choose_1 : decode cX1_choose 1 = .ok (.getfield 9, 3) := by decide +kernel
theorem dX1_choose_4 : decode cX1_choose 4 = .ok (.iload_n 2, 1) := by decide +kernel
theorem dX1_choose_5 : decode cX1_choose 5 = .ok (.bipush 10, 2) := by decide +kernel
theorem dX1_choose_7 : decode cX1_choose 7 = .ok (.imul, 1) := by decide +kernel
theorem dX1_choose_8 : decode cX1_choose 8 = .ok (.iload_n 3, 1) := by decide +kernel
theorem dX1_choose_9 : decode cX1_choose 9 = .ok (.iadd, 1) := by decide +kernel
theorem dX1_choose_10 : decode cX1_choose 10 = .ok (.iaload, 1) := by decide +kernel
theorem dX1_choose_11 : decode cX1_choose 11 = .ok (.istore 4, 2) := by decide +kernel
theorem dX1_choose_13 : decode cX1_choose 13 = .ok (.iload 4, 2) := by decide +kernel
theorem dX1_choose_15 : decode cX1_choose 15 = .ok (.iconst (-1), 1) := by decide +kernel
theorem dX1_choose_16 : decode cX1_choose 16 = .ok (.if_icmp .ne 6, 3) := by decide +kernel
theorem dX1_choose_19 : decode cX1_choose 19 = .ok (.bipush (-2), 2) := by decide +kernel
theorem dX1_choose_21 : decode cX1_choose 21 = .ok (.ireturn, 1) := by decide +kernel
theorem dX1_choose_22 : decode cX1_choose 22 = .ok (.aload_n 0, 1) := by decide +kernel
theorem dX1_choose_23 : decode cX1_choose 23 = .ok (.getfield 22, 3) := by decide +kernel
theorem dX1_choose_26 : decode cX1_choose 26 = .ok (.iload 4, 2) := by decide +kernel
theorem dX1_choose_28 : decode cX1_choose 28 = .ok (.invokevirtual 84, 3) := by decide +kernel
theorem dX1_choose_31 : decode cX1_choose 31 = .ok (.istore 5, 2) := by decide +kernel
theorem dX1_choose_33 : decode cX1_choose 33 = .ok (.iload 5, 2) := by decide +kernel
theorem dX1_choose_35 : decode cX1_choose 35 = .ok (.iconst 2, 1) := by decide +kernel
theorem dX1_choose_36 : decode cX1_choose 36 = .ok (.if_icmp .ne 6, 3) := by decide +kernel
theorem dX1_choose_39 : decode cX1_choose 39 = .ok (.bipush (-3), 2) := by decide +kernel
theorem dX1_choose_41 : decode cX1_choose 41 = .ok (.ireturn, 1) := by decide +kernel
theorem dX1_choose_42 : decode cX1_choose 42 = .ok (.iload 5, 2) := by decide +kernel
theorem dX1_choose_44 : decode cX1_choose 44 = .ok (.iconst 3, 1) := by decide +kernel
theorem dX1_choose_45 : decode cX1_choose 45 = .ok (.if_icmp .ne 8, 3) := by decide +kernel
theorem dX1_choose_48 : decode cX1_choose 48 = .ok (.iload 4, 2) := by decide +kernel
theorem dX1_choose_50 : decode cX1_choose 50 = .ok (.goto 14, 3) := by decide +kernel
theorem dX1_choose_53 : decode cX1_choose 53 = .ok (.aload_n 0, 1) := by decide +kernel
theorem dX1_choose_54 : decode cX1_choose 54 = .ok (.getfield 15, 3) := by decide +kernel
theorem dX1_choose_57 : decode cX1_choose 57 = .ok (.iload_n 1, 1) := by decide +kernel
theorem dX1_choose_58 : decode cX1_choose 58 = .ok (.bipush 10, 2) := by decide +kernel
theorem dX1_choose_60 : decode cX1_choose 60 = .ok (.imul, 1) := by decide +kernel
theorem dX1_choose_61 : decode cX1_choose 61 = .ok (.iload_n 3, 1) := by decide +kernel
theorem dX1_choose_62 : decode cX1_choose 62 = .ok (.iadd, 1) := by decide +kernel
theorem dX1_choose_63 : decode cX1_choose 63 = .ok (.iaload, 1) := by decide +kernel
theorem dX1_choose_64 : decode cX1_choose 64 = .ok (.ireturn, 1) := by decide +kernel
set_option maxRecDepth 20000 in
theorem ggX1_chooseStatic_X4_sortOf : GoodIn wsX1_chooseStatic wsX4_sortOf := goodIn_r _ [7, 8, 13, 14, 15, 16, 17, 18, 19, 20, 21, 22, 23] rfl (by decide +kernel)
set_option maxRecDepth 20000 in
theorem gX1_chooseStatic_X4_sortOf : GoodIn wsX1_chooseStatic (wsV RX1 84 RX4 yX4_sortOf wsX4_sortOf) := goodIn_app (goodIn_of _ (by decide +kernel)) ggX1_chooseStatic_X4_sortOf
theorem dX1_chooseStatic_0 : decode cX1_chooseStatic 0 = .ok (.aload_n 0, 1) := by decide +kernel
theorem dX1_chooseStatic_1 : decode cX1_chooseStatic 1 = .ok (.getfield 9, 3) := by decide +kernel
theorem dX1_chooseStatic_4 : decode cX1_chooseStatic 4 = .ok (.iload_n 1, 1) := by decide +kernel
theorem dX1_chooseStatic_5 : decode cX1_chooseStatic 5 = .ok (.bipush 10, 2) := by decide +kernel
theorem dX1_chooseStatic_7 : decode cX1_chooseStatic 7 = .ok (.imul, 1) := by decide +kernel
theorem dX1_chooseStatic_8 : decode cX1_chooseStatic 8 = .ok (.iload_n 2, 1) := by decide +kernel
theorem dX1_chooseStatic_9 : decode cX1_chooseStatic 9 = .ok (.iadd, 1) := by decide +kernel
theorem dX1_chooseStatic_10 : decode cX1_chooseStatic 10 = .ok (.iaload, 1) := by decide +kernel
theorem dX1_chooseStatic_11 : decode cX1_chooseStatic 11 = .ok (.istore_n 3, 1) := by decide +kernel
theorem dX1_chooseStatic_12 : decode cX1_chooseStatic 12 = .ok (.iload_n 3, 1) := by decide +kernel
theorem dX1_chooseStatic_13 : decode cX1_chooseStatic 13 = .ok (.iconst (-1), 1) := by decide +kernel
theorem dX1_chooseStatic_14 : decode cX1_chooseStatic 14 = .ok (.if_icmp .ne 6, 3) := by decide +kernel
theorem dX1_chooseStatic_17 : decode cX1_chooseStatic 17 = .ok (.bipush (-2), 2) := by decide +kernel
theorem dX1_chooseStatic_19 : decode cX1_chooseStatic 19 = .ok (.ireturn, 1) := by decide +kernel
theorem dX1_chooseStatic_20 : decode cX1_chooseStatic 20 = .ok (.aload_n 0, 1) := by decide +kernel
theorem dX1_chooseStatic_21 : decode cX1_chooseStatic 21 = .ok (.getfield 22, 3) := by decide +kernel
theorem dX1_chooseStatic_24 : decode cX1_chooseStatic 24 = .ok (.iload_n 3, 1) := by decide +kernel
theorem dX1_chooseStatic_25 : decode cX1_chooseStatic 25 = .ok (.invokevirtual 84, 3) := by decide +kernel
theorem dX1_chooseStatic_28 : decode cX1_chooseStatic 28 = .ok (.iconst 2, 1) := by decide +kernel
theorem dX1_chooseStatic_29 : decode cX1_chooseStatic 29 = .ok (.if_icmp .ne 7, 3) := by decide +kernel
theorem dX1_chooseStatic_32 : decode cX1_chooseStatic 32 = .ok (.iload_n 3, 1) := by decide +kernel
theorem dX1_chooseStatic_33 : decode cX1_chooseStatic 33 = .ok (.goto 5, 3) := by decide +kernel
theorem dX1_chooseStatic_36 : decode cX1_chooseStatic 36 = .ok (.bipush (-3), 2) := by decide +kernel
theorem dX1_chooseStatic_38 : decode cX1_chooseStatic 38 = .ok (.ireturn, 1) := by decide +kernel
theorem dX2_init_0 : decode cX2_init 0 = .ok (.aload_n 0, 1) := by decide +kernel
theorem dX2_init_1 : decode cX2_init 1 = .ok (.invokespecial 3, 3) := by decide +kernel
theorem dX2_init_4 : decode cX2_init 4 = .ok (.aload_n 0, 1) := by decide +kernel
theorem dX2_init_5 : decode cX2_init 5 = .ok (.bipush 20, 2) := by decide +kernel
theorem dX2_init_7 : decode cX2_init 7 = .ok (.newarray .int, 2) := by decide +kernel
theorem dX2_init_9 : decode cX2_init 9 = .ok (.putfield 9, 3) := by decide +kernel
theorem dX2_init_12 : decode cX2_init 12 = .ok (.aload_n 0, 1) := by decide +kernel
theorem dX2_init_13 : decode cX2_init 13 = .ok (.sipush 192, 3) := by decide +kernel
theorem dX2_init_16 : decode cX2_init 16 = .ok (.newarray .int, 2) := by decide +kernel
theorem dX2_init_18 : decode cX2_init 18 = .ok (.putfield 15, 3) := by decide +kernel
theorem dX2_init_21 : decode cX2_init 21 = .ok (.aload_n 0, 1) := by decide +kernel
theorem dX2_init_22 : decode cX2_init 22 = .ok (.iconst 4, 1) := by decide +kernel
theorem dX2_init_23 : decode cX2_init 23 = .ok (.newarray .int, 2) := by decide +kernel
theorem dX2_init_25 : decode cX2_init 25 = .ok (.putfield 18, 3) := by decide +kernel
theorem dX2_init_28 : decode cX2_init 28 = .ok (.aload_n 0, 1) := by decide +kernel
theorem dX2_init_29 : decode cX2_init 29 = .ok (.sipush 160, 3) := by decide +kernel
theorem dX2_init_32 : decode cX2_init 32 = .ok (.newarray .long, 2) := by decide +kernel
theorem dX2_init_34 : decode cX2_init 34 = .ok (.putfield 21, 3) := by decide +kernel
theorem dX2_init_37 : decode cX2_init 37 = .ok (.aload_n 0, 1) := by decide +kernel
theorem dX2_init_38 : decode cX2_init 38 = .ok (.aload_n 1, 1) := by decide +kernel
theorem dX2_init_39 : decode cX2_init 39 = .ok (.putfield 25, 3) := by decide +kernel
theorem dX2_init_42 : decode cX2_init 42 = .ok (.aload_n 0, 1) := by decide +kernel
theorem dX2_init_43 : decode cX2_init 43 = .ok (.aload_n 2, 1) := by decide +kernel
theorem dX2_init_44 : decode cX2_init 44 = .ok (.putfield 29, 3) := by decide +kernel
theorem dX2_init_47 : decode cX2_init 47 = .ok (.aload_n 0, 1) := by decide +kernel
theorem dX2_init_48 : decode cX2_init 48 = .ok (.aload_n 3, 1) := by decide +kernel
theorem dX2_init_49 : decode cX2_init 49 = .ok (.putfield 33, 3) := by decide +kernel
theorem dX2_init_52 : decode cX2_init 52 = .ok (.aload_n 0, 1) := by decide +kernel
theorem dX2_init_53 : decode cX2_init 53 = .ok (.aload 4, 2) := by decide +kernel
theorem dX2_init_55 : decode cX2_init 55 = .ok (.putfield 37, 3) := by decide +kernel
theorem dX2_init_58 : decode cX2_init 58 = .ok (.return_, 1) := by decide +kernel
theorem dX2_steps_0 : decode cX2_steps 0 = .ok (.aload_n 0, 1) := by decide +kernel
theorem dX2_steps_1 : decode cX2_steps 1 = .ok (.getfield 41, 3) := by decide +kernel
theorem dX2_steps_4 : decode cX2_steps 4 = .ok (.ireturn, 1) := by decide +kernel
theorem dX2_ran_0 : decode cX2_ran 0 = .ok (.aload_n 0, 1) := by decide +kernel
theorem dX2_ran_1 : decode cX2_ran 1 = .ok (.getfield 45, 3) := by decide +kernel
theorem dX2_ran_4 : decode cX2_ran 4 = .ok (.lreturn, 1) := by decide +kernel
theorem dX2_poolSize_0 : decode cX2_poolSize 0 = .ok (.aload_n 0, 1) := by decide +kernel
theorem dX2_poolSize_1 : decode cX2_poolSize 1 = .ok (.getfield 49, 3) := by decide +kernel
theorem dX2_poolSize_4 : decode cX2_poolSize 4 = .ok (.ireturn, 1) := by decide +kernel
theorem dX2_begunTypes_0 : decode cX2_begunTypes 0 = .ok (.aload_n 0, 1) := by decide +kernel
theorem dX2_begunTypes_1 : decode cX2_begunTypes 1 = .ok (.getfield 52, 3) := by decide +kernel
theorem dX2_begunTypes_4 : decode cX2_begunTypes 4 = .ok (.lreturn, 1) := by decide +kernel
theorem dX2_leftCalls_0 : decode cX2_leftCalls 0 = .ok (.aload_n 0, 1) := by decide +kernel
theorem dX2_leftCalls_1 : decode cX2_leftCalls 1 = .ok (.getfield 55, 3) := by decide +kernel
theorem dX2_leftCalls_4 : decode cX2_leftCalls 4 = .ok (.ireturn, 1) := by decide +kernel
theorem dX2_latest_0 : decode cX2_latest 0 = .ok (.aload_n 0, 1) := by decide +kernel
theorem dX2_latest_1 : decode cX2_latest 1 = .ok (.getfield 58, 3) := by decide +kernel
theorem dX2_latest_4 : decode cX2_latest 4 = .ok (.ireturn, 1) := by decide +kernel
theorem dX2_triedBy_0 : decode cX2_triedBy 0 = .ok (.aload_n 0, 1) := by decide +kernel
theorem dX2_triedBy_1 : decode cX2_triedBy 1 = .ok (.getfield 21, 3) := by decide +kernel
theorem dX2_triedBy_4 : decode cX2_triedBy 4 = .ok (.iload_n 1, 1) := by decide +kernel
theorem dX2_triedBy_5 : decode cX2_triedBy 5 = .ok (.laload, 1) := by decide +kernel
theorem dX2_triedBy_6 : decode cX2_triedBy 6 = .ok (.lreturn, 1) := by decide +kernel
set_option maxRecDepth 20000 in
theorem ggX2_pooledClasses_X0_with : GoodIn wsX2_pooledClasses wsX0_with := goodIn_r _ [6] rfl (by decide +kernel)
set_option maxRecDepth 20000 in
theorem gX2_pooledClasses_X0_with : GoodIn wsX2_pooledClasses (va_wsS RX2 61 yX0_with wsX0_with) := goodIn_app (goodIn_of _ (by decide +kernel)) ggX2_pooledClasses_X0_with
theorem dX2_pooledClasses_0 : decode cX2_pooledClasses 0 = .ok (.lconst 0, 1) := by decide +kernel
theorem dX2_pooledClasses_1 : decode cX2_pooledClasses 1 = .ok (.lstore_n 1, 1) := by decide +kernel
theorem dX2_pooledClasses_2 : decode cX2_pooledClasses 2 = .ok (.iconst 0, 1) := by decide +kernel
theorem dX2_pooledClasses_3 : decode cX2_pooledClasses 3 = .ok (.istore_n 3, 1) := by decide +kernel
theorem dX2_pooledClasses_4 : decode cX2_pooledClasses 4 = .ok (.iload_n 3, 1) := by decide +kernel
theorem dX2_pooledClasses_5 : decode cX2_pooledClasses 5 = .ok (.aload_n 0, 1) := by decide +kernel
theorem dX2_pooledClasses_6 : decode cX2_pooledClasses 6 = .ok (.getfield 49, 3) := by decide +kernel
theorem dX2_pooledClasses_9 : decode cX2_pooledClasses 9 = .ok (.if_icmp .ge 20, 3) := by decide +kernel
theorem dX2_pooledClasses_12 : decode cX2_pooledClasses 12 = .ok (.lload_n 1, 1) := by decide +kernel
theorem dX2_pooledClasses_13 : decode cX2_pooledClasses 13 = .ok (.aload_n 0, 1) := by decide +kernel
theorem dX2_pooledClasses_14 : decode cX2_pooledClasses 14 = .ok (.getfield 9, 3) := by decide +kernel
theorem dX2_pooledClasses_17 : decode cX2_pooledClasses 17 = .ok (.iload_n 3, 1) := by decide +kernel
theorem dX2_pooledClasses_18 : decode cX2_pooledClasses 18 = .ok (.iaload, 1) := by decide +kernel
theorem dX2_pooledClasses_19 : decode cX2_pooledClasses 19 = .ok (.invokestatic 61, 3) := by decide +kernel
theorem dX2_pooledClasses_22 : decode cX2_pooledClasses 22 = .ok (.lstore_n 1, 1) := by decide +kernel
theorem dX2_pooledClasses_23 : decode cX2_pooledClasses 23 = .ok (.iinc 3 1, 3) := by decide +kernel
theorem dX2_pooledClasses_26 : decode cX2_pooledClasses 26 = .ok (.goto (-22), 3) := by decide +kernel
theorem dX2_pooledClasses_29 : decode cX2_pooledClasses 29 = .ok (.lload_n 1, 1) := by decide +kernel
theorem dX2_pooledClasses_30 : decode cX2_pooledClasses 30 = .ok (.lreturn, 1) := by decide +kernel
set_option maxRecDepth 20000 in
theorem ggX2_play_X2_clear : GoodIn wsX2_play wsX2_clear := goodIn_r _ [7, 8, 9, 10, 11, 12, 13, 14, 15, 16, 17, 18, 19, 20, 21, 22, 191, 192, 193, 194, 195, 196, 197, 198, 199, 200, 201, 202, 203, 204, 205] rfl (by decide +kernel)
set_option maxRecDepth 20000 in
theorem gX2_play_X2_clear : GoodIn wsX2_play (wsV RX2 67 RX2 yX2_clear wsX2_clear) := goodIn_app (goodIn_of _ (by decide +kernel)) ggX2_play_X2_clear
set_option maxRecDepth 20000 in
theorem ggX2_play_X4_size : GoodIn wsX2_play wsX4_size := goodIn_r _ [27, 28, 206, 207, 208, 209, 210, 211, 212, 213, 214, 215, 216] rfl (by decide +kernel)
set_option maxRecDepth 20000 in
theorem gX2_play_X4_size : GoodIn wsX2_play (wsV RX2 73 RX4 yX4_size wsX4_size) := goodIn_app (goodIn_of _ (by decide +kernel)) ggX2_play_X4_size
set_option maxRecDepth 20000 in
theorem ggX2_play_X4_isRoot : GoodIn wsX2_play wsX4_isRoot := goodIn_r _ [32, 33, 34, 35, 36, 37, 206, 207, 208, 209, 210, 211, 212, 213, 214, 215, 216] rfl (by decide +kernel)
set_option maxRecDepth 20000 in
theorem gX2_play_X4_isRoot : GoodIn wsX2_play (wsV RX2 79 RX4 yX4_isRoot wsX4_isRoot) := goodIn_app (goodIn_of _ (by decide +kernel)) ggX2_play_X4_isRoot
set_option maxRecDepth 20000 in
theorem ggX2_play_X2_enter : GoodIn wsX2_play wsX2_enter := goodIn_r _ [41, 13, 14, 10, 15, 42, 43, 44, 36, 45, 46, 47, 48, 49, 50, 51, 52, 53, 54, 6, 55, 1, 56, 57, 58, 59, 60, 61, 62, 63, 64, 65, 66, 11, 67, 2, 68, 35, 37, 69, 70, 71, 72, 73, 74, 75, 76, 77, 78, 79, 80, 26, 81, 82, 83, 84, 85, 86, 87, 88, 89, 90, 91, 92, 93, 94, 95, 96, 97, 98, 99, 100, 101, 102, 103, 104, 105, 106, 107, 108, 109, 110, 111, 112, 113, 114, 115, 116, 8, 117, 118, 12, 119, 120, 121, 122, 123, 124, 125, 126, 127, 128, 129, 130, 131, 132, 133, 134, 135, 136, 137, 138, 139, 140, 141, 142, 143, 144, 145, 146, 147, 148, 149, 150, 151, 152, 153, 154, 155, 156, 157, 158, 159, 9, 38, 39, 40, 160, 161, 162, 163, 164, 165, 166, 167, 168, 169, 170, 171, 172, 173, 174, 175, 176, 177, 178, 179, 180, 181, 182, 183, 184, 185, 186, 187, 188, 189, 190, 191, 192, 193, 194, 195, 196, 197, 198, 199, 200, 201, 202, 203, 204, 205, 217, 218, 219, 220, 221, 222, 206, 207, 208, 209, 210, 211, 212, 213, 214, 215, 216, 223, 224, 225, 226, 227, 228, 229, 230, 231, 232] rfl (by decide +kernel)
set_option maxRecDepth 20000 in
theorem gX2_play_X2_enter : GoodIn wsX2_play (wsV RX2 83 RX2 yX2_enter wsX2_enter) := goodIn_app (goodIn_of _ (by decide +kernel)) ggX2_play_X2_enter
theorem dX2_play_0 : decode cX2_play 0 = .ok (.aload_n 0, 1) := by decide +kernel
theorem dX2_play_1 : decode cX2_play 1 = .ok (.invokevirtual 67, 3) := by decide +kernel
theorem dX2_play_4 : decode cX2_play 4 = .ok (.aload_n 0, 1) := by decide +kernel
theorem dX2_play_5 : decode cX2_play 5 = .ok (.lload_n 1, 1) := by decide +kernel
theorem dX2_play_6 : decode cX2_play 6 = .ok (.putfield 70, 3) := by decide +kernel
theorem dX2_play_9 : decode cX2_play 9 = .ok (.iconst 0, 1) := by decide +kernel
theorem dX2_play_10 : decode cX2_play 10 = .ok (.istore_n 3, 1) := by decide +kernel
theorem dX2_play_11 : decode cX2_play 11 = .ok (.iload_n 3, 1) := by decide +kernel
theorem dX2_play_12 : decode cX2_play 12 = .ok (.aload_n 0, 1) := by decide +kernel
theorem dX2_play_13 : decode cX2_play 13 = .ok (.getfield 29, 3) := by decide +kernel
theorem dX2_play_16 : decode cX2_play 16 = .ok (.invokevirtual 73, 3) := by decide +kernel
theorem dX2_play_19 : decode cX2_play 19 = .ok (.if_icmp .ge 26, 3) := by decide +kernel
theorem dX2_play_22 : decode cX2_play 22 = .ok (.aload_n 0, 1) := by decide +kernel
theorem dX2_play_23 : decode cX2_play 23 = .ok (.getfield 29, 3) := by decide +kernel
theorem dX2_play_26 : decode cX2_play 26 = .ok (.iload_n 3, 1) := by decide +kernel
theorem dX2_play_27 : decode cX2_play 27 = .ok (.invokevirtual 79, 3) := by decide +kernel
theorem dX2_play_30 : decode cX2_play 30 = .ok (.ifCond .eq 9, 3) := by decide +kernel
theorem dX2_play_33 : decode cX2_play 33 = .ok (.aload_n 0, 1) := by decide +kernel
theorem dX2_play_34 : decode cX2_play 34 = .ok (.iload_n 3, 1) := by decide +kernel
theorem dX2_play_35 : decode cX2_play 35 = .ok (.iconst 0, 1) := by decide +kernel
theorem dX2_play_36 : decode cX2_play 36 = .ok (.invokevirtual 83, 3) := by decide +kernel
theorem dX2_play_39 : decode cX2_play 39 = .ok (.iinc 3 1, 3) := by decide +kernel
theorem dX2_play_42 : decode cX2_play 42 = .ok (.goto (-31), 3) := by decide +kernel
theorem dX2_play_45 : decode cX2_play 45 = .ok (.return_, 1) := by decide +kernel
set_option maxRecDepth 20000 in
theorem ggX2_clear_J7_fill_53178 : GoodIn wsX2_clear wsJ7_fill_53178 := goodIn_r _ [12] rfl (by decide +kernel)
set_option maxRecDepth 20000 in
theorem gX2_clear_J7_fill_53178 : GoodIn wsX2_clear (va_wsS RX2 87 yJ7_fill_53178 wsJ7_fill_53178) := goodIn_app (goodIn_of _ (by decide +kernel)) ggX2_clear_J7_fill_53178
set_option maxRecDepth 20000 in
theorem ggX2_clear_J7_fill_d0a16 : GoodIn wsX2_clear wsJ7_fill_d0a16 := goodIn_r _ [15] rfl (by decide +kernel)
set_option maxRecDepth 20000 in
theorem gX2_clear_J7_fill_d0a16 : GoodIn wsX2_clear (va_wsS RX2 93 yJ7_fill_d0a16 wsJ7_fill_d0a16) := goodIn_app (goodIn_of _ (by decide +kernel)) ggX2_clear_J7_fill_d0a16
theorem dX2_clear_0 : decode cX2_clear 0 = .ok (.aload_n 0, 1) := by decide +kernel
theorem dX2_clear_1 : decode cX2_clear 1 = .ok (.getfield 18, 3) := by decide +kernel
theorem dX2_clear_4 : decode cX2_clear 4 = .ok (.iconst 0, 1) := by decide +kernel
theorem dX2_clear_5 : decode cX2_clear 5 = .ok (.invokestatic 87, 3) := by decide +kernel
theorem dX2_clear_8 : decode cX2_clear 8 = .ok (.aload_n 0, 1) := by decide +kernel
theorem dX2_clear_9 : decode cX2_clear 9 = .ok (.getfield 21, 3) := by decide +kernel
theorem dX2_clear_12 : decode cX2_clear 12 = .ok (.lconst 0, 1) := by decide +kernel
theorem dX2_clear_13 : decode cX2_clear 13 = .ok (.invokestatic 93, 3) := by decide +kernel
theorem dX2_clear_16 : decode cX2_clear 16 = .ok (.aload_n 0, 1) := by decide +kernel
theorem dX2_clear_17 : decode cX2_clear 17 = .ok (.lconst 0, 1) := by decide +kernel
theorem dX2_clear_18 : decode cX2_clear 18 = .ok (.putfield 45, 3) := by decide +kernel
theorem dX2_clear_21 : decode cX2_clear 21 = .ok (.aload_n 0, 1) := by decide +kernel
theorem dX2_clear_22 : decode cX2_clear 22 = .ok (.lconst 0, 1) := by decide +kernel
theorem dX2_clear_23 : decode cX2_clear 23 = .ok (.putfield 52, 3) := by decide +kernel
theorem dX2_clear_26 : decode cX2_clear 26 = .ok (.aload_n 0, 1) := by decide +kernel
theorem dX2_clear_27 : decode cX2_clear 27 = .ok (.iconst 0, 1) := by decide +kernel
theorem dX2_clear_28 : decode cX2_clear 28 = .ok (.putfield 49, 3) := by decide +kernel
theorem dX2_clear_31 : decode cX2_clear 31 = .ok (.aload_n 0, 1) := by decide +kernel
theorem dX2_clear_32 : decode cX2_clear 32 = .ok (.iconst 0, 1) := by decide +kernel
theorem dX2_clear_33 : decode cX2_clear 33 = .ok (.putfield 41, 3) := by decide +kernel
theorem dX2_clear_36 : decode cX2_clear 36 = .ok (.aload_n 0, 1) := by decide +kernel
theorem dX2_clear_37 : decode cX2_clear 37 = .ok (.iconst 0, 1) := by decide +kernel
theorem dX2_clear_38 : decode cX2_clear 38 = .ok (.putfield 55, 3) := by decide +kernel
theorem dX2_clear_41 : decode cX2_clear 41 = .ok (.aload_n 0, 1) := by decide +kernel
theorem dX2_clear_42 : decode cX2_clear 42 = .ok (.iconst (-1), 1) := by decide +kernel
theorem dX2_clear_43 : decode cX2_clear 43 = .ok (.putfield 58, 3) := by decide +kernel
theorem dX2_clear_46 : decode cX2_clear 46 = .ok (.return_, 1) := by decide +kernel
theorem dX2_draw_0 : decode cX2_draw 0 = .ok (.aload_n 0, 1) := by decide +kernel
theorem dX2_draw_1 : decode cX2_draw 1 = .ok (.aload_n 0, 1) := by decide +kernel
theorem dX2_draw_2 : decode cX2_draw 2 = .ok (.getfield 70, 3) := by decide +kernel
theorem dX2_draw_5 : decode cX2_draw 5 = .ok (.ldc2_w 96, 3) := by decide +kernel
theorem dX2_draw_8 : decode cX2_draw 8 = .ok (.lmul, 1) := by decide +kernel
theorem dX2_draw_9 : decode cX2_draw 9 = .ok (.ldc2_w 98, 3) := by decide +kernel
theorem dX2_draw_12 : decode cX2_draw 12 = .ok (.ladd, 1) := by decide +kernel
theorem dX2_draw_13 : decode cX2_draw 13 = .ok (.putfield 70, 3) := by decide +kernel
theorem dX2_draw_16 : decode cX2_draw 16 = .ok (.iload_n 1, 1) := by decide +kernel
theorem dX2_draw_17 : decode cX2_draw 17 = .ok (.ifCond .gt 7, 3) := by decide +kernel
theorem dX2_draw_20 : decode cX2_draw 20 = .ok (.iconst 0, 1) := by decide +kernel
theorem dX2_draw_21 : decode cX2_draw 21 = .ok (.goto 14, 3) := by decide +kernel
theorem dX2_draw_24 : decode cX2_draw 24 = .ok (.aload_n 0, 1) := by decide +kernel
theorem dX2_draw_25 : decode cX2_draw 25 = .ok (.getfield 70, 3) := by decide +kernel
theorem dX2_draw_28 : decode cX2_draw 28 = .ok (.bipush 33, 2) := by decide +kernel
theorem dX2_draw_30 : decode cX2_draw 30 = .ok (.lushr, 1) := by decide +kernel
theorem dX2_draw_31 : decode cX2_draw 31 = .ok (.iload_n 1, 1) := by decide +kernel
theorem dX2_draw_32 : decode cX2_draw 32 = .ok (.i2l, 1) := by decide +kernel
theorem dX2_draw_33 : decode cX2_draw 33 = .ok (.lrem, 1) := by decide +kernel
theorem dX2_draw_34 : decode cX2_draw 34 = .ok (.l2i, 1) := by decide +kernel
theorem dX2_draw_35 : decode cX2_draw 35 = .ok (.ireturn, 1) := by decide +kernel
set_option maxRecDepth 20000 in
theorem ggX2_enter_X0_with : GoodIn wsX2_enter wsX0_with := goodIn_r _ [9] rfl (by decide +kernel)
set_option maxRecDepth 20000 in
theorem gX2_enter_X0_with : GoodIn wsX2_enter (va_wsS RX2 61 yX0_with wsX0_with) := goodIn_app (goodIn_of _ (by decide +kernel)) ggX2_enter_X0_with
set_option maxRecDepth 20000 in
theorem ggX2_enter_X5_sizeOf : GoodIn wsX2_enter wsX5_sizeOf := goodIn_r _ [14, 15, 200, 201, 202, 203, 204, 205] rfl (by decide +kernel)
set_option maxRecDepth 20000 in
theorem gX2_enter_X5_sizeOf : GoodIn wsX2_enter (wsV RX2 100 RX5 yX5_sizeOf wsX5_sizeOf) := goodIn_app (goodIn_of _ (by decide +kernel)) ggX2_enter_X5_sizeOf
set_option maxRecDepth 20000 in
theorem ggX2_enter_X2_draw : GoodIn wsX2_enter wsX2_draw := goodIn_r _ [20, 21, 22, 23, 168, 169, 170, 171, 172, 173, 174, 175, 176, 177, 178, 179, 180, 181, 182] rfl (by decide +kernel)
set_option maxRecDepth 20000 in
theorem gX2_enter_X2_draw : GoodIn wsX2_enter (wsV RX2 106 RX2 yX2_draw wsX2_draw) := goodIn_app (goodIn_of _ (by decide +kernel)) ggX2_enter_X2_draw
set_option maxRecDepth 20000 in
theorem ggX2_enter_X5_at : GoodIn wsX2_enter wsX5_at := goodIn_r _ [27, 28, 200, 201, 202, 203, 204, 205] rfl (by decide +kernel)
set_option maxRecDepth 20000 in
theorem gX2_enter_X5_at : GoodIn wsX2_enter (wsV RX2 109 RX5 yX5_at wsX5_at) := goodIn_app (goodIn_of _ (by decide +kernel)) ggX2_enter_X5_at
set_option maxRecDepth 20000 in
theorem ggX2_enter_X2_perform : GoodIn wsX2_enter wsX2_perform := goodIn_r _ [137, 5, 91, 92, 93, 35, 94, 95, 96, 13, 97, 98, 108, 109, 110, 111, 112, 138, 139, 140, 141, 142, 45, 46, 47, 19, 143, 144, 145, 113, 114, 115, 116, 117, 118, 119, 120, 121, 122, 123, 51, 124, 125, 71, 72, 73, 146, 147, 148, 149, 150, 151, 152, 153, 154, 155, 156, 88, 89, 157, 158, 159, 160, 161, 162, 163, 164, 165, 166, 167, 32, 33, 34, 36, 37, 8, 38, 6, 7, 9, 39, 40, 41, 42, 43, 44, 48, 49, 50, 52, 53, 54, 55, 56, 57, 58, 59, 60, 61, 62, 63, 64, 65, 66, 67, 68, 69, 70, 74, 75, 76, 77, 78, 79, 80, 81, 16, 17, 18, 20, 21, 22, 23, 82, 83, 84, 85, 86, 87, 90, 99, 100, 101, 102, 103, 104, 105, 106, 107, 126, 127, 128, 129, 130, 131, 0, 1, 2, 3, 4, 10, 11, 12, 14, 15, 24, 25, 26, 27, 28, 29, 30, 31, 132, 133, 134, 135, 136, 168, 169, 170, 171, 172, 173, 174, 175, 176, 177, 178, 179, 180, 181, 182, 183, 184, 185, 186, 187, 188, 189, 190, 191, 192, 193, 194, 195, 196, 197, 198, 199, 200, 201, 202, 203, 204, 205, 206, 207, 208, 209] rfl (by decide +kernel)
set_option maxRecDepth 20000 in
theorem gX2_enter_X2_perform : GoodIn wsX2_enter (wsV RX2 113 RX2 yX2_perform wsX2_perform) := goodIn_app (goodIn_of _ (by decide +kernel)) ggX2_enter_X2_perform
theorem dX2_enter_0 : decode cX2_enter 0 = .ok (.iload_n 2, 1) := by decide +kernel
theorem dX2_enter_1 : decode cX2_enter 1 = .ok (.bipush 12, 2) := by decide +kernel
theorem dX2_enter_3 : decode cX2_enter 3 = .ok (.if_icmp .ge 13, 3) := by decide +kernel
theorem dX2_enter_6 : decode cX2_enter 6 = .ok (.aload_n 0, 1) := by decide +kernel
theorem dX2_enter_7 : decode cX2_enter 7 = .ok (.getfield 41, 3) := by decide +kernel
theorem dX2_enter_10 : decode cX2_enter 10 = .ok (.sipush 300, 3) := by decide +kernel
theorem dX2_enter_13 : decode cX2_enter 13 = .ok (.if_icmp .lt 14, 3) := by decide +kernel
theorem dX2_enter_16 : decode cX2_enter 16 = .ok (.aload_n 0, 1) := by decide +kernel
theorem dX2_enter_17 : decode cX2_enter 17 = .ok (.dup, 1) := by decide +kernel
theorem dX2_enter_18 : decode cX2_enter 18 = .ok (.getfield 55, 3) := by decide +kernel
theorem dX2_enter_21 : decode cX2_enter 21 = .ok (.iconst 1, 1) := by decide +kernel
theorem dX2_enter_22 : decode cX2_enter 22 = .ok (.iadd, 1) := by decide +kernel
theorem dX2_enter_23 : decode cX2_enter 23 = .ok (.putfield 55, 3) := by decide +kernel
theorem dX2_enter_26 : decode cX2_enter 26 = .ok (.return_, 1) := by decide +kernel
theorem dX2_enter_27 : decode cX2_enter 27 = .ok (.aload_n 0, 1) := by decide +kernel
theorem dX2_enter_28 : decode cX2_enter 28 = .ok (.dup, 1) := by decide +kernel
theorem dX2_enter_29 : decode cX2_enter 29 = .ok (.getfield 41, 3) := by decide +kernel
theorem dX2_enter_32 : decode cX2_enter 32 = .ok (.iconst 1, 1) := by decide +kernel
theorem dX2_enter_33 : decode cX2_enter 33 = .ok (.iadd, 1) := by decide +kernel
theorem dX2_enter_34 : decode cX2_enter 34 = .ok (.putfield 41, 3) := by decide +kernel
theorem dX2_enter_37 : decode cX2_enter 37 = .ok (.aload_n 0, 1) := by decide +kernel
theorem dX2_enter_38 : decode cX2_enter 38 = .ok (.aload_n 0, 1) := by decide +kernel
theorem dX2_enter_39 : decode cX2_enter 39 = .ok (.getfield 45, 3) := by decide +kernel
theorem dX2_enter_42 : decode cX2_enter 42 = .ok (.iload_n 1, 1) := by decide +kernel
theorem dX2_enter_43 : decode cX2_enter 43 = .ok (.invokestatic 61, 3) := by decide +kernel
theorem dX2_enter_46 : decode cX2_enter 46 = .ok (.putfield 45, 3) := by decide +kernel
theorem dX2_enter_49 : decode cX2_enter 49 = .ok (.aload_n 0, 1) := by decide +kernel
theorem dX2_enter_50 : decode cX2_enter 50 = .ok (.iload_n 1, 1) := by decide +kernel
theorem dX2_enter_51 : decode cX2_enter 51 = .ok (.putfield 58, 3) := by decide +kernel
theorem dX2_enter_54 : decode cX2_enter 54 = .ok (.iconst 0, 1) := by decide +kernel
theorem dX2_enter_55 : decode cX2_enter 55 = .ok (.istore_n 3, 1) := by decide +kernel
theorem dX2_enter_56 : decode cX2_enter 56 = .ok (.iload_n 3, 1) := by decide +kernel
theorem dX2_enter_57 : decode cX2_enter 57 = .ok (.aload_n 0, 1) := by decide +kernel
theorem dX2_enter_58 : decode cX2_enter 58 = .ok (.getfield 37, 3) := by decide +kernel
theorem dX2_enter_61 : decode cX2_enter 61 = .ok (.iload_n 1, 1) := by decide +kernel
theorem dX2_enter_62 : decode cX2_enter 62 = .ok (.invokevirtual 100, 3) := by decide +kernel
theorem dX2_enter_65 : decode cX2_enter 65 = .ok (.if_icmp .ge 33, 3) := by decide +kernel
theorem dX2_enter_68 : decode cX2_enter 68 = .ok (.aload_n 0, 1) := by decide +kernel
theorem dX2_enter_69 : decode cX2_enter 69 = .ok (.iconst 4, 1) := by decide +kernel
theorem dX2_enter_70 : decode cX2_enter 70 = .ok (.invokevirtual 106, 3) := by decide +kernel
theorem dX2_enter_73 : decode cX2_enter 73 = .ok (.ifCond .eq 19, 3) := by decide +kernel
theorem dX2_enter_76 : decode cX2_enter 76 = .ok (.aload_n 0, 1) := by decide +kernel
theorem dX2_enter_77 : decode cX2_enter 77 = .ok (.aload_n 0, 1) := by decide +kernel
theorem dX2_enter_78 : decode cX2_enter 78 = .ok (.getfield 37, 3) := by decide +kernel
theorem dX2_enter_81 : decode cX2_enter 81 = .ok (.iload_n 1, 1) := by decide +kernel
theorem dX2_enter_82 : decode cX2_enter 82 = .ok (.iload_n 3, 1) := by decide +kernel
theorem dX2_enter_83 : decode cX2_enter 83 = .ok (.invokevirtual 109, 3) := by decide +kernel
theorem dX2_enter_86 : decode cX2_enter 86 = .ok (.iload_n 2, 1) := by decide +kernel
theorem dX2_enter_87 : decode cX2_enter 87 = .ok (.iconst 1, 1) := by decide +kernel
theorem dX2_enter_88 : decode cX2_enter 88 = .ok (.iadd, 1) := by decide +kernel
theorem dX2_enter_89 : decode cX2_enter 89 = .ok (.invokevirtual 113, 3) := by decide +kernel
theorem dX2_enter_92 : decode cX2_enter 92 = .ok (.iinc 3 1, 3) := by decide +kernel
theorem dX2_enter_95 : decode cX2_enter 95 = .ok (.goto (-39), 3) := by decide +kernel
theorem dX2_enter_98 : decode cX2_enter 98 = .ok (.return_, 1) := by decide +kernel
set_option maxRecDepth 20000 in
theorem ggX2_perform_X5_a : GoodIn wsX2_perform wsX5_a := goodIn_r _ [10, 11, 200, 201, 202, 203, 204, 205] rfl (by decide +kernel)
set_option maxRecDepth 20000 in
theorem gX2_perform_X5_a : GoodIn wsX2_perform (wsV RX2 116 RX5 yX5_a wsX5_a) := goodIn_app (goodIn_of _ (by decide +kernel)) ggX2_perform_X5_a
set_option maxRecDepth 20000 in
theorem ggX2_perform_X5_b : GoodIn wsX2_perform wsX5_b := goodIn_r _ [15, 16, 200, 201, 202, 203, 204, 205] rfl (by decide +kernel)
set_option maxRecDepth 20000 in
theorem gX2_perform_X5_b : GoodIn wsX2_perform (wsV RX2 119 RX5 yX5_b wsX5_b) := goodIn_app (goodIn_of _ (by decide +kernel)) ggX2_perform_X5_b
set_option maxRecDepth 20000 in
theorem ggX2_perform_X5_kindOf : GoodIn wsX2_perform wsX5_kindOf := goodIn_r _ [20, 21, 200, 201, 202, 203, 204, 205] rfl (by decide +kernel)
set_option maxRecDepth 20000 in
theorem gX2_perform_X5_kindOf : GoodIn wsX2_perform (wsV RX2 122 RX5 yX5_kindOf wsX5_kindOf) := goodIn_app (goodIn_of _ (by decide +kernel)) ggX2_perform_X5_kindOf
set_option maxRecDepth 20000 in
theorem ggX2_perform_X2_begin : GoodIn wsX2_perform wsX2_begin := goodIn_r _ [70, 71, 72, 5, 73, 74, 75, 76, 77, 78, 79, 80, 81, 82, 83, 84, 85, 22, 23, 24, 25, 86, 87, 88, 40, 89, 90, 91, 92, 93, 94, 95, 96, 97, 98, 99, 100, 101, 102, 103, 104, 105, 106, 107, 43, 44, 45, 108, 109, 110, 111, 112, 113, 114, 115, 116, 117, 118, 119, 120, 121, 122, 123, 124, 125, 126, 127, 128, 57, 58, 129, 1, 2, 3, 4, 6, 7, 8, 9, 10, 11, 130, 131, 132, 133, 134, 135, 136, 137, 138, 12, 13, 14, 15, 16, 29, 30, 31, 32, 33, 34, 35, 36, 37, 38, 39, 41, 42, 139, 140, 141, 142, 143, 144, 145, 146, 147, 148, 149, 150, 151, 152, 153, 154, 155, 156, 157, 158, 159, 160, 161, 162, 163, 164, 165, 166, 167, 0, 17, 18, 19, 20, 21, 26, 27, 28, 46, 47, 48, 49, 50, 51, 52, 53, 54, 55, 56, 59, 60, 61, 62, 63, 64, 65, 66, 67, 68, 69, 168, 169, 170, 171, 172, 173, 174, 175, 176, 177, 178, 179, 180, 181, 182, 183, 184, 185, 186, 187, 188, 189, 190, 191, 192, 193, 194, 195, 196, 197, 198, 199, 200, 201, 202, 203, 204, 205, 206, 207, 208, 209] rfl (by decide +kernel)
set_option maxRecDepth 20000 in
theorem gX2_perform_X2_begin : GoodIn wsX2_perform (wsV RX2 125 RX2 yX2_begin wsX2_begin) := goodIn_app (goodIn_of _ (by decide +kernel)) ggX2_perform_X2_begin
set_option maxRecDepth 20000 in
theorem ggX2_perform_X2_callPooled : GoodIn wsX2_perform wsX2_callPooled := goodIn_r _ [129, 1, 2, 72, 3, 4, 6, 7, 8, 9, 10, 11, 130, 131, 132, 83, 133, 101, 134, 74, 75, 76, 116, 117, 118, 25, 119, 120, 121, 122, 135, 136, 137, 138, 12, 13, 14, 15, 16, 29, 30, 31, 32, 33, 34, 35, 36, 37, 38, 39, 40, 41, 42, 43, 44, 45, 70, 71, 5, 73, 77, 78, 79, 80, 81, 82, 84, 85, 22, 23, 24, 86, 87, 88, 89, 90, 91, 92, 93, 94, 95, 96, 97, 98, 99, 100, 102, 103, 104, 105, 106, 107, 108, 109, 110, 111, 112, 113, 114, 115, 123, 124, 125, 126, 127, 128, 57, 58, 139, 140, 141, 142, 143, 144, 145, 146, 147, 148, 149, 150, 151, 152, 153, 154, 155, 156, 157, 158, 159, 160, 161, 162, 163, 164, 165, 166, 167, 0, 17, 18, 19, 20, 21, 26, 27, 28, 46, 47, 48, 49, 50, 51, 52, 53, 54, 55, 56, 59, 60, 61, 62, 63, 64, 65, 66, 67, 68, 69, 168, 169, 170, 171, 172, 173, 174, 175, 176, 177, 178, 179, 180, 181, 182, 183, 184, 185, 186, 187, 188, 189, 190, 191, 192, 193, 194, 195, 196, 197, 198, 199, 200, 201, 202, 203, 204, 205, 206, 207, 208, 209] rfl (by decide +kernel)
set_option maxRecDepth 20000 in
theorem gX2_perform_X2_callPooled : GoodIn wsX2_perform (wsV RX2 129 RX2 yX2_callPooled wsX2_callPooled) := goodIn_app (goodIn_of _ (by decide +kernel)) ggX2_perform_X2_callPooled
set_option maxRecDepth 20000 in
theorem ggX2_perform_X1_choose : GoodIn wsX2_perform wsX1_choose := goodIn_r _ [33, 34, 35, 36, 37, 38, 39, 40, 41, 42, 206, 207, 208, 209, 189, 190, 191, 192, 193, 194, 195, 196, 197, 198, 199] rfl (by decide +kernel)
set_option maxRecDepth 20000 in
theorem gX2_perform_X1_choose : GoodIn wsX2_perform (wsV RX2 132 RX1 yX1_choose wsX1_choose) := goodIn_app (goodIn_of _ (by decide +kernel)) ggX2_perform_X1_choose
set_option maxRecDepth 20000 in
theorem ggX2_perform_X2_enterBy : GoodIn wsX2_perform wsX2_enterBy := goodIn_r _ [163, 164, 77, 78, 75, 79, 165, 166, 167, 25, 70, 71, 72, 5, 73, 74, 76, 80, 81, 82, 83, 84, 85, 22, 23, 24, 86, 87, 88, 40, 89, 90, 91, 92, 93, 94, 95, 96, 97, 98, 99, 100, 101, 102, 103, 104, 105, 106, 107, 43, 44, 45, 108, 109, 110, 111, 112, 113, 114, 115, 116, 117, 118, 119, 120, 121, 122, 123, 124, 125, 126, 127, 128, 57, 58, 129, 1, 2, 3, 4, 6, 7, 8, 9, 10, 11, 130, 131, 132, 133, 134, 135, 136, 137, 138, 12, 13, 14, 15, 16, 29, 30, 31, 32, 33, 34, 35, 36, 37, 38, 39, 41, 42, 139, 140, 141, 142, 143, 144, 145, 146, 147, 148, 149, 150, 151, 152, 153, 154, 155, 156, 157, 158, 159, 160, 161, 162, 0, 17, 18, 19, 20, 21, 26, 27, 28, 46, 47, 48, 49, 50, 51, 52, 53, 54, 55, 56, 59, 60, 61, 62, 63, 64, 65, 66, 67, 68, 69, 168, 169, 170, 171, 172, 173, 174, 175, 176, 177, 178, 179, 180, 181, 182, 183, 184, 185, 186, 187, 188, 189, 190, 191, 192, 193, 194, 195, 196, 197, 198, 199, 200, 201, 202, 203, 204, 205, 206, 207, 208, 209] rfl (by decide +kernel)
set_option maxRecDepth 20000 in
theorem gX2_perform_X2_enterBy : GoodIn wsX2_perform (wsV RX2 138 RX2 yX2_enterBy wsX2_enterBy) := goodIn_app (goodIn_of _ (by decide +kernel)) ggX2_perform_X2_enterBy
set_option maxRecDepth 20000 in
theorem ggX2_perform_X1_chooseStatic : GoodIn wsX2_perform wsX1_chooseStatic := goodIn_r _ [49, 34, 35, 37, 38, 39, 40, 41, 42, 206, 207, 208, 209, 189, 190, 191, 192, 193, 194, 195, 196, 197, 198, 199] rfl (by decide +kernel)
set_option maxRecDepth 20000 in
theorem gX2_perform_X1_chooseStatic : GoodIn wsX2_perform (wsV RX2 141 RX1 yX1_chooseStatic wsX1_chooseStatic) := goodIn_app (goodIn_of _ (by decide +kernel)) ggX2_perform_X1_chooseStatic
set_option maxRecDepth 20000 in
theorem ggX2_perform_X2_callStatic : GoodIn wsX2_perform wsX2_callStatic := goodIn_r _ [139, 5, 140, 141, 142, 40, 143, 144, 22, 23, 24, 25, 43, 44, 45, 70, 71, 72, 73, 74, 75, 76, 77, 78, 79, 80, 81, 82, 83, 84, 85, 86, 87, 88, 89, 90, 91, 92, 93, 94, 95, 96, 97, 98, 99, 100, 101, 102, 103, 104, 105, 106, 107, 108, 109, 110, 111, 112, 113, 114, 115, 116, 117, 118, 119, 120, 121, 122, 123, 124, 125, 126, 127, 128, 57, 58, 129, 1, 2, 3, 4, 6, 7, 8, 9, 10, 11, 130, 131, 132, 133, 134, 135, 136, 137, 138, 12, 13, 14, 15, 16, 29, 30, 31, 32, 33, 34, 35, 36, 37, 38, 39, 41, 42, 145, 146, 147, 148, 149, 150, 151, 152, 153, 154, 155, 156, 157, 158, 159, 160, 161, 162, 163, 164, 165, 166, 167, 0, 17, 18, 19, 20, 21, 26, 27, 28, 46, 47, 48, 49, 50, 51, 52, 53, 54, 55, 56, 59, 60, 61, 62, 63, 64, 65, 66, 67, 68, 69, 168, 169, 170, 171, 172, 173, 174, 175, 176, 177, 178, 179, 180, 181, 182, 183, 184, 185, 186, 187, 188, 189, 190, 191, 192, 193, 194, 195, 196, 197, 198, 199, 200, 201, 202, 203, 204, 205, 206, 207, 208, 209] rfl (by decide +kernel)
set_option maxRecDepth 20000 in
theorem gX2_perform_X2_callStatic : GoodIn wsX2_perform (wsV RX2 144 RX2 yX2_callStatic wsX2_callStatic) := goodIn_app (goodIn_of _ (by decide +kernel)) ggX2_perform_X2_callStatic
set_option maxRecDepth 20000 in
theorem ggX2_perform_X2_put : GoodIn wsX2_perform wsX2_put := goodIn_r _ [56, 57, 58, 168, 169, 170, 171, 172, 173, 174, 175, 176, 177, 178, 179, 180, 181, 182] rfl (by decide +kernel)
set_option maxRecDepth 20000 in
theorem gX2_perform_X2_put : GoodIn wsX2_perform (wsV RX2 147 RX2 yX2_put wsX2_put) := goodIn_app (goodIn_of _ (by decide +kernel)) ggX2_perform_X2_put
set_option maxRecDepth 20000 in
theorem ggX2_perform_X2_callBagged : GoodIn wsX2_perform wsX2_callBagged := goodIn_r _ [128, 57, 58, 116, 117, 118, 25, 119, 120, 121, 122, 43, 44, 45, 70, 71, 72, 5, 73, 74, 75, 76, 77, 78, 79, 80, 81, 82, 83, 84, 85, 22, 23, 24, 86, 87, 88, 40, 89, 90, 91, 92, 93, 94, 95, 96, 97, 98, 99, 100, 101, 102, 103, 104, 105, 106, 107, 108, 109, 110, 111, 112, 113, 114, 115, 123, 124, 125, 126, 127, 129, 1, 2, 3, 4, 6, 7, 8, 9, 10, 11, 130, 131, 132, 133, 134, 135, 136, 137, 138, 12, 13, 14, 15, 16, 29, 30, 31, 32, 33, 34, 35, 36, 37, 38, 39, 41, 42, 139, 140, 141, 142, 143, 144, 145, 146, 147, 148, 149, 150, 151, 152, 153, 154, 155, 156, 157, 158, 159, 160, 161, 162, 163, 164, 165, 166, 167, 0, 17, 18, 19, 20, 21, 26, 27, 28, 46, 47, 48, 49, 50, 51, 52, 53, 54, 55, 56, 59, 60, 61, 62, 63, 64, 65, 66, 67, 68, 69, 168, 169, 170, 171, 172, 173, 174, 175, 176, 177, 178, 179, 180, 181, 182, 183, 184, 185, 186, 187, 188, 189, 190, 191, 192, 193, 194, 195, 196, 197, 198, 199, 200, 201, 202, 203, 204, 205, 206, 207, 208, 209] rfl (by decide +kernel)
set_option maxRecDepth 20000 in
theorem gX2_perform_X2_callBagged : GoodIn wsX2_perform (wsV RX2 150 RX2 yX2_callBagged wsX2_callBagged) := goodIn_app (goodIn_of _ (by decide +kernel)) ggX2_perform_X2_callBagged
set_option maxRecDepth 20000 in
theorem ggX2_perform_X4_handlesOf : GoodIn wsX2_perform wsX4_handlesOf := goodIn_r _ [65, 66, 189, 190, 191, 192, 193, 194, 195, 196, 197, 198, 199] rfl (by decide +kernel)
set_option maxRecDepth 20000 in
theorem gX2_perform_X4_handlesOf : GoodIn wsX2_perform (wsV RX2 153 RX4 yX4_handlesOf wsX4_handlesOf) := goodIn_app (goodIn_of _ (by decide +kernel)) ggX2_perform_X4_handlesOf
set_option maxRecDepth 20000 in
theorem ggX2_perform_X2_callAny : GoodIn wsX2_perform wsX2_callAny := goodIn_r _ [108, 109, 110, 111, 112, 113, 114, 115, 116, 117, 118, 25, 119, 120, 121, 122, 123, 124, 75, 125, 126, 127, 74, 76, 43, 44, 45, 70, 71, 72, 5, 73, 77, 78, 79, 80, 81, 82, 83, 84, 85, 22, 23, 24, 86, 87, 88, 40, 89, 90, 91, 92, 93, 94, 95, 96, 97, 98, 99, 100, 101, 102, 103, 104, 105, 106, 107, 128, 57, 58, 129, 1, 2, 3, 4, 6, 7, 8, 9, 10, 11, 130, 131, 132, 133, 134, 135, 136, 137, 138, 12, 13, 14, 15, 16, 29, 30, 31, 32, 33, 34, 35, 36, 37, 38, 39, 41, 42, 139, 140, 141, 142, 143, 144, 145, 146, 147, 148, 149, 150, 151, 152, 153, 154, 155, 156, 157, 158, 159, 160, 161, 162, 163, 164, 165, 166, 167, 0, 17, 18, 19, 20, 21, 26, 27, 28, 46, 47, 48, 49, 50, 51, 52, 53, 54, 55, 56, 59, 60, 61, 62, 63, 64, 65, 66, 67, 68, 69, 168, 169, 170, 171, 172, 173, 174, 175, 176, 177, 178, 179, 180, 181, 182, 183, 184, 185, 186, 187, 188, 189, 190, 191, 192, 193, 194, 195, 196, 197, 198, 199, 200, 201, 202, 203, 204, 205, 206, 207, 208, 209] rfl (by decide +kernel)
set_option maxRecDepth 20000 in
theorem gX2_perform_X2_callAny : GoodIn wsX2_perform (wsV RX2 157 RX2 yX2_callAny wsX2_callAny) := goodIn_app (goodIn_of _ (by decide +kernel)) ggX2_perform_X2_callAny
theorem dX2_perform_0 : decode cX2_perform 0 = .ok (.aload_n 0, 1) := by decide +kernel
theorem dX2_perform_1 : decode cX2_perform 1 = .ok (.getfield 37, 3) := by decide +kernel
theorem dX2_perform_4 : decode cX2_perform 4 = .ok (.iload_n 1, 1) := by decide +kernel
theorem dX2_perform_5 : decode cX2_perform 5 = .ok (.invokevirtual 116, 3) := by decide +kernel
theorem dX2_perform_8 : decode cX2_perform 8 = .ok (.istore_n 3, 1) := by decide +kernel
theorem dX2_perform_9 : decode cX2_perform 9 = .ok (.aload_n 0, 1) := by decide +kernel
theorem dX2_perform_10 : decode cX2_perform 10 = .ok (.getfield 37, 3) := by decide +kernel
theorem dX2_perform_13 : decode cX2_perform 13 = .ok (.iload_n 1, 1) := by decide +kernel
theorem dX2_perform_14 : decode cX2_perform 14 = .ok (.invokevirtual 119, 3) := by decide +kernel
theorem dX2_perform_17 : decode cX2_perform 17 = .ok (.istore 4, 2) := by decide +kernel
theorem dX2_perform_19 : decode cX2_perform 19 = .ok (.aload_n 0, 1) := by decide +kernel
theorem dX2_perform_20 : decode cX2_perform 20 = .ok (.getfield 37, 3) := by decide +kernel
theorem dX2_perform_23 : decode cX2_perform 23 = .ok (.iload_n 1, 1) := by decide +kernel
theorem dX2_perform_24 : decode cX2_perform 24 = .ok (.invokevirtual 122, 3) := by decide +kernel
theorem dX2_perform_27 : decode cX2_perform 27 = .ok (.tableswitch 145 0 6 #[41, 77, 86, 106, 77, 125, 135], 41) := by decide +kernel
theorem dX2_perform_68 : decode cX2_perform 68 = .ok (.aload_n 0, 1) := by decide +kernel
theorem dX2_perform_69 : decode cX2_perform 69 = .ok (.iload_n 3, 1) := by decide +kernel
theorem dX2_perform_70 : decode cX2_perform 70 = .ok (.iload_n 1, 1) := by decide +kernel
theorem dX2_perform_71 : decode cX2_perform 71 = .ok (.iload_n 2, 1) := by decide +kernel
theorem dX2_perform_72 : decode cX2_perform 72 = .ok (.invokevirtual 125, 3) := by decide +kernel
theorem dX2_perform_75 : decode cX2_perform 75 = .ok (.aload_n 0, 1) := by decide +kernel
theorem dX2_perform_76 : decode cX2_perform 76 = .ok (.getfield 49, 3) := by decide +kernel
theorem dX2_perform_79 : decode cX2_perform 79 = .ok (.bipush 20, 2) := by decide +kernel
theorem dX2_perform_81 : decode cX2_perform 81 = .ok (.if_icmp .ge 106, 3) := by decide +kernel
theorem dX2_perform_84 : decode cX2_perform 84 = .ok (.aload_n 0, 1) := by decide +kernel
theorem dX2_perform_85 : decode cX2_perform 85 = .ok (.getfield 9, 3) := by decide +kernel
theorem dX2_perform_88 : decode cX2_perform 88 = .ok (.aload_n 0, 1) := by decide +kernel
theorem dX2_perform_89 : decode cX2_perform 89 = .ok (.dup, 1) := by decide +kernel
theorem dX2_perform_90 : decode cX2_perform 90 = .ok (.getfield 49, 3) := by decide +kernel
theorem dX2_perform_93 : decode cX2_perform 93 = .ok (.dup_x1, 1) := by decide +kernel
theorem dX2_perform_94 : decode cX2_perform 94 = .ok (.iconst 1, 1) := by decide +kernel
theorem dX2_perform_95 : decode cX2_perform 95 = .ok (.iadd, 1) := by decide +kernel
theorem dX2_perform_96 : decode cX2_perform 96 = .ok (.putfield 49, 3) := by decide +kernel
theorem dX2_perform_99 : decode cX2_perform 99 = .ok (.iload_n 3, 1) := by decide +kernel
theorem dX2_perform_100 : decode cX2_perform 100 = .ok (.iastore, 1) := by decide +kernel
theorem dX2_perform_101 : decode cX2_perform 101 = .ok (.goto 86, 3) := by decide +kernel
theorem dX2_perform_104 : decode cX2_perform 104 = .ok (.aload_n 0, 1) := by decide +kernel
theorem dX2_perform_105 : decode cX2_perform 105 = .ok (.iload_n 1, 1) := by decide +kernel
theorem dX2_perform_106 : decode cX2_perform 106 = .ok (.iload_n 2, 1) := by decide +kernel
theorem dX2_perform_107 : decode cX2_perform 107 = .ok (.invokevirtual 129, 3) := by decide +kernel
theorem dX2_perform_110 : decode cX2_perform 110 = .ok (.goto 77, 3) := by decide +kernel
theorem dX2_perform_113 : decode cX2_perform 113 = .ok (.aload_n 0, 1) := by decide +kernel
theorem dX2_perform_114 : decode cX2_perform 114 = .ok (.iload_n 1, 1) := by decide +kernel
theorem dX2_perform_115 : decode cX2_perform 115 = .ok (.aload_n 0, 1) := by decide +kernel
theorem dX2_perform_116 : decode cX2_perform 116 = .ok (.getfield 33, 3) := by decide +kernel
theorem dX2_perform_119 : decode cX2_perform 119 = .ok (.iload_n 3, 1) := by decide +kernel
theorem dX2_perform_120 : decode cX2_perform 120 = .ok (.iload_n 3, 1) := by decide +kernel
theorem dX2_perform_121 : decode cX2_perform 121 = .ok (.iload 4, 2) := by decide +kernel
theorem dX2_perform_123 : decode cX2_perform 123 = .ok (.invokevirtual 132, 3) := by decide +kernel
theorem dX2_perform_126 : decode cX2_perform 126 = .ok (.iload_n 2, 1) := by decide +kernel
theorem dX2_perform_127 : decode cX2_perform 127 = .ok (.invokevirtual 138, 3) := by decide +kernel
theorem dX2_perform_130 : decode cX2_perform 130 = .ok (.goto 57, 3) := by decide +kernel
theorem dX2_perform_133 : decode cX2_perform 133 = .ok (.aload_n 0, 1) := by decide +kernel
theorem dX2_perform_134 : decode cX2_perform 134 = .ok (.iload_n 1, 1) := by decide +kernel
theorem dX2_perform_135 : decode cX2_perform 135 = .ok (.aload_n 0, 1) := by decide +kernel
theorem dX2_perform_136 : decode cX2_perform 136 = .ok (.getfield 33, 3) := by decide +kernel
theorem dX2_perform_139 : decode cX2_perform 139 = .ok (.iload_n 3, 1) := by decide +kernel
theorem dX2_perform_140 : decode cX2_perform 140 = .ok (.iload 4, 2) := by decide +kernel
theorem dX2_perform_142 : decode cX2_perform 142 = .ok (.invokevirtual 141, 3) := by decide +kernel
theorem dX2_perform_145 : decode cX2_perform 145 = .ok (.iload_n 2, 1) := by decide +kernel
theorem dX2_perform_146 : decode cX2_perform 146 = .ok (.invokevirtual 144, 3) := by decide +kernel
theorem dX2_perform_149 : decode cX2_perform 149 = .ok (.goto 38, 3) := by decide +kernel
theorem dX2_perform_152 : decode cX2_perform 152 = .ok (.aload_n 0, 1) := by decide +kernel
theorem dX2_perform_153 : decode cX2_perform 153 = .ok (.iload_n 3, 1) := by decide +kernel
theorem dX2_perform_154 : decode cX2_perform 154 = .ok (.iload 4, 2) := by decide +kernel
theorem dX2_perform_156 : decode cX2_perform 156 = .ok (.invokevirtual 147, 3) := by decide +kernel
theorem dX2_perform_159 : decode cX2_perform 159 = .ok (.goto 28, 3) := by decide +kernel
theorem dX2_perform_162 : decode cX2_perform 162 = .ok (.aload_n 0, 1) := by decide +kernel
theorem dX2_perform_163 : decode cX2_perform 163 = .ok (.iload_n 1, 1) := by decide +kernel
theorem dX2_perform_164 : decode cX2_perform 164 = .ok (.iload_n 3, 1) := by decide +kernel
theorem dX2_perform_165 : decode cX2_perform 165 = .ok (.iload_n 2, 1) := by decide +kernel
theorem dX2_perform_166 : decode cX2_perform 166 = .ok (.invokevirtual 150, 3) := by decide +kernel
theorem dX2_perform_169 : decode cX2_perform 169 = .ok (.goto 18, 3) := by decide +kernel
theorem dX2_perform_172 : decode cX2_perform 172 = .ok (.aload_n 0, 1) := by decide +kernel
theorem dX2_perform_173 : decode cX2_perform 173 = .ok (.iload_n 1, 1) := by decide +kernel
theorem dX2_perform_174 : decode cX2_perform 174 = .ok (.aload_n 0, 1) := by decide +kernel
theorem dX2_perform_175 : decode cX2_perform 175 = .ok (.getfield 29, 3) := by decide +kernel
theorem dX2_perform_178 : decode cX2_perform 178 = .ok (.iload 4, 2) := by decide +kernel
theorem dX2_perform_180 : decode cX2_perform 180 = .ok (.invokevirtual 153, 3) := by decide +kernel
theorem dX2_perform_183 : decode cX2_perform 183 = .ok (.iload_n 2, 1) := by decide +kernel
theorem dX2_perform_184 : decode cX2_perform 184 = .ok (.invokevirtual 157, 3) := by decide +kernel
theorem dX2_perform_187 : decode cX2_perform 187 = .ok (.return_, 1) := by decide +kernel
set_option maxRecDepth 20000 in
theorem ggX2_enterBy_X0_with : GoodIn wsX2_enterBy wsX0_with := goodIn_r _ [5] rfl (by decide +kernel)
set_option maxRecDepth 20000 in
theorem gX2_enterBy_X0_with : GoodIn wsX2_enterBy (va_wsS RX2 61 yX0_with wsX0_with) := goodIn_app (goodIn_of _ (by decide +kernel)) ggX2_enterBy_X0_with
set_option maxRecDepth 20000 in
theorem ggX2_enterBy_X2_enter : GoodIn wsX2_enterBy wsX2_enter := goodIn_r _ [119, 120, 121, 122, 123, 76, 2, 3, 4, 5, 124, 125, 126, 83, 127, 128, 60, 61, 62, 9, 63, 64, 65, 66, 129, 130, 131, 132, 133, 134, 135, 136, 10, 11, 12, 13, 14, 15, 16, 17, 18, 19, 20, 21, 22, 23, 24, 25, 26, 27, 28, 29, 30, 31, 32, 33, 34, 35, 36, 37, 38, 39, 40, 41, 42, 43, 44, 45, 46, 47, 48, 49, 50, 51, 52, 53, 54, 55, 56, 57, 58, 59, 67, 68, 69, 70, 71, 72, 73, 74, 75, 77, 78, 79, 80, 81, 82, 84, 85, 86, 87, 88, 89, 90, 91, 92, 93, 94, 95, 96, 97, 98, 99, 100, 101, 102, 103, 104, 105, 106, 107, 108, 109, 110, 111, 112, 113, 114, 115, 116, 117, 118, 0, 1, 6, 7, 8, 137, 138, 139, 140, 141, 142, 143, 144, 145, 146, 147, 148, 149, 150, 151, 152, 153, 154, 155, 156, 157, 158, 159, 160, 161, 162, 163, 164, 165, 166, 167, 168, 169, 170, 171, 172, 173, 174, 175, 176, 177, 178, 179, 180, 181, 182, 183, 184, 185, 186, 187, 188, 189, 190, 191, 192, 193, 194, 195, 196, 197, 198, 199, 200, 201, 202, 203, 204, 205, 206, 207, 208, 209] rfl (by decide +kernel)
set_option maxRecDepth 20000 in
theorem gX2_enterBy_X2_enter : GoodIn wsX2_enterBy (wsV RX2 83 RX2 yX2_enter wsX2_enter) := goodIn_app (goodIn_of _ (by decide +kernel)) ggX2_enterBy_X2_enter
theorem dX2_enterBy_0 : decode cX2_enterBy 0 = .ok (.iload_n 2, 1) := by decide +kernel
theorem dX2_enterBy_1 : decode cX2_enterBy 1 = .ok (.ifCond .ge 4, 3) := by decide +kernel
theorem dX2_enterBy_4 : decode cX2_enterBy 4 = .ok (.return_, 1) := by decide +kernel
theorem dX2_enterBy_5 : decode cX2_enterBy 5 = .ok (.aload_n 0, 1) := by decide +kernel
theorem dX2_enterBy_6 : decode cX2_enterBy 6 = .ok (.getfield 21, 3) := by decide +kernel
theorem dX2_enterBy_9 : decode cX2_enterBy 9 = .ok (.iload_n 1, 1) := by decide +kernel
theorem dX2_enterBy_10 : decode cX2_enterBy 10 = .ok (.aload_n 0, 1) := by decide +kernel
theorem dX2_enterBy_11 : decode cX2_enterBy 11 = .ok (.getfield 21, 3) := by decide +kernel
theorem dX2_enterBy_14 : decode cX2_enterBy 14 = .ok (.iload_n 1, 1) := by decide +kernel
theorem dX2_enterBy_15 : decode cX2_enterBy 15 = .ok (.laload, 1) := by decide +kernel
theorem dX2_enterBy_16 : decode cX2_enterBy 16 = .ok (.iload_n 2, 1) := by decide +kernel
theorem dX2_enterBy_17 : decode cX2_enterBy 17 = .ok (.invokestatic 61, 3) := by decide +kernel
theorem dX2_enterBy_20 : decode cX2_enterBy 20 = .ok (.lastore, 1) := by decide +kernel
theorem dX2_enterBy_21 : decode cX2_enterBy 21 = .ok (.aload_n 0, 1) := by decide +kernel
theorem dX2_enterBy_22 : decode cX2_enterBy 22 = .ok (.iload_n 2, 1) := by decide +kernel
theorem dX2_enterBy_23 : decode cX2_enterBy 23 = .ok (.iload_n 3, 1) := by decide +kernel
theorem dX2_enterBy_24 : decode cX2_enterBy 24 = .ok (.invokevirtual 83, 3) := by decide +kernel
theorem dX2_enterBy_27 : decode cX2_enterBy 27 = .ok (.return_, 1) := by decide +kernel
set_option maxRecDepth 20000 in
theorem ggX2_callPooled_X5_a : GoodIn wsX2_callPooled wsX5_a := goodIn_r _ [10, 11, 200, 201, 202, 203, 204, 205] rfl (by decide +kernel)
set_option maxRecDepth 20000 in
theorem gX2_callPooled_X5_a : GoodIn wsX2_callPooled (wsV RX2 116 RX5 yX5_a wsX5_a) := goodIn_app (goodIn_of _ (by decide +kernel)) ggX2_callPooled_X5_a
set_option maxRecDepth 20000 in
theorem ggX2_callPooled_X6_isUnder : GoodIn wsX2_callPooled wsX6_isUnder := goodIn_r _ [16, 17, 18, 19, 20, 21, 183, 184, 185, 186, 187, 188] rfl (by decide +kernel)
set_option maxRecDepth 20000 in
theorem gX2_callPooled_X6_isUnder : GoodIn wsX2_callPooled (wsV RX2 161 RX6 yX6_isUnder wsX6_isUnder) := goodIn_app (goodIn_of _ (by decide +kernel)) ggX2_callPooled_X6_isUnder
set_option maxRecDepth 20000 in
theorem ggX2_callPooled_X2_draw : GoodIn wsX2_callPooled wsX2_draw := goodIn_r _ [26, 27, 28, 29, 168, 169, 170, 171, 172, 173, 174, 175, 176, 177, 178, 179, 180, 181, 182] rfl (by decide +kernel)
set_option maxRecDepth 20000 in
theorem gX2_callPooled_X2_draw : GoodIn wsX2_callPooled (wsV RX2 106 RX2 yX2_draw wsX2_draw) := goodIn_app (goodIn_of _ (by decide +kernel)) ggX2_callPooled_X2_draw
set_option maxRecDepth 20000 in
theorem ggX2_callPooled_X2_pooledUnder : GoodIn wsX2_callPooled wsX2_pooledUnder := goodIn_r _ [33, 2, 3, 4, 12, 13, 14, 15, 16, 17, 18, 19, 20, 21, 168, 169, 170, 171, 172, 173, 174, 175, 176, 177, 178, 179, 180, 181, 182, 183, 184, 185, 186, 187, 188] rfl (by decide +kernel)
set_option maxRecDepth 20000 in
theorem gX2_callPooled_X2_pooledUnder : GoodIn wsX2_callPooled (wsV RX2 167 RX2 yX2_pooledUnder wsX2_pooledUnder) := goodIn_app (goodIn_of _ (by decide +kernel)) ggX2_callPooled_X2_pooledUnder
set_option maxRecDepth 20000 in
theorem ggX2_callPooled_X5_b : GoodIn wsX2_callPooled wsX5_b := goodIn_r _ [37, 38, 200, 201, 202, 203, 204, 205] rfl (by decide +kernel)
set_option maxRecDepth 20000 in
theorem gX2_callPooled_X5_b : GoodIn wsX2_callPooled (wsV RX2 119 RX5 yX5_b wsX5_b) := goodIn_app (goodIn_of _ (by decide +kernel)) ggX2_callPooled_X5_b
set_option maxRecDepth 20000 in
theorem ggX2_callPooled_X1_choose : GoodIn wsX2_callPooled wsX1_choose := goodIn_r _ [43, 44, 45, 46, 47, 48, 49, 50, 51, 52, 206, 207, 208, 209, 189, 190, 191, 192, 193, 194, 195, 196, 197, 198, 199] rfl (by decide +kernel)
set_option maxRecDepth 20000 in
theorem gX2_callPooled_X1_choose : GoodIn wsX2_callPooled (wsV RX2 132 RX1 yX1_choose wsX1_choose) := goodIn_app (goodIn_of _ (by decide +kernel)) ggX2_callPooled_X1_choose
set_option maxRecDepth 20000 in
theorem ggX2_callPooled_X2_enterBy : GoodIn wsX2_callPooled wsX2_enterBy := goodIn_r _ [132, 133, 60, 61, 20, 62, 134, 135, 136, 25, 56, 57, 3, 58, 59, 19, 21, 63, 64, 65, 15, 66, 67, 68, 69, 70, 71, 72, 73, 50, 74, 75, 76, 77, 78, 79, 80, 81, 82, 83, 84, 85, 17, 86, 87, 88, 89, 90, 91, 53, 54, 55, 92, 93, 94, 95, 96, 97, 98, 99, 22, 23, 24, 26, 27, 28, 29, 100, 101, 102, 103, 104, 105, 106, 107, 0, 1, 2, 4, 5, 6, 7, 8, 9, 10, 11, 12, 13, 14, 16, 18, 30, 31, 32, 33, 34, 35, 36, 37, 38, 39, 40, 41, 42, 43, 44, 45, 46, 47, 48, 49, 51, 52, 108, 109, 110, 111, 112, 113, 114, 115, 116, 117, 118, 119, 120, 121, 122, 123, 124, 125, 126, 127, 128, 129, 130, 131, 137, 138, 139, 140, 141, 142, 143, 144, 145, 146, 147, 148, 149, 150, 151, 152, 153, 154, 155, 156, 157, 158, 159, 160, 161, 162, 163, 164, 165, 166, 167, 168, 169, 170, 171, 172, 173, 174, 175, 176, 177, 178, 179, 180, 181, 182, 183, 184, 185, 186, 187, 188, 189, 190, 191, 192, 193, 194, 195, 196, 197, 198, 199, 200, 201, 202, 203, 204, 205, 206, 207, 208, 209] rfl (by decide +kernel)
set_option maxRecDepth 20000 in
theorem gX2_callPooled_X2_enterBy : GoodIn wsX2_callPooled (wsV RX2 138 RX2 yX2_enterBy wsX2_enterBy) := goodIn_app (goodIn_of _ (by decide +kernel)) ggX2_callPooled_X2_enterBy
theorem dX2_callPooled_0 : decode cX2_callPooled 0 = .ok (.aload_n 0, 1) := by decide +kernel
theorem dX2_callPooled_1 : decode cX2_callPooled 1 = .ok (.getfield 37, 3) := by decide +kernel
theorem dX2_callPooled_4 : decode cX2_callPooled 4 = .ok (.iload_n 1, 1) := by decide +kernel
theorem dX2_callPooled_5 : decode cX2_callPooled 5 = .ok (.invokevirtual 116, 3) := by decide +kernel
theorem dX2_callPooled_8 : decode cX2_callPooled 8 = .ok (.istore_n 3, 1) := by decide +kernel
theorem dX2_callPooled_9 : decode cX2_callPooled 9 = .ok (.iconst 0, 1) := by decide +kernel
theorem dX2_callPooled_10 : decode cX2_callPooled 10 = .ok (.istore 4, 2) := by decide +kernel
theorem dX2_callPooled_12 : decode cX2_callPooled 12 = .ok (.iconst 0, 1) := by decide +kernel
theorem dX2_callPooled_13 : decode cX2_callPooled 13 = .ok (.istore 5, 2) := by decide +kernel
theorem dX2_callPooled_15 : decode cX2_callPooled 15 = .ok (.iload 5, 2) := by decide +kernel
theorem dX2_callPooled_17 : decode cX2_callPooled 17 = .ok (.aload_n 0, 1) := by decide +kernel
theorem dX2_callPooled_18 : decode cX2_callPooled 18 = .ok (.getfield 49, 3) := by decide +kernel
theorem dX2_callPooled_21 : decode cX2_callPooled 21 = .ok (.if_icmp .ge 30, 3) := by decide +kernel
theorem dX2_callPooled_24 : decode cX2_callPooled 24 = .ok (.aload_n 0, 1) := by decide +kernel
theorem dX2_callPooled_25 : decode cX2_callPooled 25 = .ok (.getfield 25, 3) := by decide +kernel
theorem dX2_callPooled_28 : decode cX2_callPooled 28 = .ok (.aload_n 0, 1) := by decide +kernel
theorem dX2_callPooled_29 : decode cX2_callPooled 29 = .ok (.getfield 9, 3) := by decide +kernel
theorem dX2_callPooled_32 : decode cX2_callPooled 32 = .ok (.iload 5, 2) := by decide +kernel
theorem dX2_callPooled_34 : decode cX2_callPooled 34 = .ok (.iaload, 1) := by decide +kernel
theorem dX2_callPooled_35 : decode cX2_callPooled 35 = .ok (.iload_n 3, 1) := by decide +kernel
theorem dX2_callPooled_36 : decode cX2_callPooled 36 = .ok (.invokevirtual 161, 3) := by decide +kernel
theorem dX2_callPooled_39 : decode cX2_callPooled 39 = .ok (.ifCond .eq 6, 3) := by decide +kernel
theorem dX2_callPooled_42 : decode cX2_callPooled 42 = .ok (.iinc 4 1, 3) := by decide +kernel
theorem dX2_callPooled_45 : decode cX2_callPooled 45 = .ok (.iinc 5 1, 3) := by decide +kernel
theorem dX2_callPooled_48 : decode cX2_callPooled 48 = .ok (.goto (-33), 3) := by decide +kernel
theorem dX2_callPooled_51 : decode cX2_callPooled 51 = .ok (.iload 4, 2) := by decide +kernel
theorem dX2_callPooled_53 : decode cX2_callPooled 53 = .ok (.ifCond .ne 4, 3) := by decide +kernel
theorem dX2_callPooled_56 : decode cX2_callPooled 56 = .ok (.return_, 1) := by decide +kernel
theorem dX2_callPooled_57 : decode cX2_callPooled 57 = .ok (.aload_n 0, 1) := by decide +kernel
theorem dX2_callPooled_58 : decode cX2_callPooled 58 = .ok (.iload_n 3, 1) := by decide +kernel
theorem dX2_callPooled_59 : decode cX2_callPooled 59 = .ok (.aload_n 0, 1) := by decide +kernel
theorem dX2_callPooled_60 : decode cX2_callPooled 60 = .ok (.iload 4, 2) := by decide +kernel
theorem dX2_callPooled_62 : decode cX2_callPooled 62 = .ok (.invokevirtual 106, 3) := by decide +kernel
theorem dX2_callPooled_65 : decode cX2_callPooled 65 = .ok (.invokevirtual 167, 3) := by decide +kernel
theorem dX2_callPooled_68 : decode cX2_callPooled 68 = .ok (.istore 5, 2) := by decide +kernel
theorem dX2_callPooled_70 : decode cX2_callPooled 70 = .ok (.iload 5, 2) := by decide +kernel
theorem dX2_callPooled_72 : decode cX2_callPooled 72 = .ok (.iconst (-1), 1) := by decide +kernel
theorem dX2_callPooled_73 : decode cX2_callPooled 73 = .ok (.if_icmp .eq 27, 3) := by decide +kernel
theorem dX2_callPooled_76 : decode cX2_callPooled 76 = .ok (.aload_n 0, 1) := by decide +kernel
theorem dX2_callPooled_77 : decode cX2_callPooled 77 = .ok (.iload_n 1, 1) := by decide +kernel
theorem dX2_callPooled_78 : decode cX2_callPooled 78 = .ok (.aload_n 0, 1) := by decide +kernel
theorem dX2_callPooled_79 : decode cX2_callPooled 79 = .ok (.getfield 33, 3) := by decide +kernel
theorem dX2_callPooled_82 : decode cX2_callPooled 82 = .ok (.iload 5, 2) := by decide +kernel
theorem dX2_callPooled_84 : decode cX2_callPooled 84 = .ok (.iload_n 3, 1) := by decide +kernel
theorem dX2_callPooled_85 : decode cX2_callPooled 85 = .ok (.aload_n 0, 1) := by decide +kernel
theorem dX2_callPooled_86 : decode cX2_callPooled 86 = .ok (.getfield 37, 3) := by decide +kernel
theorem dX2_callPooled_89 : decode cX2_callPooled 89 = .ok (.iload_n 1, 1) := by decide +kernel
theorem dX2_callPooled_90 : decode cX2_callPooled 90 = .ok (.invokevirtual 119, 3) := by decide +kernel
theorem dX2_callPooled_93 : decode cX2_callPooled 93 = .ok (.invokevirtual 132, 3) := by decide +kernel
theorem dX2_callPooled_96 : decode cX2_callPooled 96 = .ok (.iload_n 2, 1) := by decide +kernel
theorem dX2_callPooled_97 : decode cX2_callPooled 97 = .ok (.invokevirtual 138, 3) := by decide +kernel
theorem dX2_callPooled_100 : decode cX2_callPooled 100 = .ok (.return_, 1) := by decide +kernel
set_option maxRecDepth 20000 in
theorem ggX2_pooledUnder_X6_isUnder : GoodIn wsX2_pooledUnder wsX6_isUnder := goodIn_r _ [8, 9, 10, 11, 12, 13, 29, 30, 31, 32, 33, 34] rfl (by decide +kernel)
set_option maxRecDepth 20000 in
theorem gX2_pooledUnder_X6_isUnder : GoodIn wsX2_pooledUnder (wsV RX2 161 RX6 yX6_isUnder wsX6_isUnder) := goodIn_app (goodIn_of _ (by decide +kernel)) ggX2_pooledUnder_X6_isUnder
theorem dX2_pooledUnder_0 : decode cX2_pooledUnder 0 = .ok (.iconst 0, 1) := by decide +kernel
theorem dX2_pooledUnder_1 : decode cX2_pooledUnder 1 = .ok (.istore_n 3, 1) := by decide +kernel
theorem dX2_pooledUnder_2 : decode cX2_pooledUnder 2 = .ok (.iconst 0, 1) := by decide +kernel
theorem dX2_pooledUnder_3 : decode cX2_pooledUnder 3 = .ok (.istore 4, 2) := by decide +kernel
theorem dX2_pooledUnder_5 : decode cX2_pooledUnder 5 = .ok (.iload 4, 2) := by decide +kernel
theorem dX2_pooledUnder_7 : decode cX2_pooledUnder 7 = .ok (.aload_n 0, 1) := by decide +kernel
theorem dX2_pooledUnder_8 : decode cX2_pooledUnder 8 = .ok (.getfield 49, 3) := by decide +kernel
theorem dX2_pooledUnder_11 : decode cX2_pooledUnder 11 = .ok (.if_icmp .ge 46, 3) := by decide +kernel
theorem dX2_pooledUnder_14 : decode cX2_pooledUnder 14 = .ok (.aload_n 0, 1) := by decide +kernel
theorem dX2_pooledUnder_15 : decode cX2_pooledUnder 15 = .ok (.getfield 25, 3) := by decide +kernel
theorem dX2_pooledUnder_18 : decode cX2_pooledUnder 18 = .ok (.aload_n 0, 1) := by decide +kernel
theorem dX2_pooledUnder_19 : decode cX2_pooledUnder 19 = .ok (.getfield 9, 3) := by decide +kernel
theorem dX2_pooledUnder_22 : decode cX2_pooledUnder 22 = .ok (.iload 4, 2) := by decide +kernel
theorem dX2_pooledUnder_24 : decode cX2_pooledUnder 24 = .ok (.iaload, 1) := by decide +kernel
theorem dX2_pooledUnder_25 : decode cX2_pooledUnder 25 = .ok (.iload_n 1, 1) := by decide +kernel
theorem dX2_pooledUnder_26 : decode cX2_pooledUnder 26 = .ok (.invokevirtual 161, 3) := by decide +kernel
theorem dX2_pooledUnder_29 : decode cX2_pooledUnder 29 = .ok (.ifCond .ne 6, 3) := by decide +kernel
theorem dX2_pooledUnder_32 : decode cX2_pooledUnder 32 = .ok (.goto 19, 3) := by decide +kernel
theorem dX2_pooledUnder_35 : decode cX2_pooledUnder 35 = .ok (.iload_n 3, 1) := by decide +kernel
theorem dX2_pooledUnder_36 : decode cX2_pooledUnder 36 = .ok (.iload_n 2, 1) := by decide +kernel
theorem dX2_pooledUnder_37 : decode cX2_pooledUnder 37 = .ok (.if_icmp .ne 11, 3) := by decide +kernel
theorem dX2_pooledUnder_40 : decode cX2_pooledUnder 40 = .ok (.aload_n 0, 1) := by decide +kernel
theorem dX2_pooledUnder_41 : decode cX2_pooledUnder 41 = .ok (.getfield 9, 3) := by decide +kernel
theorem dX2_pooledUnder_44 : decode cX2_pooledUnder 44 = .ok (.iload 4, 2) := by decide +kernel
theorem dX2_pooledUnder_46 : decode cX2_pooledUnder 46 = .ok (.iaload, 1) := by decide +kernel
theorem dX2_pooledUnder_47 : decode cX2_pooledUnder 47 = .ok (.ireturn, 1) := by decide +kernel
theorem dX2_pooledUnder_48 : decode cX2_pooledUnder 48 = .ok (.iinc 3 1, 3) := by decide +kernel
theorem dX2_pooledUnder_51 : decode cX2_pooledUnder 51 = .ok (.iinc 4 1, 3) := by decide +kernel
theorem dX2_pooledUnder_54 : decode cX2_pooledUnder 54 = .ok (.goto (-49), 3) := by decide +kernel
theorem dX2_pooledUnder_57 : decode cX2_pooledUnder 57 = .ok (.iconst (-1), 1) := by decide +kernel
theorem dX2_pooledUnder_58 : decode cX2_pooledUnder 58 = .ok (.ireturn, 1) := by decide +kernel
set_option maxRecDepth 20000 in
theorem ggX2_callStatic_X4_typeOf : GoodIn wsX2_callStatic wsX4_typeOf := goodIn_r _ [6, 7, 189, 190, 191, 192, 193, 194, 195, 196, 197, 198, 199] rfl (by decide +kernel)
set_option maxRecDepth 20000 in
theorem gX2_callStatic_X4_typeOf : GoodIn wsX2_callStatic (wsV RX2 170 RX4 yX4_typeOf wsX4_typeOf) := goodIn_app (goodIn_of _ (by decide +kernel)) ggX2_callStatic_X4_typeOf
set_option maxRecDepth 20000 in
theorem ggX2_callStatic_X2_begin : GoodIn wsX2_callStatic wsX2_begin := goodIn_r _ [15, 16, 17, 1, 18, 19, 20, 21, 22, 23, 24, 25, 26, 27, 28, 29, 30, 8, 9, 10, 11, 31, 32, 33, 5, 34, 35, 36, 37, 38, 39, 40, 41, 42, 43, 44, 45, 46, 47, 48, 49, 50, 51, 52, 12, 13, 14, 53, 54, 55, 56, 57, 58, 59, 60, 61, 62, 63, 64, 65, 66, 67, 68, 69, 70, 71, 72, 73, 74, 75, 76, 77, 78, 79, 80, 81, 82, 83, 84, 85, 86, 87, 88, 89, 90, 91, 92, 93, 94, 95, 96, 97, 98, 99, 100, 101, 102, 103, 104, 105, 106, 107, 108, 109, 110, 111, 112, 113, 0, 2, 3, 4, 6, 7, 114, 115, 116, 117, 118, 119, 120, 121, 122, 123, 124, 125, 126, 127, 128, 129, 130, 131, 132, 133, 134, 135, 136, 137, 138, 139, 140, 141, 142, 143, 144, 145, 146, 147, 148, 149, 150, 151, 152, 153, 154, 155, 156, 157, 158, 159, 160, 161, 162, 163, 164, 165, 166, 167, 168, 169, 170, 171, 172, 173, 174, 175, 176, 177, 178, 179, 180, 181, 182, 183, 184, 185, 186, 187, 188, 189, 190, 191, 192, 193, 194, 195, 196, 197, 198, 199, 200, 201, 202, 203, 204, 205, 206, 207, 208, 209] rfl (by decide +kernel)
set_option maxRecDepth 20000 in
theorem gX2_callStatic_X2_begin : GoodIn wsX2_callStatic (wsV RX2 125 RX2 yX2_begin wsX2_begin) := goodIn_app (goodIn_of _ (by decide +kernel)) ggX2_callStatic_X2_begin
set_option maxRecDepth 20000 in
theorem ggX2_callStatic_X2_enterBy : GoodIn wsX2_callStatic wsX2_enterBy := goodIn_r _ [132, 133, 22, 23, 20, 24, 134, 135, 136, 11, 15, 16, 17, 1, 18, 19, 21, 25, 26, 27, 28, 29, 30, 8, 9, 10, 31, 32, 33, 5, 34, 35, 36, 37, 38, 39, 40, 41, 42, 43, 44, 45, 46, 47, 48, 49, 50, 51, 52, 12, 13, 14, 53, 54, 55, 56, 57, 58, 59, 60, 61, 62, 63, 64, 65, 66, 67, 68, 69, 70, 71, 72, 73, 74, 75, 76, 77, 78, 79, 80, 81, 82, 83, 84, 85, 86, 87, 88, 89, 90, 91, 92, 93, 94, 95, 96, 97, 98, 99, 100, 101, 102, 103, 104, 105, 106, 107, 108, 109, 110, 111, 112, 113, 0, 2, 3, 4, 6, 7, 114, 115, 116, 117, 118, 119, 120, 121, 122, 123, 124, 125, 126, 127, 128, 129, 130, 131, 137, 138, 139, 140, 141, 142, 143, 144, 145, 146, 147, 148, 149, 150, 151, 152, 153, 154, 155, 156, 157, 158, 159, 160, 161, 162, 163, 164, 165, 166, 167, 168, 169, 170, 171, 172, 173, 174, 175, 176, 177, 178, 179, 180, 181, 182, 183, 184, 185, 186, 187, 188, 189, 190, 191, 192, 193, 194, 195, 196, 197, 198, 199, 200, 201, 202, 203, 204, 205, 206, 207, 208, 209] rfl (by decide +kernel)
set_option maxRecDepth 20000 in
theorem gX2_callStatic_X2_enterBy : GoodIn wsX2_callStatic (wsV RX2 138 RX2 yX2_enterBy wsX2_enterBy) := goodIn_app (goodIn_of _ (by decide +kernel)) ggX2_callStatic_X2_enterBy
theorem dX2_callStatic_0 : decode cX2_callStatic 0 = .ok (.iload_n 2, 1) := by decide +kernel
theorem dX2_callStatic_1 : decode cX2_callStatic 1 = .ok (.ifCond .ge 4, 3) := by decide +kernel
theorem dX2_callStatic_4 : decode cX2_callStatic 4 = .ok (.return_, 1) := by decide +kernel
theorem dX2_callStatic_5 : decode cX2_callStatic 5 = .ok (.aload_n 0, 1) := by decide +kernel
theorem dX2_callStatic_6 : decode cX2_callStatic 6 = .ok (.aload_n 0, 1) := by decide +kernel
theorem dX2_callStatic_7 : decode cX2_callStatic 7 = .ok (.getfield 29, 3) := by decide +kernel
theorem dX2_callStatic_10 : decode cX2_callStatic 10 = .ok (.iload_n 2, 1) := by decide +kernel
theorem dX2_callStatic_11 : decode cX2_callStatic 11 = .ok (.invokevirtual 170, 3) := by decide +kernel
theorem dX2_callStatic_14 : decode cX2_callStatic 14 = .ok (.iload_n 1, 1) := by decide +kernel
theorem dX2_callStatic_15 : decode cX2_callStatic 15 = .ok (.iload_n 3, 1) := by decide +kernel
theorem dX2_callStatic_16 : decode cX2_callStatic 16 = .ok (.invokevirtual 125, 3) := by decide +kernel
theorem dX2_callStatic_19 : decode cX2_callStatic 19 = .ok (.aload_n 0, 1) := by decide +kernel
theorem dX2_callStatic_20 : decode cX2_callStatic 20 = .ok (.iload_n 1, 1) := by decide +kernel
theorem dX2_callStatic_21 : decode cX2_callStatic 21 = .ok (.iload_n 2, 1) := by decide +kernel
theorem dX2_callStatic_22 : decode cX2_callStatic 22 = .ok (.iload_n 3, 1) := by decide +kernel
theorem dX2_callStatic_23 : decode cX2_callStatic 23 = .ok (.invokevirtual 138, 3) := by decide +kernel
theorem dX2_callStatic_26 : decode cX2_callStatic 26 = .ok (.return_, 1) := by decide +kernel
theorem dX2_put_0 : decode cX2_put 0 = .ok (.iload_n 1, 1) := by decide +kernel
theorem dX2_put_1 : decode cX2_put 1 = .ok (.bipush 48, 2) := by decide +kernel
theorem dX2_put_3 : decode cX2_put 3 = .ok (.imul, 1) := by decide +kernel
theorem dX2_put_4 : decode cX2_put 4 = .ok (.istore_n 3, 1) := by decide +kernel
theorem dX2_put_5 : decode cX2_put 5 = .ok (.iconst 0, 1) := by decide +kernel
theorem dX2_put_6 : decode cX2_put 6 = .ok (.istore 4, 2) := by decide +kernel
theorem dX2_put_8 : decode cX2_put 8 = .ok (.iload 4, 2) := by decide +kernel
theorem dX2_put_10 : decode cX2_put 10 = .ok (.aload_n 0, 1) := by decide +kernel
theorem dX2_put_11 : decode cX2_put 11 = .ok (.getfield 18, 3) := by decide +kernel
theorem dX2_put_14 : decode cX2_put 14 = .ok (.iload_n 1, 1) := by decide +kernel
theorem dX2_put_15 : decode cX2_put 15 = .ok (.iaload, 1) := by decide +kernel
theorem dX2_put_16 : decode cX2_put 16 = .ok (.if_icmp .ge 23, 3) := by decide +kernel
theorem dX2_put_19 : decode cX2_put 19 = .ok (.aload_n 0, 1) := by decide +kernel
theorem dX2_put_20 : decode cX2_put 20 = .ok (.getfield 15, 3) := by decide +kernel
theorem dX2_put_23 : decode cX2_put 23 = .ok (.iload_n 3, 1) := by decide +kernel
theorem dX2_put_24 : decode cX2_put 24 = .ok (.iload 4, 2) := by decide +kernel
theorem dX2_put_26 : decode cX2_put 26 = .ok (.iadd, 1) := by decide +kernel
theorem dX2_put_27 : decode cX2_put 27 = .ok (.iaload, 1) := by decide +kernel
theorem dX2_put_28 : decode cX2_put 28 = .ok (.iload_n 2, 1) := by decide +kernel
theorem dX2_put_29 : decode cX2_put 29 = .ok (.if_icmp .ne 4, 3) := by decide +kernel
theorem dX2_put_32 : decode cX2_put 32 = .ok (.return_, 1) := by decide +kernel
theorem dX2_put_33 : decode cX2_put 33 = .ok (.iinc 4 1, 3) := by decide +kernel
theorem dX2_put_36 : decode cX2_put 36 = .ok (.goto (-28), 3) := by decide +kernel
theorem dX2_put_39 : decode cX2_put 39 = .ok (.aload_n 0, 1) := by decide +kernel
theorem dX2_put_40 : decode cX2_put 40 = .ok (.getfield 15, 3) := by decide +kernel
theorem dX2_put_43 : decode cX2_put 43 = .ok (.iload_n 3, 1) := by decide +kernel
theorem dX2_put_44 : decode cX2_put 44 = .ok (.aload_n 0, 1) := by decide +kernel
theorem dX2_put_45 : decode cX2_put 45 = .ok (.getfield 18, 3) := by decide +kernel
theorem dX2_put_48 : decode cX2_put 48 = .ok (.iload_n 1, 1) := by decide +kernel
theorem dX2_put_49 : decode cX2_put 49 = .ok (.iaload, 1) := by decide +kernel
theorem dX2_put_50 : decode cX2_put 50 = .ok (.iadd, 1) := by decide +kernel
theorem dX2_put_51 : decode cX2_put 51 = .ok (.iload_n 2, 1) := by decide +kernel
theorem dX2_put_52 : decode cX2_put 52 = .ok (.iastore, 1) := by decide +kernel
theorem dX2_put_53 : decode cX2_put 53 = .ok (.aload_n 0, 1) := by decide +kernel
theorem dX2_put_54 : decode cX2_put 54 = .ok (.getfield 18, 3) := by decide +kernel
theorem dX2_put_57 : decode cX2_put 57 = .ok (.iload_n 1, 1) := by decide +kernel
theorem dX2_put_58 : decode cX2_put 58 = .ok (.dup2, 1) := by decide +kernel
theorem dX2_put_59 : decode cX2_put 59 = .ok (.iaload, 1) := by decide +kernel
theorem dX2_put_60 : decode cX2_put 60 = .ok (.iconst 1, 1) := by decide +kernel
theorem dX2_put_61 : decode cX2_put 61 = .ok (.iadd, 1) := by decide +kernel
theorem dX2_put_62 : decode cX2_put 62 = .ok (.iastore, 1) := by decide +kernel
theorem dX2_put_63 : decode cX2_put 63 = .ok (.return_, 1) := by decide +kernel
set_option maxRecDepth 20000 in
theorem ggX2_callBagged_X2_draw : GoodIn wsX2_callBagged wsX2_draw := goodIn_r _ [7, 8, 9, 10, 168, 169, 170, 171, 172, 173, 174, 175, 176, 177, 178, 179, 180, 181, 182] rfl (by decide +kernel)
set_option maxRecDepth 20000 in
theorem gX2_callBagged_X2_draw : GoodIn wsX2_callBagged (wsV RX2 106 RX2 yX2_draw wsX2_draw) := goodIn_app (goodIn_of _ (by decide +kernel)) ggX2_callBagged_X2_draw
set_option maxRecDepth 20000 in
theorem ggX2_callBagged_X2_enterBy : GoodIn wsX2_callBagged wsX2_enterBy := goodIn_r _ [132, 133, 22, 23, 20, 24, 134, 135, 136, 6, 14, 15, 16, 17, 18, 19, 21, 25, 26, 27, 28, 29, 30, 31, 32, 33, 34, 35, 36, 37, 38, 39, 40, 41, 42, 43, 44, 45, 46, 47, 48, 49, 50, 51, 52, 53, 54, 55, 56, 11, 12, 13, 57, 58, 59, 60, 61, 62, 63, 64, 3, 4, 5, 7, 8, 9, 10, 65, 66, 67, 68, 69, 0, 1, 2, 70, 71, 72, 73, 74, 75, 76, 77, 78, 79, 80, 81, 82, 83, 84, 85, 86, 87, 88, 89, 90, 91, 92, 93, 94, 95, 96, 97, 98, 99, 100, 101, 102, 103, 104, 105, 106, 107, 108, 109, 110, 111, 112, 113, 114, 115, 116, 117, 118, 119, 120, 121, 122, 123, 124, 125, 126, 127, 128, 129, 130, 131, 137, 138, 139, 140, 141, 142, 143, 144, 145, 146, 147, 148, 149, 150, 151, 152, 153, 154, 155, 156, 157, 158, 159, 160, 161, 162, 163, 164, 165, 166, 167, 168, 169, 170, 171, 172, 173, 174, 175, 176, 177, 178, 179, 180, 181, 182, 183, 184, 185, 186, 187, 188, 189, 190, 191, 192, 193, 194, 195, 196, 197, 198, 199, 200, 201, 202, 203, 204, 205, 206, 207, 208, 209] rfl (by decide +kernel)
set_option maxRecDepth 20000 in
theorem gX2_callBagged_X2_enterBy : GoodIn wsX2_callBagged (wsV RX2 138 RX2 yX2_enterBy wsX2_enterBy) := goodIn_app (goodIn_of _ (by decide +kernel)) ggX2_callBagged_X2_enterBy
theorem dX2_callBagged_0 : decode cX2_callBagged 0 = .ok (.aload_n 0, 1) := by decide +kernel
theorem dX2_callBagged_1 : decode cX2_callBagged 1 = .ok (.getfield 18, 3) := by decide +kernel
theorem dX2_callBagged_4 : decode cX2_callBagged 4 = .ok (.iload_n 2, 1) := by decide +kernel
theorem dX2_callBagged_5 : decode cX2_callBagged 5 = .ok (.iaload, 1) := by decide +kernel
theorem dX2_callBagged_6 : decode cX2_callBagged 6 = .ok (.ifCond .ne 4, 3) := by decide +kernel
theorem dX2_callBagged_9 : decode cX2_callBagged 9 = .ok (.return_, 1) := by decide +kernel
theorem dX2_callBagged_10 : decode cX2_callBagged 10 = .ok (.aload_n 0, 1) := by decide +kernel
theorem dX2_callBagged_11 : decode cX2_callBagged 11 = .ok (.iload_n 1, 1) := by decide +kernel
theorem dX2_callBagged_12 : decode cX2_callBagged 12 = .ok (.aload_n 0, 1) := by decide +kernel
theorem dX2_callBagged_13 : decode cX2_callBagged 13 = .ok (.getfield 15, 3) := by decide +kernel
theorem dX2_callBagged_16 : decode cX2_callBagged 16 = .ok (.iload_n 2, 1) := by decide +kernel
theorem dX2_callBagged_17 : decode cX2_callBagged 17 = .ok (.bipush 48, 2) := by decide +kernel
theorem dX2_callBagged_19 : decode cX2_callBagged 19 = .ok (.imul, 1) := by decide +kernel
theorem dX2_callBagged_20 : decode cX2_callBagged 20 = .ok (.aload_n 0, 1) := by decide +kernel
theorem dX2_callBagged_21 : decode cX2_callBagged 21 = .ok (.aload_n 0, 1) := by decide +kernel
theorem dX2_callBagged_22 : decode cX2_callBagged 22 = .ok (.getfield 18, 3) := by decide +kernel
theorem dX2_callBagged_25 : decode cX2_callBagged 25 = .ok (.iload_n 2, 1) := by decide +kernel
theorem dX2_callBagged_26 : decode cX2_callBagged 26 = .ok (.iaload, 1) := by decide +kernel
theorem dX2_callBagged_27 : decode cX2_callBagged 27 = .ok (.invokevirtual 106, 3) := by decide +kernel
theorem dX2_callBagged_30 : decode cX2_callBagged 30 = .ok (.iadd, 1) := by decide +kernel
theorem dX2_callBagged_31 : decode cX2_callBagged 31 = .ok (.iaload, 1) := by decide +kernel
theorem dX2_callBagged_32 : decode cX2_callBagged 32 = .ok (.iload_n 3, 1) := by decide +kernel
theorem dX2_callBagged_33 : decode cX2_callBagged 33 = .ok (.invokevirtual 138, 3) := by decide +kernel
theorem dX2_callBagged_36 : decode cX2_callBagged 36 = .ok (.return_, 1) := by decide +kernel
set_option maxRecDepth 20000 in
theorem ggX2_callAny_J13_bitCount_95d88 : GoodIn wsX2_callAny wsJ13_bitCount_95d88 := goodIn_r _ [4, 5, 6, 7] rfl (by decide +kernel)
set_option maxRecDepth 20000 in
theorem gX2_callAny_J13_bitCount_95d88 : GoodIn wsX2_callAny (va_wsS RX2 173 yJ13_bitCount_95d88 wsJ13_bitCount_95d88) := goodIn_app (goodIn_of _ (by decide +kernel)) ggX2_callAny_J13_bitCount_95d88
set_option maxRecDepth 20000 in
theorem ggX2_callAny_X2_draw : GoodIn wsX2_callAny wsX2_draw := goodIn_r _ [12, 13, 14, 15, 168, 169, 170, 171, 172, 173, 174, 175, 176, 177, 178, 179, 180, 181, 182] rfl (by decide +kernel)
set_option maxRecDepth 20000 in
theorem gX2_callAny_X2_draw : GoodIn wsX2_callAny (wsV RX2 106 RX2 yX2_draw wsX2_draw) := goodIn_app (goodIn_of _ (by decide +kernel)) ggX2_callAny_X2_draw
set_option maxRecDepth 20000 in
theorem ggX2_callAny_X0_nth : GoodIn wsX2_callAny wsX0_nth := goodIn_r _ [19, 20, 2, 3, 4, 5, 6, 7, 21, 22, 18, 23] rfl (by decide +kernel)
set_option maxRecDepth 20000 in
theorem gX2_callAny_X0_nth : GoodIn wsX2_callAny (va_wsS RX2 179 yX0_nth wsX0_nth) := goodIn_app (goodIn_of _ (by decide +kernel)) ggX2_callAny_X0_nth
set_option maxRecDepth 20000 in
theorem ggX2_callAny_X2_enterBy : GoodIn wsX2_callAny wsX2_enterBy := goodIn_r _ [132, 133, 32, 33, 18, 34, 134, 135, 136, 11, 27, 28, 29, 30, 31, 22, 23, 35, 36, 37, 38, 39, 40, 41, 42, 43, 44, 45, 46, 47, 48, 49, 50, 51, 52, 53, 54, 55, 56, 57, 58, 59, 60, 61, 62, 63, 64, 65, 66, 24, 25, 26, 0, 1, 2, 3, 4, 5, 6, 7, 8, 9, 10, 12, 13, 14, 15, 16, 17, 19, 20, 21, 67, 68, 69, 70, 71, 72, 73, 74, 75, 76, 77, 78, 79, 80, 81, 82, 83, 84, 85, 86, 87, 88, 89, 90, 91, 92, 93, 94, 95, 96, 97, 98, 99, 100, 101, 102, 103, 104, 105, 106, 107, 108, 109, 110, 111, 112, 113, 114, 115, 116, 117, 118, 119, 120, 121, 122, 123, 124, 125, 126, 127, 128, 129, 130, 131, 137, 138, 139, 140, 141, 142, 143, 144, 145, 146, 147, 148, 149, 150, 151, 152, 153, 154, 155, 156, 157, 158, 159, 160, 161, 162, 163, 164, 165, 166, 167, 168, 169, 170, 171, 172, 173, 174, 175, 176, 177, 178, 179, 180, 181, 182, 183, 184, 185, 186, 187, 188, 189, 190, 191, 192, 193, 194, 195, 196, 197, 198, 199, 200, 201, 202, 203, 204, 205, 206, 207, 208, 209] rfl (by decide +kernel)
set_option maxRecDepth 20000 in
theorem gX2_callAny_X2_enterBy : GoodIn wsX2_callAny (wsV RX2 138 RX2 yX2_enterBy wsX2_enterBy) := goodIn_app (goodIn_of _ (by decide +kernel)) ggX2_callAny_X2_enterBy
theorem dX2_callAny_0 : decode cX2_callAny 0 = .ok (.lload_n 2, 1) := by decide +kernel
theorem dX2_callAny_1 : decode cX2_callAny 1 = .ok (.lconst 0, 1) := by decide +kernel
theorem dX2_callAny_2 : decode cX2_callAny 2 = .ok (.lcmp, 1) := by decide +kernel
theorem dX2_callAny_3 : decode cX2_callAny 3 = .ok (.ifCond .eq 22, 3) := by decide +kernel
theorem dX2_callAny_6 : decode cX2_callAny 6 = .ok (.aload_n 0, 1) := by decide +kernel
theorem dX2_callAny_7 : decode cX2_callAny 7 = .ok (.iload_n 1, 1) := by decide +kernel
theorem dX2_callAny_8 : decode cX2_callAny 8 = .ok (.lload_n 2, 1) := by decide +kernel
theorem dX2_callAny_9 : decode cX2_callAny 9 = .ok (.aload_n 0, 1) := by decide +kernel
theorem dX2_callAny_10 : decode cX2_callAny 10 = .ok (.lload_n 2, 1) := by decide +kernel
theorem dX2_callAny_11 : decode cX2_callAny 11 = .ok (.invokestatic 173, 3) := by decide +kernel
theorem dX2_callAny_14 : decode cX2_callAny 14 = .ok (.invokevirtual 106, 3) := by decide +kernel
theorem dX2_callAny_17 : decode cX2_callAny 17 = .ok (.invokestatic 179, 3) := by decide +kernel
theorem dX2_callAny_20 : decode cX2_callAny 20 = .ok (.iload 4, 2) := by decide +kernel
theorem dX2_callAny_22 : decode cX2_callAny 22 = .ok (.invokevirtual 138, 3) := by decide +kernel
theorem dX2_callAny_25 : decode cX2_callAny 25 = .ok (.return_, 1) := by decide +kernel
set_option maxRecDepth 20000 in
theorem ggX2_begin_X0_has : GoodIn wsX2_begin wsX0_has := goodIn_r _ [7] rfl (by decide +kernel)
set_option maxRecDepth 20000 in
theorem gX2_begin_X0_has : GoodIn wsX2_begin (va_wsS RX2 183 yX0_has wsX0_has) := goodIn_app (goodIn_of _ (by decide +kernel)) ggX2_begin_X0_has
set_option maxRecDepth 20000 in
theorem ggX2_begin_X0_with : GoodIn wsX2_begin wsX0_with := goodIn_r _ [10] rfl (by decide +kernel)
set_option maxRecDepth 20000 in
theorem gX2_begin_X0_with : GoodIn wsX2_begin (va_wsS RX2 61 yX0_with wsX0_with) := goodIn_app (goodIn_of _ (by decide +kernel)) ggX2_begin_X0_with
set_option maxRecDepth 20000 in
theorem ggX2_begin_X6_superOf : GoodIn wsX2_begin wsX6_superOf := goodIn_r _ [15, 16, 183, 184, 185, 186, 187, 188] rfl (by decide +kernel)
set_option maxRecDepth 20000 in
theorem gX2_begin_X6_superOf : GoodIn wsX2_begin (wsV RX2 187 RX6 yX6_superOf wsX6_superOf) := goodIn_app (goodIn_of _ (by decide +kernel)) ggX2_begin_X6_superOf
set_option maxRecDepth 20000 in
theorem ggX2_begin_X2_begin : GoodIn wsX2_begin wsX2_begin := goodIn_r _ [0, 1, 2, 3, 4, 5, 6, 7, 8, 9, 10, 11, 12, 13, 14, 15, 16, 17, 18, 19, 20, 21, 22, 23, 24, 25, 26, 27, 28, 29, 30, 31, 32, 33, 34, 35, 36, 37, 38, 39, 40, 41, 42, 43, 44, 45, 46, 47, 48, 49, 50, 51, 52, 53, 54, 55, 56, 57, 58, 59, 60, 61, 62, 63, 64, 65, 66, 67, 68, 69, 70, 71, 72, 73, 74, 75, 76, 77, 78, 79, 80, 81, 82, 83, 84, 85, 86, 87, 88, 89, 90, 91, 92, 93, 94, 95, 96, 97, 98, 99, 100, 101, 102, 103, 104, 105, 106, 107, 108, 109, 110, 111, 112, 113, 114, 115, 116, 117, 118, 119, 120, 121, 122, 123, 124, 125, 126, 127, 128, 129, 130, 131, 132, 133, 134, 135, 136, 137, 138, 139, 140, 141, 142, 143, 144, 145, 146, 147, 148, 149, 150, 151, 152, 153, 154, 155, 156, 157, 158, 159, 160, 161, 162, 163, 164, 165, 166, 167, 168, 169, 170, 171, 172, 173, 174, 175, 176, 177, 178, 179, 180, 181, 182, 183, 184, 185, 186, 187, 188, 189, 190, 191, 192, 193, 194, 195, 196, 197, 198, 199, 200, 201, 202, 203, 204, 205, 206, 207, 208, 209] rfl (by decide +kernel)
set_option maxRecDepth 20000 in
theorem gX2_begin_X2_begin : GoodIn wsX2_begin (wsV RX2 125 RX2 yX2_begin wsX2_begin) := goodIn_app (goodIn_of _ (by decide +kernel)) ggX2_begin_X2_begin
set_option maxRecDepth 20000 in
theorem ggX2_begin_X4_facesBegunWith : GoodIn wsX2_begin wsX4_facesBegunWith := goodIn_r _ [25, 26, 27, 28, 29, 30, 14, 31, 32, 33, 34, 35, 36, 37, 38, 189, 190, 191, 192, 193, 194, 195, 196, 197, 198, 199, 183, 184, 185, 186, 187, 188] rfl (by decide +kernel)
set_option maxRecDepth 20000 in
theorem gX2_begin_X4_facesBegunWith : GoodIn wsX2_begin (wsV RX2 190 RX4 yX4_facesBegunWith wsX4_facesBegunWith) := goodIn_app (goodIn_of _ (by decide +kernel)) ggX2_begin_X4_facesBegunWith
set_option maxRecDepth 20000 in
theorem ggX2_begin_X4_startOf : GoodIn wsX2_begin wsX4_startOf := goodIn_r _ [42, 43, 189, 190, 191, 192, 193, 194, 195, 196, 197, 198, 199] rfl (by decide +kernel)
set_option maxRecDepth 20000 in
theorem gX2_begin_X4_startOf : GoodIn wsX2_begin (wsV RX2 193 RX4 yX4_startOf wsX4_startOf) := goodIn_app (goodIn_of _ (by decide +kernel)) ggX2_begin_X4_startOf
set_option maxRecDepth 20000 in
theorem ggX2_begin_X2_enterBy : GoodIn wsX2_begin wsX2_enterBy := goodIn_r _ [132, 133, 8, 9, 6, 10, 134, 135, 136, 20, 0, 1, 2, 3, 4, 5, 7, 11, 12, 13, 14, 15, 16, 17, 18, 19, 21, 22, 23, 24, 25, 26, 27, 28, 29, 30, 31, 32, 33, 34, 35, 36, 37, 38, 39, 40, 41, 42, 43, 44, 45, 46, 47, 48, 49, 50, 51, 52, 53, 54, 55, 56, 57, 58, 59, 60, 61, 62, 63, 64, 65, 66, 67, 68, 69, 70, 71, 72, 73, 74, 75, 76, 77, 78, 79, 80, 81, 82, 83, 84, 85, 86, 87, 88, 89, 90, 91, 92, 93, 94, 95, 96, 97, 98, 99, 100, 101, 102, 103, 104, 105, 106, 107, 108, 109, 110, 111, 112, 113, 114, 115, 116, 117, 118, 119, 120, 121, 122, 123, 124, 125, 126, 127, 128, 129, 130, 131, 137, 138, 139, 140, 141, 142, 143, 144, 145, 146, 147, 148, 149, 150, 151, 152, 153, 154, 155, 156, 157, 158, 159, 160, 161, 162, 163, 164, 165, 166, 167, 168, 169, 170, 171, 172, 173, 174, 175, 176, 177, 178, 179, 180, 181, 182, 183, 184, 185, 186, 187, 188, 189, 190, 191, 192, 193, 194, 195, 196, 197, 198, 199, 200, 201, 202, 203, 204, 205, 206, 207, 208, 209] rfl (by decide +kernel)
set_option maxRecDepth 20000 in
theorem gX2_begin_X2_enterBy : GoodIn wsX2_begin (wsV RX2 138 RX2 yX2_enterBy wsX2_enterBy) := goodIn_app (goodIn_of _ (by decide +kernel)) ggX2_begin_X2_enterBy
theorem dX2_begin_0 : decode cX2_begin 0 = .ok (.iload_n 1, 1) := by decide +kernel
theorem dX2_begin_1 : decode cX2_begin 1 = .ok (.iconst (-1), 1) := by decide +kernel
theorem dX2_begin_2 : decode cX2_begin 2 = .ok (.if_icmp .eq 14, 3) := by decide +kernel
theorem dX2_begin_5 : decode cX2_begin 5 = .ok (.aload_n 0, 1) := by decide +kernel
theorem dX2_begin_6 : decode cX2_begin 6 = .ok (.getfield 52, 3) := by decide +kernel
theorem dX2_begin_9 : decode cX2_begin 9 = .ok (.iload_n 1, 1) := by decide +kernel
theorem dX2_begin_10 : decode cX2_begin 10 = .ok (.invokestatic 183, 3) := by decide +kernel
theorem dX2_begin_13 : decode cX2_begin 13 = .ok (.ifCond .eq 4, 3) := by decide +kernel
theorem dX2_begin_16 : decode cX2_begin 16 = .ok (.return_, 1) := by decide +kernel
theorem dX2_begin_17 : decode cX2_begin 17 = .ok (.aload_n 0, 1) := by decide +kernel
theorem dX2_begin_18 : decode cX2_begin 18 = .ok (.aload_n 0, 1) := by decide +kernel
theorem dX2_begin_19 : decode cX2_begin 19 = .ok (.getfield 52, 3) := by decide +kernel
theorem dX2_begin_22 : decode cX2_begin 22 = .ok (.iload_n 1, 1) := by decide +kernel
theorem dX2_begin_23 : decode cX2_begin 23 = .ok (.invokestatic 61, 3) := by decide +kernel
theorem dX2_begin_26 : decode cX2_begin 26 = .ok (.putfield 52, 3) := by decide +kernel
theorem dX2_begin_29 : decode cX2_begin 29 = .ok (.aload_n 0, 1) := by decide +kernel
theorem dX2_begin_30 : decode cX2_begin 30 = .ok (.aload_n 0, 1) := by decide +kernel
theorem dX2_begin_31 : decode cX2_begin 31 = .ok (.getfield 25, 3) := by decide +kernel
theorem dX2_begin_34 : decode cX2_begin 34 = .ok (.iload_n 1, 1) := by decide +kernel
theorem dX2_begin_35 : decode cX2_begin 35 = .ok (.invokevirtual 187, 3) := by decide +kernel
theorem dX2_begin_38 : decode cX2_begin 38 = .ok (.iload_n 2, 1) := by decide +kernel
theorem dX2_begin_39 : decode cX2_begin 39 = .ok (.iload_n 3, 1) := by decide +kernel
theorem dX2_begin_40 : decode cX2_begin 40 = .ok (.invokevirtual 125, 3) := by decide +kernel
theorem dX2_begin_43 : decode cX2_begin 43 = .ok (.aload_n 0, 1) := by decide +kernel
theorem dX2_begin_44 : decode cX2_begin 44 = .ok (.getfield 29, 3) := by decide +kernel
theorem dX2_begin_47 : decode cX2_begin 47 = .ok (.iload_n 1, 1) := by decide +kernel
theorem dX2_begin_48 : decode cX2_begin 48 = .ok (.invokevirtual 190, 3) := by decide +kernel
theorem dX2_begin_51 : decode cX2_begin 51 = .ok (.lstore 4, 2) := by decide +kernel
theorem dX2_begin_53 : decode cX2_begin 53 = .ok (.iconst 0, 1) := by decide +kernel
theorem dX2_begin_54 : decode cX2_begin 54 = .ok (.istore 6, 2) := by decide +kernel
theorem dX2_begin_56 : decode cX2_begin 56 = .ok (.iload 6, 2) := by decide +kernel
theorem dX2_begin_58 : decode cX2_begin 58 = .ok (.iload_n 1, 1) := by decide +kernel
theorem dX2_begin_59 : decode cX2_begin 59 = .ok (.if_icmp .ge 27, 3) := by decide +kernel
theorem dX2_begin_62 : decode cX2_begin 62 = .ok (.lload 4, 2) := by decide +kernel
theorem dX2_begin_64 : decode cX2_begin 64 = .ok (.iload 6, 2) := by decide +kernel
theorem dX2_begin_66 : decode cX2_begin 66 = .ok (.invokestatic 183, 3) := by decide +kernel
theorem dX2_begin_69 : decode cX2_begin 69 = .ok (.ifCond .eq 11, 3) := by decide +kernel
theorem dX2_begin_72 : decode cX2_begin 72 = .ok (.aload_n 0, 1) := by decide +kernel
theorem dX2_begin_73 : decode cX2_begin 73 = .ok (.iload 6, 2) := by decide +kernel
theorem dX2_begin_75 : decode cX2_begin 75 = .ok (.iload_n 2, 1) := by decide +kernel
theorem dX2_begin_76 : decode cX2_begin 76 = .ok (.iload_n 3, 1) := by decide +kernel
theorem dX2_begin_77 : decode cX2_begin 77 = .ok (.invokevirtual 125, 3) := by decide +kernel
theorem dX2_begin_80 : decode cX2_begin 80 = .ok (.iinc 6 1, 3) := by decide +kernel
theorem dX2_begin_83 : decode cX2_begin 83 = .ok (.goto (-27), 3) := by decide +kernel
theorem dX2_begin_86 : decode cX2_begin 86 = .ok (.aload_n 0, 1) := by decide +kernel
theorem dX2_begin_87 : decode cX2_begin 87 = .ok (.iload_n 2, 1) := by decide +kernel
theorem dX2_begin_88 : decode cX2_begin 88 = .ok (.aload_n 0, 1) := by decide +kernel
theorem dX2_begin_89 : decode cX2_begin 89 = .ok (.getfield 29, 3) := by decide +kernel
theorem dX2_begin_92 : decode cX2_begin 92 = .ok (.iload_n 1, 1) := by decide +kernel
theorem dX2_begin_93 : decode cX2_begin 93 = .ok (.invokevirtual 193, 3) := by decide +kernel
theorem dX2_begin_96 : decode cX2_begin 96 = .ok (.iload_n 3, 1) := by decide +kernel
theorem dX2_begin_97 : decode cX2_begin 97 = .ok (.invokevirtual 138, 3) := by decide +kernel
theorem dX2_begin_100 : decode cX2_begin 100 = .ok (.return_, 1) := by decide +kernel
theorem dX3_init_0 : decode cX3_init 0 = .ok (.aload_n 0, 1) := by decide +kernel
theorem dX3_init_1 : decode cX3_init 1 = .ok (.invokespecial 3, 3) := by decide +kernel
theorem dX3_init_4 : decode cX3_init 4 = .ok (.aload_n 0, 1) := by decide +kernel
theorem dX3_init_5 : decode cX3_init 5 = .ok (.iconst 4, 1) := by decide +kernel
theorem dX3_init_6 : decode cX3_init 6 = .ok (.newarray .long, 2) := by decide +kernel
theorem dX3_init_8 : decode cX3_init 8 = .ok (.putfield 9, 3) := by decide +kernel
theorem dX3_init_11 : decode cX3_init 11 = .ok (.aload_n 0, 1) := by decide +kernel
theorem dX3_init_12 : decode cX3_init 12 = .ok (.sipush 160, 3) := by decide +kernel
theorem dX3_init_15 : decode cX3_init 15 = .ok (.newarray .long, 2) := by decide +kernel
theorem dX3_init_17 : decode cX3_init 17 = .ok (.putfield 15, 3) := by decide +kernel
theorem dX3_init_20 : decode cX3_init 20 = .ok (.aload_n 0, 1) := by decide +kernel
theorem dX3_init_21 : decode cX3_init 21 = .ok (.bipush 48, 2) := by decide +kernel
theorem dX3_init_23 : decode cX3_init 23 = .ok (.newarray .long, 2) := by decide +kernel
theorem dX3_init_25 : decode cX3_init 25 = .ok (.putfield 18, 3) := by decide +kernel
theorem dX3_init_28 : decode cX3_init 28 = .ok (.aload_n 0, 1) := by decide +kernel
theorem dX3_init_29 : decode cX3_init 29 = .ok (.bipush 48, 2) := by decide +kernel
theorem dX3_init_31 : decode cX3_init 31 = .ok (.newarray .long, 2) := by decide +kernel
theorem dX3_init_33 : decode cX3_init 33 = .ok (.putfield 21, 3) := by decide +kernel
theorem dX3_init_36 : decode cX3_init 36 = .ok (.aload_n 0, 1) := by decide +kernel
theorem dX3_init_37 : decode cX3_init 37 = .ok (.bipush 48, 2) := by decide +kernel
theorem dX3_init_39 : decode cX3_init 39 = .ok (.newarray .long, 2) := by decide +kernel
theorem dX3_init_41 : decode cX3_init 41 = .ok (.putfield 24, 3) := by decide +kernel
theorem dX3_init_44 : decode cX3_init 44 = .ok (.aload_n 0, 1) := by decide +kernel
theorem dX3_init_45 : decode cX3_init 45 = .ok (.aload_n 1, 1) := by decide +kernel
theorem dX3_init_46 : decode cX3_init 46 = .ok (.putfield 27, 3) := by decide +kernel
theorem dX3_init_49 : decode cX3_init 49 = .ok (.aload_n 0, 1) := by decide +kernel
theorem dX3_init_50 : decode cX3_init 50 = .ok (.aload_n 2, 1) := by decide +kernel
theorem dX3_init_51 : decode cX3_init 51 = .ok (.putfield 31, 3) := by decide +kernel
theorem dX3_init_54 : decode cX3_init 54 = .ok (.aload_n 0, 1) := by decide +kernel
theorem dX3_init_55 : decode cX3_init 55 = .ok (.aload_n 3, 1) := by decide +kernel
theorem dX3_init_56 : decode cX3_init 56 = .ok (.putfield 35, 3) := by decide +kernel
theorem dX3_init_59 : decode cX3_init 59 = .ok (.aload_n 0, 1) := by decide +kernel
theorem dX3_init_60 : decode cX3_init 60 = .ok (.aload 4, 2) := by decide +kernel
theorem dX3_init_62 : decode cX3_init 62 = .ok (.putfield 39, 3) := by decide +kernel
theorem dX3_init_65 : decode cX3_init 65 = .ok (.return_, 1) := by decide +kernel
theorem dX3_forget_0 : decode cX3_forget 0 = .ok (.aload_n 0, 1) := by decide +kernel
theorem dX3_forget_1 : decode cX3_forget 1 = .ok (.iconst 0, 1) := by decide +kernel
theorem dX3_forget_2 : decode cX3_forget 2 = .ok (.putfield 43, 3) := by decide +kernel
theorem dX3_forget_5 : decode cX3_forget 5 = .ok (.return_, 1) := by decide +kernel
set_option maxRecDepth 20000 in
theorem ggX3_refresh_X3_clear : GoodIn wsX3_refresh wsX3_clear := goodIn_r _ [6, 7, 8, 9, 10, 11, 12, 13, 14, 15, 16, 17, 18, 19, 20, 21, 22, 23, 178, 179, 180, 181, 182, 183, 184, 185, 186, 187, 188, 189, 190, 191, 192, 193, 194, 195, 196, 197, 198, 199, 200, 201] rfl (by decide +kernel)
set_option maxRecDepth 20000 in
theorem gX3_refresh_X3_clear : GoodIn wsX3_refresh (wsV RX3 47 RX3 yX3_clear wsX3_clear) := goodIn_app (goodIn_of _ (by decide +kernel)) ggX3_refresh_X3_clear
set_option maxRecDepth 20000 in
theorem ggX3_refresh_X3_sizeOfAll : GoodIn wsX3_refresh wsX3_sizeOfAll := goodIn_r _ [27, 8, 9, 10, 11, 28, 29, 30, 31, 32, 33, 34, 178, 179, 180, 181, 182, 183, 184, 185, 186, 187, 188, 189, 190] rfl (by decide +kernel)
set_option maxRecDepth 20000 in
theorem gX3_refresh_X3_sizeOfAll : GoodIn wsX3_refresh (wsV RX3 50 RX3 yX3_sizeOfAll wsX3_sizeOfAll) := goodIn_app (goodIn_of _ (by decide +kernel)) ggX3_refresh_X3_sizeOfAll
set_option maxRecDepth 20000 in
theorem ggX3_refresh_X3_serveReached : GoodIn wsX3_refresh wsX3_serveReached := goodIn_r _ [38, 7, 8, 39, 12, 40, 41, 42, 17, 43, 44, 45, 46, 47, 48, 49, 50, 51, 52, 53, 54, 55, 56, 57, 58, 59, 60, 61, 62, 5, 63, 9, 64, 11, 65, 66, 67, 68, 69, 70, 71, 72, 73, 74, 75, 76, 77, 78, 79, 80, 81, 82, 83, 84, 85, 86, 87, 10, 88, 89, 90, 91, 92, 93, 94, 95, 96, 97, 98, 99, 100, 101, 102, 103, 104, 105, 106, 107, 108, 109, 110, 111, 112, 113, 114, 115, 116, 117, 118, 119, 120, 121, 122, 123, 124, 125, 126, 127, 128, 129, 130, 131, 132, 133, 134, 135, 136, 137, 138, 139, 140, 141, 142, 143, 144, 145, 146, 147, 148, 149, 150, 151, 152, 153, 154, 155, 156, 157, 158, 159, 160, 161, 162, 163, 164, 178, 179, 180, 181, 182, 183, 184, 185, 186, 187, 188, 189, 190, 191, 192, 193, 194, 195, 196, 197, 198, 199, 200, 201, 202, 203, 204, 205, 206, 207, 208, 209, 210, 211, 212, 213, 214, 215, 216, 217] rfl (by decide +kernel)
set_option maxRecDepth 20000 in
theorem gX3_refresh_X3_serveReached : GoodIn wsX3_refresh (wsV RX3 54 RX3 yX3_serveReached wsX3_serveReached) := goodIn_app (goodIn_of _ (by decide +kernel)) ggX3_refresh_X3_serveReached
set_option maxRecDepth 20000 in
theorem ggX3_refresh_X3_joinCalls : GoodIn wsX3_refresh wsX3_joinCalls := goodIn_r _ [168, 7, 39, 13, 12, 40, 41, 42, 17, 43, 44, 49, 50, 51, 52, 53, 54, 55, 56, 57, 58, 59, 178, 179, 180, 181, 182, 183, 184, 185, 186, 187, 188, 189, 190, 191, 192, 193, 194, 195, 196, 197, 198, 199, 200, 201, 202, 203, 204, 205, 206, 207] rfl (by decide +kernel)
set_option maxRecDepth 20000 in
theorem gX3_refresh_X3_joinCalls : GoodIn wsX3_refresh (wsV RX3 57 RX3 yX3_joinCalls wsX3_joinCalls) := goodIn_app (goodIn_of _ (by decide +kernel)) ggX3_refresh_X3_joinCalls
set_option maxRecDepth 20000 in
theorem ggX3_refresh_X3_closeCalls : GoodIn wsX3_refresh wsX3_closeCalls := goodIn_r _ [172, 13, 173, 174, 175, 176, 177, 7, 40, 41, 42, 17, 43, 44, 45, 46, 47, 48, 178, 179, 180, 181, 182, 183, 184, 185, 186, 187, 188, 189, 190, 191, 192, 193, 194, 195, 196, 197, 198, 199, 200, 201] rfl (by decide +kernel)
set_option maxRecDepth 20000 in
theorem gX3_refresh_X3_closeCalls : GoodIn wsX3_refresh (wsV RX3 60 RX3 yX3_closeCalls wsX3_closeCalls) := goodIn_app (goodIn_of _ (by decide +kernel)) ggX3_refresh_X3_closeCalls
theorem dX3_refresh_0 : decode cX3_refresh 0 = .ok (.aload_n 0, 1) := by decide +kernel
theorem dX3_refresh_1 : decode cX3_refresh 1 = .ok (.getfield 43, 3) := by decide +kernel
theorem dX3_refresh_4 : decode cX3_refresh 4 = .ok (.ifCond .eq 4, 3) := by decide +kernel
theorem dX3_refresh_7 : decode cX3_refresh 7 = .ok (.return_, 1) := by decide +kernel
theorem dX3_refresh_8 : decode cX3_refresh 8 = .ok (.aload_n 0, 1) := by decide +kernel
theorem dX3_refresh_9 : decode cX3_refresh 9 = .ok (.invokevirtual 47, 3) := by decide +kernel
theorem dX3_refresh_12 : decode cX3_refresh 12 = .ok (.iconst (-1), 1) := by decide +kernel
theorem dX3_refresh_13 : decode cX3_refresh 13 = .ok (.istore_n 1, 1) := by decide +kernel
theorem dX3_refresh_14 : decode cX3_refresh 14 = .ok (.iconst 0, 1) := by decide +kernel
theorem dX3_refresh_15 : decode cX3_refresh 15 = .ok (.istore_n 2, 1) := by decide +kernel
theorem dX3_refresh_16 : decode cX3_refresh 16 = .ok (.iload_n 2, 1) := by decide +kernel
theorem dX3_refresh_17 : decode cX3_refresh 17 = .ok (.sipush 273, 3) := by decide +kernel
theorem dX3_refresh_20 : decode cX3_refresh 20 = .ok (.if_icmp .ge 26, 3) := by decide +kernel
theorem dX3_refresh_23 : decode cX3_refresh 23 = .ok (.iload_n 1, 1) := by decide +kernel
theorem dX3_refresh_24 : decode cX3_refresh 24 = .ok (.aload_n 0, 1) := by decide +kernel
theorem dX3_refresh_25 : decode cX3_refresh 25 = .ok (.invokevirtual 50, 3) := by decide +kernel
theorem dX3_refresh_28 : decode cX3_refresh 28 = .ok (.if_icmp .eq 18, 3) := by decide +kernel
theorem dX3_refresh_31 : decode cX3_refresh 31 = .ok (.aload_n 0, 1) := by decide +kernel
theorem dX3_refresh_32 : decode cX3_refresh 32 = .ok (.invokevirtual 50, 3) := by decide +kernel
theorem dX3_refresh_35 : decode cX3_refresh 35 = .ok (.istore_n 1, 1) := by decide +kernel
theorem dX3_refresh_36 : decode cX3_refresh 36 = .ok (.aload_n 0, 1) := by decide +kernel
theorem dX3_refresh_37 : decode cX3_refresh 37 = .ok (.invokevirtual 54, 3) := by decide +kernel
theorem dX3_refresh_40 : decode cX3_refresh 40 = .ok (.iinc 2 1, 3) := by decide +kernel
theorem dX3_refresh_43 : decode cX3_refresh 43 = .ok (.goto (-27), 3) := by decide +kernel
theorem dX3_refresh_46 : decode cX3_refresh 46 = .ok (.aload_n 0, 1) := by decide +kernel
theorem dX3_refresh_47 : decode cX3_refresh 47 = .ok (.invokevirtual 57, 3) := by decide +kernel
theorem dX3_refresh_50 : decode cX3_refresh 50 = .ok (.aload_n 0, 1) := by decide +kernel
theorem dX3_refresh_51 : decode cX3_refresh 51 = .ok (.invokevirtual 60, 3) := by decide +kernel
theorem dX3_refresh_54 : decode cX3_refresh 54 = .ok (.aload_n 0, 1) := by decide +kernel
theorem dX3_refresh_55 : decode cX3_refresh 55 = .ok (.iconst 1, 1) := by decide +kernel
theorem dX3_refresh_56 : decode cX3_refresh 56 = .ok (.putfield 43, 3) := by decide +kernel
theorem dX3_refresh_59 : decode cX3_refresh 59 = .ok (.return_, 1) := by decide +kernel
set_option maxRecDepth 20000 in
theorem ggX3_clear_X4_roots : GoodIn wsX3_clear wsX4_roots := goodIn_r _ [12, 13, 31, 32, 33, 34, 35, 36, 37, 38, 39, 40, 41] rfl (by decide +kernel)
set_option maxRecDepth 20000 in
theorem gX3_clear_X4_roots : GoodIn wsX3_clear (wsV RX3 63 RX4 yX4_roots wsX4_roots) := goodIn_app (goodIn_of _ (by decide +kernel)) ggX3_clear_X4_roots
set_option maxRecDepth 20000 in
theorem ggX3_clear_J7_fill_d0a16 : GoodIn wsX3_clear wsJ7_fill_d0a16 := goodIn_r _ [17] rfl (by decide +kernel)
set_option maxRecDepth 20000 in
theorem gX3_clear_J7_fill_d0a16 : GoodIn wsX3_clear (va_wsS RX3 79 yJ7_fill_d0a16 wsJ7_fill_d0a16) := goodIn_app (goodIn_of _ (by decide +kernel)) ggX3_clear_J7_fill_d0a16
theorem dX3_clear_0 : decode cX3_clear 0 = .ok (.aload_n 0, 1) := by decide +kernel
theorem dX3_clear_1 : decode cX3_clear 1 = .ok (.aload_n 0, 1) := by decide +kernel
theorem dX3_clear_2 : decode cX3_clear 2 = .ok (.getfield 31, 3) := by decide +kernel
theorem dX3_clear_5 : decode cX3_clear 5 = .ok (.invokevirtual 63, 3) := by decide +kernel
theorem dX3_clear_8 : decode cX3_clear 8 = .ok (.putfield 69, 3) := by decide +kernel
theorem dX3_clear_11 : decode cX3_clear 11 = .ok (.aload_n 0, 1) := by decide +kernel
theorem dX3_clear_12 : decode cX3_clear 12 = .ok (.lconst 0, 1) := by decide +kernel
theorem dX3_clear_13 : decode cX3_clear 13 = .ok (.putfield 73, 3) := by decide +kernel
theorem dX3_clear_16 : decode cX3_clear 16 = .ok (.aload_n 0, 1) := by decide +kernel
theorem dX3_clear_17 : decode cX3_clear 17 = .ok (.lconst 0, 1) := by decide +kernel
theorem dX3_clear_18 : decode cX3_clear 18 = .ok (.putfield 76, 3) := by decide +kernel
theorem dX3_clear_21 : decode cX3_clear 21 = .ok (.aload_n 0, 1) := by decide +kernel
theorem dX3_clear_22 : decode cX3_clear 22 = .ok (.getfield 9, 3) := by decide +kernel
theorem dX3_clear_25 : decode cX3_clear 25 = .ok (.lconst 0, 1) := by decide +kernel
theorem dX3_clear_26 : decode cX3_clear 26 = .ok (.invokestatic 79, 3) := by decide +kernel
theorem dX3_clear_29 : decode cX3_clear 29 = .ok (.aload_n 0, 1) := by decide +kernel
theorem dX3_clear_30 : decode cX3_clear 30 = .ok (.getfield 15, 3) := by decide +kernel
theorem dX3_clear_33 : decode cX3_clear 33 = .ok (.lconst 0, 1) := by decide +kernel
theorem dX3_clear_34 : decode cX3_clear 34 = .ok (.invokestatic 79, 3) := by decide +kernel
theorem dX3_clear_37 : decode cX3_clear 37 = .ok (.aload_n 0, 1) := by decide +kernel
theorem dX3_clear_38 : decode cX3_clear 38 = .ok (.getfield 18, 3) := by decide +kernel
theorem dX3_clear_41 : decode cX3_clear 41 = .ok (.lconst 0, 1) := by decide +kernel
theorem dX3_clear_42 : decode cX3_clear 42 = .ok (.invokestatic 79, 3) := by decide +kernel
theorem dX3_clear_45 : decode cX3_clear 45 = .ok (.return_, 1) := by decide +kernel
set_option maxRecDepth 20000 in
theorem ggX3_sizeOfAll_J13_bitCount_95d88 : GoodIn wsX3_sizeOfAll wsJ13_bitCount_95d88 := goodIn_r _ [8, 9, 10, 11] rfl (by decide +kernel)
set_option maxRecDepth 20000 in
theorem gX3_sizeOfAll_J13_bitCount_95d88 : GoodIn wsX3_sizeOfAll (va_wsS RX3 85 yJ13_bitCount_95d88 wsJ13_bitCount_95d88) := goodIn_app (goodIn_of _ (by decide +kernel)) ggX3_sizeOfAll_J13_bitCount_95d88
theorem dX3_sizeOfAll_0 : decode cX3_sizeOfAll 0 = .ok (.aload_n 0, 1) := by decide +kernel
theorem dX3_sizeOfAll_1 : decode cX3_sizeOfAll 1 = .ok (.getfield 69, 3) := by decide +kernel
theorem dX3_sizeOfAll_4 : decode cX3_sizeOfAll 4 = .ok (.invokestatic 85, 3) := by decide +kernel
theorem dX3_sizeOfAll_7 : decode cX3_sizeOfAll 7 = .ok (.aload_n 0, 1) := by decide +kernel
theorem dX3_sizeOfAll_8 : decode cX3_sizeOfAll 8 = .ok (.getfield 73, 3) := by decide +kernel
theorem dX3_sizeOfAll_11 : decode cX3_sizeOfAll 11 = .ok (.invokestatic 85, 3) := by decide +kernel
theorem dX3_sizeOfAll_14 : decode cX3_sizeOfAll 14 = .ok (.iadd, 1) := by decide +kernel
theorem dX3_sizeOfAll_15 : decode cX3_sizeOfAll 15 = .ok (.aload_n 0, 1) := by decide +kernel
theorem dX3_sizeOfAll_16 : decode cX3_sizeOfAll 16 = .ok (.getfield 76, 3) := by decide +kernel
theorem dX3_sizeOfAll_19 : decode cX3_sizeOfAll 19 = .ok (.invokestatic 85, 3) := by decide +kernel
theorem dX3_sizeOfAll_22 : decode cX3_sizeOfAll 22 = .ok (.iadd, 1) := by decide +kernel
theorem dX3_sizeOfAll_23 : decode cX3_sizeOfAll 23 = .ok (.istore_n 1, 1) := by decide +kernel
theorem dX3_sizeOfAll_24 : decode cX3_sizeOfAll 24 = .ok (.iconst 0, 1) := by decide +kernel
theorem dX3_sizeOfAll_25 : decode cX3_sizeOfAll 25 = .ok (.istore_n 2, 1) := by decide +kernel
theorem dX3_sizeOfAll_26 : decode cX3_sizeOfAll 26 = .ok (.iload_n 2, 1) := by decide +kernel
theorem dX3_sizeOfAll_27 : decode cX3_sizeOfAll 27 = .ok (.iconst 4, 1) := by decide +kernel
theorem dX3_sizeOfAll_28 : decode cX3_sizeOfAll 28 = .ok (.if_icmp .ge 21, 3) := by decide +kernel
theorem dX3_sizeOfAll_31 : decode cX3_sizeOfAll 31 = .ok (.iload_n 1, 1) := by decide +kernel
theorem dX3_sizeOfAll_32 : decode cX3_sizeOfAll 32 = .ok (.aload_n 0, 1) := by decide +kernel
theorem dX3_sizeOfAll_33 : decode cX3_sizeOfAll 33 = .ok (.getfield 9, 3) := by decide +kernel
theorem dX3_sizeOfAll_36 : decode cX3_sizeOfAll 36 = .ok (.iload_n 2, 1) := by decide +kernel
theorem dX3_sizeOfAll_37 : decode cX3_sizeOfAll 37 = .ok (.laload, 1) := by decide +kernel
theorem dX3_sizeOfAll_38 : decode cX3_sizeOfAll 38 = .ok (.invokestatic 85, 3) := by decide +kernel
theorem dX3_sizeOfAll_41 : decode cX3_sizeOfAll 41 = .ok (.iadd, 1) := by decide +kernel
theorem dX3_sizeOfAll_42 : decode cX3_sizeOfAll 42 = .ok (.istore_n 1, 1) := by decide +kernel
theorem dX3_sizeOfAll_43 : decode cX3_sizeOfAll 43 = .ok (.iinc 2 1, 3) := by decide +kernel
theorem dX3_sizeOfAll_46 : decode cX3_sizeOfAll 46 = .ok (.goto (-20), 3) := by decide +kernel
theorem dX3_sizeOfAll_49 : decode cX3_sizeOfAll 49 = .ok (.iload_n 1, 1) := by decide +kernel
theorem dX3_sizeOfAll_50 : decode cX3_sizeOfAll 50 = .ok (.ireturn, 1) := by decide +kernel
set_option maxRecDepth 20000 in
theorem ggX3_serveReached_X4_size : GoodIn wsX3_serveReached wsX4_size := goodIn_r _ [9, 10, 148, 149, 150, 151, 152, 153, 154, 155, 156, 157, 158] rfl (by decide +kernel)
set_option maxRecDepth 20000 in
theorem gX3_serveReached_X4_size : GoodIn wsX3_serveReached (wsV RX3 91 RX4 yX4_size wsX4_size) := goodIn_app (goodIn_of _ (by decide +kernel)) ggX3_serveReached_X4_size
set_option maxRecDepth 20000 in
theorem ggX3_serveReached_X0_has : GoodIn wsX3_serveReached wsX0_has := goodIn_r _ [14] rfl (by decide +kernel)
set_option maxRecDepth 20000 in
theorem gX3_serveReached_X0_has : GoodIn wsX3_serveReached (va_wsS RX3 94 yX0_has wsX0_has) := goodIn_app (goodIn_of _ (by decide +kernel)) ggX3_serveReached_X0_has
set_option maxRecDepth 20000 in
theorem ggX3_serveReached_X5_sizeOf : GoodIn wsX3_serveReached wsX5_sizeOf := goodIn_r _ [19, 20, 159, 160, 161, 162, 163, 164] rfl (by decide +kernel)
set_option maxRecDepth 20000 in
theorem gX3_serveReached_X5_sizeOf : GoodIn wsX3_serveReached (wsV RX3 100 RX5 yX5_sizeOf wsX5_sizeOf) := goodIn_app (goodIn_of _ (by decide +kernel)) ggX3_serveReached_X5_sizeOf
set_option maxRecDepth 20000 in
theorem ggX3_serveReached_X5_at : GoodIn wsX3_serveReached wsX5_at := goodIn_r _ [24, 25, 159, 160, 161, 162, 163, 164] rfl (by decide +kernel)
set_option maxRecDepth 20000 in
theorem gX3_serveReached_X5_at : GoodIn wsX3_serveReached (wsV RX3 106 RX5 yX5_at wsX5_at) := goodIn_app (goodIn_of _ (by decide +kernel)) ggX3_serveReached_X5_at
set_option maxRecDepth 20000 in
theorem ggX3_serveReached_X3_serve : GoodIn wsX3_serveReached wsX3_serve := goodIn_r _ [30, 3, 31, 32, 33, 4, 1, 34, 35, 36, 18, 37, 38, 39, 40, 41, 42, 43, 44, 45, 46, 47, 48, 49, 50, 13, 51, 52, 53, 54, 29, 55, 56, 57, 58, 59, 60, 8, 61, 62, 63, 64, 65, 66, 67, 68, 69, 70, 71, 72, 73, 74, 75, 76, 77, 78, 79, 80, 11, 12, 14, 81, 82, 83, 84, 85, 86, 87, 88, 89, 90, 91, 92, 93, 94, 95, 96, 97, 98, 99, 100, 101, 102, 103, 104, 105, 106, 107, 108, 109, 110, 111, 112, 113, 114, 115, 116, 117, 118, 119, 120, 121, 122, 123, 124, 125, 126, 127, 128, 129, 130, 131, 132, 133, 134, 135, 136, 137, 138, 139, 140, 141, 142, 143, 144, 145, 146, 147, 159, 160, 161, 162, 163, 164, 148, 149, 150, 151, 152, 153, 154, 155, 156, 157, 158, 165, 166, 167, 168, 169, 170, 171, 172, 173, 174] rfl (by decide +kernel)
set_option maxRecDepth 20000 in
theorem gX3_serveReached_X3_serve : GoodIn wsX3_serveReached (wsV RX3 110 RX3 yX3_serve wsX3_serve) := goodIn_app (goodIn_of _ (by decide +kernel)) ggX3_serveReached_X3_serve
theorem dX3_serveReached_0 : decode cX3_serveReached 0 = .ok (.iconst 0, 1) := by decide +kernel
theorem dX3_serveReached_1 : decode cX3_serveReached 1 = .ok (.istore_n 1, 1) := by decide +kernel
theorem dX3_serveReached_2 : decode cX3_serveReached 2 = .ok (.iload_n 1, 1) := by decide +kernel
theorem dX3_serveReached_3 : decode cX3_serveReached 3 = .ok (.aload_n 0, 1) := by decide +kernel
theorem dX3_serveReached_4 : decode cX3_serveReached 4 = .ok (.getfield 31, 3) := by decide +kernel
theorem dX3_serveReached_7 : decode cX3_serveReached 7 = .ok (.invokevirtual 91, 3) := by decide +kernel
theorem dX3_serveReached_10 : decode cX3_serveReached 10 = .ok (.if_icmp .ge 73, 3) := by decide +kernel
theorem dX3_serveReached_13 : decode cX3_serveReached 13 = .ok (.aload_n 0, 1) := by decide +kernel
theorem dX3_serveReached_14 : decode cX3_serveReached 14 = .ok (.getfield 69, 3) := by decide +kernel
theorem dX3_serveReached_17 : decode cX3_serveReached 17 = .ok (.iload_n 1, 1) := by decide +kernel
theorem dX3_serveReached_18 : decode cX3_serveReached 18 = .ok (.invokestatic 94, 3) := by decide +kernel
theorem dX3_serveReached_21 : decode cX3_serveReached 21 = .ok (.ifCond .ne 6, 3) := by decide +kernel
theorem dX3_serveReached_24 : decode cX3_serveReached 24 = .ok (.goto 53, 3) := by decide +kernel
theorem dX3_serveReached_27 : decode cX3_serveReached 27 = .ok (.iconst 0, 1) := by decide +kernel
theorem dX3_serveReached_28 : decode cX3_serveReached 28 = .ok (.istore_n 2, 1) := by decide +kernel
theorem dX3_serveReached_29 : decode cX3_serveReached 29 = .ok (.iload_n 2, 1) := by decide +kernel
theorem dX3_serveReached_30 : decode cX3_serveReached 30 = .ok (.aload_n 0, 1) := by decide +kernel
theorem dX3_serveReached_31 : decode cX3_serveReached 31 = .ok (.getfield 39, 3) := by decide +kernel
theorem dX3_serveReached_34 : decode cX3_serveReached 34 = .ok (.iload_n 1, 1) := by decide +kernel
theorem dX3_serveReached_35 : decode cX3_serveReached 35 = .ok (.invokevirtual 100, 3) := by decide +kernel
theorem dX3_serveReached_38 : decode cX3_serveReached 38 = .ok (.if_icmp .ge 39, 3) := by decide +kernel
theorem dX3_serveReached_41 : decode cX3_serveReached 41 = .ok (.aload_n 0, 1) := by decide +kernel
theorem dX3_serveReached_42 : decode cX3_serveReached 42 = .ok (.getfield 39, 3) := by decide +kernel
theorem dX3_serveReached_45 : decode cX3_serveReached 45 = .ok (.iload_n 1, 1) := by decide +kernel
theorem dX3_serveReached_46 : decode cX3_serveReached 46 = .ok (.iload_n 2, 1) := by decide +kernel
theorem dX3_serveReached_47 : decode cX3_serveReached 47 = .ok (.invokevirtual 106, 3) := by decide +kernel
theorem dX3_serveReached_50 : decode cX3_serveReached 50 = .ok (.istore_n 3, 1) := by decide +kernel
theorem dX3_serveReached_51 : decode cX3_serveReached 51 = .ok (.aload_n 0, 1) := by decide +kernel
theorem dX3_serveReached_52 : decode cX3_serveReached 52 = .ok (.iload_n 3, 1) := by decide +kernel
theorem dX3_serveReached_53 : decode cX3_serveReached 53 = .ok (.invokevirtual 110, 3) := by decide +kernel
theorem dX3_serveReached_56 : decode cX3_serveReached 56 = .ok (.aload_n 0, 1) := by decide +kernel
theorem dX3_serveReached_57 : decode cX3_serveReached 57 = .ok (.dup, 1) := by decide +kernel
theorem dX3_serveReached_58 : decode cX3_serveReached 58 = .ok (.getfield 69, 3) := by decide +kernel
theorem dX3_serveReached_61 : decode cX3_serveReached 61 = .ok (.aload_n 0, 1) := by decide +kernel
theorem dX3_serveReached_62 : decode cX3_serveReached 62 = .ok (.getfield 15, 3) := by decide +kernel
theorem dX3_serveReached_65 : decode cX3_serveReached 65 = .ok (.iload_n 3, 1) := by decide +kernel
theorem dX3_serveReached_66 : decode cX3_serveReached 66 = .ok (.laload, 1) := by decide +kernel
theorem dX3_serveReached_67 : decode cX3_serveReached 67 = .ok (.lor, 1) := by decide +kernel
theorem dX3_serveReached_68 : decode cX3_serveReached 68 = .ok (.putfield 69, 3) := by decide +kernel
theorem dX3_serveReached_71 : decode cX3_serveReached 71 = .ok (.iinc 2 1, 3) := by decide +kernel
theorem dX3_serveReached_74 : decode cX3_serveReached 74 = .ok (.goto (-45), 3) := by decide +kernel
theorem dX3_serveReached_77 : decode cX3_serveReached 77 = .ok (.iinc 1 1, 3) := by decide +kernel
theorem dX3_serveReached_80 : decode cX3_serveReached 80 = .ok (.goto (-78), 3) := by decide +kernel
theorem dX3_serveReached_83 : decode cX3_serveReached 83 = .ok (.return_, 1) := by decide +kernel
set_option maxRecDepth 20000 in
theorem ggX3_serve_X5_a : GoodIn wsX3_serve wsX5_a := goodIn_r _ [11, 12, 128, 129, 130, 131, 132, 133] rfl (by decide +kernel)
set_option maxRecDepth 20000 in
theorem gX3_serve_X5_a : GoodIn wsX3_serve (wsV RX3 114 RX5 yX5_a wsX5_a) := goodIn_app (goodIn_of _ (by decide +kernel)) ggX3_serve_X5_a
set_option maxRecDepth 20000 in
theorem ggX3_serve_X5_b : GoodIn wsX3_serve wsX5_b := goodIn_r _ [16, 17, 128, 129, 130, 131, 132, 133] rfl (by decide +kernel)
set_option maxRecDepth 20000 in
theorem gX3_serve_X5_b : GoodIn wsX3_serve (wsV RX3 117 RX5 yX5_b wsX5_b) := goodIn_app (goodIn_of _ (by decide +kernel)) ggX3_serve_X5_b
set_option maxRecDepth 20000 in
theorem ggX3_serve_X5_kindOf : GoodIn wsX3_serve wsX5_kindOf := goodIn_r _ [21, 22, 128, 129, 130, 131, 132, 133] rfl (by decide +kernel)
set_option maxRecDepth 20000 in
theorem gX3_serve_X5_kindOf : GoodIn wsX3_serve (wsV RX3 120 RX5 yX5_kindOf wsX5_kindOf) := goodIn_app (goodIn_of _ (by decide +kernel)) ggX3_serve_X5_kindOf
set_option maxRecDepth 20000 in
theorem ggX3_serve_X0_with : GoodIn wsX3_serve wsX0_with := goodIn_r _ [26] rfl (by decide +kernel)
set_option maxRecDepth 20000 in
theorem gX3_serve_X0_with : GoodIn wsX3_serve (va_wsS RX3 123 yX0_with wsX0_with) := goodIn_app (goodIn_of _ (by decide +kernel)) ggX3_serve_X0_with
set_option maxRecDepth 20000 in
theorem ggX3_serve_X3_begin : GoodIn wsX3_serve wsX3_begin := goodIn_r _ [31, 6, 32, 33, 34, 35, 36, 37, 38, 39, 40, 41, 42, 43, 44, 45, 46, 47, 48, 49, 50, 51, 52, 23, 24, 25, 26, 53, 54, 55, 56, 57, 58, 59, 60, 61, 62, 63, 64, 65, 66, 67, 68, 30, 69, 5, 115, 116, 117, 118, 119, 120, 121, 122, 123, 124, 125, 126, 127, 134, 135, 136, 137, 138, 139, 140, 141, 142, 143, 144, 145, 146, 147, 148, 149, 150] rfl (by decide +kernel)
set_option maxRecDepth 20000 in
theorem gX3_serve_X3_begin : GoodIn wsX3_serve (wsV RX3 127 RX3 yX3_begin wsX3_begin) := goodIn_app (goodIn_of _ (by decide +kernel)) ggX3_serve_X3_begin
set_option maxRecDepth 20000 in
theorem ggX3_serve_X3_serveMade : GoodIn wsX3_serve wsX3_serveMade := goodIn_r _ [73, 32, 2, 3, 74, 75, 76, 44, 77, 78, 58, 59, 25, 60, 79, 80, 81, 82, 51, 83, 84, 85, 86, 87, 88, 89, 90, 91, 92, 93, 94, 37, 95, 96, 66, 67, 68, 30, 69, 5, 115, 116, 117, 118, 119, 120, 121, 122, 123, 124, 125, 126, 127, 145, 146, 147, 148, 149, 150, 151, 152, 153, 154, 134, 135, 136, 137, 138, 139, 140, 141, 142, 143, 144] rfl (by decide +kernel)
set_option maxRecDepth 20000 in
theorem gX3_serve_X3_serveMade : GoodIn wsX3_serve (wsV RX3 131 RX3 yX3_serveMade wsX3_serveMade) := goodIn_app (goodIn_of _ (by decide +kernel)) ggX3_serve_X3_serveMade
set_option maxRecDepth 20000 in
theorem ggX3_serve_X1_choose : GoodIn wsX3_serve wsX1_choose := goodIn_r _ [88, 89, 90, 91, 92, 93, 94, 37, 95, 96, 151, 152, 153, 154, 134, 135, 136, 137, 138, 139, 140, 141, 142, 143, 144] rfl (by decide +kernel)
set_option maxRecDepth 20000 in
theorem gX3_serve_X1_choose : GoodIn wsX3_serve (wsV RX3 135 RX1 yX1_choose wsX1_choose) := goodIn_app (goodIn_of _ (by decide +kernel)) ggX3_serve_X1_choose
set_option maxRecDepth 20000 in
theorem ggX3_serve_X3_addCallee : GoodIn wsX3_serve wsX3_addCallee := goodIn_r _ [69, 5, 115, 116, 117, 118, 119, 120, 121, 122, 123, 124, 125, 126, 127] rfl (by decide +kernel)
set_option maxRecDepth 20000 in
theorem gX3_serve_X3_addCallee : GoodIn wsX3_serve (wsV RX3 141 RX3 yX3_addCallee wsX3_addCallee) := goodIn_app (goodIn_of _ (by decide +kernel)) ggX3_serve_X3_addCallee
set_option maxRecDepth 20000 in
theorem ggX3_serve_X1_chooseStatic : GoodIn wsX3_serve wsX1_chooseStatic := goodIn_r _ [100, 89, 90, 92, 93, 94, 37, 95, 96, 151, 152, 153, 154, 134, 135, 136, 137, 138, 139, 140, 141, 142, 143, 144] rfl (by decide +kernel)
set_option maxRecDepth 20000 in
theorem gX3_serve_X1_chooseStatic : GoodIn wsX3_serve (wsV RX3 144 RX1 yX1_chooseStatic wsX1_chooseStatic) := goodIn_app (goodIn_of _ (by decide +kernel)) ggX3_serve_X1_chooseStatic
set_option maxRecDepth 20000 in
theorem ggX3_serve_X3_serveStatic : GoodIn wsX3_serve wsX3_serveStatic := goodIn_r _ [104, 6, 66, 67, 68, 30, 69, 5, 105, 106, 107, 37, 108, 109, 27, 28, 29, 31, 32, 33, 34, 35, 36, 38, 39, 40, 41, 42, 43, 44, 45, 46, 47, 48, 49, 50, 51, 52, 23, 24, 25, 26, 53, 54, 55, 56, 57, 58, 59, 60, 61, 62, 63, 64, 65, 115, 116, 117, 118, 119, 120, 121, 122, 123, 124, 125, 126, 127, 134, 135, 136, 137, 138, 139, 140, 141, 142, 143, 144, 145, 146, 147, 148, 149, 150] rfl (by decide +kernel)
set_option maxRecDepth 20000 in
theorem gX3_serve_X3_serveStatic : GoodIn wsX3_serve (wsV RX3 147 RX3 yX3_serveStatic wsX3_serveStatic) := goodIn_app (goodIn_of _ (by decide +kernel)) ggX3_serve_X3_serveStatic
set_option maxRecDepth 20000 in
theorem ggX3_serve_X4_handlesOf : GoodIn wsX3_serve wsX4_handlesOf := goodIn_r _ [113, 114, 134, 135, 136, 137, 138, 139, 140, 141, 142, 143, 144] rfl (by decide +kernel)
set_option maxRecDepth 20000 in
theorem gX3_serve_X4_handlesOf : GoodIn wsX3_serve (wsV RX3 150 RX4 yX4_handlesOf wsX4_handlesOf) := goodIn_app (goodIn_of _ (by decide +kernel)) ggX3_serve_X4_handlesOf
theorem dX3_serve_0 : decode cX3_serve 0 = .ok (.aload_n 0, 1) := by decide +kernel
theorem dX3_serve_1 : decode cX3_serve 1 = .ok (.getfield 39, 3) := by decide +kernel
theorem dX3_serve_4 : decode cX3_serve 4 = .ok (.iload_n 1, 1) := by decide +kernel
theorem dX3_serve_5 : decode cX3_serve 5 = .ok (.invokevirtual 114, 3) := by decide +kernel
theorem dX3_serve_8 : decode cX3_serve 8 = .ok (.istore_n 2, 1) := by decide +kernel
theorem dX3_serve_9 : decode cX3_serve 9 = .ok (.aload_n 0, 1) := by decide +kernel
theorem dX3_serve_10 : decode cX3_serve 10 = .ok (.getfield 39, 3) := by decide +kernel
theorem dX3_serve_13 : decode cX3_serve 13 = .ok (.iload_n 1, 1) := by decide +kernel
theorem dX3_serve_14 : decode cX3_serve 14 = .ok (.invokevirtual 117, 3) := by decide +kernel
theorem dX3_serve_17 : decode cX3_serve 17 = .ok (.istore_n 3, 1) := by decide +kernel
theorem dX3_serve_18 : decode cX3_serve 18 = .ok (.aload_n 0, 1) := by decide +kernel
theorem dX3_serve_19 : decode cX3_serve 19 = .ok (.getfield 39, 3) := by decide +kernel
theorem dX3_serve_22 : decode cX3_serve 22 = .ok (.iload_n 1, 1) := by decide +kernel
theorem dX3_serve_23 : decode cX3_serve 23 = .ok (.invokevirtual 120, 3) := by decide +kernel
