theorem dX8_runCall_71 : decode cX8_runCall 71 = .ok (.if_icmp .ge 65, 3) := by decide +kernel
theorem dX8_runCall_74 : decode cX8_runCall 74 = .ok (.aload_n 0, 1) := by decide +kernel
theorem dX8_runCall_75 : decode cX8_runCall 75 = .ok (.aload_n 0, 1) := by decide +kernel
theorem dX8_runCall_76 : decode cX8_runCall 76 = .ok (.getfield 110, 3) := by decide +kernel
theorem dX8_runCall_79 : decode cX8_runCall 79 = .ok (.iload 5, 2) := by decide +kernel
theorem dX8_runCall_81 : decode cX8_runCall 81 = .ok (.iaload, 1) := by decide +kernel
theorem dX8_runCall_82 : decode cX8_runCall 82 = .ok (.iload_n 2, 1) := by decide +kernel
theorem dX8_runCall_83 : decode cX8_runCall 83 = .ok (.invokevirtual 166, 3) := by decide +kernel
theorem dX8_runCall_86 : decode cX8_runCall 86 = .ok (.ifCond .eq 44, 3) := by decide +kernel
theorem dX8_runCall_89 : decode cX8_runCall 89 = .ok (.iload 4, 2) := by decide +kernel
theorem dX8_runCall_91 : decode cX8_runCall 91 = .ok (.ifCond .ne 36, 3) := by decide +kernel
theorem dX8_runCall_94 : decode cX8_runCall 94 = .ok (.aload_n 0, 1) := by decide +kernel
theorem dX8_runCall_95 : decode cX8_runCall 95 = .ok (.aload_n 0, 1) := by decide +kernel
theorem dX8_runCall_96 : decode cX8_runCall 96 = .ok (.getfield 110, 3) := by decide +kernel
theorem dX8_runCall_99 : decode cX8_runCall 99 = .ok (.iload 5, 2) := by decide +kernel
theorem dX8_runCall_101 : decode cX8_runCall 101 = .ok (.iaload, 1) := by decide +kernel
theorem dX8_runCall_102 : decode cX8_runCall 102 = .ok (.iload_n 2, 1) := by decide +kernel
theorem dX8_runCall_103 : decode cX8_runCall 103 = .ok (.aload_n 0, 1) := by decide +kernel
theorem dX8_runCall_104 : decode cX8_runCall 104 = .ok (.getfield 47, 3) := by decide +kernel
theorem dX8_runCall_107 : decode cX8_runCall 107 = .ok (.iload_n 1, 1) := by decide +kernel
theorem dX8_runCall_108 : decode cX8_runCall 108 = .ok (.iaload, 1) := by decide +kernel
theorem dX8_runCall_109 : decode cX8_runCall 109 = .ok (.invokevirtual 179, 3) := by decide +kernel
theorem dX8_runCall_112 : decode cX8_runCall 112 = .ok (.istore 6, 2) := by decide +kernel
theorem dX8_runCall_114 : decode cX8_runCall 114 = .ok (.iload 6, 2) := by decide +kernel
theorem dX8_runCall_116 : decode cX8_runCall 116 = .ok (.ifCond .lt 11, 3) := by decide +kernel
theorem dX8_runCall_119 : decode cX8_runCall 119 = .ok (.aload_n 0, 1) := by decide +kernel
theorem dX8_runCall_120 : decode cX8_runCall 120 = .ok (.iconst 1, 1) := by decide +kernel
theorem dX8_runCall_121 : decode cX8_runCall 121 = .ok (.iload 6, 2) := by decide +kernel
theorem dX8_runCall_123 : decode cX8_runCall 123 = .ok (.iload_n 1, 1) := by decide +kernel
theorem dX8_runCall_124 : decode cX8_runCall 124 = .ok (.invokevirtual 265, 3) := by decide +kernel
theorem dX8_runCall_127 : decode cX8_runCall 127 = .ok (.iinc 4 (-1), 3) := by decide +kernel
theorem dX8_runCall_130 : decode cX8_runCall 130 = .ok (.iinc 5 1, 3) := by decide +kernel
theorem dX8_runCall_133 : decode cX8_runCall 133 = .ok (.goto (-68), 3) := by decide +kernel
theorem dX8_runCall_136 : decode cX8_runCall 136 = .ok (.return_, 1) := by decide +kernel
set_option maxRecDepth 20000 in
theorem ggX8_runAny_X8_canBeCalled : GoodIn wsX8_runAny wsX8_canBeCalled := goodIn_r _ [8] rfl (by decide +kernel)
set_option maxRecDepth 20000 in
theorem gX8_runAny_X8_canBeCalled : GoodIn wsX8_runAny (va_wsS RX8 153 yX8_canBeCalled wsX8_canBeCalled) := goodIn_app (goodIn_of _ (by decide +kernel)) ggX8_runAny_X8_canBeCalled
set_option maxRecDepth 20000 in
theorem ggX8_runAny_X8_draw : GoodIn wsX8_runAny wsX8_draw := goodIn_r _ [12, 13, 14, 15, 25, 26, 27, 28, 29, 30, 31, 32, 33, 34, 35, 36, 37, 38, 39, 40, 41, 42, 43, 44, 45, 46, 47, 48, 49, 50, 51, 52, 53, 54, 55, 56, 57, 58, 59, 60, 61, 62, 63, 64, 65, 66, 67, 68, 69, 70, 71, 72, 73, 74] rfl (by decide +kernel)
set_option maxRecDepth 20000 in
theorem gX8_runAny_X8_draw : GoodIn wsX8_runAny (wsV RX8 271 RX8 yX8_draw wsX8_draw) := goodIn_app (goodIn_of _ (by decide +kernel)) ggX8_runAny_X8_draw
set_option maxRecDepth 20000 in
theorem ggX8_runAny_X8_push : GoodIn wsX8_runAny wsX8_push := goodIn_r _ [19, 20, 21, 22, 23, 24, 25, 26, 27, 28, 29, 30, 31, 32, 33, 34, 35, 36, 37, 38, 39, 40, 41, 42, 43, 44, 45, 46, 47, 48, 49, 50, 51, 52, 53, 54, 55, 56, 57, 58, 59, 60, 61, 62, 63, 64, 65, 66, 67, 68, 69, 70, 71, 72, 73, 74] rfl (by decide +kernel)
set_option maxRecDepth 20000 in
theorem gX8_runAny_X8_push : GoodIn wsX8_runAny (wsV RX8 265 RX8 yX8_push wsX8_push) := goodIn_app (goodIn_of _ (by decide +kernel)) ggX8_runAny_X8_push
theorem dX8_runAny_0 : decode cX8_runAny 0 = .ok (.iconst 0, 1) := by decide +kernel
theorem dX8_runAny_1 : decode cX8_runAny 1 = .ok (.istore_n 2, 1) := by decide +kernel
theorem dX8_runAny_2 : decode cX8_runAny 2 = .ok (.iconst 0, 1) := by decide +kernel
theorem dX8_runAny_3 : decode cX8_runAny 3 = .ok (.istore_n 3, 1) := by decide +kernel
theorem dX8_runAny_4 : decode cX8_runAny 4 = .ok (.iload_n 3, 1) := by decide +kernel
theorem dX8_runAny_5 : decode cX8_runAny 5 = .ok (.aload_n 0, 1) := by decide +kernel
theorem dX8_runAny_6 : decode cX8_runAny 6 = .ok (.getfield 131, 3) := by decide +kernel
theorem dX8_runAny_9 : decode cX8_runAny 9 = .ok (.if_icmp .ge 44, 3) := by decide +kernel
theorem dX8_runAny_12 : decode cX8_runAny 12 = .ok (.iload_n 2, 1) := by decide +kernel
theorem dX8_runAny_13 : decode cX8_runAny 13 = .ok (.aload_n 0, 1) := by decide +kernel
theorem dX8_runAny_14 : decode cX8_runAny 14 = .ok (.getfield 25, 3) := by decide +kernel
theorem dX8_runAny_17 : decode cX8_runAny 17 = .ok (.iload_n 3, 1) := by decide +kernel
theorem dX8_runAny_18 : decode cX8_runAny 18 = .ok (.iaload, 1) := by decide +kernel
theorem dX8_runAny_19 : decode cX8_runAny 19 = .ok (.aload_n 0, 1) := by decide +kernel
theorem dX8_runAny_20 : decode cX8_runAny 20 = .ok (.getfield 47, 3) := by decide +kernel
theorem dX8_runAny_23 : decode cX8_runAny 23 = .ok (.iload_n 1, 1) := by decide +kernel
theorem dX8_runAny_24 : decode cX8_runAny 24 = .ok (.iaload, 1) := by decide +kernel
theorem dX8_runAny_25 : decode cX8_runAny 25 = .ok (.if_icmp .ne 19, 3) := by decide +kernel
theorem dX8_runAny_28 : decode cX8_runAny 28 = .ok (.aload_n 0, 1) := by decide +kernel
theorem dX8_runAny_29 : decode cX8_runAny 29 = .ok (.getfield 28, 3) := by decide +kernel
theorem dX8_runAny_32 : decode cX8_runAny 32 = .ok (.iload_n 3, 1) := by decide +kernel
theorem dX8_runAny_33 : decode cX8_runAny 33 = .ok (.iaload, 1) := by decide +kernel
theorem dX8_runAny_34 : decode cX8_runAny 34 = .ok (.invokestatic 153, 3) := by decide +kernel
theorem dX8_runAny_37 : decode cX8_runAny 37 = .ok (.ifCond .eq 7, 3) := by decide +kernel
theorem dX8_runAny_40 : decode cX8_runAny 40 = .ok (.iconst 1, 1) := by decide +kernel
theorem dX8_runAny_41 : decode cX8_runAny 41 = .ok (.goto 4, 3) := by decide +kernel
theorem dX8_runAny_44 : decode cX8_runAny 44 = .ok (.iconst 0, 1) := by decide +kernel
theorem dX8_runAny_45 : decode cX8_runAny 45 = .ok (.iadd, 1) := by decide +kernel
theorem dX8_runAny_46 : decode cX8_runAny 46 = .ok (.istore_n 2, 1) := by decide +kernel
theorem dX8_runAny_47 : decode cX8_runAny 47 = .ok (.iinc 3 1, 3) := by decide +kernel
theorem dX8_runAny_50 : decode cX8_runAny 50 = .ok (.goto (-46), 3) := by decide +kernel
theorem dX8_runAny_53 : decode cX8_runAny 53 = .ok (.iload_n 2, 1) := by decide +kernel
theorem dX8_runAny_54 : decode cX8_runAny 54 = .ok (.ifCond .ne 7, 3) := by decide +kernel
theorem dX8_runAny_57 : decode cX8_runAny 57 = .ok (.iconst (-1), 1) := by decide +kernel
theorem dX8_runAny_58 : decode cX8_runAny 58 = .ok (.goto 8, 3) := by decide +kernel
theorem dX8_runAny_61 : decode cX8_runAny 61 = .ok (.aload_n 0, 1) := by decide +kernel
theorem dX8_runAny_62 : decode cX8_runAny 62 = .ok (.iload_n 2, 1) := by decide +kernel
theorem dX8_runAny_63 : decode cX8_runAny 63 = .ok (.invokevirtual 271, 3) := by decide +kernel
theorem dX8_runAny_66 : decode cX8_runAny 66 = .ok (.istore_n 3, 1) := by decide +kernel
theorem dX8_runAny_67 : decode cX8_runAny 67 = .ok (.iconst 0, 1) := by decide +kernel
theorem dX8_runAny_68 : decode cX8_runAny 68 = .ok (.istore 4, 2) := by decide +kernel
theorem dX8_runAny_70 : decode cX8_runAny 70 = .ok (.iload 4, 2) := by decide +kernel
theorem dX8_runAny_72 : decode cX8_runAny 72 = .ok (.aload_n 0, 1) := by decide +kernel
theorem dX8_runAny_73 : decode cX8_runAny 73 = .ok (.getfield 131, 3) := by decide +kernel
theorem dX8_runAny_76 : decode cX8_runAny 76 = .ok (.if_icmp .ge 57, 3) := by decide +kernel
theorem dX8_runAny_79 : decode cX8_runAny 79 = .ok (.iload_n 2, 1) := by decide +kernel
theorem dX8_runAny_80 : decode cX8_runAny 80 = .ok (.ifCond .le 53, 3) := by decide +kernel
theorem dX8_runAny_83 : decode cX8_runAny 83 = .ok (.aload_n 0, 1) := by decide +kernel
theorem dX8_runAny_84 : decode cX8_runAny 84 = .ok (.getfield 25, 3) := by decide +kernel
theorem dX8_runAny_87 : decode cX8_runAny 87 = .ok (.iload 4, 2) := by decide +kernel
theorem dX8_runAny_89 : decode cX8_runAny 89 = .ok (.iaload, 1) := by decide +kernel
theorem dX8_runAny_90 : decode cX8_runAny 90 = .ok (.aload_n 0, 1) := by decide +kernel
theorem dX8_runAny_91 : decode cX8_runAny 91 = .ok (.getfield 47, 3) := by decide +kernel
theorem dX8_runAny_94 : decode cX8_runAny 94 = .ok (.iload_n 1, 1) := by decide +kernel
theorem dX8_runAny_95 : decode cX8_runAny 95 = .ok (.iaload, 1) := by decide +kernel
theorem dX8_runAny_96 : decode cX8_runAny 96 = .ok (.if_icmp .ne 31, 3) := by decide +kernel
theorem dX8_runAny_99 : decode cX8_runAny 99 = .ok (.aload_n 0, 1) := by decide +kernel
theorem dX8_runAny_100 : decode cX8_runAny 100 = .ok (.getfield 28, 3) := by decide +kernel
theorem dX8_runAny_103 : decode cX8_runAny 103 = .ok (.iload 4, 2) := by decide +kernel
theorem dX8_runAny_105 : decode cX8_runAny 105 = .ok (.iaload, 1) := by decide +kernel
theorem dX8_runAny_106 : decode cX8_runAny 106 = .ok (.invokestatic 153, 3) := by decide +kernel
theorem dX8_runAny_109 : decode cX8_runAny 109 = .ok (.ifCond .eq 18, 3) := by decide +kernel
theorem dX8_runAny_112 : decode cX8_runAny 112 = .ok (.iload_n 3, 1) := by decide +kernel
theorem dX8_runAny_113 : decode cX8_runAny 113 = .ok (.ifCond .ne 11, 3) := by decide +kernel
theorem dX8_runAny_116 : decode cX8_runAny 116 = .ok (.aload_n 0, 1) := by decide +kernel
theorem dX8_runAny_117 : decode cX8_runAny 117 = .ok (.iconst 1, 1) := by decide +kernel
theorem dX8_runAny_118 : decode cX8_runAny 118 = .ok (.iload 4, 2) := by decide +kernel
theorem dX8_runAny_120 : decode cX8_runAny 120 = .ok (.iload_n 1, 1) := by decide +kernel
theorem dX8_runAny_121 : decode cX8_runAny 121 = .ok (.invokevirtual 265, 3) := by decide +kernel
theorem dX8_runAny_124 : decode cX8_runAny 124 = .ok (.iinc 3 (-1), 3) := by decide +kernel
theorem dX8_runAny_127 : decode cX8_runAny 127 = .ok (.iinc 4 1, 3) := by decide +kernel
theorem dX8_runAny_130 : decode cX8_runAny 130 = .ok (.goto (-60), 3) := by decide +kernel
theorem dX8_runAny_133 : decode cX8_runAny 133 = .ok (.return_, 1) := by decide +kernel
set_option maxRecDepth 20000 in
theorem ggX8_runOp_X8_push : GoodIn wsX8_runOp wsX8_push := goodIn_r _ [12, 13, 14, 15, 16, 17, 78, 79, 80, 81, 82, 83, 84, 85, 86, 87, 88, 89, 90, 91, 92, 93, 94, 95, 96, 97, 98, 99, 100, 101, 102, 103, 104, 105, 106, 107, 108, 109, 110, 111, 112, 113, 114, 115, 116, 117, 118, 119, 120, 121, 122, 123, 124, 125, 126, 127] rfl (by decide +kernel)
set_option maxRecDepth 20000 in
theorem gX8_runOp_X8_push : GoodIn wsX8_runOp (wsV RX8 265 RX8 yX8_push wsX8_push) := goodIn_app (goodIn_of _ (by decide +kernel)) ggX8_runOp_X8_push
set_option maxRecDepth 20000 in
theorem ggX8_runOp_X8_chosenOf : GoodIn wsX8_runOp wsX8_chosenOf := goodIn_r _ [21, 4, 22, 23, 24, 11, 25, 26, 27, 28, 29, 30, 31, 32, 33, 5, 34, 35, 36, 37, 38, 39, 40, 41, 42, 43, 44, 45, 46, 47, 48, 49, 50, 51, 52, 53, 54, 55, 56, 57, 78, 79, 80, 81, 82, 83, 84, 85, 86, 87, 88, 89, 90, 91, 92, 93, 94, 95, 96, 97, 98, 99, 100, 101, 102, 103, 104, 105, 106, 107, 108, 109, 110, 111, 112, 113, 114, 115, 116, 117, 118, 119, 120, 121, 122, 123, 124, 125, 126, 127] rfl (by decide +kernel)
set_option maxRecDepth 20000 in
theorem gX8_runOp_X8_chosenOf : GoodIn wsX8_runOp (wsV RX8 179 RX8 yX8_chosenOf wsX8_chosenOf) := goodIn_app (goodIn_of _ (by decide +kernel)) ggX8_runOp_X8_chosenOf
set_option maxRecDepth 20000 in
theorem ggX8_runOp_X8_find : GoodIn wsX8_runOp wsX8_find := goodIn_r _ [25, 26, 27, 28, 29, 4, 30, 31, 32, 11, 33, 5, 34, 35, 36, 37, 38, 39, 40, 41, 42, 43, 44, 45, 46, 47, 48, 49, 50, 51, 52, 53, 78, 79, 80, 81, 82, 83, 84, 85, 86, 87, 88, 89, 90, 91, 92, 93, 94, 95, 96, 97, 98, 99, 100, 101, 102, 103, 104, 105, 106, 107, 108, 109, 110, 111, 112, 113, 114, 115, 116, 117, 118, 119, 120, 121, 122, 123, 124, 125, 126, 127] rfl (by decide +kernel)
set_option maxRecDepth 20000 in
theorem gX8_runOp_X8_find : GoodIn wsX8_runOp (wsV RX8 173 RX8 yX8_find wsX8_find) := goodIn_app (goodIn_of _ (by decide +kernel)) ggX8_runOp_X8_find
set_option maxRecDepth 20000 in
theorem ggX8_runOp_X8_draw : GoodIn wsX8_runOp wsX8_draw := goodIn_r _ [61, 62, 63, 64, 78, 79, 80, 81, 82, 83, 84, 85, 86, 87, 88, 89, 90, 91, 92, 93, 94, 95, 96, 97, 98, 99, 100, 101, 102, 103, 104, 105, 106, 107, 108, 109, 110, 111, 112, 113, 114, 115, 116, 117, 118, 119, 120, 121, 122, 123, 124, 125, 126, 127] rfl (by decide +kernel)
set_option maxRecDepth 20000 in
theorem gX8_runOp_X8_draw : GoodIn wsX8_runOp (wsV RX8 271 RX8 yX8_draw wsX8_draw) := goodIn_app (goodIn_of _ (by decide +kernel)) ggX8_runOp_X8_draw
set_option maxRecDepth 20000 in
theorem ggX8_runOp_X8_runAny : GoodIn wsX8_runOp wsX8_runAny := goodIn_r _ [68, 28, 34, 2, 4, 69, 70, 11, 71, 58, 59, 60, 61, 62, 63, 64, 8, 9, 10, 12, 13, 14, 15, 16, 17, 78, 79, 80, 81, 82, 83, 84, 85, 86, 87, 88, 89, 90, 91, 92, 93, 94, 95, 96, 97, 98, 99, 100, 101, 102, 103, 104, 105, 106, 107, 108, 109, 110, 111, 112, 113, 114, 115, 116, 117, 118, 119, 120, 121, 122, 123, 124, 125, 126, 127] rfl (by decide +kernel)
set_option maxRecDepth 20000 in
theorem gX8_runOp_X8_runAny : GoodIn wsX8_runOp (wsV RX8 274 RX8 yX8_runAny wsX8_runAny) := goodIn_app (goodIn_of _ (by decide +kernel)) ggX8_runOp_X8_runAny
set_option maxRecDepth 20000 in
theorem ggX8_runOp_X8_runCall : GoodIn wsX8_runOp wsX8_runCall := goodIn_r _ [75, 1, 76, 77, 2, 41, 42, 43, 11, 44, 45, 40, 46, 47, 48, 49, 50, 51, 27, 52, 53, 58, 59, 60, 61, 62, 63, 64, 18, 19, 20, 21, 4, 22, 23, 24, 25, 26, 28, 29, 30, 31, 32, 33, 5, 34, 35, 36, 37, 38, 39, 54, 55, 56, 57, 8, 9, 10, 12, 13, 14, 15, 16, 17, 78, 79, 80, 81, 82, 83, 84, 85, 86, 87, 88, 89, 90, 91, 92, 93, 94, 95, 96, 97, 98, 99, 100, 101, 102, 103, 104, 105, 106, 107, 108, 109, 110, 111, 112, 113, 114, 115, 116, 117, 118, 119, 120, 121, 122, 123, 124, 125, 126, 127] rfl (by decide +kernel)
set_option maxRecDepth 20000 in
theorem gX8_runOp_X8_runCall : GoodIn wsX8_runOp (wsV RX8 277 RX8 yX8_runCall wsX8_runCall) := goodIn_app (goodIn_of _ (by decide +kernel)) ggX8_runOp_X8_runCall
theorem dX8_runOp_0 : decode cX8_runOp 0 = .ok (.aload_n 0, 1) := by decide +kernel
theorem dX8_runOp_1 : decode cX8_runOp 1 = .ok (.getfield 44, 3) := by decide +kernel
theorem dX8_runOp_4 : decode cX8_runOp 4 = .ok (.iload_n 1, 1) := by decide +kernel
theorem dX8_runOp_5 : decode cX8_runOp 5 = .ok (.iaload, 1) := by decide +kernel
theorem dX8_runOp_6 : decode cX8_runOp 6 = .ok (.istore_n 2, 1) := by decide +kernel
theorem dX8_runOp_7 : decode cX8_runOp 7 = .ok (.aload_n 0, 1) := by decide +kernel
theorem dX8_runOp_8 : decode cX8_runOp 8 = .ok (.getfield 47, 3) := by decide +kernel
theorem dX8_runOp_11 : decode cX8_runOp 11 = .ok (.iload_n 1, 1) := by decide +kernel
theorem dX8_runOp_12 : decode cX8_runOp 12 = .ok (.iaload, 1) := by decide +kernel
theorem dX8_runOp_13 : decode cX8_runOp 13 = .ok (.istore_n 3, 1) := by decide +kernel
theorem dX8_runOp_14 : decode cX8_runOp 14 = .ok (.iconst (-1), 1) := by decide +kernel
theorem dX8_runOp_15 : decode cX8_runOp 15 = .ok (.istore 4, 2) := by decide +kernel
theorem dX8_runOp_17 : decode cX8_runOp 17 = .ok (.aload_n 0, 1) := by decide +kernel
theorem dX8_runOp_18 : decode cX8_runOp 18 = .ok (.getfield 41, 3) := by decide +kernel
theorem dX8_runOp_21 : decode cX8_runOp 21 = .ok (.iload_n 1, 1) := by decide +kernel
theorem dX8_runOp_22 : decode cX8_runOp 22 = .ok (.iaload, 1) := by decide +kernel
theorem dX8_runOp_23 : decode cX8_runOp 23 = .ok (.tableswitch 268 0 7 #[45, 268, 62, 87, 268, 136, 222, 260], 45) := by decide +kernel
theorem dX8_runOp_68 : decode cX8_runOp 68 = .ok (.aload_n 0, 1) := by decide +kernel
theorem dX8_runOp_69 : decode cX8_runOp 69 = .ok (.iconst 3, 1) := by decide +kernel
theorem dX8_runOp_70 : decode cX8_runOp 70 = .ok (.iload_n 2, 1) := by decide +kernel
theorem dX8_runOp_71 : decode cX8_runOp 71 = .ok (.iload_n 1, 1) := by decide +kernel
theorem dX8_runOp_72 : decode cX8_runOp 72 = .ok (.invokevirtual 265, 3) := by decide +kernel
theorem dX8_runOp_75 : decode cX8_runOp 75 = .ok (.aload_n 0, 1) := by decide +kernel
theorem dX8_runOp_76 : decode cX8_runOp 76 = .ok (.iconst 2, 1) := by decide +kernel
theorem dX8_runOp_77 : decode cX8_runOp 77 = .ok (.iload_n 2, 1) := by decide +kernel
theorem dX8_runOp_78 : decode cX8_runOp 78 = .ok (.iload_n 1, 1) := by decide +kernel
theorem dX8_runOp_79 : decode cX8_runOp 79 = .ok (.invokevirtual 265, 3) := by decide +kernel
theorem dX8_runOp_82 : decode cX8_runOp 82 = .ok (.goto 214, 3) := by decide +kernel
theorem dX8_runOp_85 : decode cX8_runOp 85 = .ok (.aload_n 0, 1) := by decide +kernel
theorem dX8_runOp_86 : decode cX8_runOp 86 = .ok (.iload_n 2, 1) := by decide +kernel
theorem dX8_runOp_87 : decode cX8_runOp 87 = .ok (.iload_n 2, 1) := by decide +kernel
theorem dX8_runOp_88 : decode cX8_runOp 88 = .ok (.iload_n 3, 1) := by decide +kernel
theorem dX8_runOp_89 : decode cX8_runOp 89 = .ok (.invokevirtual 179, 3) := by decide +kernel
theorem dX8_runOp_92 : decode cX8_runOp 92 = .ok (.istore 4, 2) := by decide +kernel
theorem dX8_runOp_94 : decode cX8_runOp 94 = .ok (.iload 4, 2) := by decide +kernel
theorem dX8_runOp_96 : decode cX8_runOp 96 = .ok (.ifCond .lt 200, 3) := by decide +kernel
theorem dX8_runOp_99 : decode cX8_runOp 99 = .ok (.aload_n 0, 1) := by decide +kernel
theorem dX8_runOp_100 : decode cX8_runOp 100 = .ok (.iconst 1, 1) := by decide +kernel
theorem dX8_runOp_101 : decode cX8_runOp 101 = .ok (.iload 4, 2) := by decide +kernel
theorem dX8_runOp_103 : decode cX8_runOp 103 = .ok (.iload_n 1, 1) := by decide +kernel
theorem dX8_runOp_104 : decode cX8_runOp 104 = .ok (.invokevirtual 265, 3) := by decide +kernel
theorem dX8_runOp_107 : decode cX8_runOp 107 = .ok (.goto 189, 3) := by decide +kernel
theorem dX8_runOp_110 : decode cX8_runOp 110 = .ok (.aload_n 0, 1) := by decide +kernel
theorem dX8_runOp_111 : decode cX8_runOp 111 = .ok (.iload_n 2, 1) := by decide +kernel
theorem dX8_runOp_112 : decode cX8_runOp 112 = .ok (.iload_n 3, 1) := by decide +kernel
theorem dX8_runOp_113 : decode cX8_runOp 113 = .ok (.invokevirtual 173, 3) := by decide +kernel
theorem dX8_runOp_116 : decode cX8_runOp 116 = .ok (.istore 4, 2) := by decide +kernel
theorem dX8_runOp_118 : decode cX8_runOp 118 = .ok (.iload 4, 2) := by decide +kernel
theorem dX8_runOp_120 : decode cX8_runOp 120 = .ok (.iconst (-1), 1) := by decide +kernel
theorem dX8_runOp_121 : decode cX8_runOp 121 = .ok (.if_icmp .eq 175, 3) := by decide +kernel
theorem dX8_runOp_124 : decode cX8_runOp 124 = .ok (.aload_n 0, 1) := by decide +kernel
theorem dX8_runOp_125 : decode cX8_runOp 125 = .ok (.getfield 28, 3) := by decide +kernel
theorem dX8_runOp_128 : decode cX8_runOp 128 = .ok (.iload 4, 2) := by decide +kernel
theorem dX8_runOp_130 : decode cX8_runOp 130 = .ok (.iaload, 1) := by decide +kernel
theorem dX8_runOp_131 : decode cX8_runOp 131 = .ok (.iconst 2, 1) := by decide +kernel
theorem dX8_runOp_132 : decode cX8_runOp 132 = .ok (.if_icmp .ne 164, 3) := by decide +kernel
theorem dX8_runOp_135 : decode cX8_runOp 135 = .ok (.aload_n 0, 1) := by decide +kernel
theorem dX8_runOp_136 : decode cX8_runOp 136 = .ok (.iconst 1, 1) := by decide +kernel
theorem dX8_runOp_137 : decode cX8_runOp 137 = .ok (.iload 4, 2) := by decide +kernel
theorem dX8_runOp_139 : decode cX8_runOp 139 = .ok (.iload_n 1, 1) := by decide +kernel
theorem dX8_runOp_140 : decode cX8_runOp 140 = .ok (.invokevirtual 265, 3) := by decide +kernel
theorem dX8_runOp_143 : decode cX8_runOp 143 = .ok (.aload_n 0, 1) := by decide +kernel
theorem dX8_runOp_144 : decode cX8_runOp 144 = .ok (.iconst 2, 1) := by decide +kernel
theorem dX8_runOp_145 : decode cX8_runOp 145 = .ok (.aload_n 0, 1) := by decide +kernel
theorem dX8_runOp_146 : decode cX8_runOp 146 = .ok (.getfield 22, 3) := by decide +kernel
theorem dX8_runOp_149 : decode cX8_runOp 149 = .ok (.iload 4, 2) := by decide +kernel
theorem dX8_runOp_151 : decode cX8_runOp 151 = .ok (.iaload, 1) := by decide +kernel
theorem dX8_runOp_152 : decode cX8_runOp 152 = .ok (.iload_n 1, 1) := by decide +kernel
theorem dX8_runOp_153 : decode cX8_runOp 153 = .ok (.invokevirtual 265, 3) := by decide +kernel
theorem dX8_runOp_156 : decode cX8_runOp 156 = .ok (.goto 140, 3) := by decide +kernel
theorem dX8_runOp_159 : decode cX8_runOp 159 = .ok (.iconst 0, 1) := by decide +kernel
theorem dX8_runOp_160 : decode cX8_runOp 160 = .ok (.istore 5, 2) := by decide +kernel
theorem dX8_runOp_162 : decode cX8_runOp 162 = .ok (.iconst 0, 1) := by decide +kernel
theorem dX8_runOp_163 : decode cX8_runOp 163 = .ok (.istore 6, 2) := by decide +kernel
theorem dX8_runOp_165 : decode cX8_runOp 165 = .ok (.iload 6, 2) := by decide +kernel
theorem dX8_runOp_167 : decode cX8_runOp 167 = .ok (.aload_n 0, 1) := by decide +kernel
theorem dX8_runOp_168 : decode cX8_runOp 168 = .ok (.getfield 116, 3) := by decide +kernel
theorem dX8_runOp_171 : decode cX8_runOp 171 = .ok (.iload_n 2, 1) := by decide +kernel
theorem dX8_runOp_172 : decode cX8_runOp 172 = .ok (.iaload, 1) := by decide +kernel
theorem dX8_runOp_173 : decode cX8_runOp 173 = .ok (.if_icmp .ge 37, 3) := by decide +kernel
theorem dX8_runOp_176 : decode cX8_runOp 176 = .ok (.iload 5, 2) := by decide +kernel
theorem dX8_runOp_178 : decode cX8_runOp 178 = .ok (.ifCond .ne 19, 3) := by decide +kernel
theorem dX8_runOp_181 : decode cX8_runOp 181 = .ok (.aload_n 0, 1) := by decide +kernel
theorem dX8_runOp_182 : decode cX8_runOp 182 = .ok (.getfield 113, 3) := by decide +kernel
theorem dX8_runOp_185 : decode cX8_runOp 185 = .ok (.bipush 48, 2) := by decide +kernel
theorem dX8_runOp_187 : decode cX8_runOp 187 = .ok (.iload_n 2, 1) := by decide +kernel
theorem dX8_runOp_188 : decode cX8_runOp 188 = .ok (.imul, 1) := by decide +kernel
theorem dX8_runOp_189 : decode cX8_runOp 189 = .ok (.iload 6, 2) := by decide +kernel
theorem dX8_runOp_191 : decode cX8_runOp 191 = .ok (.iadd, 1) := by decide +kernel
theorem dX8_runOp_192 : decode cX8_runOp 192 = .ok (.iaload, 1) := by decide +kernel
theorem dX8_runOp_193 : decode cX8_runOp 193 = .ok (.iload_n 3, 1) := by decide +kernel
theorem dX8_runOp_194 : decode cX8_runOp 194 = .ok (.if_icmp .ne 7, 3) := by decide +kernel
theorem dX8_runOp_197 : decode cX8_runOp 197 = .ok (.iconst 1, 1) := by decide +kernel
theorem dX8_runOp_198 : decode cX8_runOp 198 = .ok (.goto 4, 3) := by decide +kernel
theorem dX8_runOp_201 : decode cX8_runOp 201 = .ok (.iconst 0, 1) := by decide +kernel
theorem dX8_runOp_202 : decode cX8_runOp 202 = .ok (.istore 5, 2) := by decide +kernel
theorem dX8_runOp_204 : decode cX8_runOp 204 = .ok (.iinc 6 1, 3) := by decide +kernel
theorem dX8_runOp_207 : decode cX8_runOp 207 = .ok (.goto (-42), 3) := by decide +kernel
theorem dX8_runOp_210 : decode cX8_runOp 210 = .ok (.iload 5, 2) := by decide +kernel
theorem dX8_runOp_212 : decode cX8_runOp 212 = .ok (.ifCond .ne 84, 3) := by decide +kernel
theorem dX8_runOp_215 : decode cX8_runOp 215 = .ok (.aload_n 0, 1) := by decide +kernel
theorem dX8_runOp_216 : decode cX8_runOp 216 = .ok (.getfield 113, 3) := by decide +kernel
theorem dX8_runOp_219 : decode cX8_runOp 219 = .ok (.bipush 48, 2) := by decide +kernel
theorem dX8_runOp_221 : decode cX8_runOp 221 = .ok (.iload_n 2, 1) := by decide +kernel
theorem dX8_runOp_222 : decode cX8_runOp 222 = .ok (.imul, 1) := by decide +kernel
theorem dX8_runOp_223 : decode cX8_runOp 223 = .ok (.aload_n 0, 1) := by decide +kernel
theorem dX8_runOp_224 : decode cX8_runOp 224 = .ok (.getfield 116, 3) := by decide +kernel
theorem dX8_runOp_227 : decode cX8_runOp 227 = .ok (.iload_n 2, 1) := by decide +kernel
theorem dX8_runOp_228 : decode cX8_runOp 228 = .ok (.iaload, 1) := by decide +kernel
theorem dX8_runOp_229 : decode cX8_runOp 229 = .ok (.iadd, 1) := by decide +kernel
theorem dX8_runOp_230 : decode cX8_runOp 230 = .ok (.iload_n 3, 1) := by decide +kernel
theorem dX8_runOp_231 : decode cX8_runOp 231 = .ok (.iastore, 1) := by decide +kernel
theorem dX8_runOp_232 : decode cX8_runOp 232 = .ok (.aload_n 0, 1) := by decide +kernel
theorem dX8_runOp_233 : decode cX8_runOp 233 = .ok (.getfield 116, 3) := by decide +kernel
theorem dX8_runOp_236 : decode cX8_runOp 236 = .ok (.iload_n 2, 1) := by decide +kernel
theorem dX8_runOp_237 : decode cX8_runOp 237 = .ok (.dup2, 1) := by decide +kernel
theorem dX8_runOp_238 : decode cX8_runOp 238 = .ok (.iaload, 1) := by decide +kernel
theorem dX8_runOp_239 : decode cX8_runOp 239 = .ok (.iconst 1, 1) := by decide +kernel
theorem dX8_runOp_240 : decode cX8_runOp 240 = .ok (.iadd, 1) := by decide +kernel
theorem dX8_runOp_241 : decode cX8_runOp 241 = .ok (.iastore, 1) := by decide +kernel
theorem dX8_runOp_242 : decode cX8_runOp 242 = .ok (.goto 54, 3) := by decide +kernel
theorem dX8_runOp_245 : decode cX8_runOp 245 = .ok (.aload_n 0, 1) := by decide +kernel
theorem dX8_runOp_246 : decode cX8_runOp 246 = .ok (.getfield 116, 3) := by decide +kernel
theorem dX8_runOp_249 : decode cX8_runOp 249 = .ok (.iload_n 2, 1) := by decide +kernel
theorem dX8_runOp_250 : decode cX8_runOp 250 = .ok (.iaload, 1) := by decide +kernel
theorem dX8_runOp_251 : decode cX8_runOp 251 = .ok (.ifCond .le 45, 3) := by decide +kernel
theorem dX8_runOp_254 : decode cX8_runOp 254 = .ok (.aload_n 0, 1) := by decide +kernel
theorem dX8_runOp_255 : decode cX8_runOp 255 = .ok (.iconst 1, 1) := by decide +kernel
theorem dX8_runOp_256 : decode cX8_runOp 256 = .ok (.aload_n 0, 1) := by decide +kernel
theorem dX8_runOp_257 : decode cX8_runOp 257 = .ok (.getfield 113, 3) := by decide +kernel
theorem dX8_runOp_260 : decode cX8_runOp 260 = .ok (.bipush 48, 2) := by decide +kernel
theorem dX8_runOp_262 : decode cX8_runOp 262 = .ok (.iload_n 2, 1) := by decide +kernel
theorem dX8_runOp_263 : decode cX8_runOp 263 = .ok (.imul, 1) := by decide +kernel
theorem dX8_runOp_264 : decode cX8_runOp 264 = .ok (.aload_n 0, 1) := by decide +kernel
theorem dX8_runOp_265 : decode cX8_runOp 265 = .ok (.aload_n 0, 1) := by decide +kernel
theorem dX8_runOp_266 : decode cX8_runOp 266 = .ok (.getfield 116, 3) := by decide +kernel
theorem dX8_runOp_269 : decode cX8_runOp 269 = .ok (.iload_n 2, 1) := by decide +kernel
theorem dX8_runOp_270 : decode cX8_runOp 270 = .ok (.iaload, 1) := by decide +kernel
theorem dX8_runOp_271 : decode cX8_runOp 271 = .ok (.invokevirtual 271, 3) := by decide +kernel
theorem dX8_runOp_274 : decode cX8_runOp 274 = .ok (.iadd, 1) := by decide +kernel
theorem dX8_runOp_275 : decode cX8_runOp 275 = .ok (.iaload, 1) := by decide +kernel
theorem dX8_runOp_276 : decode cX8_runOp 276 = .ok (.iload_n 1, 1) := by decide +kernel
theorem dX8_runOp_277 : decode cX8_runOp 277 = .ok (.invokevirtual 265, 3) := by decide +kernel
theorem dX8_runOp_280 : decode cX8_runOp 280 = .ok (.goto 16, 3) := by decide +kernel
theorem dX8_runOp_283 : decode cX8_runOp 283 = .ok (.aload_n 0, 1) := by decide +kernel
theorem dX8_runOp_284 : decode cX8_runOp 284 = .ok (.iload_n 1, 1) := by decide +kernel
theorem dX8_runOp_285 : decode cX8_runOp 285 = .ok (.invokevirtual 274, 3) := by decide +kernel
theorem dX8_runOp_288 : decode cX8_runOp 288 = .ok (.goto 8, 3) := by decide +kernel
theorem dX8_runOp_291 : decode cX8_runOp 291 = .ok (.aload_n 0, 1) := by decide +kernel
theorem dX8_runOp_292 : decode cX8_runOp 292 = .ok (.iload_n 1, 1) := by decide +kernel
theorem dX8_runOp_293 : decode cX8_runOp 293 = .ok (.invokevirtual 277, 3) := by decide +kernel
theorem dX8_runOp_296 : decode cX8_runOp 296 = .ok (.return_, 1) := by decide +kernel
set_option maxRecDepth 20000 in
theorem ggX8_doNext_X8_draw : GoodIn wsX8_doNext wsX8_draw := goodIn_r _ [17, 18, 19, 20, 107, 108, 109, 110, 111, 112, 113, 114, 115, 116, 117, 118, 119, 120, 121, 122, 123, 124, 125, 126, 127, 128, 129, 130, 131, 132, 133, 134, 135, 136, 137, 138, 139, 140, 141, 142, 143, 144, 145, 146, 147, 148, 149, 150, 151, 152, 153, 154, 155, 156] rfl (by decide +kernel)
set_option maxRecDepth 20000 in
theorem gX8_doNext_X8_draw : GoodIn wsX8_doNext (wsV RX8 271 RX8 yX8_draw wsX8_draw) := goodIn_app (goodIn_of _ (by decide +kernel)) ggX8_doNext_X8_draw
set_option maxRecDepth 20000 in
theorem ggX8_doNext_X8_runOp : GoodIn wsX8_doNext wsX8_runOp := goodIn_r _ [24, 25, 26, 27, 28, 29, 30, 31, 32, 33, 34, 16, 35, 3, 1, 2, 4, 8, 36, 37, 38, 39, 40, 41, 42, 43, 44, 45, 46, 47, 48, 49, 50, 51, 52, 53, 54, 55, 56, 57, 58, 59, 60, 61, 62, 63, 64, 65, 66, 67, 68, 69, 70, 71, 72, 73, 74, 75, 13, 14, 15, 17, 18, 19, 20, 76, 77, 78, 79, 80, 81, 82, 83, 84, 85, 86, 11, 12, 107, 108, 109, 110, 111, 112, 113, 114, 115, 116, 117, 118, 119, 120, 121, 122, 123, 124, 125, 126, 127, 128, 129, 130, 131, 132, 133, 134, 135, 136, 137, 138, 139, 140, 141, 142, 143, 144, 145, 146, 147, 148, 149, 150, 151, 152, 153, 154, 155, 156] rfl (by decide +kernel)
set_option maxRecDepth 20000 in
theorem gX8_doNext_X8_runOp : GoodIn wsX8_doNext (wsV RX8 280 RX8 yX8_runOp wsX8_runOp) := goodIn_app (goodIn_of _ (by decide +kernel)) ggX8_doNext_X8_runOp
set_option maxRecDepth 20000 in
theorem ggX8_doNext_X8_runNow : GoodIn wsX8_doNext wsX8_runNow := goodIn_r _ [90, 9, 91, 92, 6, 93, 94, 95, 96, 32, 33, 34, 16, 35, 3, 1, 2, 4, 8, 107, 108, 109, 110, 111, 112, 113, 114, 115, 116, 117, 118, 119, 120, 121, 122, 123, 124, 125, 126, 127, 128, 129, 130, 131, 132, 133, 134, 135, 136, 137, 138, 139, 140, 141, 142, 143, 144, 145, 146, 147, 148, 149, 150, 151, 152, 153, 154, 155, 156] rfl (by decide +kernel)
set_option maxRecDepth 20000 in
theorem gX8_doNext_X8_runNow : GoodIn wsX8_doNext (wsV RX8 283 RX8 yX8_runNow wsX8_runNow) := goodIn_app (goodIn_of _ (by decide +kernel)) ggX8_doNext_X8_runNow
set_option maxRecDepth 20000 in
theorem ggX8_doNext_X8_beginNow : GoodIn wsX8_doNext wsX8_beginNow := goodIn_r _ [100, 101, 9, 102, 44, 58, 45, 48, 49, 50, 16, 51, 46, 29, 52, 32, 33, 34, 35, 3, 1, 2, 4, 8, 59, 60, 61, 62, 63, 64, 65, 66, 67, 68, 69, 70, 71, 103, 104, 105, 106, 28, 107, 108, 109, 110, 111, 112, 113, 114, 115, 116, 117, 118, 119, 120, 121, 122, 123, 124, 125, 126, 127, 128, 129, 130, 131, 132, 133, 134, 135, 136, 137, 138, 139, 140, 141, 142, 143, 144, 145, 146, 147, 148, 149, 150, 151, 152, 153, 154, 155, 156] rfl (by decide +kernel)
set_option maxRecDepth 20000 in
theorem gX8_doNext_X8_beginNow : GoodIn wsX8_doNext (wsV RX8 286 RX8 yX8_beginNow wsX8_beginNow) := goodIn_app (goodIn_of _ (by decide +kernel)) ggX8_doNext_X8_beginNow
theorem dX8_doNext_0 : decode cX8_doNext 0 = .ok (.aload_n 0, 1) := by decide +kernel
theorem dX8_doNext_1 : decode cX8_doNext 1 = .ok (.getfield 247, 3) := by decide +kernel
theorem dX8_doNext_4 : decode cX8_doNext 4 = .ok (.iconst 1, 1) := by decide +kernel
theorem dX8_doNext_5 : decode cX8_doNext 5 = .ok (.isub, 1) := by decide +kernel
theorem dX8_doNext_6 : decode cX8_doNext 6 = .ok (.istore_n 1, 1) := by decide +kernel
theorem dX8_doNext_7 : decode cX8_doNext 7 = .ok (.aload_n 0, 1) := by decide +kernel
theorem dX8_doNext_8 : decode cX8_doNext 8 = .ok (.getfield 95, 3) := by decide +kernel
theorem dX8_doNext_11 : decode cX8_doNext 11 = .ok (.iload_n 1, 1) := by decide +kernel
theorem dX8_doNext_12 : decode cX8_doNext 12 = .ok (.iaload, 1) := by decide +kernel
theorem dX8_doNext_13 : decode cX8_doNext 13 = .ok (.istore_n 2, 1) := by decide +kernel
theorem dX8_doNext_14 : decode cX8_doNext 14 = .ok (.aload_n 0, 1) := by decide +kernel
theorem dX8_doNext_15 : decode cX8_doNext 15 = .ok (.getfield 92, 3) := by decide +kernel
theorem dX8_doNext_18 : decode cX8_doNext 18 = .ok (.iload_n 1, 1) := by decide +kernel
theorem dX8_doNext_19 : decode cX8_doNext 19 = .ok (.iaload, 1) := by decide +kernel
theorem dX8_doNext_20 : decode cX8_doNext 20 = .ok (.ifCond .ne 82, 3) := by decide +kernel
theorem dX8_doNext_23 : decode cX8_doNext 23 = .ok (.aload_n 0, 1) := by decide +kernel
theorem dX8_doNext_24 : decode cX8_doNext 24 = .ok (.getfield 98, 3) := by decide +kernel
theorem dX8_doNext_27 : decode cX8_doNext 27 = .ok (.iload_n 1, 1) := by decide +kernel
theorem dX8_doNext_28 : decode cX8_doNext 28 = .ok (.iaload, 1) := by decide +kernel
theorem dX8_doNext_29 : decode cX8_doNext 29 = .ok (.aload_n 0, 1) := by decide +kernel
theorem dX8_doNext_30 : decode cX8_doNext 30 = .ok (.getfield 35, 3) := by decide +kernel
theorem dX8_doNext_33 : decode cX8_doNext 33 = .ok (.iload_n 2, 1) := by decide +kernel
theorem dX8_doNext_34 : decode cX8_doNext 34 = .ok (.iaload, 1) := by decide +kernel
theorem dX8_doNext_35 : decode cX8_doNext 35 = .ok (.if_icmp .ne 26, 3) := by decide +kernel
theorem dX8_doNext_38 : decode cX8_doNext 38 = .ok (.aload_n 0, 1) := by decide +kernel
theorem dX8_doNext_39 : decode cX8_doNext 39 = .ok (.dup, 1) := by decide +kernel
theorem dX8_doNext_40 : decode cX8_doNext 40 = .ok (.getfield 247, 3) := by decide +kernel
theorem dX8_doNext_43 : decode cX8_doNext 43 = .ok (.iconst 1, 1) := by decide +kernel
theorem dX8_doNext_44 : decode cX8_doNext 44 = .ok (.isub, 1) := by decide +kernel
theorem dX8_doNext_45 : decode cX8_doNext 45 = .ok (.putfield 247, 3) := by decide +kernel
theorem dX8_doNext_48 : decode cX8_doNext 48 = .ok (.aload_n 0, 1) := by decide +kernel
theorem dX8_doNext_49 : decode cX8_doNext 49 = .ok (.dup, 1) := by decide +kernel
theorem dX8_doNext_50 : decode cX8_doNext 50 = .ok (.getfield 253, 3) := by decide +kernel
theorem dX8_doNext_53 : decode cX8_doNext 53 = .ok (.iconst 1, 1) := by decide +kernel
theorem dX8_doNext_54 : decode cX8_doNext 54 = .ok (.isub, 1) := by decide +kernel
theorem dX8_doNext_55 : decode cX8_doNext 55 = .ok (.putfield 253, 3) := by decide +kernel
theorem dX8_doNext_58 : decode cX8_doNext 58 = .ok (.goto 43, 3) := by decide +kernel
theorem dX8_doNext_61 : decode cX8_doNext 61 = .ok (.aload_n 0, 1) := by decide +kernel
theorem dX8_doNext_62 : decode cX8_doNext 62 = .ok (.getfield 38, 3) := by decide +kernel
theorem dX8_doNext_65 : decode cX8_doNext 65 = .ok (.bipush 24, 2) := by decide +kernel
theorem dX8_doNext_67 : decode cX8_doNext 67 = .ok (.iload_n 2, 1) := by decide +kernel
theorem dX8_doNext_68 : decode cX8_doNext 68 = .ok (.imul, 1) := by decide +kernel
theorem dX8_doNext_69 : decode cX8_doNext 69 = .ok (.aload_n 0, 1) := by decide +kernel
theorem dX8_doNext_70 : decode cX8_doNext 70 = .ok (.getfield 98, 3) := by decide +kernel
theorem dX8_doNext_73 : decode cX8_doNext 73 = .ok (.iload_n 1, 1) := by decide +kernel
theorem dX8_doNext_74 : decode cX8_doNext 74 = .ok (.iaload, 1) := by decide +kernel
theorem dX8_doNext_75 : decode cX8_doNext 75 = .ok (.iadd, 1) := by decide +kernel
theorem dX8_doNext_76 : decode cX8_doNext 76 = .ok (.iaload, 1) := by decide +kernel
theorem dX8_doNext_77 : decode cX8_doNext 77 = .ok (.istore_n 3, 1) := by decide +kernel
theorem dX8_doNext_78 : decode cX8_doNext 78 = .ok (.aload_n 0, 1) := by decide +kernel
theorem dX8_doNext_79 : decode cX8_doNext 79 = .ok (.getfield 98, 3) := by decide +kernel
theorem dX8_doNext_82 : decode cX8_doNext 82 = .ok (.iload_n 1, 1) := by decide +kernel
theorem dX8_doNext_83 : decode cX8_doNext 83 = .ok (.dup2, 1) := by decide +kernel
theorem dX8_doNext_84 : decode cX8_doNext 84 = .ok (.iaload, 1) := by decide +kernel
theorem dX8_doNext_85 : decode cX8_doNext 85 = .ok (.iconst 1, 1) := by decide +kernel
theorem dX8_doNext_86 : decode cX8_doNext 86 = .ok (.iadd, 1) := by decide +kernel
theorem dX8_doNext_87 : decode cX8_doNext 87 = .ok (.iastore, 1) := by decide +kernel
theorem dX8_doNext_88 : decode cX8_doNext 88 = .ok (.aload_n 0, 1) := by decide +kernel
theorem dX8_doNext_89 : decode cX8_doNext 89 = .ok (.iconst 4, 1) := by decide +kernel
theorem dX8_doNext_90 : decode cX8_doNext 90 = .ok (.invokevirtual 271, 3) := by decide +kernel
theorem dX8_doNext_93 : decode cX8_doNext 93 = .ok (.ifCond .eq 8, 3) := by decide +kernel
theorem dX8_doNext_96 : decode cX8_doNext 96 = .ok (.aload_n 0, 1) := by decide +kernel
theorem dX8_doNext_97 : decode cX8_doNext 97 = .ok (.iload_n 3, 1) := by decide +kernel
theorem dX8_doNext_98 : decode cX8_doNext 98 = .ok (.invokevirtual 280, 3) := by decide +kernel
theorem dX8_doNext_101 : decode cX8_doNext 101 = .ok (.return_, 1) := by decide +kernel
theorem dX8_doNext_102 : decode cX8_doNext 102 = .ok (.aload_n 0, 1) := by decide +kernel
theorem dX8_doNext_103 : decode cX8_doNext 103 = .ok (.dup, 1) := by decide +kernel
theorem dX8_doNext_104 : decode cX8_doNext 104 = .ok (.getfield 247, 3) := by decide +kernel
theorem dX8_doNext_107 : decode cX8_doNext 107 = .ok (.iconst 1, 1) := by decide +kernel
theorem dX8_doNext_108 : decode cX8_doNext 108 = .ok (.isub, 1) := by decide +kernel
theorem dX8_doNext_109 : decode cX8_doNext 109 = .ok (.putfield 247, 3) := by decide +kernel
theorem dX8_doNext_112 : decode cX8_doNext 112 = .ok (.aload_n 0, 1) := by decide +kernel
theorem dX8_doNext_113 : decode cX8_doNext 113 = .ok (.getfield 101, 3) := by decide +kernel
theorem dX8_doNext_116 : decode cX8_doNext 116 = .ok (.iload_n 1, 1) := by decide +kernel
theorem dX8_doNext_117 : decode cX8_doNext 117 = .ok (.iaload, 1) := by decide +kernel
theorem dX8_doNext_118 : decode cX8_doNext 118 = .ok (.istore_n 3, 1) := by decide +kernel
theorem dX8_doNext_119 : decode cX8_doNext 119 = .ok (.aload_n 0, 1) := by decide +kernel
theorem dX8_doNext_120 : decode cX8_doNext 120 = .ok (.getfield 92, 3) := by decide +kernel
theorem dX8_doNext_123 : decode cX8_doNext 123 = .ok (.iload_n 1, 1) := by decide +kernel
theorem dX8_doNext_124 : decode cX8_doNext 124 = .ok (.iaload, 1) := by decide +kernel
theorem dX8_doNext_125 : decode cX8_doNext 125 = .ok (.iconst 1, 1) := by decide +kernel
theorem dX8_doNext_126 : decode cX8_doNext 126 = .ok (.if_icmp .ne 12, 3) := by decide +kernel
theorem dX8_doNext_129 : decode cX8_doNext 129 = .ok (.aload_n 0, 1) := by decide +kernel
theorem dX8_doNext_130 : decode cX8_doNext 130 = .ok (.iload_n 2, 1) := by decide +kernel
theorem dX8_doNext_131 : decode cX8_doNext 131 = .ok (.iload_n 3, 1) := by decide +kernel
theorem dX8_doNext_132 : decode cX8_doNext 132 = .ok (.invokevirtual 283, 3) := by decide +kernel
theorem dX8_doNext_135 : decode cX8_doNext 135 = .ok (.goto 76, 3) := by decide +kernel
theorem dX8_doNext_138 : decode cX8_doNext 138 = .ok (.aload_n 0, 1) := by decide +kernel
theorem dX8_doNext_139 : decode cX8_doNext 139 = .ok (.getfield 92, 3) := by decide +kernel
theorem dX8_doNext_142 : decode cX8_doNext 142 = .ok (.iload_n 1, 1) := by decide +kernel
theorem dX8_doNext_143 : decode cX8_doNext 143 = .ok (.iaload, 1) := by decide +kernel
theorem dX8_doNext_144 : decode cX8_doNext 144 = .ok (.iconst 2, 1) := by decide +kernel
theorem dX8_doNext_145 : decode cX8_doNext 145 = .ok (.if_icmp .ne 12, 3) := by decide +kernel
theorem dX8_doNext_148 : decode cX8_doNext 148 = .ok (.aload_n 0, 1) := by decide +kernel
theorem dX8_doNext_149 : decode cX8_doNext 149 = .ok (.iload_n 2, 1) := by decide +kernel
theorem dX8_doNext_150 : decode cX8_doNext 150 = .ok (.iload_n 3, 1) := by decide +kernel
theorem dX8_doNext_151 : decode cX8_doNext 151 = .ok (.invokevirtual 286, 3) := by decide +kernel
theorem dX8_doNext_154 : decode cX8_doNext 154 = .ok (.goto 57, 3) := by decide +kernel
theorem dX8_doNext_157 : decode cX8_doNext 157 = .ok (.aload_n 0, 1) := by decide +kernel
theorem dX8_doNext_158 : decode cX8_doNext 158 = .ok (.aload_n 0, 1) := by decide +kernel
theorem dX8_doNext_159 : decode cX8_doNext 159 = .ok (.getfield 250, 3) := by decide +kernel
theorem dX8_doNext_162 : decode cX8_doNext 162 = .ok (.ifCond .eq 16, 3) := by decide +kernel
theorem dX8_doNext_165 : decode cX8_doNext 165 = .ok (.aload_n 0, 1) := by decide +kernel
theorem dX8_doNext_166 : decode cX8_doNext 166 = .ok (.getfield 53, 3) := by decide +kernel
theorem dX8_doNext_169 : decode cX8_doNext 169 = .ok (.iload_n 2, 1) := by decide +kernel
theorem dX8_doNext_170 : decode cX8_doNext 170 = .ok (.baload, 1) := by decide +kernel
theorem dX8_doNext_171 : decode cX8_doNext 171 = .ok (.ifCond .eq 7, 3) := by decide +kernel
theorem dX8_doNext_174 : decode cX8_doNext 174 = .ok (.iconst 1, 1) := by decide +kernel
theorem dX8_doNext_175 : decode cX8_doNext 175 = .ok (.goto 4, 3) := by decide +kernel
theorem dX8_doNext_178 : decode cX8_doNext 178 = .ok (.iconst 0, 1) := by decide +kernel
theorem dX8_doNext_179 : decode cX8_doNext 179 = .ok (.putfield 250, 3) := by decide +kernel
theorem dX8_doNext_182 : decode cX8_doNext 182 = .ok (.aload_n 0, 1) := by decide +kernel
theorem dX8_doNext_183 : decode cX8_doNext 183 = .ok (.getfield 268, 3) := by decide +kernel
theorem dX8_doNext_186 : decode cX8_doNext 186 = .ok (.bipush 20, 2) := by decide +kernel
theorem dX8_doNext_188 : decode cX8_doNext 188 = .ok (.if_icmp .ge 23, 3) := by decide +kernel
theorem dX8_doNext_191 : decode cX8_doNext 191 = .ok (.aload_n 0, 1) := by decide +kernel
theorem dX8_doNext_192 : decode cX8_doNext 192 = .ok (.getfield 110, 3) := by decide +kernel
theorem dX8_doNext_195 : decode cX8_doNext 195 = .ok (.aload_n 0, 1) := by decide +kernel
theorem dX8_doNext_196 : decode cX8_doNext 196 = .ok (.getfield 268, 3) := by decide +kernel
theorem dX8_doNext_199 : decode cX8_doNext 199 = .ok (.iload_n 2, 1) := by decide +kernel
theorem dX8_doNext_200 : decode cX8_doNext 200 = .ok (.iastore, 1) := by decide +kernel
theorem dX8_doNext_201 : decode cX8_doNext 201 = .ok (.aload_n 0, 1) := by decide +kernel
theorem dX8_doNext_202 : decode cX8_doNext 202 = .ok (.dup, 1) := by decide +kernel
theorem dX8_doNext_203 : decode cX8_doNext 203 = .ok (.getfield 268, 3) := by decide +kernel
theorem dX8_doNext_206 : decode cX8_doNext 206 = .ok (.iconst 1, 1) := by decide +kernel
theorem dX8_doNext_207 : decode cX8_doNext 207 = .ok (.iadd, 1) := by decide +kernel
theorem dX8_doNext_208 : decode cX8_doNext 208 = .ok (.putfield 268, 3) := by decide +kernel
theorem dX8_doNext_211 : decode cX8_doNext 211 = .ok (.return_, 1) := by decide +kernel
set_option maxRecDepth 20000 in
theorem ggX8_runAll_X8_freshen : GoodIn wsX8_runAll wsX8_freshen := goodIn_r _ [18, 19, 20, 12, 13, 21, 22, 23, 24, 25, 26, 27, 28, 29, 30, 31, 17, 32, 33, 34, 35, 36, 37, 38, 39, 40, 41, 42, 43, 44, 45, 46, 47, 48, 49, 50, 51, 52, 53, 54, 55, 56, 57, 58, 59, 60, 61, 62, 63, 64, 65, 66, 67, 68, 69, 70, 71, 72, 73, 74, 75, 76, 77, 78, 79, 80, 81, 82, 83, 84, 85, 86, 87, 88, 89, 90, 91, 92, 93, 94, 95, 96, 97, 98, 99, 100, 101, 102, 103, 104, 105, 106, 107, 108, 109, 110, 111, 112, 113, 114, 155, 156, 157, 158, 159, 160, 161, 162, 163, 164, 165, 166, 167, 168, 169, 170, 171, 172, 173, 174, 175, 176, 177, 178, 179, 180, 181, 182, 183, 184, 185, 186, 187, 188, 189, 190, 191, 192, 193, 194, 195, 196, 197, 198, 199, 200, 201, 202, 203, 204] rfl (by decide +kernel)
set_option maxRecDepth 20000 in
theorem gX8_runAll_X8_freshen : GoodIn wsX8_runAll (wsV RX8 217 RX8 yX8_freshen wsX8_freshen) := goodIn_app (goodIn_of _ (by decide +kernel)) ggX8_runAll_X8_freshen
set_option maxRecDepth 20000 in
theorem ggX8_runAll_X8_push : GoodIn wsX8_runAll wsX8_push := goodIn_r _ [118, 119, 8, 120, 121, 122, 155, 156, 157, 158, 159, 160, 161, 162, 163, 164, 165, 166, 167, 168, 169, 170, 171, 172, 173, 174, 175, 176, 177, 178, 179, 180, 181, 182, 183, 184, 185, 186, 187, 188, 189, 190, 191, 192, 193, 194, 195, 196, 197, 198, 199, 200, 201, 202, 203, 204] rfl (by decide +kernel)
set_option maxRecDepth 20000 in
theorem gX8_runAll_X8_push : GoodIn wsX8_runAll (wsV RX8 265 RX8 yX8_push wsX8_push) := goodIn_app (goodIn_of _ (by decide +kernel)) ggX8_runAll_X8_push
set_option maxRecDepth 20000 in
theorem ggX8_runAll_X8_doNext : GoodIn wsX8_runAll wsX8_doNext := goodIn_r _ [126, 8, 120, 119, 121, 27, 3, 28, 122, 6, 21, 7, 127, 128, 129, 130, 17, 131, 1, 132, 133, 134, 135, 136, 137, 33, 34, 35, 36, 37, 11, 138, 115, 116, 117, 118, 102, 103, 104, 105, 84, 85, 86, 87, 49, 61, 12, 88, 68, 69, 70, 71, 38, 89, 90, 91, 92, 93, 43, 50, 51, 52, 53, 54, 55, 56, 57, 58, 59, 60, 62, 63, 94, 95, 96, 97, 139, 140, 141, 142, 106, 107, 108, 143, 144, 145, 146, 147, 148, 149, 150, 20, 24, 2, 4, 9, 5, 151, 152, 153, 154, 10, 22, 64, 65, 66, 67, 155, 156, 157, 158, 159, 160, 161, 162, 163, 164, 165, 166, 167, 168, 169, 170, 171, 172, 173, 174, 175, 176, 177, 178, 179, 180, 181, 182, 183, 184, 185, 186, 187, 188, 189, 190, 191, 192, 193, 194, 195, 196, 197, 198, 199, 200, 201, 202, 203, 204] rfl (by decide +kernel)
set_option maxRecDepth 20000 in
theorem gX8_runAll_X8_doNext : GoodIn wsX8_runAll (wsV RX8 289 RX8 yX8_doNext wsX8_doNext) := goodIn_app (goodIn_of _ (by decide +kernel)) ggX8_runAll_X8_doNext
theorem dX8_runAll_0 : decode cX8_runAll 0 = .ok (.aload_n 0, 1) := by decide +kernel
theorem dX8_runAll_1 : decode cX8_runAll 1 = .ok (.invokevirtual 217, 3) := by decide +kernel
theorem dX8_runAll_4 : decode cX8_runAll 4 = .ok (.aload_n 0, 1) := by decide +kernel
theorem dX8_runAll_5 : decode cX8_runAll 5 = .ok (.lload_n 1, 1) := by decide +kernel
theorem dX8_runAll_6 : decode cX8_runAll 6 = .ok (.putfield 239, 3) := by decide +kernel
theorem dX8_runAll_9 : decode cX8_runAll 9 = .ok (.aload_n 0, 1) := by decide +kernel
theorem dX8_runAll_10 : decode cX8_runAll 10 = .ok (.iconst 0, 1) := by decide +kernel
theorem dX8_runAll_11 : decode cX8_runAll 11 = .ok (.putfield 256, 3) := by decide +kernel
theorem dX8_runAll_14 : decode cX8_runAll 14 = .ok (.aload_n 0, 1) := by decide +kernel
theorem dX8_runAll_15 : decode cX8_runAll 15 = .ok (.iconst 0, 1) := by decide +kernel
theorem dX8_runAll_16 : decode cX8_runAll 16 = .ok (.putfield 253, 3) := by decide +kernel
theorem dX8_runAll_19 : decode cX8_runAll 19 = .ok (.aload_n 0, 1) := by decide +kernel
theorem dX8_runAll_20 : decode cX8_runAll 20 = .ok (.iconst 0, 1) := by decide +kernel
theorem dX8_runAll_21 : decode cX8_runAll 21 = .ok (.putfield 259, 3) := by decide +kernel
theorem dX8_runAll_24 : decode cX8_runAll 24 = .ok (.aload_n 0, 1) := by decide +kernel
theorem dX8_runAll_25 : decode cX8_runAll 25 = .ok (.iconst (-1), 1) := by decide +kernel
theorem dX8_runAll_26 : decode cX8_runAll 26 = .ok (.putfield 262, 3) := by decide +kernel
theorem dX8_runAll_29 : decode cX8_runAll 29 = .ok (.aload_n 0, 1) := by decide +kernel
theorem dX8_runAll_30 : decode cX8_runAll 30 = .ok (.iconst 1, 1) := by decide +kernel
theorem dX8_runAll_31 : decode cX8_runAll 31 = .ok (.putfield 250, 3) := by decide +kernel
theorem dX8_runAll_34 : decode cX8_runAll 34 = .ok (.aload_n 0, 1) := by decide +kernel
theorem dX8_runAll_35 : decode cX8_runAll 35 = .ok (.iconst 0, 1) := by decide +kernel
theorem dX8_runAll_36 : decode cX8_runAll 36 = .ok (.putfield 268, 3) := by decide +kernel
theorem dX8_runAll_39 : decode cX8_runAll 39 = .ok (.aload_n 0, 1) := by decide +kernel
theorem dX8_runAll_40 : decode cX8_runAll 40 = .ok (.iconst 0, 1) := by decide +kernel
theorem dX8_runAll_41 : decode cX8_runAll 41 = .ok (.putfield 247, 3) := by decide +kernel
theorem dX8_runAll_44 : decode cX8_runAll 44 = .ok (.iconst 0, 1) := by decide +kernel
theorem dX8_runAll_45 : decode cX8_runAll 45 = .ok (.istore_n 3, 1) := by decide +kernel
theorem dX8_runAll_46 : decode cX8_runAll 46 = .ok (.iload_n 3, 1) := by decide +kernel
theorem dX8_runAll_47 : decode cX8_runAll 47 = .ok (.bipush 48, 2) := by decide +kernel
theorem dX8_runAll_49 : decode cX8_runAll 49 = .ok (.if_icmp .ge 16, 3) := by decide +kernel
theorem dX8_runAll_52 : decode cX8_runAll 52 = .ok (.aload_n 0, 1) := by decide +kernel
theorem dX8_runAll_53 : decode cX8_runAll 53 = .ok (.getfield 104, 3) := by decide +kernel
theorem dX8_runAll_56 : decode cX8_runAll 56 = .ok (.iload_n 3, 1) := by decide +kernel
theorem dX8_runAll_57 : decode cX8_runAll 57 = .ok (.iconst 0, 1) := by decide +kernel
theorem dX8_runAll_58 : decode cX8_runAll 58 = .ok (.bastore, 1) := by decide +kernel
theorem dX8_runAll_59 : decode cX8_runAll 59 = .ok (.iinc 3 1, 3) := by decide +kernel
theorem dX8_runAll_62 : decode cX8_runAll 62 = .ok (.goto (-16), 3) := by decide +kernel
theorem dX8_runAll_65 : decode cX8_runAll 65 = .ok (.iconst 0, 1) := by decide +kernel
theorem dX8_runAll_66 : decode cX8_runAll 66 = .ok (.istore_n 3, 1) := by decide +kernel
theorem dX8_runAll_67 : decode cX8_runAll 67 = .ok (.iload_n 3, 1) := by decide +kernel
theorem dX8_runAll_68 : decode cX8_runAll 68 = .ok (.bipush 16, 2) := by decide +kernel
theorem dX8_runAll_70 : decode cX8_runAll 70 = .ok (.if_icmp .ge 16, 3) := by decide +kernel
theorem dX8_runAll_73 : decode cX8_runAll 73 = .ok (.aload_n 0, 1) := by decide +kernel
theorem dX8_runAll_74 : decode cX8_runAll 74 = .ok (.getfield 107, 3) := by decide +kernel
theorem dX8_runAll_77 : decode cX8_runAll 77 = .ok (.iload_n 3, 1) := by decide +kernel
theorem dX8_runAll_78 : decode cX8_runAll 78 = .ok (.iconst 0, 1) := by decide +kernel
theorem dX8_runAll_79 : decode cX8_runAll 79 = .ok (.bastore, 1) := by decide +kernel
theorem dX8_runAll_80 : decode cX8_runAll 80 = .ok (.iinc 3 1, 3) := by decide +kernel
theorem dX8_runAll_83 : decode cX8_runAll 83 = .ok (.goto (-16), 3) := by decide +kernel
theorem dX8_runAll_86 : decode cX8_runAll 86 = .ok (.iconst 0, 1) := by decide +kernel
theorem dX8_runAll_87 : decode cX8_runAll 87 = .ok (.istore_n 3, 1) := by decide +kernel
theorem dX8_runAll_88 : decode cX8_runAll 88 = .ok (.iload_n 3, 1) := by decide +kernel
theorem dX8_runAll_89 : decode cX8_runAll 89 = .ok (.iconst 4, 1) := by decide +kernel
theorem dX8_runAll_90 : decode cX8_runAll 90 = .ok (.if_icmp .ge 16, 3) := by decide +kernel
theorem dX8_runAll_93 : decode cX8_runAll 93 = .ok (.aload_n 0, 1) := by decide +kernel
theorem dX8_runAll_94 : decode cX8_runAll 94 = .ok (.getfield 116, 3) := by decide +kernel
theorem dX8_runAll_97 : decode cX8_runAll 97 = .ok (.iload_n 3, 1) := by decide +kernel
theorem dX8_runAll_98 : decode cX8_runAll 98 = .ok (.iconst 0, 1) := by decide +kernel
theorem dX8_runAll_99 : decode cX8_runAll 99 = .ok (.iastore, 1) := by decide +kernel
theorem dX8_runAll_100 : decode cX8_runAll 100 = .ok (.iinc 3 1, 3) := by decide +kernel
theorem dX8_runAll_103 : decode cX8_runAll 103 = .ok (.goto (-15), 3) := by decide +kernel
theorem dX8_runAll_106 : decode cX8_runAll 106 = .ok (.iconst 0, 1) := by decide +kernel
theorem dX8_runAll_107 : decode cX8_runAll 107 = .ok (.istore_n 3, 1) := by decide +kernel
theorem dX8_runAll_108 : decode cX8_runAll 108 = .ok (.iload_n 3, 1) := by decide +kernel
theorem dX8_runAll_109 : decode cX8_runAll 109 = .ok (.aload_n 0, 1) := by decide +kernel
theorem dX8_runAll_110 : decode cX8_runAll 110 = .ok (.getfield 131, 3) := by decide +kernel
theorem dX8_runAll_113 : decode cX8_runAll 113 = .ok (.if_icmp .ge 39, 3) := by decide +kernel
theorem dX8_runAll_116 : decode cX8_runAll 116 = .ok (.aload_n 0, 1) := by decide +kernel
theorem dX8_runAll_117 : decode cX8_runAll 117 = .ok (.getfield 31, 3) := by decide +kernel
theorem dX8_runAll_120 : decode cX8_runAll 120 = .ok (.iload_n 3, 1) := by decide +kernel
theorem dX8_runAll_121 : decode cX8_runAll 121 = .ok (.baload, 1) := by decide +kernel
theorem dX8_runAll_122 : decode cX8_runAll 122 = .ok (.ifCond .eq 24, 3) := by decide +kernel
theorem dX8_runAll_125 : decode cX8_runAll 125 = .ok (.aload_n 0, 1) := by decide +kernel
theorem dX8_runAll_126 : decode cX8_runAll 126 = .ok (.iconst 1, 1) := by decide +kernel
theorem dX8_runAll_127 : decode cX8_runAll 127 = .ok (.iload_n 3, 1) := by decide +kernel
theorem dX8_runAll_128 : decode cX8_runAll 128 = .ok (.iconst (-1), 1) := by decide +kernel
theorem dX8_runAll_129 : decode cX8_runAll 129 = .ok (.invokevirtual 265, 3) := by decide +kernel
theorem dX8_runAll_132 : decode cX8_runAll 132 = .ok (.aload_n 0, 1) := by decide +kernel
theorem dX8_runAll_133 : decode cX8_runAll 133 = .ok (.getfield 247, 3) := by decide +kernel
theorem dX8_runAll_136 : decode cX8_runAll 136 = .ok (.ifCond .le 10, 3) := by decide +kernel
theorem dX8_runAll_139 : decode cX8_runAll 139 = .ok (.aload_n 0, 1) := by decide +kernel
theorem dX8_runAll_140 : decode cX8_runAll 140 = .ok (.invokevirtual 289, 3) := by decide +kernel
theorem dX8_runAll_143 : decode cX8_runAll 143 = .ok (.goto (-11), 3) := by decide +kernel
theorem dX8_runAll_146 : decode cX8_runAll 146 = .ok (.iinc 3 1, 3) := by decide +kernel
theorem dX8_runAll_149 : decode cX8_runAll 149 = .ok (.goto (-41), 3) := by decide +kernel
theorem dX8_runAll_152 : decode cX8_runAll 152 = .ok (.return_, 1) := by decide +kernel
set_option maxRecDepth 20000 in
theorem ggX8_run_X8_in : GoodIn wsX8_run wsX8_in := goodIn_r _ [12] rfl (by decide +kernel)
set_option maxRecDepth 20000 in
theorem gX8_run_X8_in : GoodIn wsX8_run (va_wsS RX8 127 yX8_in wsX8_in) := goodIn_app (goodIn_of _ (by decide +kernel)) ggX8_run_X8_in
set_option maxRecDepth 20000 in
theorem ggX8_run_X8_runAll : GoodIn wsX8_run wsX8_runAll := goodIn_r _ [16, 17, 5, 18, 7, 8, 19, 6, 20, 2, 4, 21, 1, 22, 23, 24, 25, 11, 26, 27, 28, 29, 30, 31, 32, 33, 34, 35, 36, 37, 38, 39, 40, 41, 42, 43, 44, 45, 46, 47, 48, 49, 50, 3, 51, 52, 53, 54, 55, 56, 57, 58, 59, 60, 61, 62, 63, 64, 65, 66, 67, 68, 69, 70, 71, 72, 73, 74, 75, 76, 77, 78, 79, 80, 81, 82, 83, 84, 85, 86, 87, 88, 89, 90, 91, 92, 93, 94, 95, 96, 97, 98, 99, 100, 101, 102, 103, 104, 105, 106, 107, 108, 109, 110, 111, 112, 113, 114, 115, 116, 117, 118, 119, 120, 121, 122, 123, 124, 125, 126, 127, 128, 129, 130, 131, 132, 133, 134, 135, 136, 137, 138, 139, 140, 141, 142, 143, 144, 145, 146, 147, 148, 149, 150, 151, 152, 153, 154, 155, 156, 157, 158, 159, 160, 161, 162, 163, 164, 165, 166, 167, 168, 169, 170, 171, 172, 173, 174, 175, 176, 177, 178, 179, 180, 181, 182, 183, 184, 185, 186, 187, 188, 189, 190, 191, 192, 193, 194, 195, 196, 197, 198, 199, 200, 201, 202, 203, 204, 205, 206, 207, 208, 209, 210, 211] rfl (by decide +kernel)
set_option maxRecDepth 20000 in
theorem gX8_run_X8_runAll : GoodIn wsX8_run (wsV RX8 292 RX8 yX8_runAll wsX8_runAll) := goodIn_app (goodIn_of _ (by decide +kernel)) ggX8_run_X8_runAll
theorem dX8_run_0 : decode cX8_run 0 = .ok (.iload_n 3, 1) := by decide +kernel
theorem dX8_run_1 : decode cX8_run 1 = .ok (.iconst 0, 1) := by decide +kernel
theorem dX8_run_2 : decode cX8_run 2 = .ok (.iconst 5, 1) := by decide +kernel
theorem dX8_run_3 : decode cX8_run 3 = .ok (.invokestatic 127, 3) := by decide +kernel
theorem dX8_run_6 : decode cX8_run 6 = .ok (.ifCond .ne 6, 3) := by decide +kernel
theorem dX8_run_9 : decode cX8_run 9 = .ok (.bipush (-102), 2) := by decide +kernel
theorem dX8_run_11 : decode cX8_run 11 = .ok (.ireturn, 1) := by decide +kernel
theorem dX8_run_12 : decode cX8_run 12 = .ok (.aload_n 0, 1) := by decide +kernel
theorem dX8_run_13 : decode cX8_run 13 = .ok (.lload_n 1, 1) := by decide +kernel
theorem dX8_run_14 : decode cX8_run 14 = .ok (.invokevirtual 292, 3) := by decide +kernel
theorem dX8_run_17 : decode cX8_run 17 = .ok (.iconst 0, 1) := by decide +kernel
theorem dX8_run_18 : decode cX8_run 18 = .ok (.istore 4, 2) := by decide +kernel
theorem dX8_run_20 : decode cX8_run 20 = .ok (.iconst 0, 1) := by decide +kernel
theorem dX8_run_21 : decode cX8_run 21 = .ok (.istore 5, 2) := by decide +kernel
theorem dX8_run_23 : decode cX8_run 23 = .ok (.iload 5, 2) := by decide +kernel
theorem dX8_run_25 : decode cX8_run 25 = .ok (.aload_n 0, 1) := by decide +kernel
theorem dX8_run_26 : decode cX8_run 26 = .ok (.getfield 131, 3) := by decide +kernel
theorem dX8_run_29 : decode cX8_run 29 = .ok (.if_icmp .ge 29, 3) := by decide +kernel
theorem dX8_run_32 : decode cX8_run 32 = .ok (.iload 4, 2) := by decide +kernel
theorem dX8_run_34 : decode cX8_run 34 = .ok (.aload_n 0, 1) := by decide +kernel
theorem dX8_run_35 : decode cX8_run 35 = .ok (.getfield 104, 3) := by decide +kernel
theorem dX8_run_38 : decode cX8_run 38 = .ok (.iload 5, 2) := by decide +kernel
theorem dX8_run_40 : decode cX8_run 40 = .ok (.baload, 1) := by decide +kernel
theorem dX8_run_41 : decode cX8_run 41 = .ok (.ifCond .eq 7, 3) := by decide +kernel
theorem dX8_run_44 : decode cX8_run 44 = .ok (.iconst 1, 1) := by decide +kernel
theorem dX8_run_45 : decode cX8_run 45 = .ok (.goto 4, 3) := by decide +kernel
theorem dX8_run_48 : decode cX8_run 48 = .ok (.iconst 0, 1) := by decide +kernel
theorem dX8_run_49 : decode cX8_run 49 = .ok (.iadd, 1) := by decide +kernel
theorem dX8_run_50 : decode cX8_run 50 = .ok (.istore 4, 2) := by decide +kernel
theorem dX8_run_52 : decode cX8_run 52 = .ok (.iinc 5 1, 3) := by decide +kernel
theorem dX8_run_55 : decode cX8_run 55 = .ok (.goto (-32), 3) := by decide +kernel
theorem dX8_run_58 : decode cX8_run 58 = .ok (.iconst 0, 1) := by decide +kernel
theorem dX8_run_59 : decode cX8_run 59 = .ok (.istore 5, 2) := by decide +kernel
theorem dX8_run_61 : decode cX8_run 61 = .ok (.iconst 0, 1) := by decide +kernel
theorem dX8_run_62 : decode cX8_run 62 = .ok (.istore 6, 2) := by decide +kernel
theorem dX8_run_64 : decode cX8_run 64 = .ok (.iload 6, 2) := by decide +kernel
theorem dX8_run_66 : decode cX8_run 66 = .ok (.aload_n 0, 1) := by decide +kernel
theorem dX8_run_67 : decode cX8_run 67 = .ok (.getfield 123, 3) := by decide +kernel
theorem dX8_run_70 : decode cX8_run 70 = .ok (.if_icmp .ge 29, 3) := by decide +kernel
theorem dX8_run_73 : decode cX8_run 73 = .ok (.iload 5, 2) := by decide +kernel
theorem dX8_run_75 : decode cX8_run 75 = .ok (.aload_n 0, 1) := by decide +kernel
theorem dX8_run_76 : decode cX8_run 76 = .ok (.getfield 107, 3) := by decide +kernel
theorem dX8_run_79 : decode cX8_run 79 = .ok (.iload 6, 2) := by decide +kernel
theorem dX8_run_81 : decode cX8_run 81 = .ok (.baload, 1) := by decide +kernel
theorem dX8_run_82 : decode cX8_run 82 = .ok (.ifCond .eq 7, 3) := by decide +kernel
theorem dX8_run_85 : decode cX8_run 85 = .ok (.iconst 1, 1) := by decide +kernel
theorem dX8_run_86 : decode cX8_run 86 = .ok (.goto 4, 3) := by decide +kernel
theorem dX8_run_89 : decode cX8_run 89 = .ok (.iconst 0, 1) := by decide +kernel
theorem dX8_run_90 : decode cX8_run 90 = .ok (.iadd, 1) := by decide +kernel
theorem dX8_run_91 : decode cX8_run 91 = .ok (.istore 5, 2) := by decide +kernel
theorem dX8_run_93 : decode cX8_run 93 = .ok (.iinc 6 1, 3) := by decide +kernel
theorem dX8_run_96 : decode cX8_run 96 = .ok (.goto (-32), 3) := by decide +kernel
theorem dX8_run_99 : decode cX8_run 99 = .ok (.iload_n 3, 1) := by decide +kernel
theorem dX8_run_100 : decode cX8_run 100 = .ok (.ifCond .ne 10, 3) := by decide +kernel
theorem dX8_run_103 : decode cX8_run 103 = .ok (.aload_n 0, 1) := by decide +kernel
theorem dX8_run_104 : decode cX8_run 104 = .ok (.getfield 256, 3) := by decide +kernel
theorem dX8_run_107 : decode cX8_run 107 = .ok (.goto 51, 3) := by decide +kernel
theorem dX8_run_110 : decode cX8_run 110 = .ok (.iload_n 3, 1) := by decide +kernel
theorem dX8_run_111 : decode cX8_run 111 = .ok (.iconst 1, 1) := by decide +kernel
theorem dX8_run_112 : decode cX8_run 112 = .ok (.if_icmp .ne 8, 3) := by decide +kernel
theorem dX8_run_115 : decode cX8_run 115 = .ok (.iload 4, 2) := by decide +kernel
theorem dX8_run_117 : decode cX8_run 117 = .ok (.goto 41, 3) := by decide +kernel
theorem dX8_run_120 : decode cX8_run 120 = .ok (.iload_n 3, 1) := by decide +kernel
theorem dX8_run_121 : decode cX8_run 121 = .ok (.iconst 2, 1) := by decide +kernel
theorem dX8_run_122 : decode cX8_run 122 = .ok (.if_icmp .ne 10, 3) := by decide +kernel
theorem dX8_run_125 : decode cX8_run 125 = .ok (.aload_n 0, 1) := by decide +kernel
theorem dX8_run_126 : decode cX8_run 126 = .ok (.getfield 268, 3) := by decide +kernel
theorem dX8_run_129 : decode cX8_run 129 = .ok (.goto 29, 3) := by decide +kernel
theorem dX8_run_132 : decode cX8_run 132 = .ok (.iload_n 3, 1) := by decide +kernel
theorem dX8_run_133 : decode cX8_run 133 = .ok (.iconst 3, 1) := by decide +kernel
theorem dX8_run_134 : decode cX8_run 134 = .ok (.if_icmp .ne 8, 3) := by decide +kernel
theorem dX8_run_137 : decode cX8_run 137 = .ok (.iload 5, 2) := by decide +kernel
theorem dX8_run_139 : decode cX8_run 139 = .ok (.goto 19, 3) := by decide +kernel
theorem dX8_run_142 : decode cX8_run 142 = .ok (.iload_n 3, 1) := by decide +kernel
theorem dX8_run_143 : decode cX8_run 143 = .ok (.iconst 4, 1) := by decide +kernel
theorem dX8_run_144 : decode cX8_run 144 = .ok (.if_icmp .ne 10, 3) := by decide +kernel
theorem dX8_run_147 : decode cX8_run 147 = .ok (.aload_n 0, 1) := by decide +kernel
theorem dX8_run_148 : decode cX8_run 148 = .ok (.getfield 259, 3) := by decide +kernel
theorem dX8_run_151 : decode cX8_run 151 = .ok (.goto 7, 3) := by decide +kernel
theorem dX8_run_154 : decode cX8_run 154 = .ok (.aload_n 0, 1) := by decide +kernel
theorem dX8_run_155 : decode cX8_run 155 = .ok (.getfield 262, 3) := by decide +kernel
theorem dX8_run_158 : decode cX8_run 158 = .ok (.ireturn, 1) := by decide +kernel
set_option maxRecDepth 20000 in
theorem ggX8_holds_X8_runAll : GoodIn wsX8_holds wsX8_runAll := goodIn_r _ [6, 7, 8, 9, 10, 11, 1, 12, 13, 14, 15, 16, 17, 18, 19, 20, 21, 5, 22, 23, 24, 25, 26, 27, 28, 29, 30, 31, 32, 33, 34, 35, 36, 37, 38, 39, 40, 41, 42, 43, 44, 45, 46, 47, 48, 49, 50, 51, 52, 53, 54, 55, 56, 57, 58, 59, 60, 61, 62, 63, 64, 65, 66, 67, 68, 69, 70, 71, 72, 73, 74, 75, 76, 77, 78, 79, 80, 81, 82, 83, 84, 85, 86, 87, 88, 89, 90, 91, 92, 93, 94, 95, 96, 97, 98, 99, 100, 101, 102, 103, 104, 105, 106, 107, 108, 109, 110, 111, 112, 113, 114, 115, 116, 117, 118, 119, 120, 121, 122, 123, 124, 125, 126, 127, 128, 129, 130, 131, 132, 133, 134, 135, 136, 137, 138, 139, 140, 141, 142, 143, 144, 145, 146, 147, 148, 149, 150, 151, 152, 153, 154, 155, 156, 157, 158, 159, 160, 161, 162, 163, 164, 165, 166, 167, 168, 169, 170, 171, 172, 173, 174, 175, 176, 177, 178, 179, 180, 181, 182, 183, 184, 185, 186, 187, 188, 189, 190, 191, 192, 193, 194, 195, 196, 197, 198, 199, 200, 201, 202, 203, 204, 205, 206, 207, 208] rfl (by decide +kernel)
set_option maxRecDepth 20000 in
theorem gX8_holds_X8_runAll : GoodIn wsX8_holds (wsV RX8 292 RX8 yX8_runAll wsX8_runAll) := goodIn_app (goodIn_of _ (by decide +kernel)) ggX8_holds_X8_runAll
theorem dX8_holds_0 : decode cX8_holds 0 = .ok (.aload_n 0, 1) := by decide +kernel
theorem dX8_holds_1 : decode cX8_holds 1 = .ok (.lload_n 1, 1) := by decide +kernel
theorem dX8_holds_2 : decode cX8_holds 2 = .ok (.invokevirtual 292, 3) := by decide +kernel
theorem dX8_holds_5 : decode cX8_holds 5 = .ok (.aload_n 0, 1) := by decide +kernel
theorem dX8_holds_6 : decode cX8_holds 6 = .ok (.getfield 250, 3) := by decide +kernel
theorem dX8_holds_9 : decode cX8_holds 9 = .ok (.ireturn, 1) := by decide +kernel
