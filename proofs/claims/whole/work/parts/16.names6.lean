theorem dX8_runCall_71 : decode cX8_runCall 71 = .ok (.if_icmp .ge 65, 3) := by decide +kernel
theorem dX8_runCall_74 : decode cX8_runCall 74 = .ok (.aload_n 0, 1) := by decide +kernel
theorem dX8_runCall_75 : decode cX8_runCall 75 = .ok (.aload_n 0, 1) := by decide +kernel
theorem dX8_runCall_76 : decode cX8_runCall 76 = .ok (.getfield 110, 3) := by decide +kernel
theorem dX8_runCall_79 : decode cX8_runCall 79 = .ok (.iload 5, 2) := by decide +kernel
theorem dX8_runCall_81 : decode cX8_runCall 81 = .ok (.iaload, 1) := by decide +kernel
theorem dX8_runCall_82 : decode cX8_runCall 82 = .ok (.iload_n 2, 1) := by decide +kernel
theorem dX8_runCall_83 : decode cX8_runCall 83 = .ok (.invokevirtual 166, 3) := by decide +kernel
theorem dX8_runCall_86 : decode cX8_runCall 86 = .ok (.ifCond .eq 44, 3) := by decide +kernel
theorem dX8_runCall_89 : decode cX8_runCall 89 = .ok (.iload 4, 2) := by decide +kernel
theorem dX8_runCall_91 : decode cX8_runCall 91 = .ok (.ifCond .ne 36, 3) := by decide +kernel
theorem dX8_runCall_94 : decode cX8_runCall 94 = .ok (.aload_n 0, 1) := by decide +kernel
theorem dX8_runCall_95 : decode cX8_runCall 95 = .ok (.aload_n 0, 1) := by decide +kernel
theorem dX8_runCall_96 : decode cX8_runCall 96 = .ok (.getfield 110, 3) := by decide +kernel
theorem dX8_runCall_99 : decode cX8_runCall 99 = .ok (.iload 5, 2) := by decide +kernel
theorem dX8_runCall_101 : decode cX8_runCall 101 = .ok (.iaload, 1) := by decide +kernel
theorem dX8_runCall_102 : decode cX8_runCall 102 = .ok (.iload_n 2, 1) := by decide +kernel
theorem dX8_runCall_103 : decode cX8_runCall 103 = .ok (.aload_n 0, 1) := by decide +kernel
theorem dX8_runCall_104 : decode cX8_runCall 104 = .ok (.getfield 47, 3) := by decide +kernel
theorem dX8_runCall_107 : decode cX8_runCall 107 = .ok (.iload_n 1, 1) := by decide +kernel
theorem dX8_runCall_108 : decode cX8_runCall 108 = .ok (.iaload, 1) := by decide +kernel
theorem dX8_runCall_109 : decode cX8_runCall 109 = .ok (.invokevirtual 179, 3) := by decide +kernel
theorem dX8_runCall_112 : decode cX8_runCall 112 = .ok (.istore 6, 2) := by decide +kernel
theorem dX8_runCall_114 : decode cX8_runCall 114 = .ok (.iload 6, 2) := by decide +kernel
theorem dX8_runCall_116 : decode cX8_runCall 116 = .ok (.ifCond .lt 11, 3) := by decide +kernel
theorem dX8_runCall_119 : decode cX8_runCall 119 = .ok (.aload_n 0, 1) := by decide +kernel
theorem dX8_runCall_120 : decode cX8_runCall 120 = .ok (.iconst 1, 1) := by decide +kernel
theorem dX8_runCall_121 : decode cX8_runCall 121 = .ok (.iload 6, 2) := by decide +kernel
theorem dX8_runCall_123 : decode cX8_runCall 123 = .ok (.iload_n 1, 1) := by decide +kernel
theorem dX8_runCall_124 : decode cX8_runCall 124 = .ok (.invokevirtual 265, 3) := by decide +kernel
theorem dX8_runCall_127 : decode cX8_runCall 127 = .ok (.iinc 4 (-1), 3) := by decide +kernel
theorem dX8_runCall_130 : decode cX8_runCall 130 = .ok (.iinc 5 1, 3) := by decide +kernel
theorem dX8_runCall_133 : decode cX8_runCall 133 = .ok (.goto (-68), 3) := by decide +kernel
theorem dX8_runCall_136 : decode cX8_runCall 136 = .ok (.return_, 1) := by decide +kernel
set_option maxRecDepth 20000 in
theorem ggX8_runAny_X8_canBeCalled : GoodIn wsX8_runAny wsX8_canBeCalled := goodIn_r _ [8] (by decide +kernel) (by decide +kernel)
set_option maxRecDepth 20000 in
theorem gX8_runAny_X8_canBeCalled : GoodIn wsX8_runAny (va_wsS RX8 153 yX8_canBeCalled wsX8_canBeCalled) := goodIn_app (goodIn_of _ (by decide +kernel)) ggX8_runAny_X8_canBeCalled
set_option maxRecDepth 20000 in
theorem ggX8_runAny_X8_draw : GoodIn wsX8_runAny wsX8_draw := goodIn_r _ [12, 13, 14, 15, 25, 26, 27, 28, 29, 30, 31, 32, 33, 34, 35, 36, 37, 38, 39, 40, 41, 42, 43, 44, 45, 46, 47, 48, 49, 50, 51, 52, 53, 54, 55, 56, 57, 58, 59, 60, 61, 62, 63, 64, 65, 66, 67, 68, 69, 70, 71, 72, 73, 74] (by decide +kernel) (by decide +kernel)
set_option maxRecDepth 20000 in
theorem gX8_runAny_X8_draw : GoodIn wsX8_runAny (wsV RX8 271 RX8 yX8_draw wsX8_draw) := goodIn_app (goodIn_of _ (by decide +kernel)) ggX8_runAny_X8_draw
set_option maxRecDepth 20000 in
theorem ggX8_runAny_X8_push : GoodIn wsX8_runAny wsX8_push := goodIn_r _ [19, 20, 21, 22, 23, 24, 25, 26, 27, 28, 29, 30, 31, 32, 33, 34, 35, 36, 37, 38, 39, 40, 41, 42, 43, 44, 45, 46, 47, 48, 49, 50, 51, 52, 53, 54, 55, 56, 57, 58, 59, 60, 61, 62, 63, 64, 65, 66, 67, 68, 69, 70, 71, 72, 73, 74] (by decide +kernel) (by decide +kernel)
set_option maxRecDepth 20000 in
theorem gX8_runAny_X8_push : GoodIn wsX8_runAny (wsV RX8 265 RX8 yX8_push wsX8_push) := goodIn_app (goodIn_of _ (by decide +kernel)) ggX8_runAny_X8_push
theorem dX8_runAny_0 : decode cX8_runAny 0 = .ok (.iconst 0, 1) := by decide +kernel
theorem dX8_runAny_1 : decode cX8_runAny 1 = .ok (.istore_n 2, 1) := by decide +kernel
theorem dX8_runAny_2 : decode cX8_runAny 2 = .ok (.iconst 0, 1) := by decide +kernel
theorem dX8_runAny_3 : decode cX8_runAny 3 = .ok (.istore_n 3, 1) := by decide +kernel
theorem dX8_runAny_4 : decode cX8_runAny 4 = .ok (.iload_n 3, 1) := by decide +kernel
theorem dX8_runAny_5 : decode cX8_runAny 5 = .ok (.aload_n 0, 1) := by decide +kernel
theorem dX8_runAny_6 : decode cX8_runAny 6 = .ok (.getfield 131, 3) := by decide +kernel
theorem dX8_runAny_9 : decode cX8_runAny 9 = .ok (.if_icmp .ge 44, 3) := by decide +kernel
theorem dX8_runAny_12 : decode cX8_runAny 12 = .ok (.iload_n 2, 1) := by decide +kernel
theorem dX8_runAny_13 : decode cX8_runAny 13 = .ok (.aload_n 0, 1) := by decide +kernel
theorem dX8_runAny_14 : decode cX8_runAny 14 = .ok (.getfield 25, 3) := by decide +kernel
theorem dX8_runAny_17 : decode cX8_runAny 17 = .ok (.iload_n 3, 1) := by decide +kernel
theorem dX8_runAny_18 : decode cX8_runAny 18 = .ok (.iaload, 1) := by decide +kernel
theorem dX8_runAny_19 : decode cX8_runAny 19 = .ok (.aload_n 0, 1) := by decide +kernel
theorem dX8_runAny_20 : decode cX8_runAny 20 = .ok (.getfield 47, 3) := by decide +kernel
theorem dX8_runAny_23 : decode cX8_runAny 23 = .ok (.iload_n 1, 1) := by decide +kernel
theorem dX8_runAny_24 : decode cX8_runAny 24 = .ok (.iaload, 1) := by decide +kernel
theorem dX8_runAny_25 : decode cX8_runAny 25 = .ok (.if_icmp .ne 19, 3) := by decide +kernel
theorem dX8_runAny_28 : decode cX8_runAny 28 = .ok (.aload_n 0, 1) := by decide +kernel
theorem dX8_runAny_29 : decode cX8_runAny 29 = .ok (.getfield 28, 3) := by decide +kernel
theorem dX8_runAny_32 : decode cX8_runAny 32 = .ok (.iload_n 3, 1) := by decide +kernel
theorem dX8_runAny_33 : decode cX8_runAny 33 = .ok (.iaload, 1) := by decide +kernel
theorem dX8_runAny_34 : decode cX8_runAny 34 = .ok (.invokestatic 153, 3) := by decide +kernel
theorem dX8_runAny_37 : decode cX8_runAny 37 = .ok (.ifCond .eq 7, 3) := by decide +kernel
theorem dX8_runAny_40 : decode cX8_runAny 40 = .ok (.iconst 1, 1) := by decide +kernel
theorem dX8_runAny_41 : decode cX8_runAny 41 = .ok (.goto 4, 3) := by decide +kernel
theorem dX8_runAny_44 : decode cX8_runAny 44 = .ok (.iconst 0, 1) := by decide +kernel
theorem dX8_runAny_45 : decode cX8_runAny 45 = .ok (.iadd, 1) := by decide +kernel
theorem dX8_runAny_46 : decode cX8_runAny 46 = .ok (.istore_n 2, 1) := by decide +kernel
theorem dX8_runAny_47 : decode cX8_runAny 47 = .ok (.iinc 3 1, 3) := by decide +kernel
theorem dX8_runAny_50 : decode cX8_runAny 50 = .ok (.goto (-46), 3) := by decide +kernel
theorem dX8_runAny_53 : decode cX8_runAny 53 = .ok (.iload_n 2, 1) := by decide +kernel
theorem dX8_runAny_54 : decode cX8_runAny 54 = .ok (.ifCond .ne 7, 3) := by decide +kernel
theorem dX8_runAny_57 : decode cX8_runAny 57 = .ok (.iconst (-1), 1) := by decide +kernel
theorem dX8_runAny_58 : decode cX8_runAny 58 = .ok (.goto 8, 3) := by decide +kernel
theorem dX8_runAny_61 : decode cX8_runAny 61 = .ok (.aload_n 0, 1) := by decide +kernel
theorem dX8_runAny_62 : decode cX8_runAny 62 = .ok (.iload_n 2, 1) := by decide +kernel
theorem dX8_runAny_63 : decode cX8_runAny 63 = .ok (.invokevirtual 271, 3) := by decide +kernel
theorem dX8_runAny_66 : decode cX8_runAny 66 = .ok (.istore_n 3, 1) := by decide +kernel
theorem dX8_runAny_67 : decode cX8_runAny 67 = .ok (.iconst 0, 1) := by decide +kernel
theorem dX8_runAny_68 : decode cX8_runAny 68 = .ok (.istore 4, 2) := by decide +kernel
theorem dX8_runAny_70 : decode cX8_runAny 70 = .ok (.iload 4, 2) := by decide +kernel
theorem dX8_runAny_72 : decode cX8_runAny 72 = .ok (.aload_n 0, 1) := by decide +kernel
theorem dX8_runAny_73 : decode cX8_runAny 73 = .ok (.getfield 131, 3) := by decide +kernel
theorem dX8_runAny_76 : decode cX8_runAny 76 = .ok (.if_icmp .ge 57, 3) := by decide +kernel
theorem dX8_runAny_79 : decode cX8_runAny 79 = .ok (.iload_n 2, 1) := by decide +kernel
theorem dX8_runAny_80 : decode cX8_runAny 80 = .ok (.ifCond .le 53, 3) := by decide +kernel
theorem dX8_runAny_83 : decode cX8_runAny 83 = .ok (.aload_n 0, 1) := by decide +kernel
theorem dX8_runAny_84 : decode cX8_runAny 84 = .ok (.getfield 25, 3) := by decide +kernel
theorem dX8_runAny_87 : decode cX8_runAny 87 = .ok (.iload 4, 2) := by decide +kernel
theorem dX8_runAny_89 : decode cX8_runAny 89 = .ok (.iaload, 1) := by decide +kernel
theorem dX8_runAny_90 : decode cX8_runAny 90 = .ok (.aload_n 0, 1) := by decide +kernel
theorem dX8_runAny_91 : decode cX8_runAny 91 = .ok (.getfield 47, 3) := by decide +kernel
theorem dX8_runAny_94 : decode cX8_runAny 94 = .ok (.iload_n 1, 1) := by decide +kernel
theorem dX8_runAny_95 : decode cX8_runAny 95 = .ok (.iaload, 1) := by decide +kernel
theorem dX8_runAny_96 : decode cX8_runAny 96 = .ok (.if_icmp .ne 31, 3) := by decide +kernel
theorem dX8_runAny_99 : decode cX8_runAny 99 = .ok (.aload_n 0, 1) := by decide +kernel
theorem dX8_runAny_100 : decode cX8_runAny 100 = .ok (.getfield 28, 3) := by decide +kernel
theorem dX8_runAny_103 : decode cX8_runAny 103 = .ok (.iload 4, 2) := by decide +kernel
theorem dX8_runAny_105 : decode cX8_runAny 105 = .ok (.iaload, 1) := by decide +kernel
theorem dX8_runAny_106 : decode cX8_runAny 106 = .ok (.invokestatic 153, 3) := by decide +kernel
theorem dX8_runAny_109 : decode cX8_runAny 109 = .ok (.ifCond .eq 18, 3) := by decide +kernel
theorem dX8_runAny_112 : decode cX8_runAny 112 = .ok (.iload_n 3, 1) := by decide +kernel
theorem dX8_runAny_113 : decode cX8_runAny 113 = .ok (.ifCond .ne 11, 3) := by decide +kernel
theorem dX8_runAny_116 : decode cX8_runAny 116 = .ok (.aload_n 0, 1) := by decide +kernel
theorem dX8_runAny_117 : decode cX8_runAny 117 = .ok (.iconst 1, 1) := by decide +kernel
theorem dX8_runAny_118 : decode cX8_runAny 118 = .ok (.iload 4, 2) := by decide +kernel
theorem dX8_runAny_120 : decode cX8_runAny 120 = .ok (.iload_n 1, 1) := by decide +kernel
theorem dX8_runAny_121 : decode cX8_runAny 121 = .ok (.invokevirtual 265, 3) := by decide +kernel
theorem dX8_runAny_124 : decode cX8_runAny 124 = .ok (.iinc 3 (-1), 3) := by decide +kernel
theorem dX8_runAny_127 : decode cX8_runAny 127 = .ok (.iinc 4 1, 3) := by decide +kernel
theorem dX8_runAny_130 : decode cX8_runAny 130 = .ok (.goto (-60), 3) := by decide +kernel
theorem dX8_runAny_133 : decode cX8_runAny 133 = .ok (.return_, 1) := by decide +kernel
set_option maxRecDepth 20000 in
theorem ggX8_runOp_X8_push : GoodIn wsX8_runOp wsX8_push := goodIn_r _ [12, 13, 14, 15, 16, 17, 78, 79, 80, 81, 82, 83, 84, 85, 86, 87, 88, 89, 90, 91, 92, 93, 94, 95, 96, 97, 98, 99, 100, 101, 102, 103, 104, 105, 106, 107, 108, 109, 110, 111, 112, 113, 114, 115, 116, 117, 118, 119, 120, 121, 122, 123, 124, 125, 126, 127] (by decide +kernel) (by decide +kernel)
set_option maxRecDepth 20000 in
theorem gX8_runOp_X8_push : GoodIn wsX8_runOp (wsV RX8 265 RX8 yX8_push wsX8_push) := goodIn_app (goodIn_of _ (by decide +kernel)) ggX8_runOp_X8_push
set_option maxRecDepth 20000 in
theorem ggX8_runOp_X8_chosenOf : GoodIn wsX8_runOp wsX8_chosenOf := goodIn_r _ [21, 4, 22, 23, 24, 11, 25, 26, 27, 28, 29, 30, 31, 32, 33, 5, 34, 35, 36, 37, 38, 39, 40, 41, 42, 43, 44, 45, 46, 47, 48, 49, 50, 51, 52, 53, 54, 55, 56, 57, 78, 79, 80, 81, 82, 83, 84, 85, 86, 87, 88, 89, 90, 91, 92, 93, 94, 95, 96, 97, 98, 99, 100, 101, 102, 103, 104, 105, 106, 107, 108, 109, 110, 111, 112, 113, 114, 115, 116, 117, 118, 119, 120, 121, 122, 123, 124, 125, 126, 127] (by decide +kernel) (by decide +kernel)
set_option maxRecDepth 20000 in
theorem gX8_runOp_X8_chosenOf : GoodIn wsX8_runOp (wsV RX8 179 RX8 yX8_chosenOf wsX8_chosenOf) := goodIn_app (goodIn_of _ (by decide +kernel)) ggX8_runOp_X8_chosenOf
set_option maxRecDepth 20000 in
theorem ggX8_runOp_X8_find : GoodIn wsX8_runOp wsX8_find := goodIn_r _ [25, 26, 27, 28, 29, 4, 30, 31, 32, 11, 33, 5, 34, 35, 36, 37, 38, 39, 40, 41, 42, 43, 44, 45, 46, 47, 48, 49, 50, 51, 52, 53, 78, 79, 80, 81, 82, 83, 84, 85, 86, 87, 88, 89, 90, 91, 92, 93, 94, 95, 96, 97, 98, 99, 100, 101, 102, 103, 104, 105, 106, 107, 108, 109, 110, 111, 112, 113, 114, 115, 116, 117, 118, 119, 120, 121, 122, 123, 124, 125, 126, 127] (by decide +kernel) (by decide +kernel)
set_option maxRecDepth 20000 in
theorem gX8_runOp_X8_find : GoodIn wsX8_runOp (wsV RX8 173 RX8 yX8_find wsX8_find) := goodIn_app (goodIn_of _ (by decide +kernel)) ggX8_runOp_X8_find
set_option maxRecDepth 20000 in
theorem ggX8_runOp_X8_draw : GoodIn wsX8_runOp wsX8_draw := goodIn_r _ [61, 62, 63, 64, 78, 79, 80, 81, 82, 83, 84, 85, 86, 87, 88, 89, 90, 91, 92, 93, 94, 95, 96, 97, 98, 99, 100, 101, 102, 103, 104, 105, 106, 107, 108, 109, 110, 111, 112, 113, 114, 115, 116, 117, 118, 119, 120, 121, 122, 123, 124, 125, 126, 127] (by decide +kernel) (by decide +kernel)
set_option maxRecDepth 20000 in
theorem gX8_runOp_X8_draw : GoodIn wsX8_runOp (wsV RX8 271 RX8 yX8_draw wsX8_draw) := goodIn_app (goodIn_of _ (by decide +kernel)) ggX8_runOp_X8_draw
set_option maxRecDepth 20000 in
theorem ggX8_runOp_X8_runAny : GoodIn wsX8_runOp wsX8_runAny := goodIn_r _ [68, 28, 34, 2, 4, 69, 70, 11, 71, 58, 59, 60, 61, 62, 63, 64, 8, 9, 10, 12, 13, 14, 15, 16, 17, 78, 79, 80, 81, 82, 83, 84, 85, 86, 87, 88, 89, 90, 91, 92, 93, 94, 95, 96, 97, 98, 99, 100, 101, 102, 103, 104, 105, 106, 107, 108, 109, 110, 111, 112, 113, 114, 115, 116, 117, 118, 119, 120, 121, 122, 123, 124, 125, 126, 127] (by decide +kernel) (by decide +kernel)
set_option maxRecDepth 20000 in
theorem gX8_runOp_X8_runAny : GoodIn wsX8_runOp (wsV RX8 274 RX8 yX8_runAny wsX8_runAny) := goodIn_app (goodIn_of _ (by decide +kernel)) ggX8_runOp_X8_runAny
set_option maxRecDepth 20000 in
theorem ggX8_runOp_X8_runCall : GoodIn wsX8_runOp wsX8_runCall := goodIn_r _ [75, 1, 76, 77, 2, 41, 42, 43, 11, 44, 45, 40, 46, 47, 48, 49, 50, 51, 27, 52, 53, 58, 59, 60, 61, 62, 63, 64, 18, 19, 20, 21, 4, 22, 23, 24, 25, 26, 28, 29, 30, 31, 32, 33, 5, 34, 35, 36, 37, 38, 39, 54, 55, 56, 57, 8, 9, 10, 12, 13, 14, 15, 16, 17, 78, 79, 80, 81, 82, 83, 84, 85, 86, 87, 88, 89, 90, 91, 92, 93, 94, 95, 96, 97, 98, 99, 100, 101, 102, 103, 104, 105, 106, 107, 108, 109, 110, 111, 112, 113, 114, 115, 116, 117, 118, 119, 120, 121, 122, 123, 124, 125, 126, 127] (by decide +kernel) (by decide +kernel)
set_option maxRecDepth 20000 in
theorem gX8_runOp_X8_runCall : GoodIn wsX8_runOp (wsV RX8 277 RX8 yX8_runCall wsX8_runCall) := goodIn_app (goodIn_of _ (by decide +kernel)) ggX8_runOp_X8_runCall
theorem dX8_runOp_0 : decode cX8_runOp 0 = .ok (.aload_n 0, 1) := by decide +kernel
theorem dX8_runOp_1 : decode cX8_runOp 1 = .ok (.getfield 44, 3) := by decide +kernel
theorem dX8_runOp_4 : decode cX8_runOp 4 = .ok (.iload_n 1, 1) := by decide +kernel
theorem dX8_runOp_5 : decode cX8_runOp 5 = .ok (.iaload, 1) := by decide +kernel
theorem dX8_runOp_6 : decode cX8_runOp 6 = .ok (.istore_n 2, 1) := by decide +kernel
theorem dX8_runOp_7 : decode cX8_runOp 7 = .ok (.aload_n 0, 1) := by decide +kernel
theorem dX8_runOp_8 : decode cX8_runOp 8 = .ok (.getfield 47, 3) := by decide +kernel
theorem dX8_runOp_11 : decode cX8_runOp 11 = .ok (.iload_n 1, 1) := by decide +kernel
theorem dX8_runOp_12 : decode cX8_runOp 12 = .ok (.iaload, 1) := by decide +kernel
theorem dX8_runOp_13 : decode cX8_runOp 13 = .ok (.istore_n 3, 1) := by decide +kernel
theorem dX8_runOp_14 : decode cX8_runOp 14 = .ok (.iconst (-1), 1) := by decide +kernel
theorem dX8_runOp_15 : decode cX8_runOp 15 = .ok (.istore 4, 2) := by decide +kernel
theorem dX8_runOp_17 : decode cX8_runOp 17 = .ok (.aload_n 0, 1) := by decide +kernel
theorem dX8_runOp_18 : decode cX8_runOp 18 = .ok (.getfield 41, 3) := by decide +kernel
theorem dX8_runOp_21 : decode cX8_runOp 21 = .ok (.iload_n 1, 1) := by decide +kernel
theorem dX8_runOp_22 : decode cX8_runOp 22 = .ok (.iaload, 1) := by decide +kernel
theorem dX8_runOp_23 : decode cX8_runOp 23 = .ok (.tableswitch 268 0 7 #[45, 268, 62, 87, 268, 136, 222, 260], 45) := by decide +kernel
theorem dX8_runOp_68 : decode cX8_runOp 68 = .ok (.aload_n 0, 1) := by decide +kernel
theorem dX8_runOp_69 : decode cX8_runOp 69 = .ok (.iconst 3, 1) := by decide +kernel
theorem dX8_runOp_70 : decode cX8_runOp 70 = .ok (.iload_n 2, 1) := by decide +kernel
theorem dX8_runOp_71 : decode cX8_runOp 71 = .ok (.iload_n 1, 1) := by decide +kernel
theorem dX8_runOp_72 : decode cX8_runOp 72 = .ok (.invokevirtual 265, 3) := by decide +kernel
theorem dX8_runOp_75 : decode cX8_runOp 75 = .ok (.aload_n 0, 1) := by decide +kernel
theorem dX8_runOp_76 : decode cX8_runOp 76 = .ok (.iconst 2, 1) := by decide +kernel
theorem dX8_runOp_77 : decode cX8_runOp 77 = .ok (.iload_n 2, 1) := by decide +kernel
theorem dX8_runOp_78 : decode cX8_runOp 78 = .ok (.iload_n 1, 1) := by decide +kernel
theorem dX8_runOp_79 : decode cX8_runOp 79 = .ok (.invokevirtual 265, 3) := by decide +kernel
theorem dX8_runOp_82 : decode cX8_runOp 82 = .ok (.goto 214, 3) := by decide +kernel
theorem dX8_runOp_85 : decode cX8_runOp 85 = .ok (.aload_n 0, 1) := by decide +kernel
theorem dX8_runOp_86 : decode cX8_runOp 86 = .ok (.iload_n 2, 1) := by decide +kernel
theorem dX8_runOp_87 : decode cX8_runOp 87 = .ok (.iload_n 2, 1) := by decide +kernel
theorem dX8_runOp_88 : decode cX8_runOp 88 = .ok (.iload_n 3, 1) := by decide +kernel
theorem dX8_runOp_89 : decode cX8_runOp 89 = .ok (.invokevirtual 179, 3) := by decide +kernel
theorem dX8_runOp_92 : decode cX8_runOp 92 = .ok (.istore 4, 2) := by decide +kernel
theorem dX8_runOp_94 : decode cX8_runOp 94 = .ok (.iload 4, 2) := by decide +kernel
theorem dX8_runOp_96 : decode cX8_runOp 96 = .ok (.ifCond .lt 200, 3) := by decide +kernel
theorem dX8_runOp_99 : decode cX8_runOp 99 = .ok (.aload_n 0, 1) := by decide +kernel
theorem dX8_runOp_100 : decode cX8_runOp 100 = .ok (.iconst 1, 1) := by decide +kernel
theorem dX8_runOp_101 : decode cX8_runOp 101 = .ok (.iload 4, 2) := by decide +kernel
theorem dX8_runOp_103 : decode cX8_runOp 103 = .ok (.iload_n 1, 1) := by decide +kernel
theorem dX8_runOp_104 : decode cX8_runOp 104 = .ok (.invokevirtual 265, 3) := by decide +kernel
theorem dX8_runOp_107 : decode cX8_runOp 107 = .ok (.goto 189, 3) := by decide +kernel
theorem dX8_runOp_110 : decode cX8_runOp 110 = .ok (.aload_n 0, 1) := by decide +kernel
theorem dX8_runOp_111 : decode cX8_runOp 111 = .ok (.iload_n 2, 1) := by decide +kernel
theorem dX8_runOp_112 : decode cX8_runOp 112 = .ok (.iload_n 3, 1) := by decide +kernel
theorem dX8_runOp_113 : decode cX8_runOp 113 = .ok (.invokevirtual 173, 3) := by decide +kernel
theorem dX8_runOp_116 : decode cX8_runOp 116 = .ok (.istore 4, 2) := by decide +kernel
theorem dX8_runOp_118 : decode cX8_runOp 118 = .ok (.iload 4, 2) := by decide +kernel
theorem dX8_runOp_120 : decode cX8_runOp 120 = .ok (.iconst (-1), 1) := by decide +kernel
theorem dX8_runOp_121 : decode cX8_runOp 121 = .ok (.if_icmp .eq 175, 3) := by decide +kernel
theorem dX8_runOp_124 : decode cX8_runOp 124 = .ok (.aload_n 0, 1) := by decide +kernel
theorem dX8_runOp_125 : decode cX8_runOp 125 = .ok (.getfield 28, 3) := by decide +kernel
theorem dX8_runOp_128 : decode cX8_runOp 128 = .ok (.iload 4, 2) := by decide +kernel
theorem dX8_runOp_130 : decode cX8_runOp 130 = .ok (.iaload, 1) := by decide +kernel
theorem dX8_runOp_131 : decode cX8_runOp 131 = .ok (.iconst 2, 1) := by decide +kernel
theorem dX8_runOp_132 : decode cX8_runOp 132 = .ok (.if_icmp .ne 164, 3) := by decide +kernel
theorem dX8_runOp_135 : decode cX8_runOp 135 = .ok (.aload_n 0, 1) := by decide +kernel
theorem dX8_runOp_136 : decode cX8_runOp 136 = .ok (.iconst 1, 1) := by decide +kernel
theorem dX8_runOp_137 : decode cX8_runOp 137 = .ok (.iload 4, 2) := by decide +kernel
theorem dX8_runOp_139 : decode cX8_runOp 139 = .ok (.iload_n 1, 1) := by decide +kernel
theorem dX8_runOp_140 : decode cX8_runOp 140 = .ok (.invokevirtual 265, 3) := by decide +kernel
theorem dX8_runOp_143 : decode cX8_runOp 143 = .ok (.aload_n 0, 1) := by decide +kernel
theorem dX8_runOp_144 : decode cX8_runOp 144 = .ok (.iconst 2, 1) := by decide +kernel
theorem dX8_runOp_145 : decode cX8_runOp 145 = .ok (.aload_n 0, 1) := by decide +kernel
theorem dX8_runOp_146 : decode cX8_runOp 146 = .ok (.getfield 22, 3) := by decide +kernel
theorem dX8_runOp_149 : decode cX8_runOp 149 = .ok (.iload 4, 2) := by decide +kernel
theorem dX8_runOp_151 : decode cX8_runOp 151 = .ok (.iaload, 1) := by decide +kernel
theorem dX8_runOp_152 : decode cX8_runOp 152 = .ok (.iload_n 1, 1) := by decide +kernel
theorem dX8_runOp_153 : decode cX8_runOp 153 = .ok (.invokevirtual 265, 3) := by decide +kernel
theorem dX8_runOp_156 : decode cX8_runOp 156 = .ok (.goto 140, 3) := by decide +kernel
theorem dX8_runOp_159 : decode cX8_runOp 159 = .ok (.iconst 0, 1) := by decide +kernel
theorem dX8_runOp_160 : decode cX8_runOp 160 = .ok (.istore 5, 2) := by decide +kernel
theorem dX8_runOp_162 : decode cX8_runOp 162 = .ok (.iconst 0, 1) := by decide +kernel
theorem dX8_runOp_163 : decode cX8_runOp 163 = .ok (.istore 6, 2) := by decide +kernel
theorem dX8_runOp_165 : decode cX8_runOp 165 = .ok (.iload 6, 2) := by decide +kernel
theorem dX8_runOp_167 : decode cX8_runOp 167 = .ok (.aload_n 0, 1) := by decide +kernel
theorem dX8_runOp_168 : decode cX8_runOp 168 = .ok (.getfield 116, 3) := by decide +kernel
theorem dX8_runOp_171 : decode cX8_runOp 171 = .ok (.iload_n 2, 1) := by decide +kernel
theorem dX8_runOp_172 : decode cX8_runOp 172 = .ok (.iaload, 1) := by decide +kernel
theorem dX8_runOp_173 : decode cX8_runOp 173 = .ok (.if_icmp .ge 37, 3) := by decide +kernel
theorem dX8_runOp_176 : decode cX8_runOp 176 = .ok (.iload 5, 2) := by decide +kernel
theorem dX8_runOp_178 : decode cX8_runOp 178 = .ok (.ifCond .ne 19, 3) := by decide +kernel
theorem dX8_runOp_181 : decode cX8_runOp 181 = .ok (.aload_n 0, 1) := by decide +kernel
theorem dX8_runOp_182 : decode cX8_runOp 182 = .ok (.getfield 113, 3) := by decide +kernel
theorem dX8_runOp_185 : decode cX8_runOp 185 = .ok (.bipush 48, 2) := by decide +kernel
theorem dX8_runOp_187 : decode cX8_runOp 187 = .ok (.iload_n 2, 1) := by decide +kernel
theorem dX8_runOp_188 : decode cX8_runOp 188 = .ok (.imul, 1) := by decide +kernel
theorem dX8_runOp_189 : decode cX8_runOp 189 = .ok (.iload 6, 2) := by decide +kernel
theorem dX8_runOp_191 : decode cX8_runOp 191 = .ok (.iadd, 1) := by decide +kernel
theorem dX8_runOp_192 : decode cX8_runOp 192 = .ok (.iaload, 1) := by decide +kernel
theorem dX8_runOp_193 : decode cX8_runOp 193 = .ok (.iload_n 3, 1) := by decide +kernel
theorem dX8_runOp_194 : decode cX8_runOp 194 = .ok (.if_icmp .ne 7, 3) := by decide +kernel
theorem dX8_runOp_197 : decode cX8_runOp 197 = .ok (.iconst 1, 1) := by decide +kernel
theorem dX8_runOp_198 : decode cX8_runOp 198 = .ok (.goto 4, 3) := by decide +kernel
theorem dX8_runOp_201 : decode cX8_runOp 201 = .ok (.iconst 0, 1) := by decide +kernel
theorem dX8_runOp_202 : decode cX8_runOp 202 = .ok (.istore 5, 2) := by decide +kernel
theorem dX8_runOp_204 : decode cX8_runOp 204 = .ok (.iinc 6 1, 3) := by decide +kernel
theorem dX8_runOp_207 : decode cX8_runOp 207 = .ok (.goto (-42), 3) := by decide +kernel
theorem dX8_runOp_210 : decode cX8_runOp 210 = .ok (.iload 5, 2) := by decide +kernel
theorem dX8_runOp_212 : decode cX8_runOp 212 = .ok (.ifCond .ne 84, 3) := by decide +kernel
theorem dX8_runOp_215 : decode cX8_runOp 215 = .ok (.aload_n 0, 1) := by decide +kernel
theorem dX8_runOp_216 : decode cX8_runOp 216 = .ok (.getfield 113, 3) := by decide +kernel
theorem dX8_runOp_219 : decode cX8_runOp 219 = .ok (.bipush 48, 2) := by decide +kernel
theorem dX8_runOp_221 : decode cX8_runOp 221 = .ok (.iload_n 2, 1) := by decide +kernel
theorem dX8_runOp_222 : decode cX8_runOp 222 = .ok (.imul, 1) := by decide +kernel
theorem dX8_runOp_223 : decode cX8_runOp 223 = .ok (.aload_n 0, 1) := by decide +kernel
theorem dX8_runOp_224 : decode cX8_runOp 224 = .ok (.getfield 116, 3) := by decide +kernel
theorem dX8_runOp_227 : decode cX8_runOp 227 = .ok (.iload_n 2, 1) := by decide +kernel
theorem dX8_runOp_228 : decode cX8_runOp 228 = .ok (.iaload, 1) := by decide +kernel
theorem dX8_runOp_229 : decode cX8_runOp 229 = .ok (.iadd, 1) := by decide +kernel
theorem dX8_runOp_230 : decode cX8_runOp 230 = .ok (.iload_n 3, 1) := by decide +kernel
theorem dX8_runOp_231 : decode cX8_runOp 231 = .ok (.iastore, 1) := by decide +kernel
theorem dX8_runOp_232 : decode cX8_runOp 232 = .ok (.aload_n 0, 1) := by decide +kernel
theorem dX8_runOp_233 : decode cX8_runOp 233 = .ok (.getfield 116, 3) := by decide +kernel
theorem dX8_runOp_236 : decode cX8_runOp 236 = .ok (.iload_n 2, 1) := by decide +kernel
theorem dX8_runOp_237 : decode cX8_runOp 237 = .ok (.dup2, 1) := by decide +kernel
theorem dX8_runOp_238 : decode cX8_runOp 238 = .ok (.iaload, 1) := by decide +kernel
theorem dX8_runOp_239 : decode cX8_runOp 239 = .ok (.iconst 1, 1) := by decide +kernel
theorem dX8_runOp_240 : decode cX8_runOp 240 = .ok (.iadd, 1) := by decide +kernel
theorem dX8_runOp_241 : decode cX8_runOp 241 = .ok (.iastore, 1) := by decide +kernel
theorem dX8_runOp_242 : decode cX8_runOp 242 = .ok (.goto 54, 3) := by decide +kernel
theorem dX8_runOp_245 : decode cX8_runOp 245 = .ok (.aload_n 0, 1) := by decide +kernel
theorem dX8_runOp_246 : decode cX8_runOp 246 = .ok (.getfield 116, 3) := by decide +kernel
theorem dX8_runOp_249 : decode cX8_runOp 249 = .ok (.iload_n 2, 1) := by decide +kernel
theorem dX8_runOp_250 : decode cX8_runOp 250 = .ok (.iaload, 1) := by decide +kernel
theorem dX8_runOp_251 : decode cX8_runOp 251 = .ok (.ifCond .le 45, 3) := by decide +kernel
theorem dX8_runOp_254 : decode cX8_runOp 254 = .ok (.aload_n 0, 1) := by decide +kernel
theorem dX8_runOp_255 : decode cX8_runOp 255 = .ok (.iconst 1, 1) := by decide +kernel
theorem dX8_runOp_256 : decode cX8_runOp 256 = .ok (.aload_n 0, 1) := by decide +kernel
theorem dX8_runOp_257 : decode cX8_runOp 257 = .ok (.getfield 113, 3) := by decide +kernel
theorem dX8_runOp_260 : decode cX8_runOp 260 = .ok (.bipush 48, 2) := by decide +kernel
theorem dX8_runOp_262 : decode cX8_runOp 262 = .ok (.iload_n 2, 1) := by decide +kernel
theorem dX8_runOp_263 : decode cX8_runOp 263 = .ok (.imul, 1) := by decide +kernel
theorem dX8_runOp_264 : decode cX8_runOp 264 = .ok (.aload_n 0, 1) := by decide +kernel
theorem dX8_runOp_265 : decode cX8_runOp 265 = .ok (.aload_n 0, 1) := by decide +kernel
theorem dX8_runOp_266 : decode cX8_runOp 266 = .ok (.getfield 116, 3) := by decide +kernel
theorem dX8_runOp_269 : decode cX8_runOp 269 = .ok (.iload_n 2, 1) := by decide +kernel
theorem dX8_runOp_270 : decode cX8_runOp 270 = .ok (.iaload, 1) := by decide +kernel
theorem dX8_runOp_271 : decode cX8_runOp 271 = .ok (.invokevirtual 271, 3) := by decide +kernel
theorem dX8_runOp_274 : decode cX8_runOp 274 = .ok (.iadd, 1) := by decide +kernel
theorem dX8_runOp_275 : decode cX8_runOp 275 = .ok (.iaload, 1) := by decide +kernel
theorem dX8_runOp_276 : decode cX8_runOp 276 = .ok (.iload_n 1, 1) := by decide +kernel
theorem dX8_runOp_277 : decode cX8_runOp 277 = .ok (.invokevirtual 265, 3) := by decide +kernel
theorem dX8_runOp_280 : decode cX8_runOp 280 = .ok (.goto 16, 3) := by decide +kernel
theorem dX8_runOp_283 : decode cX8_runOp 283 = .ok (.aload_n 0, 1) := by decide +kernel
theorem dX8_runOp_284 : decode cX8_runOp 284 = .ok (.iload_n 1, 1) := by decide +kernel
theorem dX8_runOp_285 : decode cX8_runOp 285 = .ok (.invokevirtual 274, 3) := by decide +kernel
theorem dX8_runOp_288 : decode cX8_runOp 288 = .ok (.goto 8, 3) := by decide +kernel
theorem dX8_runOp_291 : decode cX8_runOp 291 = .ok (.aload_n 0, 1) := by decide +kernel
theorem dX8_runOp_292 : decode cX8_runOp 292 = .ok (.iload_n 1, 1) := by decide +kernel
theorem dX8_runOp_293 : decode cX8_runOp 293 = .ok (.invokevirtual 277, 3) := by decide +kernel
theorem dX8_runOp_296 : decode cX8_runOp 296 = .ok (.return_, 1) := by decide +kernel
set_option maxRecDepth 20000 in
theorem ggX8_doNext_X8_draw : GoodIn wsX8_doNext wsX8_draw := goodIn_r _ [17, 18, 19, 20, 107, 108, 109, 110, 111, 112, 113, 114, 115, 116, 117, 118, 119, 120, 121, 122, 123, 124, 125, 126, 127, 128, 129, 130, 131, 132, 133, 134, 135, 136, 137, 138, 139, 140, 141, 142, 143, 144, 145, 146, 147, 148, 149, 150, 151, 152, 153, 154, 155, 156] (by decide +kernel) (by decide +kernel)
set_option maxRecDepth 20000 in
theorem gX8_doNext_X8_draw : GoodIn wsX8_doNext (wsV RX8 271 RX8 yX8_draw wsX8_draw) := goodIn_app (goodIn_of _ (by decide +kernel)) ggX8_doNext_X8_draw
set_option maxRecDepth 20000 in
theorem ggX8_doNext_X8_runOp : GoodIn wsX8_doNext wsX8_runOp := goodIn_r _ [24, 25, 26, 27, 28, 29, 30, 31, 32, 33, 34, 16, 35, 3, 1, 2, 4, 8, 36, 37, 38, 39, 40, 41, 42, 43, 44, 45, 46, 47, 48, 49, 50, 51, 52, 53, 54, 55, 56, 57, 58, 59, 60, 61, 62, 63, 64, 65, 66, 67, 68, 69, 70, 71, 72, 73, 74, 75, 13, 14, 15, 17, 18, 19, 20, 76, 77, 78, 79, 80, 81, 82, 83, 84, 85, 86, 11, 12, 107, 108, 109, 110, 111, 112, 113, 114, 115, 116, 117, 118, 119, 120, 121, 122, 123, 124, 125, 126, 127, 128, 129, 130, 131, 132, 133, 134, 135, 136, 137, 138, 139, 140, 141, 142, 143, 144, 145, 146, 147, 148, 149, 150, 151, 152, 153, 154, 155, 156] (by decide +kernel) (by decide +kernel)
set_option maxRecDepth 20000 in
theorem gX8_doNext_X8_runOp : GoodIn wsX8_doNext (wsV RX8 280 RX8 yX8_runOp wsX8_runOp) := goodIn_app (goodIn_of _ (by decide +kernel)) ggX8_doNext_X8_runOp
set_option maxRecDepth 20000 in
theorem ggX8_doNext_X8_runNow : GoodIn wsX8_doNext wsX8_runNow := goodIn_r _ [90, 9, 91, 92, 6, 93, 94, 95, 96, 32, 33, 34, 16, 35, 3, 1, 2, 4, 8, 107, 108, 109, 110, 111, 112, 113, 114, 115, 116, 117, 118, 119, 120, 121, 122, 123, 124, 125, 126, 127, 128, 129, 130, 131, 132, 133, 134, 135, 136, 137, 138, 139, 140, 141, 142, 143, 144, 145, 146, 147, 148, 149, 150, 151, 152, 153, 154, 155, 156] (by decide +kernel) (by decide +kernel)
set_option maxRecDepth 20000 in
theorem gX8_doNext_X8_runNow : GoodIn wsX8_doNext (wsV RX8 283 RX8 yX8_runNow wsX8_runNow) := goodIn_app (goodIn_of _ (by decide +kernel)) ggX8_doNext_X8_runNow
set_option maxRecDepth 20000 in
theorem ggX8_doNext_X8_beginNow : GoodIn wsX8_doNext wsX8_beginNow := goodIn_r _ [100, 101, 9, 102, 44, 58, 45, 48, 49, 50, 16, 51, 46, 29, 52, 32, 33, 34, 35, 3, 1, 2, 4, 8, 59, 60, 61, 62, 63, 64, 65, 66, 67, 68, 69, 70, 71, 103, 104, 105, 106, 28, 107, 108, 109, 110, 111, 112, 113, 114, 115, 116, 117, 118, 119, 120, 121, 122, 123, 124, 125, 126, 127, 128, 129, 130, 131, 132, 133, 134, 135, 136, 137, 138, 139, 140, 141, 142, 143, 144, 145, 146, 147, 148, 149, 150, 151, 152, 153, 154, 155, 156] (by decide +kernel) (by decide +kernel)
set_option maxRecDepth 20000 in
theorem gX8_doNext_X8_beginNow : GoodIn wsX8_doNext (wsV RX8 286 RX8 yX8_beginNow wsX8_beginNow) := goodIn_app (goodIn_of _ (by decide +kernel)) ggX8_doNext_X8_beginNow
theorem dX8_doNext_0 : decode cX8_doNext 0 = .ok (.aload_n 0, 1) := by decide +kernel
theorem dX8_doNext_1 : decode cX8_doNext 1 = .ok (.getfield 247, 3) := by decide +kernel
theorem dX8_doNext_4 : decode cX8_doNext 4 = .ok (.iconst 1, 1) := by decide +kernel
theorem dX8_doNext_5 : decode cX8_doNext 5 = .ok (.isub, 1) := by decide +kernel
theorem dX8_doNext_6 : decode cX8_doNext 6 = .ok (.istore_n 1, 1) := by decide +kernel
theorem dX8_doNext_7 : decode cX8_doNext 7 = .ok (.aload_n 0, 1) := by decide +kernel
theorem dX8_doNext_8 : decode cX8_doNext 8 = .ok (.getfield 95, 3) := by decide +kernel
theorem dX8_doNext_11 : decode cX8_doNext 11 = .ok (.iload_n 1, 1) := by decide +kernel
theorem dX8_doNext_12 : decode cX8_doNext 12 = .ok (.iaload, 1) := by decide +kernel
theorem dX8_doNext_13 : decode cX8_doNext 13 = .ok (.istore_n 2, 1) := by decide +kernel
theorem dX8_doNext_14 : decode cX8_doNext 14 = .ok (.aload_n 0, 1) := by decide +kernel
theorem dX8_doNext_15 : decode cX8_doNext 15 = .ok (.getfield 92, 3) := by decide +kernel
theorem dX8_doNext_18 : decode cX8_doNext 18 = .ok (.iload_n 1, 1) := by decide +kernel
theorem dX8_doNext_19 : decode cX8_doNext 19 = .ok (.iaload, 1) := by decide +kernel
theorem dX8_doNext_20 : decode cX8_doNext 20 = .ok (.ifCond .ne 82, 3) := by decide +kernel
theorem dX8_doNext_23 : decode cX8_doNext 23 = .ok (.aload_n 0, 1) := by decide +kernel
theorem dX8_doNext_24 : decode cX8_doNext 24 = .ok (.getfield 98, 3) := by decide +kernel
theorem dX8_doNext_27 : decode cX8_doNext 27 = .ok (.iload_n 1, 1) := by decide +kernel
theorem dX8_doNext_28 : decode cX8_doNext 28 = .ok (.iaload, 1) := by decide +kernel
theorem dX8_doNext_29 : decode cX8_doNext 29 = .ok (.aload_n 0, 1) := by decide +kernel
theorem dX8_doNext_30 : decode cX8_doNext 30 = .ok (.getfield 35, 3) := by decide +kernel
theorem dX8_doNext_33 : decode cX8_doNext 33 = .ok (.iload_n 2, 1) := by decide +kernel
theorem dX8_doNext_34 : decode cX8_doNext 34 = .ok (.iaload, 1) := by decide +kernel
theorem dX8_doNext_35 : decode cX8_doNext 35 = .ok (.if_icmp .ne 26, 3) := by decide +kernel
theorem dX8_doNext_38 : decode cX8_doNext 38 = .ok (.aload_n 0, 1) := by decide +kernel
theorem dX8_doNext_39 : decode cX8_doNext 39 = .ok (.dup, 1) := by decide +kernel
theorem dX8_doNext_40 : decode cX8_doNext 40 = .ok (.getfield 247, 3) := by decide +kernel
theorem dX8_doNext_43 : decode cX8_doNext 43 = .ok (.iconst 1, 1) := by decide +kernel
theorem dX8_doNext_44 : decode cX8_doNext 44 = .ok (.isub, 1) := by decide +kernel
theorem dX8_doNext_45 : decode cX8_doNext 45 = .ok (.putfield 247, 3) := by decide +kernel
theorem dX8_doNext_48 : decode cX8_doNext 48 = .ok (.aload_n 0, 1) := by decide +kernel
theorem dX8_doNext_49 : decode cX8_doNext 49 = .ok (.dup, 1) := by decide +kernel
theorem dX8_doNext_50 : decode cX8_doNext 50 = .ok (.getfield 253, 3) := by decide +kernel
theorem dX8_doNext_53 : decode cX8_doNext 53 = .ok (.iconst 1, 1) := by decide +kernel
theorem dX8_doNext_54 : decode cX8_doNext 54 = .ok (.isub, 1) := by decide +kernel
theorem dX8_doNext_55 : decode cX8_doNext 55 = .ok (.putfield 253, 3) := by decide +kernel
theorem dX8_doNext_58 : decode cX8_doNext 58 = .ok (.goto 43, 3) := by decide +kernel
theorem dX8_doNext_61 : decode cX8_doNext 61 = .ok (.aload_n 0, 1) := by decide +kernel
theorem dX8_doNext_62 : decode cX8_doNext 62 = .ok (.getfield 38, 3) := by decide +kernel
theorem dX8_doNext_65 : decode cX8_doNext 65 = .ok (.bipush 24, 2) := by decide +kernel
theorem dX8_doNext_67 : decode cX8_doNext 67 = .ok (.iload_n 2, 1) := by decide +kernel
theorem dX8_doNext_68 : decode cX8_doNext 68 = .ok (.imul, 1) := by decide +kernel
theorem dX8_doNext_69 : decode cX8_doNext 69 = .ok (.aload_n 0, 1) := by decide +kernel
theorem dX8_doNext_70 : decode cX8_doNext 70 = .ok (.getfield 98, 3) := by decide +kernel
theorem dX8_doNext_73 : decode cX8_doNext 73 = .ok (.iload_n 1, 1) := by decide +kernel
theorem dX8_doNext_74 : decode cX8_doNext 74 = .ok (.iaload, 1) := by decide +kernel
theorem dX8_doNext_75 : decode cX8_doNext 75 = .ok (.iadd, 1) := by decide +kernel
theorem dX8_doNext_76 : decode cX8_doNext 76 = .ok (.iaload, 1) := by decide +kernel
theorem dX8_doNext_77 : decode cX8_doNext 77 = .ok (.istore_n 3, 1) := by decide +kernel
theorem dX8_doNext_78 : decode cX8_doNext 78 = .ok (.aload_n 0, 1) := by decide +kernel
theorem dX8_doNext_79 : decode cX8_doNext 79 = .ok (.getfield 98, 3) := by decide +kernel
theorem dX8_doNext_82 : decode cX8_doNext 82 = .ok (.iload_n 1, 1) := by decide +kernel
theorem dX8_doNext_83 : decode cX8_doNext 83 = .ok (.dup2, 1) := by decide +kernel
theorem dX8_doNext_84 : decode cX8_doNext 84 = .ok (.iaload, 1) := by decide +kernel
theorem dX8_doNext_85 : decode cX8_doNext 85 = .ok (.iconst 1, 1) := by decide +kernel
theorem dX8_doNext_86 : decode cX8_doNext 86 = .ok (.iadd, 1) := by decide +kernel
theorem dX8_doNext_87 : decode cX8_doNext 87 = .ok (.iastore, 1) := by decide +kernel
theorem dX8_doNext_88 : decode cX8_doNext 88 = .ok (.aload_n 0, 1) := by decide +kernel
theorem dX8_doNext_89 : decode cX8_doNext 89 = .ok (.iconst 4, 1) := by decide +kernel
theorem dX8_doNext_90 : decode cX8_doNext 90 = .ok (.invokevirtual 271, 3) := by decide +kernel
theorem dX8_doNext_93 : decode cX8_doNext 93 = .ok (.ifCond .eq 8, 3) := by decide +kernel
theorem dX8_doNext_96 : decode cX8_doNext 96 = .ok (.aload_n 0, 1) := by decide +kernel
theorem dX8_doNext_97 : decode cX8_doNext 97 = .ok (.iload_n 3, 1) := by decide +kernel
theorem dX8_doNext_98 : decode cX8_doNext 98 = .ok (.invokevirtual 280, 3) := by decide +kernel
theorem dX8_doNext_101 : decode cX8_doNext 101 = .ok (.return_, 1) := by decide +kernel
theorem dX8_doNext_102 : decode cX8_doNext 102 = .ok (.aload_n 0, 1) := by decide +kernel
theorem dX8_doNext_103 : decode cX8_doNext 103 = .ok (.dup, 1) := by decide +kernel
theorem dX8_doNext_104 : decode cX8_doNext 104 = .ok (.getfield 247, 3) := by decide +kernel
theorem dX8_doNext_107 : decode cX8_doNext 107 = .ok (.iconst 1, 1) := by decide +kernel
theorem dX8_doNext_108 : decode cX8_doNext 108 = .ok (.isub, 1) := by decide +kernel
theorem dX8_doNext_109 : decode cX8_doNext 109 = .ok (.putfield 247, 3) := by decide +kernel
theorem dX8_doNext_112 : decode cX8_doNext 112 = .ok (.aload_n 0, 1) := by decide +kernel
theorem dX8_doNext_113 : decode cX8_doNext 113 = .ok (.getfield 101, 3) := by decide +kernel
theorem dX8_doNext_116 : decode cX8_doNext 116 = .ok (.iload_n 1, 1) := by decide +kernel
theorem dX8_doNext_117 : decode cX8_doNext 117 = .ok (.iaload, 1) := by decide +kernel
theorem dX8_doNext_118 : decode cX8_doNext 118 = .ok (.istore_n 3, 1) := by decide +kernel
theorem dX8_doNext_119 : decode cX8_doNext 119 = .ok (.aload_n 0, 1) := by decide +kernel
theorem dX8_doNext_120 : decode cX8_doNext 120 = .ok (.getfield 92, 3) := by decide +kernel
theorem dX8_doNext_123 : decode cX8_doNext 123 = .ok (.iload_n 1, 1) := by decide +kernel
theorem dX8_doNext_124 : decode cX8_doNext 124 = .ok (.iaload, 1) := by decide +kernel
theorem dX8_doNext_125 : decode cX8_doNext 125 = .ok (.iconst 1, 1) := by decide +kernel
theorem dX8_doNext_126 : decode cX8_doNext 126 = .ok (.if_icmp .ne 12, 3) := by decide +kernel
theorem dX8_doNext_129 : decode cX8_doNext 129 = .ok (.aload_n 0, 1) := by decide +kernel
theorem dX8_doNext_130 : decode cX8_doNext 130 = .ok (.iload_n 2, 1) := by decide +kernel
theorem dX8_doNext_131 : decode cX8_doNext 131 = .ok (.iload_n 3, 1) := by decide +kernel
theorem dX8_doNext_132 : decode cX8_doNext 132 = .ok (.invokevirtual 283, 3) := by decide +kernel
theorem dX8_doNext_135 : decode cX8_doNext 135 = .ok (.goto 76, 3) := by decide +kernel
theorem dX8_doNext_138 : decode cX8_doNext 138 = .ok (.aload_n 0, 1) := by decide +kernel
theorem dX8_doNext_139 : decode cX8_doNext 139 = .ok (.getfield 92, 3) := by decide +kernel
theorem dX8_doNext_142 : decode cX8_doNext 142 = .ok (.iload_n 1, 1) := by decide +kernel
theorem dX8_doNext_143 : decode cX8_doNext 143 = .ok (.iaload, 1) := by decide +kernel
theorem dX8_doNext_144 : decode cX8_doNext 144 = .ok (.iconst 2, 1) := by decide +kernel
theorem dX8_doNext_145 : decode cX8_doNext 145 = .ok (.if_icmp .ne 12, 3) := by decide +kernel
theorem dX8_doNext_148 : decode cX8_doNext 148 = .ok (.aload_n 0, 1) := by decide +kernel
theorem dX8_doNext_149 : decode cX8_doNext 149 = .ok (.iload_n 2, 1) := by decide +kernel
theorem dX8_doNext_150 : decode cX8_doNext 150 = .ok (.iload_n 3, 1) := by decide +kernel
theorem dX8_doNext_151 : decode cX8_doNext 151 = .ok (.invokevirtual 286, 3) := by decide +kernel
theorem dX8_doNext_154 : decode cX8_doNext 154 = .ok (.goto 57, 3) := by decide +kernel
theorem dX8_doNext_157 : decode cX8_doNext 157 = .ok (.aload_n 0, 1) := by decide +kernel
theorem dX8_doNext_158 : decode cX8_doNext 158 = .ok (.aload_n 0, 1) := by decide +kernel
theorem dX8_doNext_159 : decode cX8_doNext 159 = .ok (.getfield 250, 3) := by decide +kernel
theorem dX8_doNext_162 : decode cX8_doNext 162 = .ok (.ifCond .eq 16, 3) := by decide +kernel
theorem dX8_doNext_165 : decode cX8_doNext 165 = .ok (.aload_n 0, 1) := by decide +kernel
theorem dX8_doNext_166 : decode cX8_doNext 166 = .ok (.getfield 53, 3) := by decide +kernel
theorem dX8_doNext_169 : decode cX8_doNext 169 = .ok (.iload_n 2, 1) := by decide +kernel
theorem dX8_doNext_170 : decode cX8_doNext 170 = .ok (.baload, 1) := by decide +kernel
theorem dX8_doNext_171 : decode cX8_doNext 171 = .ok (.ifCond .eq 7, 3) := by decide +kernel
theorem dX8_doNext_174 : decode cX8_doNext 174 = .ok (.iconst 1, 1) := by decide +kernel
theorem dX8_doNext_175 : decode cX8_doNext 175 = .ok (.goto 4, 3) := by decide +kernel
theorem dX8_doNext_178 : decode cX8_doNext 178 = .ok (.iconst 0, 1) := by decide +kernel
theorem dX8_doNext_179 : decode cX8_doNext 179 = .ok (.putfield 250, 3) := by decide +kernel
theorem dX8_doNext_182 : decode cX8_doNext 182 = .ok (.aload_n 0, 1) := by decide +kernel
theorem dX8_doNext_183 : decode cX8_doNext 183 = .ok (.getfield 268, 3) := by decide +kernel
theorem dX8_doNext_186 : decode cX8_doNext 186 = .ok (.bipush 20, 2) := by decide +kernel
theorem dX8_doNext_188 : decode cX8_doNext 188 = .ok (.if_icmp .ge 23, 3) := by decide +kernel
theorem dX8_doNext_191 : decode cX8_doNext 191 = .ok (.aload_n 0, 1) := by decide +kernel
theorem dX8_doNext_192 : decode cX8_doNext 192 = .ok (.getfield 110, 3) := by decide +kernel
theorem dX8_doNext_195 : decode cX8_doNext 195 = .ok (.aload_n 0, 1) := by decide +kernel
theorem dX8_doNext_196 : decode cX8_doNext 196 = .ok (.getfield 268, 3) := by decide +kernel
theorem dX8_doNext_199 : decode cX8_doNext 199 = .ok (.iload_n 2, 1) := by decide +kernel
theorem dX8_doNext_200 : decode cX8_doNext 200 = .ok (.iastore, 1) := by decide +kernel
theorem dX8_doNext_201 : decode cX8_doNext 201 = .ok (.aload_n 0, 1) := by decide +kernel
theorem dX8_doNext_202 : decode cX8_doNext 202 = .ok (.dup, 1) := by decide +kernel
theorem dX8_doNext_203 : decode cX8_doNext 203 = .ok (.getfield 268, 3) := by decide +kernel
theorem dX8_doNext_206 : decode cX8_doNext 206 = .ok (.iconst 1, 1) := by decide +kernel
theorem dX8_doNext_207 : decode cX8_doNext 207 = .ok (.iadd, 1) := by decide +kernel
theorem dX8_doNext_208 : decode cX8_doNext 208 = .ok (.putfield 268, 3) := by decide +kernel
theorem dX8_doNext_211 : decode cX8_doNext 211 = .ok (.return_, 1) := by decide +kernel
set_option maxRecDepth 20000 in
theorem ggX8_runAll_X8_freshen : GoodIn wsX8_runAll wsX8_freshen := goodIn_r _ [18, 19, 20, 12, 13, 21, 22, 23, 24, 25, 26, 27, 28, 29, 30, 31, 17, 32, 33, 34, 35, 36, 37, 38, 39, 40, 41, 42, 43, 44, 45, 46, 47, 48, 49, 50, 51, 52, 53, 54, 55, 56, 57, 58, 59, 60, 61, 62, 63, 64, 65, 66, 67, 68, 69, 70, 71, 72, 73, 74, 75, 76, 77, 78, 79, 80, 81, 82, 83, 84, 85, 86, 87, 88, 89, 90, 91, 92, 93, 94, 95, 96, 97, 98, 99, 100, 101, 102, 103, 104, 105, 106, 107, 108, 109, 110, 111, 112, 113, 114, 155, 156, 157, 158, 159, 160, 161, 162, 163, 164, 165, 166, 167, 168, 169, 170, 171, 172, 173, 174, 175, 176, 177, 178, 179, 180, 181, 182, 183, 184, 185, 186, 187, 188, 189, 190, 191, 192, 193, 194, 195, 196, 197, 198, 199, 200, 201, 202, 203, 204] (by decide +kernel) (by decide +kernel)
set_option maxRecDepth 20000 in
theorem gX8_runAll_X8_freshen : GoodIn wsX8_runAll (wsV RX8 217 RX8 yX8_freshen wsX8_freshen) := goodIn_app (goodIn_of _ (by decide +kernel)) ggX8_runAll_X8_freshen
set_option maxRecDepth 20000 in
theorem ggX8_runAll_X8_push : GoodIn wsX8_runAll wsX8_push := goodIn_r _ [118, 119, 8, 120, 121, 122, 155, 156, 157, 158, 159, 160, 161, 162, 163, 164, 165, 166, 167, 168, 169, 170, 171, 172, 173, 174, 175, 176, 177, 178, 179, 180, 181, 182, 183, 184, 185, 186, 187, 188, 189, 190, 191, 192, 193, 194, 195, 196, 197, 198, 199, 200, 201, 202, 203, 204] (by decide +kernel) (by decide +kernel)
set_option maxRecDepth 20000 in
theorem gX8_runAll_X8_push : GoodIn wsX8_runAll (wsV RX8 265 RX8 yX8_push wsX8_push) := goodIn_app (goodIn_of _ (by decide +kernel)) ggX8_runAll_X8_push
set_option maxRecDepth 20000 in
theorem ggX8_runAll_X8_doNext : GoodIn wsX8_runAll wsX8_doNext := goodIn_r _ [126, 8, 120, 119, 121, 27, 3, 28, 122, 6, 21, 7, 127, 128, 129, 130, 17, 131, 1, 132, 133, 134, 135, 136, 137, 33, 34, 35, 36, 37, 11, 138, 115, 116, 117, 118, 102, 103, 104, 105, 84, 85, 86, 87, 49, 61, 12, 88, 68, 69, 70, 71, 38, 89, 90, 91, 92, 93, 43, 50, 51, 52, 53, 54, 55, 56, 57, 58, 59, 60, 62, 63, 94, 95, 96, 97, 139, 140, 141, 142, 106, 107, 108, 143, 144, 145, 146, 147, 148, 149, 150, 20, 24, 2, 4, 9, 5, 151, 152, 153, 154, 10, 22, 64, 65, 66, 67, 155, 156, 157, 158, 159, 160, 161, 162, 163, 164, 165, 166, 167, 168, 169, 170, 171, 172, 173, 174, 175, 176, 177, 178, 179, 180, 181, 182, 183, 184, 185, 186, 187, 188, 189, 190, 191, 192, 193, 194, 195, 196, 197, 198, 199, 200, 201, 202, 203, 204] (by decide +kernel) (by decide +kernel)
set_option maxRecDepth 20000 in
theorem gX8_runAll_X8_doNext : GoodIn wsX8_runAll (wsV RX8 289 RX8 yX8_doNext wsX8_doNext) := goodIn_app (goodIn_of _ (by decide +kernel)) ggX8_runAll_X8_doNext
theorem dX8_runAll_0 : decode cX8_runAll 0 = .ok (.aload_n 0, 1) := by decide +kernel
theorem dX8_runAll_1 : decode cX8_runAll 1 = .ok (.invokevirtual 217, 3) := by decide +kernel
theorem dX8_runAll_4 : decode cX8_runAll 4 = .ok (.aload_n 0, 1) := by decide +kernel
theorem dX8_runAll_5 : decode cX8_runAll 5 = .ok (.lload_n 1, 1) := by decide +kernel
theorem dX8_runAll_6 : decode cX8_runAll 6 = .ok (.putfield 239, 3) := by decide +kernel
theorem dX8_runAll_9 : decode cX8_runAll 9 = .ok (.aload_n 0, 1) := by decide +kernel
theorem dX8_runAll_10 : decode cX8_runAll 10 = .ok (.iconst 0, 1) := by decide +kernel
theorem dX8_runAll_11 : decode cX8_runAll 11 = .ok (.putfield 256, 3) := by decide +kernel
theorem dX8_runAll_14 : decode cX8_runAll 14 = .ok (.aload_n 0, 1) := by decide +kernel
theorem dX8_runAll_15 : decode cX8_runAll 15 = .ok (.iconst 0, 1) := by decide +kernel
theorem dX8_runAll_16 : decode cX8_runAll 16 = .ok (.putfield 253, 3) := by decide +kernel
theorem dX8_runAll_19 : decode cX8_runAll 19 = .ok (.aload_n 0, 1) := by decide +kernel
theorem dX8_runAll_20 : decode cX8_runAll 20 = .ok (.iconst 0, 1) := by decide +kernel
theorem dX8_runAll_21 : decode cX8_runAll 21 = .ok (.putfield 259, 3) := by decide +kernel
theorem dX8_runAll_24 : decode cX8_runAll 24 = .ok (.aload_n 0, 1) := by decide +kernel
theorem dX8_runAll_25 : decode cX8_runAll 25 = .ok (.iconst (-1), 1) := by decide +kernel
theorem dX8_runAll_26 : decode cX8_runAll 26 = .ok (.putfield 262, 3) := by decide +kernel
theorem dX8_runAll_29 : decode cX8_runAll 29 = .ok (.aload_n 0, 1) := by decide +kernel
theorem dX8_runAll_30 : decode cX8_runAll 30 = .ok (.iconst 1, 1) := by decide +kernel
theorem dX8_runAll_31 : decode cX8_runAll 31 = .ok (.putfield 250, 3) := by decide +kernel
theorem dX8_runAll_34 : decode cX8_runAll 34 = .ok (.aload_n 0, 1) := by decide +kernel
theorem dX8_runAll_35 : decode cX8_runAll 35 = .ok (.iconst 0, 1) := by decide +kernel
theorem dX8_runAll_36 : decode cX8_runAll 36 = .ok (.putfield 268, 3) := by decide +kernel
theorem dX8_runAll_39 : decode cX8_runAll 39 = .ok (.aload_n 0, 1) := by decide +kernel
theorem dX8_runAll_40 : decode cX8_runAll 40 = .ok (.iconst 0, 1) := by decide +kernel
theorem dX8_runAll_41 : decode cX8_runAll 41 = .ok (.putfield 247, 3) := by decide +kernel
theorem dX8_runAll_44 : decode cX8_runAll 44 = .ok (.iconst 0, 1) := by decide +kernel
theorem dX8_runAll_45 : decode cX8_runAll 45 = .ok (.istore_n 3, 1) := by decide +kernel
theorem dX8_runAll_46 : decode cX8_runAll 46 = .ok (.iload_n 3, 1) := by decide +kernel
theorem dX8_runAll_47 : decode cX8_runAll 47 = .ok (.bipush 48, 2) := by decide +kernel
theorem dX8_runAll_49 : decode cX8_runAll 49 = .ok (.if_icmp .ge 16, 3) := by decide +kernel
theorem dX8_runAll_52 : decode cX8_runAll 52 = .ok (.aload_n 0, 1) := by decide +kernel
theorem dX8_runAll_53 : decode cX8_runAll 53 = .ok (.getfield 104, 3) := by decide +kernel
theorem dX8_runAll_56 : decode cX8_runAll 56 = .ok (.iload_n 3, 1) := by decide +kernel
theorem dX8_runAll_57 : decode cX8_runAll 57 = .ok (.iconst 0, 1) := by decide +kernel
theorem dX8_runAll_58 : decode cX8_runAll 58 = .ok (.bastore, 1) := by decide +kernel
theorem dX8_runAll_59 : decode cX8_runAll 59 = .ok (.iinc 3 1, 3) := by decide +kernel
theorem dX8_runAll_62 : decode cX8_runAll 62 = .ok (.goto (-16), 3) := by decide +kernel
theorem dX8_runAll_65 : decode cX8_runAll 65 = .ok (.iconst 0, 1) := by decide +kernel
theorem dX8_runAll_66 : decode cX8_runAll 66 = .ok (.istore_n 3, 1) := by decide +kernel
theorem dX8_runAll_67 : decode cX8_runAll 67 = .ok (.iload_n 3, 1) := by decide +kernel
theorem dX8_runAll_68 : decode cX8_runAll 68 = .ok (.bipush 16, 2) := by decide +kernel
theorem dX8_runAll_70 : decode cX8_runAll 70 = .ok (.if_icmp .ge 16, 3) := by decide +kernel
theorem dX8_runAll_73 : decode cX8_runAll 73 = .ok (.aload_n 0, 1) := by decide +kernel
theorem dX8_runAll_74 : decode cX8_runAll 74 = .ok (.getfield 107, 3) := by decide +kernel
theorem dX8_runAll_77 : decode cX8_runAll 77 = .ok (.iload_n 3, 1) := by decide +kernel
theorem dX8_runAll_78 : decode cX8_runAll 78 = .ok (.iconst 0, 1) := by decide +kernel
theorem dX8_runAll_79 : decode cX8_runAll 79 = .ok (.bastore, 1) := by decide +kernel
theorem dX8_runAll_80 : decode cX8_runAll 80 = .ok (.iinc 3 1, 3) := by decide +kernel
theorem dX8_runAll_83 : decode cX8_runAll 83 = .ok (.goto (-16), 3) := by decide +kernel
theorem dX8_runAll_86 : decode cX8_runAll 86 = .ok (.iconst 0, 1) := by decide +kernel
theorem dX8_runAll_87 : decode cX8_runAll 87 = .ok (.istore_n 3, 1) := by decide +kernel
theorem dX8_runAll_88 : decode cX8_runAll 88 = .ok (.iload_n 3, 1) := by decide +kernel
theorem dX8_runAll_89 : decode cX8_runAll 89 = .ok (.iconst 4, 1) := by decide +kernel
theorem dX8_runAll_90 : decode cX8_runAll 90 = .ok (.if_icmp .ge 16, 3) := by decide +kernel
theorem dX8_runAll_93 : decode cX8_runAll 93 = .ok (.aload_n 0, 1) := by decide +kernel
theorem dX8_runAll_94 : decode cX8_runAll 94 = .ok (.getfield 116, 3) := by decide +kernel
theorem dX8_runAll_97 : decode cX8_runAll 97 = .ok (.iload_n 3, 1) := by decide +kernel
theorem dX8_runAll_98 : decode cX8_runAll 98 = .ok (.iconst 0, 1) := by decide +kernel
theorem dX8_runAll_99 : decode cX8_runAll 99 = .ok (.iastore, 1) := by decide +kernel
theorem dX8_runAll_100 : decode cX8_runAll 100 = .ok (.iinc 3 1, 3) := by decide +kernel
theorem dX8_runAll_103 : decode cX8_runAll 103 = .ok (.goto (-15), 3) := by decide +kernel
theorem dX8_runAll_106 : decode cX8_runAll 106 = .ok (.iconst 0, 1) := by decide +kernel
theorem dX8_runAll_107 : decode cX8_runAll 107 = .ok (.istore_n 3, 1) := by decide +kernel
theorem dX8_runAll_108 : decode cX8_runAll 108 = .ok (.iload_n 3, 1) := by decide +kernel
theorem dX8_runAll_109 : decode cX8_runAll 109 = .ok (.aload_n 0, 1) := by decide +kernel
theorem dX8_runAll_110 : decode cX8_runAll 110 = .ok (.getfield 131, 3) := by decide +kernel
theorem dX8_runAll_113 : decode cX8_runAll 113 = .ok (.if_icmp .ge 39, 3) := by decide +kernel
theorem dX8_runAll_116 : decode cX8_runAll 116 = .ok (.aload_n 0, 1) := by decide +kernel
theorem dX8_runAll_117 : decode cX8_runAll 117 = .ok (.getfield 31, 3) := by decide +kernel
theorem dX8_runAll_120 : decode cX8_runAll 120 = .ok (.iload_n 3, 1) := by decide +kernel
theorem dX8_runAll_121 : decode cX8_runAll 121 = .ok (.baload, 1) := by decide +kernel
theorem dX8_runAll_122 : decode cX8_runAll 122 = .ok (.ifCond .eq 24, 3) := by decide +kernel
theorem dX8_runAll_125 : decode cX8_runAll 125 = .ok (.aload_n 0, 1) := by decide +kernel
theorem dX8_runAll_126 : decode cX8_runAll 126 = .ok (.iconst 1, 1) := by decide +kernel
theorem dX8_runAll_127 : decode cX8_runAll 127 = .ok (.iload_n 3, 1) := by decide +kernel
theorem dX8_runAll_128 : decode cX8_runAll 128 = .ok (.iconst (-1), 1) := by decide +kernel
theorem dX8_runAll_129 : decode cX8_runAll 129 = .ok (.invokevirtual 265, 3) := by decide +kernel
theorem dX8_runAll_132 : decode cX8_runAll 132 = .ok (.aload_n 0, 1) := by decide +kernel
theorem dX8_runAll_133 : decode cX8_runAll 133 = .ok (.getfield 247, 3) := by decide +kernel
theorem dX8_runAll_136 : decode cX8_runAll 136 = .ok (.ifCond .le 10, 3) := by decide +kernel
theorem dX8_runAll_139 : decode cX8_runAll 139 = .ok (.aload_n 0, 1) := by decide +kernel
theorem dX8_runAll_140 : decode cX8_runAll 140 = .ok (.invokevirtual 289, 3) := by decide +kernel
theorem dX8_runAll_143 : decode cX8_runAll 143 = .ok (.goto (-11), 3) := by decide +kernel
theorem dX8_runAll_146 : decode cX8_runAll 146 = .ok (.iinc 3 1, 3) := by decide +kernel
theorem dX8_runAll_149 : decode cX8_runAll 149 = .ok (.goto (-41), 3) := by decide +kernel
theorem dX8_runAll_152 : decode cX8_runAll 152 = .ok (.return_, 1) := by decide +kernel
set_option maxRecDepth 20000 in
theorem ggX8_run_X8_in : GoodIn wsX8_run wsX8_in := goodIn_r _ [12] (by decide +kernel) (by decide +kernel)
set_option maxRecDepth 20000 in
theorem gX8_run_X8_in : GoodIn wsX8_run (va_wsS RX8 127 yX8_in wsX8_in) := goodIn_app (goodIn_of _ (by decide +kernel)) ggX8_run_X8_in
set_option maxRecDepth 20000 in
theorem ggX8_run_X8_runAll : GoodIn wsX8_run wsX8_runAll := goodIn_r _ [16, 17, 5, 18, 7, 8, 19, 6, 20, 2, 4, 21, 1, 22, 23, 24, 25, 11, 26, 27, 28, 29, 30, 31, 32, 33, 34, 35, 36, 37, 38, 39, 40, 41, 42, 43, 44, 45, 46, 47, 48, 49, 50, 3, 51, 52, 53, 54, 55, 56, 57, 58, 59, 60, 61, 62, 63, 64, 65, 66, 67, 68, 69, 70, 71, 72, 73, 74, 75, 76, 77, 78, 79, 80, 81, 82, 83, 84, 85, 86, 87, 88, 89, 90, 91, 92, 93, 94, 95, 96, 97, 98, 99, 100, 101, 102, 103, 104, 105, 106, 107, 108, 109, 110, 111, 112, 113, 114, 115, 116, 117, 118, 119, 120, 121, 122, 123, 124, 125, 126, 127, 128, 129, 130, 131, 132, 133, 134, 135, 136, 137, 138, 139, 140, 141, 142, 143, 144, 145, 146, 147, 148, 149, 150, 151, 152, 153, 154, 155, 156, 157, 158, 159, 160, 161, 162, 163, 164, 165, 166, 167, 168, 169, 170, 171, 172, 173, 174, 175, 176, 177, 178, 179, 180, 181, 182, 183, 184, 185, 186, 187, 188, 189, 190, 191, 192, 193, 194, 195, 196, 197, 198, 199, 200, 201, 202, 203, 204, 205, 206, 207, 208, 209, 210, 211] (by decide +kernel) (by decide +kernel)
set_option maxRecDepth 20000 in
theorem gX8_run_X8_runAll : GoodIn wsX8_run (wsV RX8 292 RX8 yX8_runAll wsX8_runAll) := goodIn_app (goodIn_of _ (by decide +kernel)) ggX8_run_X8_runAll
theorem dX8_run_0 : decode cX8_run 0 = .ok (.iload_n 3, 1) := by decide +kernel
theorem dX8_run_1 : decode cX8_run 1 = .ok (.iconst 0, 1) := by decide +kernel
theorem dX8_run_2 : decode cX8_run 2 = .ok (.iconst 5, 1) := by decide +kernel
theorem dX8_run_3 : decode cX8_run 3 = .ok (.invokestatic 127, 3) := by decide +kernel
theorem dX8_run_6 : decode cX8_run 6 = .ok (.ifCond .ne 6, 3) := by decide +kernel
theorem dX8_run_9 : decode cX8_run 9 = .ok (.bipush (-102), 2) := by decide +kernel
theorem dX8_run_11 : decode cX8_run 11 = .ok (.ireturn, 1) := by decide +kernel
theorem dX8_run_12 : decode cX8_run 12 = .ok (.aload_n 0, 1) := by decide +kernel
theorem dX8_run_13 : decode cX8_run 13 = .ok (.lload_n 1, 1) := by decide +kernel
theorem dX8_run_14 : decode cX8_run 14 = .ok (.invokevirtual 292, 3) := by decide +kernel
theorem dX8_run_17 : decode cX8_run 17 = .ok (.iconst 0, 1) := by decide +kernel
theorem dX8_run_18 : decode cX8_run 18 = .ok (.istore 4, 2) := by decide +kernel
theorem dX8_run_20 : decode cX8_run 20 = .ok (.iconst 0, 1) := by decide +kernel
theorem dX8_run_21 : decode cX8_run 21 = .ok (.istore 5, 2) := by decide +kernel
theorem dX8_run_23 : decode cX8_run 23 = .ok (.iload 5, 2) := by decide +kernel
theorem dX8_run_25 : decode cX8_run 25 = .ok (.aload_n 0, 1) := by decide +kernel
theorem dX8_run_26 : decode cX8_run 26 = .ok (.getfield 131, 3) := by decide +kernel
theorem dX8_run_29 : decode cX8_run 29 = .ok (.if_icmp .ge 29, 3) := by decide +kernel
theorem dX8_run_32 : decode cX8_run 32 = .ok (.iload 4, 2) := by decide +kernel
theorem dX8_run_34 : decode cX8_run 34 = .ok (.aload_n 0, 1) := by decide +kernel
theorem dX8_run_35 : decode cX8_run 35 = .ok (.getfield 104, 3) := by decide +kernel
theorem dX8_run_38 : decode cX8_run 38 = .ok (.iload 5, 2) := by decide +kernel
theorem dX8_run_40 : decode cX8_run 40 = .ok (.baload, 1) := by decide +kernel
theorem dX8_run_41 : decode cX8_run 41 = .ok (.ifCond .eq 7, 3) := by decide +kernel
theorem dX8_run_44 : decode cX8_run 44 = .ok (.iconst 1, 1) := by decide +kernel
theorem dX8_run_45 : decode cX8_run 45 = .ok (.goto 4, 3) := by decide +kernel
theorem dX8_run_48 : decode cX8_run 48 = .ok (.iconst 0, 1) := by decide +kernel
theorem dX8_run_49 : decode cX8_run 49 = .ok (.iadd, 1) := by decide +kernel
theorem dX8_run_50 : decode cX8_run 50 = .ok (.istore 4, 2) := by decide +kernel
theorem dX8_run_52 : decode cX8_run 52 = .ok (.iinc 5 1, 3) := by decide +kernel
theorem dX8_run_55 : decode cX8_run 55 = .ok (.goto (-32), 3) := by decide +kernel
theorem dX8_run_58 : decode cX8_run 58 = .ok (.iconst 0, 1) := by decide +kernel
theorem dX8_run_59 : decode cX8_run 59 = .ok (.istore 5, 2) := by decide +kernel
theorem dX8_run_61 : decode cX8_run 61 = .ok (.iconst 0, 1) := by decide +kernel
theorem dX8_run_62 : decode cX8_run 62 = .ok (.istore 6, 2) := by decide +kernel
theorem dX8_run_64 : decode cX8_run 64 = .ok (.iload 6, 2) := by decide +kernel
theorem dX8_run_66 : decode cX8_run 66 = .ok (.aload_n 0, 1) := by decide +kernel
theorem dX8_run_67 : decode cX8_run 67 = .ok (.getfield 123, 3) := by decide +kernel
theorem dX8_run_70 : decode cX8_run 70 = .ok (.if_icmp .ge 29, 3) := by decide +kernel
theorem dX8_run_73 : decode cX8_run 73 = .ok (.iload 5, 2) := by decide +kernel
theorem dX8_run_75 : decode cX8_run 75 = .ok (.aload_n 0, 1) := by decide +kernel
theorem dX8_run_76 : decode cX8_run 76 = .ok (.getfield 107, 3) := by decide +kernel
theorem dX8_run_79 : decode cX8_run 79 = .ok (.iload 6, 2) := by decide +kernel
theorem dX8_run_81 : decode cX8_run 81 = .ok (.baload, 1) := by decide +kernel
theorem dX8_run_82 : decode cX8_run 82 = .ok (.ifCond .eq 7, 3) := by decide +kernel
theorem dX8_run_85 : decode cX8_run 85 = .ok (.iconst 1, 1) := by decide +kernel
theorem dX8_run_86 : decode cX8_run 86 = .ok (.goto 4, 3) := by decide +kernel
theorem dX8_run_89 : decode cX8_run 89 = .ok (.iconst 0, 1) := by decide +kernel
theorem dX8_run_90 : decode cX8_run 90 = .ok (.iadd, 1) := by decide +kernel
theorem dX8_run_91 : decode cX8_run 91 = .ok (.istore 5, 2) := by decide +kernel
theorem dX8_run_93 : decode cX8_run 93 = .ok (.iinc 6 1, 3) := by decide +kernel
theorem dX8_run_96 : decode cX8_run 96 = .ok (.goto (-32), 3) := by decide +kernel
theorem dX8_run_99 : decode cX8_run 99 = .ok (.iload_n 3, 1) := by decide +kernel
theorem dX8_run_100 : decode cX8_run 100 = .ok (.ifCond .ne 10, 3) := by decide +kernel
theorem dX8_run_103 : decode cX8_run 103 = .ok (.aload_n 0, 1) := by decide +kernel
theorem dX8_run_104 : decode cX8_run 104 = .ok (.getfield 256, 3) := by decide +kernel
theorem dX8_run_107 : decode cX8_run 107 = .ok (.goto 51, 3) := by decide +kernel
theorem dX8_run_110 : decode cX8_run 110 = .ok (.iload_n 3, 1) := by decide +kernel
theorem dX8_run_111 : decode cX8_run 111 = .ok (.iconst 1, 1) := by decide +kernel
theorem dX8_run_112 : decode cX8_run 112 = .ok (.if_icmp .ne 8, 3) := by decide +kernel
theorem dX8_run_115 : decode cX8_run 115 = .ok (.iload 4, 2) := by decide +kernel
theorem dX8_run_117 : decode cX8_run 117 = .ok (.goto 41, 3) := by decide +kernel
theorem dX8_run_120 : decode cX8_run 120 = .ok (.iload_n 3, 1) := by decide +kernel
theorem dX8_run_121 : decode cX8_run 121 = .ok (.iconst 2, 1) := by decide +kernel
theorem dX8_run_122 : decode cX8_run 122 = .ok (.if_icmp .ne 10, 3) := by decide +kernel
theorem dX8_run_125 : decode cX8_run 125 = .ok (.aload_n 0, 1) := by decide +kernel
theorem dX8_run_126 : decode cX8_run 126 = .ok (.getfield 268, 3) := by decide +kernel
theorem dX8_run_129 : decode cX8_run 129 = .ok (.goto 29, 3) := by decide +kernel
theorem dX8_run_132 : decode cX8_run 132 = .ok (.iload_n 3, 1) := by decide +kernel
theorem dX8_run_133 : decode cX8_run 133 = .ok (.iconst 3, 1) := by decide +kernel
theorem dX8_run_134 : decode cX8_run 134 = .ok (.if_icmp .ne 8, 3) := by decide +kernel
theorem dX8_run_137 : decode cX8_run 137 = .ok (.iload 5, 2) := by decide +kernel
theorem dX8_run_139 : decode cX8_run 139 = .ok (.goto 19, 3) := by decide +kernel
theorem dX8_run_142 : decode cX8_run 142 = .ok (.iload_n 3, 1) := by decide +kernel
theorem dX8_run_143 : decode cX8_run 143 = .ok (.iconst 4, 1) := by decide +kernel
theorem dX8_run_144 : decode cX8_run 144 = .ok (.if_icmp .ne 10, 3) := by decide +kernel
theorem dX8_run_147 : decode cX8_run 147 = .ok (.aload_n 0, 1) := by decide +kernel
theorem dX8_run_148 : decode cX8_run 148 = .ok (.getfield 259, 3) := by decide +kernel
theorem dX8_run_151 : decode cX8_run 151 = .ok (.goto 7, 3) := by decide +kernel
theorem dX8_run_154 : decode cX8_run 154 = .ok (.aload_n 0, 1) := by decide +kernel
theorem dX8_run_155 : decode cX8_run 155 = .ok (.getfield 262, 3) := by decide +kernel
theorem dX8_run_158 : decode cX8_run 158 = .ok (.ireturn, 1) := by decide +kernel
set_option maxRecDepth 20000 in
theorem ggX8_holds_X8_runAll : GoodIn wsX8_holds wsX8_runAll := goodIn_r _ [6, 7, 8, 9, 10, 11, 1, 12, 13, 14, 15, 16, 17, 18, 19, 20, 21, 5, 22, 23, 24, 25, 26, 27, 28, 29, 30, 31, 32, 33, 34, 35, 36, 37, 38, 39, 40, 41, 42, 43, 44, 45, 46, 47, 48, 49, 50, 51, 52, 53, 54, 55, 56, 57, 58, 59, 60, 61, 62, 63, 64, 65, 66, 67, 68, 69, 70, 71, 72, 73, 74, 75, 76, 77, 78, 79, 80, 81, 82, 83, 84, 85, 86, 87, 88, 89, 90, 91, 92, 93, 94, 95, 96, 97, 98, 99, 100, 101, 102, 103, 104, 105, 106, 107, 108, 109, 110, 111, 112, 113, 114, 115, 116, 117, 118, 119, 120, 121, 122, 123, 124, 125, 126, 127, 128, 129, 130, 131, 132, 133, 134, 135, 136, 137, 138, 139, 140, 141, 142, 143, 144, 145, 146, 147, 148, 149, 150, 151, 152, 153, 154, 155, 156, 157, 158, 159, 160, 161, 162, 163, 164, 165, 166, 167, 168, 169, 170, 171, 172, 173, 174, 175, 176, 177, 178, 179, 180, 181, 182, 183, 184, 185, 186, 187, 188, 189, 190, 191, 192, 193, 194, 195, 196, 197, 198, 199, 200, 201, 202, 203, 204, 205, 206, 207, 208] (by decide +kernel) (by decide +kernel)
set_option maxRecDepth 20000 in
theorem gX8_holds_X8_runAll : GoodIn wsX8_holds (wsV RX8 292 RX8 yX8_runAll wsX8_runAll) := goodIn_app (goodIn_of _ (by decide +kernel)) ggX8_holds_X8_runAll
theorem dX8_holds_0 : decode cX8_holds 0 = .ok (.aload_n 0, 1) := by decide +kernel
theorem dX8_holds_1 : decode cX8_holds 1 = .ok (.lload_n 1, 1) := by decide +kernel
theorem dX8_holds_2 : decode cX8_holds 2 = .ok (.invokevirtual 292, 3) := by decide +kernel
theorem dX8_holds_5 : decode cX8_holds 5 = .ok (.aload_n 0, 1) := by decide +kernel
theorem dX8_holds_6 : decode cX8_holds 6 = .ok (.getfield 250, 3) := by decide +kernel
theorem dX8_holds_9 : decode cX8_holds 9 = .ok (.ireturn, 1) := by decide +kernel
theorem dJ13_bitCount_95d88_0 : decode cJ13_bitCount_95d88 0 = .ok (.lload_n 0, 1) := by decide +kernel
theorem dJ13_bitCount_95d88_1 : decode cJ13_bitCount_95d88 1 = .ok (.lload_n 0, 1) := by decide +kernel
theorem dJ13_bitCount_95d88_2 : decode cJ13_bitCount_95d88 2 = .ok (.iconst 1, 1) := by decide +kernel
theorem dJ13_bitCount_95d88_3 : decode cJ13_bitCount_95d88 3 = .ok (.lushr, 1) := by decide +kernel
theorem dJ13_bitCount_95d88_4 : decode cJ13_bitCount_95d88 4 = .ok (.ldc2_w 314, 3) := by decide +kernel
theorem dJ13_bitCount_95d88_7 : decode cJ13_bitCount_95d88 7 = .ok (.land, 1) := by decide +kernel
theorem dJ13_bitCount_95d88_8 : decode cJ13_bitCount_95d88 8 = .ok (.lsub, 1) := by decide +kernel
theorem dJ13_bitCount_95d88_9 : decode cJ13_bitCount_95d88 9 = .ok (.lstore_n 0, 1) := by decide +kernel
theorem dJ13_bitCount_95d88_10 : decode cJ13_bitCount_95d88 10 = .ok (.lload_n 0, 1) := by decide +kernel
theorem dJ13_bitCount_95d88_11 : decode cJ13_bitCount_95d88 11 = .ok (.ldc2_w 316, 3) := by decide +kernel
theorem dJ13_bitCount_95d88_14 : decode cJ13_bitCount_95d88 14 = .ok (.land, 1) := by decide +kernel
theorem dJ13_bitCount_95d88_15 : decode cJ13_bitCount_95d88 15 = .ok (.lload_n 0, 1) := by decide +kernel
theorem dJ13_bitCount_95d88_16 : decode cJ13_bitCount_95d88 16 = .ok (.iconst 2, 1) := by decide +kernel
theorem dJ13_bitCount_95d88_17 : decode cJ13_bitCount_95d88 17 = .ok (.lushr, 1) := by decide +kernel
theorem dJ13_bitCount_95d88_18 : decode cJ13_bitCount_95d88 18 = .ok (.ldc2_w 316, 3) := by decide +kernel
theorem dJ13_bitCount_95d88_21 : decode cJ13_bitCount_95d88 21 = .ok (.land, 1) := by decide +kernel
theorem dJ13_bitCount_95d88_22 : decode cJ13_bitCount_95d88 22 = .ok (.ladd, 1) := by decide +kernel
theorem dJ13_bitCount_95d88_23 : decode cJ13_bitCount_95d88 23 = .ok (.lstore_n 0, 1) := by decide +kernel
theorem dJ13_bitCount_95d88_24 : decode cJ13_bitCount_95d88 24 = .ok (.lload_n 0, 1) := by decide +kernel
theorem dJ13_bitCount_95d88_25 : decode cJ13_bitCount_95d88 25 = .ok (.lload_n 0, 1) := by decide +kernel
theorem dJ13_bitCount_95d88_26 : decode cJ13_bitCount_95d88 26 = .ok (.iconst 4, 1) := by decide +kernel
theorem dJ13_bitCount_95d88_27 : decode cJ13_bitCount_95d88 27 = .ok (.lushr, 1) := by decide +kernel
theorem dJ13_bitCount_95d88_28 : decode cJ13_bitCount_95d88 28 = .ok (.ladd, 1) := by decide +kernel
theorem dJ13_bitCount_95d88_29 : decode cJ13_bitCount_95d88 29 = .ok (.ldc2_w 318, 3) := by decide +kernel
theorem dJ13_bitCount_95d88_32 : decode cJ13_bitCount_95d88 32 = .ok (.land, 1) := by decide +kernel
theorem dJ13_bitCount_95d88_33 : decode cJ13_bitCount_95d88 33 = .ok (.lstore_n 0, 1) := by decide +kernel
theorem dJ13_bitCount_95d88_34 : decode cJ13_bitCount_95d88 34 = .ok (.lload_n 0, 1) := by decide +kernel
theorem dJ13_bitCount_95d88_35 : decode cJ13_bitCount_95d88 35 = .ok (.lload_n 0, 1) := by decide +kernel
theorem dJ13_bitCount_95d88_36 : decode cJ13_bitCount_95d88 36 = .ok (.bipush 8, 2) := by decide +kernel
theorem dJ13_bitCount_95d88_38 : decode cJ13_bitCount_95d88 38 = .ok (.lushr, 1) := by decide +kernel
theorem dJ13_bitCount_95d88_39 : decode cJ13_bitCount_95d88 39 = .ok (.ladd, 1) := by decide +kernel
theorem dJ13_bitCount_95d88_40 : decode cJ13_bitCount_95d88 40 = .ok (.lstore_n 0, 1) := by decide +kernel
theorem dJ13_bitCount_95d88_41 : decode cJ13_bitCount_95d88 41 = .ok (.lload_n 0, 1) := by decide +kernel
theorem dJ13_bitCount_95d88_42 : decode cJ13_bitCount_95d88 42 = .ok (.lload_n 0, 1) := by decide +kernel
theorem dJ13_bitCount_95d88_43 : decode cJ13_bitCount_95d88 43 = .ok (.bipush 16, 2) := by decide +kernel
theorem dJ13_bitCount_95d88_45 : decode cJ13_bitCount_95d88 45 = .ok (.lushr, 1) := by decide +kernel
theorem dJ13_bitCount_95d88_46 : decode cJ13_bitCount_95d88 46 = .ok (.ladd, 1) := by decide +kernel
theorem dJ13_bitCount_95d88_47 : decode cJ13_bitCount_95d88 47 = .ok (.lstore_n 0, 1) := by decide +kernel
theorem dJ13_bitCount_95d88_48 : decode cJ13_bitCount_95d88 48 = .ok (.lload_n 0, 1) := by decide +kernel
theorem dJ13_bitCount_95d88_49 : decode cJ13_bitCount_95d88 49 = .ok (.lload_n 0, 1) := by decide +kernel
theorem dJ13_bitCount_95d88_50 : decode cJ13_bitCount_95d88 50 = .ok (.bipush 32, 2) := by decide +kernel
theorem dJ13_bitCount_95d88_52 : decode cJ13_bitCount_95d88 52 = .ok (.lushr, 1) := by decide +kernel
theorem dJ13_bitCount_95d88_53 : decode cJ13_bitCount_95d88 53 = .ok (.ladd, 1) := by decide +kernel
theorem dJ13_bitCount_95d88_54 : decode cJ13_bitCount_95d88 54 = .ok (.lstore_n 0, 1) := by decide +kernel
theorem dJ13_bitCount_95d88_55 : decode cJ13_bitCount_95d88 55 = .ok (.lload_n 0, 1) := by decide +kernel
theorem dJ13_bitCount_95d88_56 : decode cJ13_bitCount_95d88 56 = .ok (.l2i, 1) := by decide +kernel
theorem dJ13_bitCount_95d88_57 : decode cJ13_bitCount_95d88 57 = .ok (.bipush 127, 2) := by decide +kernel
theorem dJ13_bitCount_95d88_59 : decode cJ13_bitCount_95d88 59 = .ok (.iand, 1) := by decide +kernel
theorem dJ13_bitCount_95d88_60 : decode cJ13_bitCount_95d88 60 = .ok (.ireturn, 1) := by decide +kernel
theorem dJ9_min_7cf53_0 : decode cJ9_min_7cf53 0 = .ok (.iload_n 0, 1) := by decide +kernel
theorem dJ9_min_7cf53_1 : decode cJ9_min_7cf53 1 = .ok (.iload_n 1, 1) := by decide +kernel
theorem dJ9_min_7cf53_2 : decode cJ9_min_7cf53 2 = .ok (.if_icmp .gt 7, 3) := by decide +kernel
theorem dJ9_min_7cf53_5 : decode cJ9_min_7cf53 5 = .ok (.iload_n 0, 1) := by decide +kernel
theorem dJ9_min_7cf53_6 : decode cJ9_min_7cf53 6 = .ok (.goto 4, 3) := by decide +kernel
theorem dJ9_min_7cf53_9 : decode cJ9_min_7cf53 9 = .ok (.iload_n 1, 1) := by decide +kernel
theorem dJ9_min_7cf53_10 : decode cJ9_min_7cf53 10 = .ok (.ireturn, 1) := by decide +kernel
theorem dJ7_fill_d0a16_0 : decode cJ7_fill_d0a16 0 = .ok (.iconst 0, 1) := by decide +kernel
theorem dJ7_fill_d0a16_1 : decode cJ7_fill_d0a16 1 = .ok (.istore_n 3, 1) := by decide +kernel
theorem dJ7_fill_d0a16_2 : decode cJ7_fill_d0a16 2 = .ok (.aload_n 0, 1) := by decide +kernel
theorem dJ7_fill_d0a16_3 : decode cJ7_fill_d0a16 3 = .ok (.arraylength, 1) := by decide +kernel
theorem dJ7_fill_d0a16_4 : decode cJ7_fill_d0a16 4 = .ok (.istore 4, 2) := by decide +kernel
theorem dJ7_fill_d0a16_6 : decode cJ7_fill_d0a16 6 = .ok (.iload_n 3, 1) := by decide +kernel
theorem dJ7_fill_d0a16_7 : decode cJ7_fill_d0a16 7 = .ok (.iload 4, 2) := by decide +kernel
theorem dJ7_fill_d0a16_9 : decode cJ7_fill_d0a16 9 = .ok (.if_icmp .ge 13, 3) := by decide +kernel
theorem dJ7_fill_d0a16_12 : decode cJ7_fill_d0a16 12 = .ok (.aload_n 0, 1) := by decide +kernel
theorem dJ7_fill_d0a16_13 : decode cJ7_fill_d0a16 13 = .ok (.iload_n 3, 1) := by decide +kernel
theorem dJ7_fill_d0a16_14 : decode cJ7_fill_d0a16 14 = .ok (.lload_n 1, 1) := by decide +kernel
theorem dJ7_fill_d0a16_15 : decode cJ7_fill_d0a16 15 = .ok (.lastore, 1) := by decide +kernel
theorem dJ7_fill_d0a16_16 : decode cJ7_fill_d0a16 16 = .ok (.iinc 3 1, 3) := by decide +kernel
theorem dJ7_fill_d0a16_19 : decode cJ7_fill_d0a16 19 = .ok (.goto (-13), 3) := by decide +kernel
theorem dJ7_fill_d0a16_22 : decode cJ7_fill_d0a16 22 = .ok (.return_, 1) := by decide +kernel
theorem dJ7_fill_53178_0 : decode cJ7_fill_53178 0 = .ok (.iconst 0, 1) := by decide +kernel
theorem dJ7_fill_53178_1 : decode cJ7_fill_53178 1 = .ok (.istore_n 2, 1) := by decide +kernel
theorem dJ7_fill_53178_2 : decode cJ7_fill_53178 2 = .ok (.aload_n 0, 1) := by decide +kernel
theorem dJ7_fill_53178_3 : decode cJ7_fill_53178 3 = .ok (.arraylength, 1) := by decide +kernel
theorem dJ7_fill_53178_4 : decode cJ7_fill_53178 4 = .ok (.istore_n 3, 1) := by decide +kernel
theorem dJ7_fill_53178_5 : decode cJ7_fill_53178 5 = .ok (.iload_n 2, 1) := by decide +kernel
theorem dJ7_fill_53178_6 : decode cJ7_fill_53178 6 = .ok (.iload_n 3, 1) := by decide +kernel
theorem dJ7_fill_53178_7 : decode cJ7_fill_53178 7 = .ok (.if_icmp .ge 13, 3) := by decide +kernel
theorem dJ7_fill_53178_10 : decode cJ7_fill_53178 10 = .ok (.aload_n 0, 1) := by decide +kernel
theorem dJ7_fill_53178_11 : decode cJ7_fill_53178 11 = .ok (.iload_n 2, 1) := by decide +kernel
theorem dJ7_fill_53178_12 : decode cJ7_fill_53178 12 = .ok (.iload_n 1, 1) := by decide +kernel
theorem dJ7_fill_53178_13 : decode cJ7_fill_53178 13 = .ok (.iastore, 1) := by decide +kernel
theorem dJ7_fill_53178_14 : decode cJ7_fill_53178 14 = .ok (.iinc 2 1, 3) := by decide +kernel
theorem dJ7_fill_53178_17 : decode cJ7_fill_53178 17 = .ok (.goto (-12), 3) := by decide +kernel
theorem dJ7_fill_53178_20 : decode cJ7_fill_53178 20 = .ok (.return_, 1) := by decide +kernel
set_option maxRecDepth 20000 in
theorem ggL_law_X7_init : GoodIn wsL_law wsX7_init := goodIn_r _ [9, 10, 11, 12, 13, 14, 15, 16, 17, 18, 19, 20, 21, 22, 23, 24, 25, 26, 27, 28, 29, 30, 31, 32, 33, 34, 35, 36, 37, 38, 39, 40, 41, 42, 43, 44, 45, 46, 47, 48, 49, 50, 51, 52, 53, 54, 55, 56, 57, 58, 59, 60, 61, 62, 63, 64, 65, 66, 67, 68, 69, 70, 71, 72, 73, 74, 75, 76, 77, 78, 79, 80, 81, 82, 83, 84, 85, 86, 87, 88, 89, 90, 91, 92, 93, 94, 95, 96, 97, 98, 99, 100, 101, 1021, 1022, 1023, 1024, 1025, 1026, 965, 966, 967, 968, 969, 970, 1027, 1028, 1029, 1030, 1031, 1032, 1033, 1034, 1035, 1036, 1037, 1038, 1039, 1040, 1041, 1042, 1043, 1044, 1045, 1046, 1047, 1048, 1049, 1050, 1051, 1052, 1053, 1054, 1055, 1056, 1057, 1058, 1059, 1060, 1061, 1062, 1063, 1064, 1065, 1066, 1067, 1068, 1069, 1070, 1071, 1072, 1073, 1074, 1075] (by decide +kernel) (by decide +kernel)
set_option maxRecDepth 20000 in
theorem gL_law_X7_init : GoodIn wsL_law (wsX7_init) := ggL_law_X7_init
set_option maxRecDepth 20000 in
theorem ggL_law_X8_init : GoodIn wsL_law wsX8_init := goodIn_r _ [104, 105, 11, 12, 40, 106, 107, 108, 109, 110, 111, 112, 113, 114, 115, 116, 117, 118, 119, 120, 121, 122, 123, 124, 125, 126, 127, 128, 129, 130, 131, 132, 133, 134, 135, 136, 137, 138, 139, 140, 141, 142, 143, 971, 972, 973, 974, 975, 976, 977, 978, 979, 980, 981, 982, 983, 984, 985, 986, 987, 988, 989, 990, 991, 992, 993, 994, 995, 996, 997, 998, 999, 1000, 1001, 1002, 1003, 1004, 1005, 1006, 1007, 1008, 1009, 1010, 1011, 1012, 1013, 1014, 1015, 1016, 1017, 1018, 1019, 1020] (by decide +kernel) (by decide +kernel)
set_option maxRecDepth 20000 in
theorem gL_law_X8_init : GoodIn wsL_law (wsX8_init) := ggL_law_X8_init
set_option maxRecDepth 20000 in
theorem ggL_law_X7_type : GoodIn wsL_law wsX7_type := goodIn_r _ [147, 16, 32, 24, 148, 149, 150, 15, 151, 152, 153, 154, 155, 156, 41, 157, 158, 159, 160, 161, 162, 163, 31, 164, 165, 166, 167, 168, 169, 42, 170, 171, 172, 173, 174, 175, 176, 177, 178, 44, 45, 179, 180, 181, 182, 183, 184, 23, 185, 186, 187, 188, 189, 67, 68, 65, 66, 190, 191, 192, 193, 194, 195, 196, 197, 198, 199, 200, 201, 202, 19, 203, 55, 204, 205, 206, 207, 208, 209, 210, 211, 212, 52, 213, 214, 215, 216, 217, 218, 219, 220, 221, 222, 223, 224, 225, 226, 227, 228, 229, 230, 231, 232, 233, 234, 235, 236, 237, 238, 239, 240, 241, 242, 243, 244, 245, 246, 247, 248, 249, 250, 251, 252, 253, 51, 965, 966, 967, 968, 969, 970, 1021, 1022, 1023, 1024, 1025, 1026, 1048, 1049, 1050, 1051, 1052, 1053, 1054, 1055, 1056, 1057, 1058, 1059, 1060, 1038, 1039, 1040, 1041, 1027, 1028, 1029, 1030, 1031, 1032, 1033, 1034, 1035, 1036, 1037] (by decide +kernel) (by decide +kernel)
set_option maxRecDepth 20000 in
theorem gL_law_X7_type : GoodIn wsL_law (wsV RL 13 RX7 yX7_type wsX7_type) := goodIn_app (goodIn_of _ (by decide +kernel)) ggL_law_X7_type
set_option maxRecDepth 20000 in
theorem ggL_law_X8_type : GoodIn wsL_law wsX8_type := goodIn_r _ [257, 106, 258, 107, 108, 143, 259, 260, 261, 262, 5, 263, 264, 265, 266, 971, 972, 973, 974, 975, 976, 977, 978, 979, 980, 981, 982, 983, 984, 985, 986, 987, 988, 989, 990, 991, 992, 993, 994, 995, 996, 997, 998, 999, 1000, 1001, 1002, 1003, 1004, 1005, 1006, 1007, 1008, 1009, 1010, 1011, 1012, 1013, 1014, 1015, 1016, 1017, 1018, 1019, 1020] (by decide +kernel) (by decide +kernel)
set_option maxRecDepth 20000 in
theorem gL_law_X8_type : GoodIn wsL_law (wsV RL 17 RX8 yX8_type wsX8_type) := goodIn_app (goodIn_of _ (by decide +kernel)) ggL_law_X8_type
set_option maxRecDepth 20000 in
theorem ggL_law_X7_face : GoodIn wsL_law wsX7_face := goodIn_r _ [270, 16, 32, 24, 148, 149, 150, 15, 151, 152, 153, 154, 155, 156, 41, 271, 272, 273, 274, 44, 179, 180, 173, 181, 275, 276, 277, 278, 279, 228, 229, 230, 231, 232, 233, 161, 162, 163, 31, 164, 165, 280, 281, 282, 283, 171, 172, 174, 175, 176, 177, 178, 42, 45, 284, 182, 183, 184, 23, 185, 186, 187, 188, 189, 67, 68, 65, 66, 190, 158, 159, 160, 191, 192, 193, 194, 195, 196, 197, 198, 199, 170, 200, 201, 202, 19, 203, 55, 204, 205, 206, 207, 208, 209, 210, 211, 212, 52, 213, 214, 215, 216, 217, 218, 219, 220, 221, 222, 223, 224, 225, 226, 227, 234, 235, 236, 237, 238, 239, 240, 241, 242, 243, 244, 245, 246, 247, 248, 249, 250, 251, 252, 253, 51, 965, 966, 967, 968, 969, 970, 1021, 1022, 1023, 1024, 1025, 1026, 1048, 1049, 1050, 1051, 1052, 1053, 1054, 1055, 1056, 1057, 1058, 1059, 1060, 1038, 1039, 1040, 1041, 1027, 1028, 1029, 1030, 1031, 1032, 1033, 1034, 1035, 1036, 1037] (by decide +kernel) (by decide +kernel)
set_option maxRecDepth 20000 in
theorem gL_law_X7_face : GoodIn wsL_law (wsV RL 18 RX7 yX7_face wsX7_face) := goodIn_app (goodIn_of _ (by decide +kernel)) ggL_law_X7_face
set_option maxRecDepth 20000 in
theorem ggL_law_X8_face : GoodIn wsL_law wsX8_face := goodIn_r _ [288, 106, 108, 109, 143, 259, 260, 261, 262, 5, 263, 258, 264, 265, 266, 971, 972, 973, 974, 975, 976, 977, 978, 979, 980, 981, 982, 983, 984, 985, 986, 987, 988, 989, 990, 991, 992, 993, 994, 995, 996, 997, 998, 999, 1000, 1001, 1002, 1003, 1004, 1005, 1006, 1007, 1008, 1009, 1010, 1011, 1012, 1013, 1014, 1015, 1016, 1017, 1018, 1019, 1020] (by decide +kernel) (by decide +kernel)
set_option maxRecDepth 20000 in
theorem gL_law_X8_face : GoodIn wsL_law (wsV RL 21 RX8 yX8_face wsX8_face) := goodIn_app (goodIn_of _ (by decide +kernel)) ggL_law_X8_face
set_option maxRecDepth 20000 in
theorem ggL_law_X7_member : GoodIn wsL_law wsX7_member := goodIn_r _ [292, 16, 20, 32, 24, 148, 149, 150, 15, 151, 152, 293, 294, 2, 295, 296, 297, 298, 299, 41, 300, 301, 302, 19, 303, 53, 304, 210, 211, 212, 52, 305, 306, 307, 308, 309, 161, 162, 163, 31, 164, 165, 310, 311, 312, 313, 50, 51, 314, 315, 316, 317, 54, 55, 218, 318, 319, 320, 321, 322, 323, 172, 173, 174, 324, 187, 188, 23, 189, 67, 68, 65, 66, 190, 158, 159, 160, 191, 192, 193, 194, 195, 196, 197, 198, 199, 45, 170, 200, 201, 202, 203, 204, 180, 181, 205, 206, 207, 208, 209, 213, 214, 215, 216, 217, 219, 220, 221, 222, 223, 224, 225, 226, 42, 227, 228, 229, 230, 231, 232, 233, 234, 235, 236, 237, 238, 239, 240, 241, 242, 243, 244, 245, 246, 247, 248, 249, 250, 251, 252, 253, 965, 966, 967, 968, 969, 970, 1021, 1022, 1023, 1024, 1025, 1026, 1027, 1028, 1029, 1030, 1031, 1032, 1033, 1034, 1035, 1036, 1037, 1048, 1049, 1050, 1051, 1052, 1053, 1054, 1055, 1056, 1057, 1058, 1059, 1060, 1038, 1039, 1040, 1041] (by decide +kernel) (by decide +kernel)
set_option maxRecDepth 20000 in
theorem gL_law_X7_member : GoodIn wsL_law (wsV RL 22 RX7 yX7_member wsX7_member) := goodIn_app (goodIn_of _ (by decide +kernel)) ggL_law_X7_member
set_option maxRecDepth 20000 in
theorem ggL_law_X8_member : GoodIn wsL_law wsX8_member := goodIn_r _ [328, 106, 329, 110, 111, 112, 114, 115, 143, 260, 261, 262, 5, 263, 258, 264, 265, 266, 330, 331, 332, 333, 971, 972, 973, 974, 975, 976, 977, 978, 979, 980, 981, 982, 983, 984, 985, 986, 987, 988, 989, 990, 991, 992, 993, 994, 995, 996, 997, 998, 999, 1000, 1001, 1002, 1003, 1004, 1005, 1006, 1007, 1008, 1009, 1010, 1011, 1012, 1013, 1014, 1015, 1016, 1017, 1018, 1019, 1020] (by decide +kernel) (by decide +kernel)
set_option maxRecDepth 20000 in
theorem gL_law_X8_member : GoodIn wsL_law (wsV RL 26 RX8 yX8_member wsX8_member) := goodIn_app (goodIn_of _ (by decide +kernel)) ggL_law_X8_member
set_option maxRecDepth 20000 in
theorem ggL_law_X7_op : GoodIn wsL_law wsX7_op := goodIn_r _ [337, 20, 28, 32, 338, 339, 340, 19, 341, 309, 342, 343, 344, 2, 345, 16, 148, 149, 150, 15, 151, 152, 346, 347, 348, 349, 296, 297, 298, 299, 41, 293, 294, 295, 350, 351, 352, 353, 50, 354, 355, 356, 357, 42, 358, 272, 273, 274, 44, 179, 180, 173, 181, 359, 360, 361, 362, 320, 321, 322, 51, 363, 251, 252, 253, 364, 365, 366, 27, 367, 75, 368, 369, 370, 371, 372, 161, 162, 163, 31, 164, 165, 373, 374, 375, 376, 72, 73, 74, 76, 965, 966, 967, 968, 969, 970, 1027, 1028, 1029, 1030, 1031, 1032, 1033, 1034, 1035, 1036, 1037, 1021, 1022, 1023, 1024, 1025, 1026, 1042, 1043, 1044, 1045, 1046, 1047, 1048, 1049, 1050, 1051, 1052, 1053, 1054, 1055, 1056, 1057, 1058, 1059, 1060] (by decide +kernel) (by decide +kernel)
set_option maxRecDepth 20000 in
theorem gL_law_X7_op : GoodIn wsL_law (wsV RL 27 RX7 yX7_op wsX7_op) := goodIn_app (goodIn_of _ (by decide +kernel)) ggL_law_X7_op
set_option maxRecDepth 20000 in
theorem ggL_law_X8_op : GoodIn wsL_law wsX8_op := goodIn_r _ [380, 112, 381, 115, 117, 118, 119, 116, 143, 382, 383, 384, 5, 385, 329, 264, 265, 266, 260, 261, 262, 263, 258, 386, 387, 388, 389, 106, 110, 390, 391, 392, 393, 107, 108, 109, 394, 395, 396, 971, 972, 973, 974, 975, 976, 977, 978, 979, 980, 981, 982, 983, 984, 985, 986, 987, 988, 989, 990, 991, 992, 993, 994, 995, 996, 997, 998, 999, 1000, 1001, 1002, 1003, 1004, 1005, 1006, 1007, 1008, 1009, 1010, 1011, 1012, 1013, 1014, 1015, 1016, 1017, 1018, 1019, 1020] (by decide +kernel) (by decide +kernel)
set_option maxRecDepth 20000 in
theorem gL_law_X8_op : GoodIn wsL_law (wsV RL 31 RX8 yX8_op wsX8_op) := goodIn_app (goodIn_of _ (by decide +kernel)) ggL_law_X8_op
set_option maxRecDepth 20000 in
theorem ggL_law_X7_root : GoodIn wsL_law wsX7_root := goodIn_r _ [400, 20, 32, 338, 339, 340, 19, 341, 309, 363, 251, 252, 253, 51, 401, 402, 403, 404, 405, 406, 180, 173, 181, 161, 162, 163, 31, 164, 165, 407, 408, 409, 410, 965, 966, 967, 968, 969, 970, 1027, 1028, 1029, 1030, 1031, 1032, 1033, 1034, 1035, 1036, 1037, 1048, 1049, 1050, 1051, 1052, 1053, 1054, 1055, 1056, 1057, 1058, 1059, 1060] (by decide +kernel) (by decide +kernel)
set_option maxRecDepth 20000 in
theorem gL_law_X7_root : GoodIn wsL_law (wsV RL 32 RX7 yX7_root wsX7_root) := goodIn_app (goodIn_of _ (by decide +kernel)) ggL_law_X7_root
set_option maxRecDepth 20000 in
theorem ggL_law_X8_root : GoodIn wsL_law wsX8_root := goodIn_r _ [414, 112, 114, 143, 382, 383, 384, 5, 385, 329, 264, 265, 266, 971, 972, 973, 974, 975, 976, 977, 978, 979, 980, 981, 982, 983, 984, 985, 986, 987, 988, 989, 990, 991, 992, 993, 994, 995, 996, 997, 998, 999, 1000, 1001, 1002, 1003, 1004, 1005, 1006, 1007, 1008, 1009, 1010, 1011, 1012, 1013, 1014, 1015, 1016, 1017, 1018, 1019, 1020] (by decide +kernel) (by decide +kernel)
set_option maxRecDepth 20000 in
theorem gL_law_X8_root : GoodIn wsL_law (wsV RL 36 RX8 yX8_root wsX8_root) := goodIn_app (goodIn_of _ (by decide +kernel)) ggL_law_X8_root
set_option maxRecDepth 20000 in
theorem ggL_law_X7_count : GoodIn wsL_law wsX7_count := goodIn_r _ [418, 32, 16, 20, 28, 419, 420, 421, 31, 422, 165, 423, 424, 425, 426, 87, 427, 428, 429, 81, 82, 83, 430, 431, 432, 19, 433, 405, 434, 435, 59, 436, 437, 438, 439, 440, 441, 228, 229, 230, 231, 232, 233, 442, 443, 444, 445, 89, 446, 306, 307, 308, 309, 447, 180, 173, 181, 448, 365, 366, 27, 367, 75, 449, 450, 451, 452, 76, 453, 454, 455, 456, 88, 457, 458, 459, 460, 73, 461, 462, 463, 464, 74, 465, 466, 467, 468, 72, 469, 172, 174, 470, 471, 472, 473, 86, 474, 475, 476, 477, 56, 318, 478, 154, 155, 15, 156, 41, 479, 197, 198, 199, 45, 170, 480, 224, 225, 226, 42, 481, 301, 302, 303, 53, 482, 483, 484, 485, 486, 487, 488, 489, 490, 158, 159, 160, 152, 491, 492, 493, 494, 179, 495, 496, 497, 23, 498, 65, 68, 66, 250, 251, 252, 253, 51, 499, 500, 501, 502, 503, 504, 505, 506, 507, 351, 352, 353, 50, 508, 509, 510, 511, 54, 512, 513, 514, 515, 516, 517, 518, 519, 84, 520, 521, 522, 523, 157, 305, 368, 369, 370, 371, 372, 524, 525, 526, 527, 528, 529, 530, 531, 532, 533, 534, 535, 536, 537, 538, 539, 540, 541, 542, 543, 544, 545, 546, 547, 548, 549, 550, 551, 552, 553, 554, 555, 556, 557, 558, 559, 560, 561, 562, 563, 564, 565, 566, 567, 568, 569, 570, 965, 966, 967, 968, 969, 970, 1048, 1049, 1050, 1051, 1052, 1053, 1054, 1055, 1056, 1057, 1058, 1059, 1060, 1027, 1028, 1029, 1030, 1031, 1032, 1033, 1034, 1035, 1036, 1037, 1042, 1043, 1044, 1045, 1046, 1047, 1021, 1022, 1023, 1024, 1025, 1026, 1038, 1039, 1040, 1041] (by decide +kernel) (by decide +kernel)
set_option maxRecDepth 20000 in
theorem gL_law_X7_count : GoodIn wsL_law (wsV RL 37 RX7 yX7_count wsX7_count) := goodIn_app (goodIn_of _ (by decide +kernel)) ggL_law_X7_count
set_option maxRecDepth 20000 in
theorem ggL_law_X8_count : GoodIn wsL_law wsX8_count := goodIn_r _ [574, 258, 329, 381, 575, 576, 577, 5, 578, 143, 120, 114, 121, 122, 123, 124, 125, 579, 115, 116, 580, 581, 582, 583, 118, 119, 117, 112, 110, 111, 584, 585, 586, 587, 130, 588, 589, 590, 591, 106, 592, 593, 594, 595, 259, 127, 126, 596, 597, 598, 599, 107, 108, 109, 600, 601, 602, 603, 330, 331, 332, 333, 604, 605, 606, 607, 608, 609, 610, 611, 612, 613, 614, 615, 616, 617, 618, 619, 128, 620, 621, 622, 623, 129, 624, 625, 626, 627, 628, 629, 630, 631, 632, 633, 634, 635, 394, 395, 396, 636, 637, 638, 639, 132, 131, 264, 265, 266, 640, 641, 642, 643, 644, 645, 646, 647, 971, 972, 973, 974, 975, 976, 977, 978, 979, 980, 981, 982, 983, 984, 985, 986, 987, 988, 989, 990, 991, 992, 993, 994, 995, 996, 997, 998, 999, 1000, 1001, 1002, 1003, 1004, 1005, 1006, 1007, 1008, 1009, 1010, 1011, 1012, 1013, 1014, 1015, 1016, 1017, 1018, 1019, 1020] (by decide +kernel) (by decide +kernel)
set_option maxRecDepth 20000 in
theorem gL_law_X8_count : GoodIn wsL_law (wsV RL 41 RX8 yX8_count wsX8_count) := goodIn_app (goodIn_of _ (by decide +kernel)) ggL_law_X8_count
set_option maxRecDepth 20000 in
theorem ggL_law_X7_under : GoodIn wsL_law wsX7_under := goodIn_r _ [651, 16, 148, 149, 150, 15, 151, 152, 652, 492, 493, 494, 45, 179, 180, 173, 181, 965, 966, 967, 968, 969, 970, 1021, 1022, 1023, 1024, 1025, 1026] (by decide +kernel) (by decide +kernel)
set_option maxRecDepth 20000 in
theorem gL_law_X7_under : GoodIn wsL_law (wsV RL 42 RX7 yX7_under wsX7_under) := goodIn_app (goodIn_of _ (by decide +kernel)) ggL_law_X7_under
set_option maxRecDepth 20000 in
theorem ggL_law_X8_under : GoodIn wsL_law wsX8_under := goodIn_r _ [656, 260, 261, 262, 5, 263, 258, 264, 265, 266, 592, 593, 594, 595, 259, 127, 126, 596, 597, 598, 599, 107, 108, 109, 971, 972, 973, 974, 975, 976, 977, 978, 979, 980, 981, 982, 983, 984, 985, 986, 987, 988, 989, 990, 991, 992, 993, 994, 995, 996, 997, 998, 999, 1000, 1001, 1002, 1003, 1004, 1005, 1006, 1007, 1008, 1009, 1010, 1011, 1012, 1013, 1014, 1015, 1016, 1017, 1018, 1019, 1020] (by decide +kernel) (by decide +kernel)
set_option maxRecDepth 20000 in
theorem gL_law_X8_under : GoodIn wsL_law (wsV RL 45 RX8 yX8_under wsX8_under) := goodIn_app (goodIn_of _ (by decide +kernel)) ggL_law_X8_under
set_option maxRecDepth 20000 in
theorem ggL_law_X7_found : GoodIn wsL_law wsX7_found := goodIn_r _ [660, 16, 24, 148, 149, 150, 15, 151, 152, 293, 294, 2, 295, 661, 662, 663, 23, 664, 65, 965, 966, 967, 968, 969, 970, 1021, 1022, 1023, 1024, 1025, 1026, 1038, 1039, 1040, 1041] (by decide +kernel) (by decide +kernel)
set_option maxRecDepth 20000 in
theorem gL_law_X7_found : GoodIn wsL_law (wsV RL 46 RX7 yX7_found wsX7_found) := goodIn_app (goodIn_of _ (by decide +kernel)) ggL_law_X7_found
set_option maxRecDepth 20000 in
theorem ggL_law_X8_found : GoodIn wsL_law wsX8_found := goodIn_r _ [668, 260, 261, 262, 5, 263, 258, 264, 265, 266, 616, 617, 618, 619, 106, 107, 329, 128, 112, 330, 331, 332, 333, 110, 111, 620, 621, 622, 623, 129, 592, 593, 594, 595, 259, 127, 126, 596, 597, 598, 599, 108, 109, 971, 972, 973, 974, 975, 976, 977, 978, 979, 980, 981, 982, 983, 984, 985, 986, 987, 988, 989, 990, 991, 992, 993, 994, 995, 996, 997, 998, 999, 1000, 1001, 1002, 1003, 1004, 1005, 1006, 1007, 1008, 1009, 1010, 1011, 1012, 1013, 1014, 1015, 1016, 1017, 1018, 1019, 1020] (by decide +kernel) (by decide +kernel)
set_option maxRecDepth 20000 in
theorem gL_law_X8_found : GoodIn wsL_law (wsV RL 49 RX8 yX8_found wsX8_found) := goodIn_app (goodIn_of _ (by decide +kernel)) ggL_law_X8_found
set_option maxRecDepth 20000 in
theorem ggL_law_X7_chosen : GoodIn wsL_law wsX7_chosen := goodIn_r _ [672, 16, 24, 148, 149, 150, 15, 151, 152, 293, 294, 2, 295, 652, 492, 493, 494, 45, 179, 180, 173, 181, 673, 496, 497, 23, 498, 65, 68, 66, 250, 251, 252, 19, 253, 51, 965, 966, 967, 968, 969, 970, 1021, 1022, 1023, 1024, 1025, 1026, 1038, 1039, 1040, 1041, 1027, 1028, 1029, 1030, 1031, 1032, 1033, 1034, 1035, 1036, 1037] (by decide +kernel) (by decide +kernel)
set_option maxRecDepth 20000 in
theorem gL_law_X7_chosen : GoodIn wsL_law (wsV RL 50 RX7 yX7_chosen wsX7_chosen) := goodIn_app (goodIn_of _ (by decide +kernel)) ggL_law_X7_chosen
set_option maxRecDepth 20000 in
theorem ggL_law_X8_chosen : GoodIn wsL_law wsX8_chosen := goodIn_r _ [677, 260, 261, 262, 5, 263, 258, 264, 265, 266, 592, 593, 594, 595, 259, 127, 126, 596, 597, 598, 599, 107, 108, 109, 632, 633, 634, 635, 112, 616, 617, 618, 619, 106, 329, 128, 330, 331, 332, 333, 110, 111, 620, 621, 622, 623, 129, 624, 625, 626, 627, 971, 972, 973, 974, 975, 976, 977, 978, 979, 980, 981, 982, 983, 984, 985, 986, 987, 988, 989, 990, 991, 992, 993, 994, 995, 996, 997, 998, 999, 1000, 1001, 1002, 1003, 1004, 1005, 1006, 1007, 1008, 1009, 1010, 1011, 1012, 1013, 1014, 1015, 1016, 1017, 1018, 1019, 1020] (by decide +kernel) (by decide +kernel)
set_option maxRecDepth 20000 in
theorem gL_law_X8_chosen : GoodIn wsL_law (wsV RL 53 RX8 yX8_chosen wsX8_chosen) := goodIn_app (goodIn_of _ (by decide +kernel)) ggL_law_X8_chosen
set_option maxRecDepth 20000 in
theorem ggL_law_X7_about : GoodIn wsL_law wsX7_about := goodIn_r _ [681, 20, 32, 338, 339, 340, 19, 341, 309, 419, 420, 421, 31, 422, 165, 423, 424, 425, 426, 87, 427, 428, 429, 81, 82, 83, 430, 431, 432, 433, 405, 434, 435, 59, 436, 437, 438, 439, 440, 441, 228, 229, 230, 231, 232, 233, 442, 443, 444, 445, 89, 446, 306, 307, 308, 447, 180, 173, 181, 448, 365, 366, 27, 367, 75, 449, 450, 451, 452, 76, 453, 454, 455, 456, 88, 457, 458, 459, 460, 73, 461, 462, 463, 464, 74, 465, 466, 467, 468, 72, 469, 172, 174, 470, 471, 472, 473, 86, 474, 475, 476, 477, 56, 318, 478, 154, 155, 15, 156, 41, 479, 197, 198, 199, 45, 170, 480, 224, 225, 226, 42, 481, 301, 302, 303, 53, 482, 483, 484, 485, 486, 487, 488, 489, 490, 158, 159, 160, 152, 491, 492, 493, 494, 179, 495, 496, 497, 23, 498, 65, 68, 66, 250, 251, 252, 253, 51, 499, 500, 501, 502, 503, 504, 505, 506, 507, 351, 352, 353, 50, 508, 509, 510, 511, 54, 512, 513, 514, 515, 516, 517, 518, 519, 84, 520, 521, 522, 523, 526, 527, 528, 529, 682, 683, 568, 569, 570, 684, 685, 686, 687, 688, 689, 690, 691, 525, 692, 693, 694, 695, 696, 235, 236, 237, 238, 239, 240, 241, 965, 966, 967, 968, 969, 970, 1027, 1028, 1029, 1030, 1031, 1032, 1033, 1034, 1035, 1036, 1037, 1048, 1049, 1050, 1051, 1052, 1053, 1054, 1055, 1056, 1057, 1058, 1059, 1060, 1042, 1043, 1044, 1045, 1046, 1047, 1021, 1022, 1023, 1024, 1025, 1026, 1038, 1039, 1040, 1041] (by decide +kernel) (by decide +kernel)
set_option maxRecDepth 20000 in
theorem gL_law_X7_about : GoodIn wsL_law (wsV RL 54 RX7 yX7_about wsX7_about) := goodIn_app (goodIn_of _ (by decide +kernel)) ggL_law_X7_about
set_option maxRecDepth 20000 in
theorem ggL_law_X8_about : GoodIn wsL_law wsX8_about := goodIn_r _ [700, 329, 120, 382, 383, 384, 5, 385, 264, 265, 266, 575, 576, 577, 578, 143, 114, 121, 122, 123, 124, 125, 579, 115, 116, 580, 581, 582, 583, 118, 119, 117, 112, 110, 111, 584, 585, 586, 587, 258, 130, 588, 589, 590, 591, 106, 592, 593, 594, 595, 259, 127, 126, 596, 597, 598, 599, 107, 108, 109, 600, 601, 602, 603, 330, 331, 332, 333, 604, 605, 606, 607, 608, 609, 610, 611, 612, 613, 614, 615, 616, 617, 618, 619, 128, 620, 621, 622, 623, 129, 624, 625, 626, 627, 628, 629, 630, 631, 632, 633, 634, 635, 394, 395, 396, 636, 637, 638, 639, 132, 131, 701, 702, 703, 704, 644, 645, 646, 647, 705, 706, 707, 708, 709, 710, 711, 712, 971, 972, 973, 974, 975, 976, 977, 978, 979, 980, 981, 982, 983, 984, 985, 986, 987, 988, 989, 990, 991, 992, 993, 994, 995, 996, 997, 998, 999, 1000, 1001, 1002, 1003, 1004, 1005, 1006, 1007, 1008, 1009, 1010, 1011, 1012, 1013, 1014, 1015, 1016, 1017, 1018, 1019, 1020] (by decide +kernel) (by decide +kernel)
set_option maxRecDepth 20000 in
theorem gL_law_X8_about : GoodIn wsL_law (wsV RL 57 RX8 yX8_about wsX8_about) := goodIn_app (goodIn_of _ (by decide +kernel)) ggL_law_X8_about
set_option maxRecDepth 20000 in
theorem ggL_law_X7_made : GoodIn wsL_law wsX7_made := goodIn_r _ [716, 16, 32, 148, 149, 150, 15, 151, 152, 419, 420, 421, 31, 422, 165, 423, 424, 425, 426, 87, 427, 428, 429, 81, 82, 83, 430, 431, 432, 19, 433, 405, 434, 435, 59, 436, 437, 438, 439, 440, 441, 228, 229, 230, 231, 232, 233, 442, 443, 444, 445, 89, 446, 306, 307, 308, 309, 447, 180, 173, 181, 448, 365, 366, 27, 367, 75, 449, 450, 451, 452, 76, 453, 454, 455, 456, 88, 457, 458, 459, 460, 73, 461, 462, 463, 464, 74, 465, 466, 467, 468, 72, 469, 172, 174, 470, 471, 472, 473, 86, 474, 475, 476, 477, 56, 318, 478, 154, 155, 156, 41, 479, 197, 198, 199, 45, 170, 480, 224, 225, 226, 42, 481, 301, 302, 303, 53, 482, 483, 484, 485, 486, 487, 488, 489, 490, 158, 159, 160, 491, 492, 493, 494, 179, 495, 496, 497, 23, 498, 65, 68, 66, 250, 251, 252, 253, 51, 499, 500, 501, 502, 503, 504, 505, 506, 507, 351, 352, 353, 50, 508, 509, 510, 511, 54, 512, 513, 514, 515, 516, 517, 518, 519, 84, 520, 521, 522, 523, 530, 531, 532, 533, 534, 535, 536, 537, 682, 965, 966, 967, 968, 969, 970, 1021, 1022, 1023, 1024, 1025, 1026, 1048, 1049, 1050, 1051, 1052, 1053, 1054, 1055, 1056, 1057, 1058, 1059, 1060, 1027, 1028, 1029, 1030, 1031, 1032, 1033, 1034, 1035, 1036, 1037, 1042, 1043, 1044, 1045, 1046, 1047, 1038, 1039, 1040, 1041] (by decide +kernel) (by decide +kernel)
set_option maxRecDepth 20000 in
theorem gL_law_X7_made : GoodIn wsL_law (wsV RL 58 RX7 yX7_made wsX7_made) := goodIn_app (goodIn_of _ (by decide +kernel)) ggL_law_X7_made
set_option maxRecDepth 20000 in
theorem ggL_law_X8_made : GoodIn wsL_law wsX8_made := goodIn_r _ [720, 121, 122, 260, 261, 262, 5, 263, 258, 264, 265, 266, 575, 576, 577, 578, 143, 120, 329, 114, 123, 124, 125, 579, 115, 116, 580, 581, 582, 583, 118, 119, 117, 112, 110, 111, 584, 585, 586, 587, 130, 588, 589, 590, 591, 106, 592, 593, 594, 595, 259, 127, 126, 596, 597, 598, 599, 107, 108, 109, 600, 601, 602, 603, 330, 331, 332, 333, 604, 605, 606, 607, 608, 609, 610, 611, 612, 613, 614, 615, 616, 617, 618, 619, 128, 620, 621, 622, 623, 129, 624, 625, 626, 627, 628, 629, 630, 631, 632, 633, 634, 635, 394, 395, 396, 636, 637, 638, 639, 132, 131, 971, 972, 973, 974, 975, 976, 977, 978, 979, 980, 981, 982, 983, 984, 985, 986, 987, 988, 989, 990, 991, 992, 993, 994, 995, 996, 997, 998, 999, 1000, 1001, 1002, 1003, 1004, 1005, 1006, 1007, 1008, 1009, 1010, 1011, 1012, 1013, 1014, 1015, 1016, 1017, 1018, 1019, 1020] (by decide +kernel) (by decide +kernel)
set_option maxRecDepth 20000 in
theorem gL_law_X8_made : GoodIn wsL_law (wsV RL 61 RX8 yX8_made wsX8_made) := goodIn_app (goodIn_of _ (by decide +kernel)) ggL_law_X8_made
set_option maxRecDepth 20000 in
theorem ggL_law_X7_callee : GoodIn wsL_law wsX7_callee := goodIn_r _ [724, 20, 28, 32, 338, 339, 340, 19, 341, 309, 725, 726, 727, 27, 728, 75, 419, 420, 421, 31, 422, 165, 423, 424, 425, 426, 87, 427, 428, 429, 81, 82, 83, 430, 431, 432, 433, 405, 434, 435, 59, 436, 437, 438, 439, 440, 441, 228, 229, 230, 231, 232, 233, 442, 443, 444, 445, 89, 446, 306, 307, 308, 447, 180, 173, 181, 448, 365, 366, 367, 449, 450, 451, 452, 76, 453, 454, 455, 456, 88, 457, 458, 459, 460, 73, 461, 462, 463, 464, 74, 465, 466, 467, 468, 72, 469, 172, 174, 470, 471, 472, 473, 86, 474, 475, 476, 477, 56, 318, 478, 154, 155, 15, 156, 41, 479, 197, 198, 199, 45, 170, 480, 224, 225, 226, 42, 481, 301, 302, 303, 53, 482, 483, 484, 485, 486, 487, 488, 489, 490, 158, 159, 160, 152, 491, 492, 493, 494, 179, 495, 496, 497, 23, 498, 65, 68, 66, 250, 251, 252, 253, 51, 499, 500, 501, 502, 503, 504, 505, 506, 507, 351, 352, 353, 50, 508, 509, 510, 511, 54, 512, 513, 514, 515, 516, 517, 518, 519, 84, 520, 521, 522, 523, 729, 730, 731, 732, 733, 734, 238, 239, 240, 241, 965, 966, 967, 968, 969, 970, 1027, 1028, 1029, 1030, 1031, 1032, 1033, 1034, 1035, 1036, 1037, 1042, 1043, 1044, 1045, 1046, 1047, 1048, 1049, 1050, 1051, 1052, 1053, 1054, 1055, 1056, 1057, 1058, 1059, 1060, 1021, 1022, 1023, 1024, 1025, 1026, 1038, 1039, 1040, 1041] (by decide +kernel) (by decide +kernel)
set_option maxRecDepth 20000 in
theorem gL_law_X7_callee : GoodIn wsL_law (wsV RL 62 RX7 yX7_callee wsX7_callee) := goodIn_app (goodIn_of _ (by decide +kernel)) ggL_law_X7_callee
set_option maxRecDepth 20000 in
theorem ggL_law_X8_callee : GoodIn wsL_law wsX8_callee := goodIn_r _ [738, 329, 124, 116, 739, 740, 741, 5, 742, 115, 382, 383, 384, 385, 264, 265, 266, 575, 576, 577, 578, 143, 120, 114, 121, 122, 123, 125, 579, 580, 581, 582, 583, 118, 119, 117, 112, 110, 111, 584, 585, 586, 587, 258, 130, 588, 589, 590, 591, 106, 592, 593, 594, 595, 259, 127, 126, 596, 597, 598, 599, 107, 108, 109, 600, 601, 602, 603, 330, 331, 332, 333, 604, 605, 606, 607, 608, 609, 610, 611, 612, 613, 614, 615, 616, 617, 618, 619, 128, 620, 621, 622, 623, 129, 624, 625, 626, 627, 628, 629, 630, 631, 632, 633, 634, 635, 394, 395, 396, 636, 637, 638, 639, 132, 131, 971, 972, 973, 974, 975, 976, 977, 978, 979, 980, 981, 982, 983, 984, 985, 986, 987, 988, 989, 990, 991, 992, 993, 994, 995, 996, 997, 998, 999, 1000, 1001, 1002, 1003, 1004, 1005, 1006, 1007, 1008, 1009, 1010, 1011, 1012, 1013, 1014, 1015, 1016, 1017, 1018, 1019, 1020] (by decide +kernel) (by decide +kernel)
set_option maxRecDepth 20000 in
theorem gL_law_X8_callee : GoodIn wsL_law (wsV RL 65 RX8 yX8_callee wsX8_callee) := goodIn_app (goodIn_of _ (by decide +kernel)) ggL_law_X8_callee
set_option maxRecDepth 20000 in
theorem ggL_law_X7_faults : GoodIn wsL_law wsX7_faults := goodIn_r _ [746, 20, 28, 32, 338, 339, 340, 19, 341, 309, 725, 726, 727, 27, 728, 75, 419, 420, 421, 31, 422, 165, 423, 424, 425, 426, 87, 427, 428, 429, 81, 82, 83, 430, 431, 432, 433, 405, 434, 435, 59, 436, 437, 438, 439, 440, 441, 228, 229, 230, 231, 232, 233, 442, 443, 444, 445, 89, 446, 306, 307, 308, 447, 180, 173, 181, 448, 365, 366, 367, 449, 450, 451, 452, 76, 453, 454, 455, 456, 88, 457, 458, 459, 460, 73, 461, 462, 463, 464, 74, 465, 466, 467, 468, 72, 469, 172, 174, 470, 471, 472, 473, 86, 474, 475, 476, 477, 56, 318, 478, 154, 155, 15, 156, 41, 479, 197, 198, 199, 45, 170, 480, 224, 225, 226, 42, 481, 301, 302, 303, 53, 482, 483, 484, 485, 486, 487, 488, 489, 490, 158, 159, 160, 152, 491, 492, 493, 494, 179, 495, 496, 497, 23, 498, 65, 68, 66, 250, 251, 252, 253, 51, 499, 500, 501, 502, 503, 504, 505, 506, 507, 351, 352, 353, 50, 508, 509, 510, 511, 54, 512, 513, 514, 515, 516, 517, 518, 519, 84, 520, 521, 522, 523, 526, 527, 528, 529, 682, 729, 747, 552, 553, 554, 555, 556, 557, 558, 559, 560, 561, 562, 965, 966, 967, 968, 969, 970, 1027, 1028, 1029, 1030, 1031, 1032, 1033, 1034, 1035, 1036, 1037, 1042, 1043, 1044, 1045, 1046, 1047, 1048, 1049, 1050, 1051, 1052, 1053, 1054, 1055, 1056, 1057, 1058, 1059, 1060, 1021, 1022, 1023, 1024, 1025, 1026, 1038, 1039, 1040, 1041] (by decide +kernel) (by decide +kernel)
set_option maxRecDepth 20000 in
theorem gL_law_X7_faults : GoodIn wsL_law (wsV RL 66 RX7 yX7_faults wsX7_faults) := goodIn_app (goodIn_of _ (by decide +kernel)) ggL_law_X7_faults
set_option maxRecDepth 20000 in
theorem ggL_law_X8_faults : GoodIn wsL_law wsX8_faults := goodIn_r _ [751, 125, 116, 739, 740, 741, 5, 742, 115, 382, 383, 384, 385, 329, 264, 265, 266, 575, 576, 577, 578, 143, 120, 114, 121, 122, 123, 124, 579, 580, 581, 582, 583, 118, 119, 117, 112, 110, 111, 584, 585, 586, 587, 258, 130, 588, 589, 590, 591, 106, 592, 593, 594, 595, 259, 127, 126, 596, 597, 598, 599, 107, 108, 109, 600, 601, 602, 603, 330, 331, 332, 333, 604, 605, 606, 607, 608, 609, 610, 611, 612, 613, 614, 615, 616, 617, 618, 619, 128, 620, 621, 622, 623, 129, 624, 625, 626, 627, 628, 629, 630, 631, 632, 633, 634, 635, 394, 395, 396, 636, 637, 638, 639, 132, 131, 971, 972, 973, 974, 975, 976, 977, 978, 979, 980, 981, 982, 983, 984, 985, 986, 987, 988, 989, 990, 991, 992, 993, 994, 995, 996, 997, 998, 999, 1000, 1001, 1002, 1003, 1004, 1005, 1006, 1007, 1008, 1009, 1010, 1011, 1012, 1013, 1014, 1015, 1016, 1017, 1018, 1019, 1020] (by decide +kernel) (by decide +kernel)
set_option maxRecDepth 20000 in
theorem gL_law_X8_faults : GoodIn wsL_law (wsV RL 69 RX8 yX8_faults wsX8_faults) := goodIn_app (goodIn_of _ (by decide +kernel)) ggL_law_X8_faults
set_option maxRecDepth 20000 in
theorem ggL_law_X7_caller : GoodIn wsL_law wsX7_caller := goodIn_r _ [755, 20, 32, 338, 339, 340, 19, 341, 309, 419, 420, 421, 31, 422, 165, 423, 424, 425, 426, 87, 427, 428, 429, 81, 82, 83, 430, 431, 432, 433, 405, 434, 435, 59, 436, 437, 438, 439, 440, 441, 228, 229, 230, 231, 232, 233, 442, 443, 444, 445, 89, 446, 306, 307, 308, 447, 180, 173, 181, 448, 365, 366, 27, 367, 75, 449, 450, 451, 452, 76, 453, 454, 455, 456, 88, 457, 458, 459, 460, 73, 461, 462, 463, 464, 74, 465, 466, 467, 468, 72, 469, 172, 174, 470, 471, 472, 473, 86, 474, 475, 476, 477, 56, 318, 478, 154, 155, 15, 156, 41, 479, 197, 198, 199, 45, 170, 480, 224, 225, 226, 42, 481, 301, 302, 303, 53, 482, 483, 484, 485, 486, 487, 488, 489, 490, 158, 159, 160, 152, 491, 492, 493, 494, 179, 495, 496, 497, 23, 498, 65, 68, 66, 250, 251, 252, 253, 51, 499, 500, 501, 502, 503, 504, 505, 506, 507, 351, 352, 353, 50, 508, 509, 510, 511, 54, 512, 513, 514, 515, 516, 517, 518, 519, 84, 520, 521, 522, 523, 684, 685, 686, 687, 688, 689, 690, 691, 734, 238, 239, 240, 241, 965, 966, 967, 968, 969, 970, 1027, 1028, 1029, 1030, 1031, 1032, 1033, 1034, 1035, 1036, 1037, 1048, 1049, 1050, 1051, 1052, 1053, 1054, 1055, 1056, 1057, 1058, 1059, 1060, 1042, 1043, 1044, 1045, 1046, 1047, 1021, 1022, 1023, 1024, 1025, 1026, 1038, 1039, 1040, 1041] (by decide +kernel) (by decide +kernel)
set_option maxRecDepth 20000 in
theorem gL_law_X7_caller : GoodIn wsL_law (wsV RL 70 RX7 yX7_caller wsX7_caller) := goodIn_app (goodIn_of _ (by decide +kernel)) ggL_law_X7_caller
set_option maxRecDepth 20000 in
theorem ggL_law_X8_caller : GoodIn wsL_law wsX8_caller := goodIn_r _ [759, 329, 382, 383, 384, 5, 385, 264, 265, 266, 575, 576, 577, 578, 143, 120, 114, 121, 122, 123, 124, 125, 579, 115, 116, 580, 581, 582, 583, 118, 119, 117, 112, 110, 111, 584, 585, 586, 587, 258, 130, 588, 589, 590, 591, 106, 592, 593, 594, 595, 259, 127, 126, 596, 597, 598, 599, 107, 108, 109, 600, 601, 602, 603, 330, 331, 332, 333, 604, 605, 606, 607, 608, 609, 610, 611, 612, 613, 614, 615, 616, 617, 618, 619, 128, 620, 621, 622, 623, 129, 624, 625, 626, 627, 628, 629, 630, 631, 632, 633, 634, 635, 394, 395, 396, 636, 637, 638, 639, 132, 131, 709, 710, 711, 712, 705, 706, 707, 708, 971, 972, 973, 974, 975, 976, 977, 978, 979, 980, 981, 982, 983, 984, 985, 986, 987, 988, 989, 990, 991, 992, 993, 994, 995, 996, 997, 998, 999, 1000, 1001, 1002, 1003, 1004, 1005, 1006, 1007, 1008, 1009, 1010, 1011, 1012, 1013, 1014, 1015, 1016, 1017, 1018, 1019, 1020] (by decide +kernel) (by decide +kernel)
set_option maxRecDepth 20000 in
theorem gL_law_X8_caller : GoodIn wsL_law (wsV RL 73 RX8 yX8_caller wsX8_caller) := goodIn_app (goodIn_of _ (by decide +kernel)) ggL_law_X8_caller
set_option maxRecDepth 20000 in
theorem ggL_law_X7_way : GoodIn wsL_law wsX7_way := goodIn_r _ [763, 20, 32, 338, 339, 340, 19, 341, 309, 419, 420, 421, 31, 422, 165, 423, 424, 425, 426, 87, 427, 428, 429, 81, 82, 83, 430, 431, 432, 433, 405, 434, 435, 59, 436, 437, 438, 439, 440, 441, 228, 229, 230, 231, 232, 233, 442, 443, 444, 445, 89, 446, 306, 307, 308, 447, 180, 173, 181, 448, 365, 366, 27, 367, 75, 449, 450, 451, 452, 76, 453, 454, 455, 456, 88, 457, 458, 459, 460, 73, 461, 462, 463, 464, 74, 465, 466, 467, 468, 72, 469, 172, 174, 470, 471, 472, 473, 86, 474, 475, 476, 477, 56, 318, 478, 154, 155, 15, 156, 41, 479, 197, 198, 199, 45, 170, 480, 224, 225, 226, 42, 481, 301, 302, 303, 53, 482, 483, 484, 485, 486, 487, 488, 489, 490, 158, 159, 160, 152, 491, 492, 493, 494, 179, 495, 496, 497, 23, 498, 65, 68, 66, 250, 251, 252, 253, 51, 499, 500, 501, 502, 503, 504, 505, 506, 507, 351, 352, 353, 50, 508, 509, 510, 511, 54, 512, 513, 514, 515, 516, 517, 518, 519, 84, 520, 521, 522, 523, 764, 765, 766, 767, 85, 768, 769, 770, 771, 688, 689, 690, 691, 772, 235, 236, 237, 238, 239, 240, 241, 965, 966, 967, 968, 969, 970, 1027, 1028, 1029, 1030, 1031, 1032, 1033, 1034, 1035, 1036, 1037, 1048, 1049, 1050, 1051, 1052, 1053, 1054, 1055, 1056, 1057, 1058, 1059, 1060, 1042, 1043, 1044, 1045, 1046, 1047, 1021, 1022, 1023, 1024, 1025, 1026, 1038, 1039, 1040, 1041] (by decide +kernel) (by decide +kernel)
set_option maxRecDepth 20000 in
theorem gL_law_X7_way : GoodIn wsL_law (wsV RL 74 RX7 yX7_way wsX7_way) := goodIn_app (goodIn_of _ (by decide +kernel)) ggL_law_X7_way
set_option maxRecDepth 20000 in
theorem ggL_law_X8_way : GoodIn wsL_law wsX8_way := goodIn_r _ [776, 120, 329, 114, 133, 382, 383, 384, 5, 385, 264, 265, 266, 575, 576, 577, 578, 143, 121, 122, 123, 124, 125, 579, 115, 116, 580, 581, 582, 583, 118, 119, 117, 112, 110, 111, 584, 585, 586, 587, 258, 130, 588, 589, 590, 591, 106, 592, 593, 594, 595, 259, 127, 126, 596, 597, 598, 599, 107, 108, 109, 600, 601, 602, 603, 330, 331, 332, 333, 604, 605, 606, 607, 608, 609, 610, 611, 612, 613, 614, 615, 616, 617, 618, 619, 128, 620, 621, 622, 623, 129, 624, 625, 626, 627, 628, 629, 630, 631, 632, 633, 634, 635, 394, 395, 396, 636, 637, 638, 639, 132, 131, 777, 778, 779, 780, 709, 710, 711, 712, 971, 972, 973, 974, 975, 976, 977, 978, 979, 980, 981, 982, 983, 984, 985, 986, 987, 988, 989, 990, 991, 992, 993, 994, 995, 996, 997, 998, 999, 1000, 1001, 1002, 1003, 1004, 1005, 1006, 1007, 1008, 1009, 1010, 1011, 1012, 1013, 1014, 1015, 1016, 1017, 1018, 1019, 1020] (by decide +kernel) (by decide +kernel)
set_option maxRecDepth 20000 in
theorem gL_law_X8_way : GoodIn wsL_law (wsV RL 77 RX8 yX8_way wsX8_way) := goodIn_app (goodIn_of _ (by decide +kernel)) ggL_law_X8_way
set_option maxRecDepth 20000 in
theorem ggL_law_X7_run : GoodIn wsL_law wsX7_run := goodIn_r _ [784, 36, 785, 786, 787, 35, 788, 789, 99, 790, 791, 792, 793, 96, 97, 794, 795, 796, 797, 798, 799, 800, 58, 59, 60, 801, 435, 436, 802, 306, 307, 19, 308, 309, 803, 402, 403, 404, 405, 406, 180, 173, 181, 804, 805, 806, 807, 101, 808, 172, 174, 809, 365, 366, 27, 367, 75, 810, 811, 812, 813, 814, 815, 816, 450, 451, 452, 76, 817, 818, 819, 820, 98, 821, 822, 224, 225, 15, 226, 42, 823, 824, 825, 826, 475, 476, 477, 56, 318, 478, 154, 155, 156, 41, 479, 197, 198, 199, 45, 170, 827, 301, 302, 303, 53, 828, 829, 830, 831, 832, 228, 229, 230, 231, 232, 233, 833, 238, 239, 240, 241, 834, 95, 835, 94, 100, 836, 458, 459, 460, 73, 837, 492, 493, 494, 179, 838, 839, 840, 841, 842, 462, 463, 464, 74, 843, 496, 497, 23, 498, 65, 68, 66, 250, 251, 252, 253, 51, 844, 845, 351, 352, 353, 50, 846, 847, 848, 466, 467, 468, 72, 849, 850, 851, 852, 500, 501, 502, 853, 854, 855, 856, 857, 858, 859, 860, 861, 862, 863, 509, 510, 511, 54, 864, 865, 866, 867, 868, 869, 870, 871, 872, 873, 874, 525, 875, 876, 877, 878, 879, 880, 881, 882, 883, 884, 885, 886, 887, 888, 889, 890, 965, 966, 967, 968, 969, 970, 1061, 1062, 1063, 1064, 1065, 1066, 1067, 1068, 1069, 1070, 1071, 1072, 1073, 1074, 1075, 1027, 1028, 1029, 1030, 1031, 1032, 1033, 1034, 1035, 1036, 1037, 1021, 1022, 1023, 1024, 1025, 1026, 1042, 1043, 1044, 1045, 1046, 1047, 1038, 1039, 1040, 1041] (by decide +kernel) (by decide +kernel)
set_option maxRecDepth 20000 in
theorem gL_law_X7_run : GoodIn wsL_law (wsV RL 80 RX7 yX7_run wsX7_run) := goodIn_app (goodIn_of _ (by decide +kernel)) ggL_law_X7_run
set_option maxRecDepth 20000 in
theorem ggL_law_X8_run : GoodIn wsL_law wsX8_run := goodIn_r _ [894, 329, 138, 258, 139, 895, 896, 897, 898, 264, 265, 5, 266, 899, 900, 901, 902, 903, 904, 905, 906, 142, 114, 575, 576, 577, 578, 143, 120, 121, 122, 123, 124, 125, 579, 115, 116, 580, 581, 582, 583, 118, 119, 117, 112, 110, 111, 584, 585, 586, 587, 130, 588, 589, 590, 591, 106, 592, 593, 594, 595, 259, 127, 126, 596, 597, 598, 599, 107, 108, 109, 600, 601, 602, 603, 330, 331, 332, 333, 604, 605, 606, 607, 608, 609, 610, 611, 612, 613, 614, 615, 616, 617, 618, 619, 128, 620, 621, 622, 623, 129, 624, 625, 626, 627, 628, 629, 630, 631, 632, 633, 634, 635, 394, 395, 396, 636, 637, 638, 639, 132, 131, 907, 908, 909, 910, 134, 135, 136, 137, 911, 912, 913, 914, 140, 915, 916, 917, 918, 919, 920, 921, 922, 923, 924, 141, 925, 926, 927, 928, 929, 930, 931, 932, 933, 934, 935, 936, 937, 938, 939, 940, 971, 972, 973, 974, 975, 976, 977, 978, 979, 980, 981, 982, 983, 984, 985, 986, 987, 988, 989, 990, 991, 992, 993, 994, 995, 996, 997, 998, 999, 1000, 1001, 1002, 1003, 1004, 1005, 1006, 1007, 1008, 1009, 1010, 1011, 1012, 1013, 1014, 1015, 1016, 1017, 1018, 1019, 1020] (by decide +kernel) (by decide +kernel)
set_option maxRecDepth 20000 in
theorem gL_law_X8_run : GoodIn wsL_law (wsV RL 84 RX8 yX8_run wsX8_run) := goodIn_app (goodIn_of _ (by decide +kernel)) ggL_law_X8_run
set_option maxRecDepth 20000 in
theorem ggL_law_X7_holds : GoodIn wsL_law wsX7_holds := goodIn_r _ [944, 32, 36, 419, 420, 421, 31, 422, 165, 423, 424, 425, 426, 87, 427, 428, 429, 81, 82, 83, 430, 431, 432, 19, 433, 405, 434, 435, 59, 436, 437, 438, 439, 440, 441, 228, 229, 230, 231, 232, 233, 442, 443, 444, 445, 89, 446, 306, 307, 308, 309, 447, 180, 173, 181, 448, 365, 366, 27, 367, 75, 449, 450, 451, 452, 76, 453, 454, 455, 456, 88, 457, 458, 459, 460, 73, 461, 462, 463, 464, 74, 465, 466, 467, 468, 72, 469, 172, 174, 470, 471, 472, 473, 86, 474, 475, 476, 477, 56, 318, 478, 154, 155, 15, 156, 41, 479, 197, 198, 199, 45, 170, 480, 224, 225, 226, 42, 481, 301, 302, 303, 53, 482, 483, 484, 485, 486, 487, 488, 489, 490, 158, 159, 160, 152, 491, 492, 493, 494, 179, 495, 496, 497, 23, 498, 65, 68, 66, 250, 251, 252, 253, 51, 499, 500, 501, 502, 503, 504, 505, 506, 507, 351, 352, 353, 50, 508, 509, 510, 511, 54, 512, 513, 514, 515, 516, 517, 518, 519, 84, 520, 521, 522, 523, 785, 786, 787, 35, 788, 789, 99, 790, 791, 792, 793, 96, 97, 794, 795, 796, 797, 798, 799, 800, 58, 60, 801, 802, 803, 402, 403, 404, 406, 804, 805, 806, 807, 101, 808, 809, 810, 811, 812, 813, 814, 815, 816, 817, 818, 819, 820, 98, 821, 822, 823, 824, 825, 826, 827, 828, 829, 830, 831, 832, 833, 238, 239, 240, 241, 834, 95, 835, 94, 100, 836, 837, 838, 839, 840, 841, 842, 843, 844, 845, 846, 847, 848, 849, 850, 851, 852, 853, 854, 855, 856, 857, 858, 859, 860, 861, 862, 863, 864, 865, 866, 871, 872, 873, 874, 526, 527, 528, 529, 945, 946, 947, 948, 879, 880, 881, 882, 534, 535, 536, 537, 949, 950, 951, 952, 530, 531, 532, 533, 953, 954, 955, 2, 956, 28, 368, 369, 370, 371, 372, 957, 958, 959, 960, 730, 731, 732, 733, 965, 966, 967, 968, 969, 970, 1048, 1049, 1050, 1051, 1052, 1053, 1054, 1055, 1056, 1057, 1058, 1059, 1060, 1027, 1028, 1029, 1030, 1031, 1032, 1033, 1034, 1035, 1036, 1037, 1042, 1043, 1044, 1045, 1046, 1047, 1021, 1022, 1023, 1024, 1025, 1026, 1038, 1039, 1040, 1041, 1061, 1062, 1063, 1064, 1065, 1066, 1067, 1068, 1069, 1070, 1071, 1072, 1073, 1074, 1075] (by decide +kernel) (by decide +kernel)
set_option maxRecDepth 20000 in
theorem gL_law_X7_holds : GoodIn wsL_law (wsV RL 85 RX7 yX7_holds wsX7_holds) := goodIn_app (goodIn_of _ (by decide +kernel)) ggL_law_X7_holds
set_option maxRecDepth 20000 in
theorem ggL_law_X8_holds : GoodIn wsL_law wsX8_holds := goodIn_r _ [964, 905, 899, 900, 901, 5, 902, 903, 895, 904, 897, 898, 896, 906, 138, 139, 142, 329, 114, 575, 576, 577, 578, 143, 120, 121, 122, 123, 124, 125, 579, 115, 116, 580, 581, 582, 583, 118, 119, 117, 112, 110, 111, 584, 585, 586, 587, 258, 130, 588, 589, 590, 591, 106, 592, 593, 594, 595, 259, 127, 126, 596, 597, 598, 599, 107, 108, 109, 600, 601, 602, 603, 330, 331, 332, 333, 604, 605, 606, 607, 608, 609, 610, 611, 612, 613, 614, 615, 616, 617, 618, 619, 128, 620, 621, 622, 623, 129, 624, 625, 626, 627, 628, 629, 630, 631, 632, 633, 634, 635, 394, 395, 396, 636, 637, 638, 639, 132, 131, 907, 908, 909, 910, 134, 135, 136, 137, 911, 912, 913, 914, 140, 915, 916, 917, 918, 919, 920, 921, 922, 923, 924, 141, 925, 926, 927, 928, 929, 930, 931, 932, 933, 934, 935, 936, 937, 938, 939, 940, 971, 972, 973, 974, 975, 976, 977, 978, 979, 980, 981, 982, 983, 984, 985, 986, 987, 988, 989, 990, 991, 992, 993, 994, 995, 996, 997, 998, 999, 1000, 1001, 1002, 1003, 1004, 1005, 1006, 1007, 1008, 1009, 1010, 1011, 1012, 1013, 1014, 1015, 1016, 1017, 1018, 1019, 1020] (by decide +kernel) (by decide +kernel)
set_option maxRecDepth 20000 in
theorem gL_law_X8_holds : GoodIn wsL_law (wsV RL 89 RX8 yX8_holds wsX8_holds) := goodIn_app (goodIn_of _ (by decide +kernel)) ggL_law_X8_holds
theorem dL_law_0 : decode cL_law 0 = .ok (.new 7, 3) := by decide +kernel
theorem dL_law_3 : decode cL_law 3 = .ok (.dup, 1) := by decide +kernel
theorem dL_law_4 : decode cL_law 4 = .ok (.invokespecial 9, 3) := by decide +kernel
theorem dL_law_7 : decode cL_law 7 = .ok (.astore_n 1, 1) := by decide +kernel
theorem dL_law_8 : decode cL_law 8 = .ok (.new 10, 3) := by decide +kernel
theorem dL_law_11 : decode cL_law 11 = .ok (.dup, 1) := by decide +kernel
theorem dL_law_12 : decode cL_law 12 = .ok (.invokespecial 12, 3) := by decide +kernel
theorem dL_law_15 : decode cL_law 15 = .ok (.astore_n 2, 1) := by decide +kernel
theorem dL_law_16 : decode cL_law 16 = .ok (.iconst 0, 1) := by decide +kernel
theorem dL_law_17 : decode cL_law 17 = .ok (.istore_n 3, 1) := by decide +kernel
theorem dL_law_18 : decode cL_law 18 = .ok (.iload_n 3, 1) := by decide +kernel
theorem dL_law_19 : decode cL_law 19 = .ok (.aload_n 0, 1) := by decide +kernel
theorem dL_law_20 : decode cL_law 20 = .ok (.arraylength, 1) := by decide +kernel
theorem dL_law_21 : decode cL_law 21 = .ok (.iconst 5, 1) := by decide +kernel
theorem dL_law_22 : decode cL_law 22 = .ok (.isub, 1) := by decide +kernel
theorem dL_law_23 : decode cL_law 23 = .ok (.if_icmp .gt 776, 3) := by decide +kernel
theorem dL_law_26 : decode cL_law 26 = .ok (.aload_n 0, 1) := by decide +kernel
theorem dL_law_27 : decode cL_law 27 = .ok (.iload_n 3, 1) := by decide +kernel
theorem dL_law_28 : decode cL_law 28 = .ok (.iaload, 1) := by decide +kernel
theorem dL_law_29 : decode cL_law 29 = .ok (.bipush 31, 2) := by decide +kernel
theorem dL_law_31 : decode cL_law 31 = .ok (.iand, 1) := by decide +kernel
theorem dL_law_32 : decode cL_law 32 = .ok (.tableswitch 761 0 16 #[84, 117, 150, 193, 246, 295, 318, 351, 384, 427, 460, 493, 536, 579, 612, 645, 708], 84) := by decide +kernel
theorem dL_law_116 : decode cL_law 116 = .ok (.aload_n 1, 1) := by decide +kernel
theorem dL_law_117 : decode cL_law 117 = .ok (.aload_n 0, 1) := by decide +kernel
theorem dL_law_118 : decode cL_law 118 = .ok (.iload_n 3, 1) := by decide +kernel
theorem dL_law_119 : decode cL_law 119 = .ok (.iconst 1, 1) := by decide +kernel
theorem dL_law_120 : decode cL_law 120 = .ok (.iadd, 1) := by decide +kernel
theorem dL_law_121 : decode cL_law 121 = .ok (.iaload, 1) := by decide +kernel
theorem dL_law_122 : decode cL_law 122 = .ok (.aload_n 0, 1) := by decide +kernel
theorem dL_law_123 : decode cL_law 123 = .ok (.iload_n 3, 1) := by decide +kernel
theorem dL_law_124 : decode cL_law 124 = .ok (.iconst 2, 1) := by decide +kernel
theorem dL_law_125 : decode cL_law 125 = .ok (.iadd, 1) := by decide +kernel
theorem dL_law_126 : decode cL_law 126 = .ok (.iaload, 1) := by decide +kernel
theorem dL_law_127 : decode cL_law 127 = .ok (.invokevirtual 13, 3) := by decide +kernel
theorem dL_law_130 : decode cL_law 130 = .ok (.aload_n 2, 1) := by decide +kernel
theorem dL_law_131 : decode cL_law 131 = .ok (.aload_n 0, 1) := by decide +kernel
theorem dL_law_132 : decode cL_law 132 = .ok (.iload_n 3, 1) := by decide +kernel
theorem dL_law_133 : decode cL_law 133 = .ok (.iconst 1, 1) := by decide +kernel
theorem dL_law_134 : decode cL_law 134 = .ok (.iadd, 1) := by decide +kernel
theorem dL_law_135 : decode cL_law 135 = .ok (.iaload, 1) := by decide +kernel
theorem dL_law_136 : decode cL_law 136 = .ok (.aload_n 0, 1) := by decide +kernel
theorem dL_law_137 : decode cL_law 137 = .ok (.iload_n 3, 1) := by decide +kernel
theorem dL_law_138 : decode cL_law 138 = .ok (.iconst 2, 1) := by decide +kernel
theorem dL_law_139 : decode cL_law 139 = .ok (.iadd, 1) := by decide +kernel
theorem dL_law_140 : decode cL_law 140 = .ok (.iaload, 1) := by decide +kernel
theorem dL_law_141 : decode cL_law 141 = .ok (.invokevirtual 17, 3) := by decide +kernel
theorem dL_law_144 : decode cL_law 144 = .ok (.if_icmp .eq 649, 3) := by decide +kernel
theorem dL_law_147 : decode cL_law 147 = .ok (.iconst 0, 1) := by decide +kernel
theorem dL_law_148 : decode cL_law 148 = .ok (.ireturn, 1) := by decide +kernel
theorem dL_law_149 : decode cL_law 149 = .ok (.aload_n 1, 1) := by decide +kernel
theorem dL_law_150 : decode cL_law 150 = .ok (.aload_n 0, 1) := by decide +kernel
theorem dL_law_151 : decode cL_law 151 = .ok (.iload_n 3, 1) := by decide +kernel
theorem dL_law_152 : decode cL_law 152 = .ok (.iconst 1, 1) := by decide +kernel
theorem dL_law_153 : decode cL_law 153 = .ok (.iadd, 1) := by decide +kernel
theorem dL_law_154 : decode cL_law 154 = .ok (.iaload, 1) := by decide +kernel
theorem dL_law_155 : decode cL_law 155 = .ok (.aload_n 0, 1) := by decide +kernel
theorem dL_law_156 : decode cL_law 156 = .ok (.iload_n 3, 1) := by decide +kernel
theorem dL_law_157 : decode cL_law 157 = .ok (.iconst 2, 1) := by decide +kernel
theorem dL_law_158 : decode cL_law 158 = .ok (.iadd, 1) := by decide +kernel
theorem dL_law_159 : decode cL_law 159 = .ok (.iaload, 1) := by decide +kernel
theorem dL_law_160 : decode cL_law 160 = .ok (.invokevirtual 18, 3) := by decide +kernel
theorem dL_law_163 : decode cL_law 163 = .ok (.aload_n 2, 1) := by decide +kernel
theorem dL_law_164 : decode cL_law 164 = .ok (.aload_n 0, 1) := by decide +kernel
theorem dL_law_165 : decode cL_law 165 = .ok (.iload_n 3, 1) := by decide +kernel
theorem dL_law_166 : decode cL_law 166 = .ok (.iconst 1, 1) := by decide +kernel
theorem dL_law_167 : decode cL_law 167 = .ok (.iadd, 1) := by decide +kernel
theorem dL_law_168 : decode cL_law 168 = .ok (.iaload, 1) := by decide +kernel
theorem dL_law_169 : decode cL_law 169 = .ok (.aload_n 0, 1) := by decide +kernel
theorem dL_law_170 : decode cL_law 170 = .ok (.iload_n 3, 1) := by decide +kernel
theorem dL_law_171 : decode cL_law 171 = .ok (.iconst 2, 1) := by decide +kernel
theorem dL_law_172 : decode cL_law 172 = .ok (.iadd, 1) := by decide +kernel
theorem dL_law_173 : decode cL_law 173 = .ok (.iaload, 1) := by decide +kernel
theorem dL_law_174 : decode cL_law 174 = .ok (.invokevirtual 21, 3) := by decide +kernel
theorem dL_law_177 : decode cL_law 177 = .ok (.if_icmp .eq 616, 3) := by decide +kernel
theorem dL_law_180 : decode cL_law 180 = .ok (.iconst 0, 1) := by decide +kernel
theorem dL_law_181 : decode cL_law 181 = .ok (.ireturn, 1) := by decide +kernel
theorem dL_law_182 : decode cL_law 182 = .ok (.aload_n 1, 1) := by decide +kernel
theorem dL_law_183 : decode cL_law 183 = .ok (.aload_n 0, 1) := by decide +kernel
theorem dL_law_184 : decode cL_law 184 = .ok (.iload_n 3, 1) := by decide +kernel
theorem dL_law_185 : decode cL_law 185 = .ok (.iconst 1, 1) := by decide +kernel
theorem dL_law_186 : decode cL_law 186 = .ok (.iadd, 1) := by decide +kernel
theorem dL_law_187 : decode cL_law 187 = .ok (.iaload, 1) := by decide +kernel
theorem dL_law_188 : decode cL_law 188 = .ok (.aload_n 0, 1) := by decide +kernel
theorem dL_law_189 : decode cL_law 189 = .ok (.iload_n 3, 1) := by decide +kernel
theorem dL_law_190 : decode cL_law 190 = .ok (.iconst 2, 1) := by decide +kernel
theorem dL_law_191 : decode cL_law 191 = .ok (.iadd, 1) := by decide +kernel
theorem dL_law_192 : decode cL_law 192 = .ok (.iaload, 1) := by decide +kernel
theorem dL_law_193 : decode cL_law 193 = .ok (.aload_n 0, 1) := by decide +kernel
theorem dL_law_194 : decode cL_law 194 = .ok (.iload_n 3, 1) := by decide +kernel
theorem dL_law_195 : decode cL_law 195 = .ok (.iconst 3, 1) := by decide +kernel
theorem dL_law_196 : decode cL_law 196 = .ok (.iadd, 1) := by decide +kernel
theorem dL_law_197 : decode cL_law 197 = .ok (.iaload, 1) := by decide +kernel
theorem dL_law_198 : decode cL_law 198 = .ok (.invokevirtual 22, 3) := by decide +kernel
theorem dL_law_201 : decode cL_law 201 = .ok (.aload_n 2, 1) := by decide +kernel
theorem dL_law_202 : decode cL_law 202 = .ok (.aload_n 0, 1) := by decide +kernel
theorem dL_law_203 : decode cL_law 203 = .ok (.iload_n 3, 1) := by decide +kernel
theorem dL_law_204 : decode cL_law 204 = .ok (.iconst 1, 1) := by decide +kernel
theorem dL_law_205 : decode cL_law 205 = .ok (.iadd, 1) := by decide +kernel
theorem dL_law_206 : decode cL_law 206 = .ok (.iaload, 1) := by decide +kernel
theorem dL_law_207 : decode cL_law 207 = .ok (.aload_n 0, 1) := by decide +kernel
theorem dL_law_208 : decode cL_law 208 = .ok (.iload_n 3, 1) := by decide +kernel
theorem dL_law_209 : decode cL_law 209 = .ok (.iconst 2, 1) := by decide +kernel
theorem dL_law_210 : decode cL_law 210 = .ok (.iadd, 1) := by decide +kernel
theorem dL_law_211 : decode cL_law 211 = .ok (.iaload, 1) := by decide +kernel
theorem dL_law_212 : decode cL_law 212 = .ok (.aload_n 0, 1) := by decide +kernel
theorem dL_law_213 : decode cL_law 213 = .ok (.iload_n 3, 1) := by decide +kernel
theorem dL_law_214 : decode cL_law 214 = .ok (.iconst 3, 1) := by decide +kernel
theorem dL_law_215 : decode cL_law 215 = .ok (.iadd, 1) := by decide +kernel
theorem dL_law_216 : decode cL_law 216 = .ok (.iaload, 1) := by decide +kernel
theorem dL_law_217 : decode cL_law 217 = .ok (.invokevirtual 26, 3) := by decide +kernel
theorem dL_law_220 : decode cL_law 220 = .ok (.if_icmp .eq 573, 3) := by decide +kernel
theorem dL_law_223 : decode cL_law 223 = .ok (.iconst 0, 1) := by decide +kernel
theorem dL_law_224 : decode cL_law 224 = .ok (.ireturn, 1) := by decide +kernel
theorem dL_law_225 : decode cL_law 225 = .ok (.aload_n 1, 1) := by decide +kernel
theorem dL_law_226 : decode cL_law 226 = .ok (.aload_n 0, 1) := by decide +kernel
theorem dL_law_227 : decode cL_law 227 = .ok (.iload_n 3, 1) := by decide +kernel
theorem dL_law_228 : decode cL_law 228 = .ok (.iconst 1, 1) := by decide +kernel
theorem dL_law_229 : decode cL_law 229 = .ok (.iadd, 1) := by decide +kernel
theorem dL_law_230 : decode cL_law 230 = .ok (.iaload, 1) := by decide +kernel
theorem dL_law_231 : decode cL_law 231 = .ok (.aload_n 0, 1) := by decide +kernel
theorem dL_law_232 : decode cL_law 232 = .ok (.iload_n 3, 1) := by decide +kernel
theorem dL_law_233 : decode cL_law 233 = .ok (.iconst 2, 1) := by decide +kernel
theorem dL_law_234 : decode cL_law 234 = .ok (.iadd, 1) := by decide +kernel
theorem dL_law_235 : decode cL_law 235 = .ok (.iaload, 1) := by decide +kernel
theorem dL_law_236 : decode cL_law 236 = .ok (.aload_n 0, 1) := by decide +kernel
theorem dL_law_237 : decode cL_law 237 = .ok (.iload_n 3, 1) := by decide +kernel
theorem dL_law_238 : decode cL_law 238 = .ok (.iconst 3, 1) := by decide +kernel
theorem dL_law_239 : decode cL_law 239 = .ok (.iadd, 1) := by decide +kernel
theorem dL_law_240 : decode cL_law 240 = .ok (.iaload, 1) := by decide +kernel
theorem dL_law_241 : decode cL_law 241 = .ok (.aload_n 0, 1) := by decide +kernel
theorem dL_law_242 : decode cL_law 242 = .ok (.iload_n 3, 1) := by decide +kernel
theorem dL_law_243 : decode cL_law 243 = .ok (.iconst 4, 1) := by decide +kernel
theorem dL_law_244 : decode cL_law 244 = .ok (.iadd, 1) := by decide +kernel
theorem dL_law_245 : decode cL_law 245 = .ok (.iaload, 1) := by decide +kernel
theorem dL_law_246 : decode cL_law 246 = .ok (.invokevirtual 27, 3) := by decide +kernel
theorem dL_law_249 : decode cL_law 249 = .ok (.aload_n 2, 1) := by decide +kernel
theorem dL_law_250 : decode cL_law 250 = .ok (.aload_n 0, 1) := by decide +kernel
theorem dL_law_251 : decode cL_law 251 = .ok (.iload_n 3, 1) := by decide +kernel
theorem dL_law_252 : decode cL_law 252 = .ok (.iconst 1, 1) := by decide +kernel
theorem dL_law_253 : decode cL_law 253 = .ok (.iadd, 1) := by decide +kernel
theorem dL_law_254 : decode cL_law 254 = .ok (.iaload, 1) := by decide +kernel
theorem dL_law_255 : decode cL_law 255 = .ok (.aload_n 0, 1) := by decide +kernel
theorem dL_law_256 : decode cL_law 256 = .ok (.iload_n 3, 1) := by decide +kernel
theorem dL_law_257 : decode cL_law 257 = .ok (.iconst 2, 1) := by decide +kernel
theorem dL_law_258 : decode cL_law 258 = .ok (.iadd, 1) := by decide +kernel
theorem dL_law_259 : decode cL_law 259 = .ok (.iaload, 1) := by decide +kernel
theorem dL_law_260 : decode cL_law 260 = .ok (.aload_n 0, 1) := by decide +kernel
theorem dL_law_261 : decode cL_law 261 = .ok (.iload_n 3, 1) := by decide +kernel
theorem dL_law_262 : decode cL_law 262 = .ok (.iconst 3, 1) := by decide +kernel
theorem dL_law_263 : decode cL_law 263 = .ok (.iadd, 1) := by decide +kernel
theorem dL_law_264 : decode cL_law 264 = .ok (.iaload, 1) := by decide +kernel
theorem dL_law_265 : decode cL_law 265 = .ok (.aload_n 0, 1) := by decide +kernel
theorem dL_law_266 : decode cL_law 266 = .ok (.iload_n 3, 1) := by decide +kernel
theorem dL_law_267 : decode cL_law 267 = .ok (.iconst 4, 1) := by decide +kernel
theorem dL_law_268 : decode cL_law 268 = .ok (.iadd, 1) := by decide +kernel
theorem dL_law_269 : decode cL_law 269 = .ok (.iaload, 1) := by decide +kernel
theorem dL_law_270 : decode cL_law 270 = .ok (.invokevirtual 31, 3) := by decide +kernel
theorem dL_law_273 : decode cL_law 273 = .ok (.if_icmp .eq 520, 3) := by decide +kernel
theorem dL_law_276 : decode cL_law 276 = .ok (.iconst 0, 1) := by decide +kernel
theorem dL_law_277 : decode cL_law 277 = .ok (.ireturn, 1) := by decide +kernel
theorem dL_law_278 : decode cL_law 278 = .ok (.aload_n 1, 1) := by decide +kernel
theorem dL_law_279 : decode cL_law 279 = .ok (.aload_n 0, 1) := by decide +kernel
theorem dL_law_280 : decode cL_law 280 = .ok (.iload_n 3, 1) := by decide +kernel
theorem dL_law_281 : decode cL_law 281 = .ok (.iconst 1, 1) := by decide +kernel
theorem dL_law_282 : decode cL_law 282 = .ok (.iadd, 1) := by decide +kernel
theorem dL_law_283 : decode cL_law 283 = .ok (.iaload, 1) := by decide +kernel
theorem dL_law_284 : decode cL_law 284 = .ok (.aload_n 0, 1) := by decide +kernel
theorem dL_law_285 : decode cL_law 285 = .ok (.iload_n 3, 1) := by decide +kernel
theorem dL_law_286 : decode cL_law 286 = .ok (.iconst 2, 1) := by decide +kernel
theorem dL_law_287 : decode cL_law 287 = .ok (.iadd, 1) := by decide +kernel
theorem dL_law_288 : decode cL_law 288 = .ok (.iaload, 1) := by decide +kernel
theorem dL_law_289 : decode cL_law 289 = .ok (.ifCond .eq 7, 3) := by decide +kernel
theorem dL_law_292 : decode cL_law 292 = .ok (.iconst 1, 1) := by decide +kernel
theorem dL_law_293 : decode cL_law 293 = .ok (.goto 4, 3) := by decide +kernel
theorem dL_law_296 : decode cL_law 296 = .ok (.iconst 0, 1) := by decide +kernel
theorem dL_law_297 : decode cL_law 297 = .ok (.invokevirtual 32, 3) := by decide +kernel
theorem dL_law_300 : decode cL_law 300 = .ok (.aload_n 2, 1) := by decide +kernel
theorem dL_law_301 : decode cL_law 301 = .ok (.aload_n 0, 1) := by decide +kernel
theorem dL_law_302 : decode cL_law 302 = .ok (.iload_n 3, 1) := by decide +kernel
theorem dL_law_303 : decode cL_law 303 = .ok (.iconst 1, 1) := by decide +kernel
theorem dL_law_304 : decode cL_law 304 = .ok (.iadd, 1) := by decide +kernel
theorem dL_law_305 : decode cL_law 305 = .ok (.iaload, 1) := by decide +kernel
theorem dL_law_306 : decode cL_law 306 = .ok (.aload_n 0, 1) := by decide +kernel
theorem dL_law_307 : decode cL_law 307 = .ok (.iload_n 3, 1) := by decide +kernel
theorem dL_law_308 : decode cL_law 308 = .ok (.iconst 2, 1) := by decide +kernel
theorem dL_law_309 : decode cL_law 309 = .ok (.iadd, 1) := by decide +kernel
theorem dL_law_310 : decode cL_law 310 = .ok (.iaload, 1) := by decide +kernel
theorem dL_law_311 : decode cL_law 311 = .ok (.ifCond .eq 7, 3) := by decide +kernel
theorem dL_law_314 : decode cL_law 314 = .ok (.iconst 1, 1) := by decide +kernel
theorem dL_law_315 : decode cL_law 315 = .ok (.goto 4, 3) := by decide +kernel
theorem dL_law_318 : decode cL_law 318 = .ok (.iconst 0, 1) := by decide +kernel
theorem dL_law_319 : decode cL_law 319 = .ok (.invokevirtual 36, 3) := by decide +kernel
theorem dL_law_322 : decode cL_law 322 = .ok (.if_icmp .eq 471, 3) := by decide +kernel
theorem dL_law_325 : decode cL_law 325 = .ok (.iconst 0, 1) := by decide +kernel
theorem dL_law_326 : decode cL_law 326 = .ok (.ireturn, 1) := by decide +kernel
theorem dL_law_327 : decode cL_law 327 = .ok (.aload_n 1, 1) := by decide +kernel
theorem dL_law_328 : decode cL_law 328 = .ok (.aload_n 0, 1) := by decide +kernel
theorem dL_law_329 : decode cL_law 329 = .ok (.iload_n 3, 1) := by decide +kernel
theorem dL_law_330 : decode cL_law 330 = .ok (.iconst 1, 1) := by decide +kernel
theorem dL_law_331 : decode cL_law 331 = .ok (.iadd, 1) := by decide +kernel
theorem dL_law_332 : decode cL_law 332 = .ok (.iaload, 1) := by decide +kernel
theorem dL_law_333 : decode cL_law 333 = .ok (.invokevirtual 37, 3) := by decide +kernel
theorem dL_law_336 : decode cL_law 336 = .ok (.aload_n 2, 1) := by decide +kernel
theorem dL_law_337 : decode cL_law 337 = .ok (.aload_n 0, 1) := by decide +kernel
theorem dL_law_338 : decode cL_law 338 = .ok (.iload_n 3, 1) := by decide +kernel
theorem dL_law_339 : decode cL_law 339 = .ok (.iconst 1, 1) := by decide +kernel
theorem dL_law_340 : decode cL_law 340 = .ok (.iadd, 1) := by decide +kernel
theorem dL_law_341 : decode cL_law 341 = .ok (.iaload, 1) := by decide +kernel
theorem dL_law_342 : decode cL_law 342 = .ok (.invokevirtual 41, 3) := by decide +kernel
theorem dL_law_345 : decode cL_law 345 = .ok (.if_icmp .eq 448, 3) := by decide +kernel
theorem dL_law_348 : decode cL_law 348 = .ok (.iconst 0, 1) := by decide +kernel
theorem dL_law_349 : decode cL_law 349 = .ok (.ireturn, 1) := by decide +kernel
theorem dL_law_350 : decode cL_law 350 = .ok (.aload_n 1, 1) := by decide +kernel
theorem dL_law_351 : decode cL_law 351 = .ok (.aload_n 0, 1) := by decide +kernel
theorem dL_law_352 : decode cL_law 352 = .ok (.iload_n 3, 1) := by decide +kernel
theorem dL_law_353 : decode cL_law 353 = .ok (.iconst 1, 1) := by decide +kernel
theorem dL_law_354 : decode cL_law 354 = .ok (.iadd, 1) := by decide +kernel
theorem dL_law_355 : decode cL_law 355 = .ok (.iaload, 1) := by decide +kernel
theorem dL_law_356 : decode cL_law 356 = .ok (.aload_n 0, 1) := by decide +kernel
theorem dL_law_357 : decode cL_law 357 = .ok (.iload_n 3, 1) := by decide +kernel
theorem dL_law_358 : decode cL_law 358 = .ok (.iconst 2, 1) := by decide +kernel
theorem dL_law_359 : decode cL_law 359 = .ok (.iadd, 1) := by decide +kernel
theorem dL_law_360 : decode cL_law 360 = .ok (.iaload, 1) := by decide +kernel
theorem dL_law_361 : decode cL_law 361 = .ok (.invokevirtual 42, 3) := by decide +kernel
theorem dL_law_364 : decode cL_law 364 = .ok (.aload_n 2, 1) := by decide +kernel
theorem dL_law_365 : decode cL_law 365 = .ok (.aload_n 0, 1) := by decide +kernel
theorem dL_law_366 : decode cL_law 366 = .ok (.iload_n 3, 1) := by decide +kernel
theorem dL_law_367 : decode cL_law 367 = .ok (.iconst 1, 1) := by decide +kernel
theorem dL_law_368 : decode cL_law 368 = .ok (.iadd, 1) := by decide +kernel
theorem dL_law_369 : decode cL_law 369 = .ok (.iaload, 1) := by decide +kernel
theorem dL_law_370 : decode cL_law 370 = .ok (.aload_n 0, 1) := by decide +kernel
theorem dL_law_371 : decode cL_law 371 = .ok (.iload_n 3, 1) := by decide +kernel
theorem dL_law_372 : decode cL_law 372 = .ok (.iconst 2, 1) := by decide +kernel
theorem dL_law_373 : decode cL_law 373 = .ok (.iadd, 1) := by decide +kernel
theorem dL_law_374 : decode cL_law 374 = .ok (.iaload, 1) := by decide +kernel
theorem dL_law_375 : decode cL_law 375 = .ok (.invokevirtual 45, 3) := by decide +kernel
theorem dL_law_378 : decode cL_law 378 = .ok (.if_icmp .eq 415, 3) := by decide +kernel
theorem dL_law_381 : decode cL_law 381 = .ok (.iconst 0, 1) := by decide +kernel
theorem dL_law_382 : decode cL_law 382 = .ok (.ireturn, 1) := by decide +kernel
theorem dL_law_383 : decode cL_law 383 = .ok (.aload_n 1, 1) := by decide +kernel
theorem dL_law_384 : decode cL_law 384 = .ok (.aload_n 0, 1) := by decide +kernel
theorem dL_law_385 : decode cL_law 385 = .ok (.iload_n 3, 1) := by decide +kernel
theorem dL_law_386 : decode cL_law 386 = .ok (.iconst 1, 1) := by decide +kernel
theorem dL_law_387 : decode cL_law 387 = .ok (.iadd, 1) := by decide +kernel
theorem dL_law_388 : decode cL_law 388 = .ok (.iaload, 1) := by decide +kernel
theorem dL_law_389 : decode cL_law 389 = .ok (.aload_n 0, 1) := by decide +kernel
theorem dL_law_390 : decode cL_law 390 = .ok (.iload_n 3, 1) := by decide +kernel
theorem dL_law_391 : decode cL_law 391 = .ok (.iconst 2, 1) := by decide +kernel
theorem dL_law_392 : decode cL_law 392 = .ok (.iadd, 1) := by decide +kernel
theorem dL_law_393 : decode cL_law 393 = .ok (.iaload, 1) := by decide +kernel
theorem dL_law_394 : decode cL_law 394 = .ok (.invokevirtual 46, 3) := by decide +kernel
theorem dL_law_397 : decode cL_law 397 = .ok (.aload_n 2, 1) := by decide +kernel
theorem dL_law_398 : decode cL_law 398 = .ok (.aload_n 0, 1) := by decide +kernel
theorem dL_law_399 : decode cL_law 399 = .ok (.iload_n 3, 1) := by decide +kernel
theorem dL_law_400 : decode cL_law 400 = .ok (.iconst 1, 1) := by decide +kernel
theorem dL_law_401 : decode cL_law 401 = .ok (.iadd, 1) := by decide +kernel
theorem dL_law_402 : decode cL_law 402 = .ok (.iaload, 1) := by decide +kernel
theorem dL_law_403 : decode cL_law 403 = .ok (.aload_n 0, 1) := by decide +kernel
theorem dL_law_404 : decode cL_law 404 = .ok (.iload_n 3, 1) := by decide +kernel
theorem dL_law_405 : decode cL_law 405 = .ok (.iconst 2, 1) := by decide +kernel
theorem dL_law_406 : decode cL_law 406 = .ok (.iadd, 1) := by decide +kernel
theorem dL_law_407 : decode cL_law 407 = .ok (.iaload, 1) := by decide +kernel
theorem dL_law_408 : decode cL_law 408 = .ok (.invokevirtual 49, 3) := by decide +kernel
theorem dL_law_411 : decode cL_law 411 = .ok (.if_icmp .eq 382, 3) := by decide +kernel
theorem dL_law_414 : decode cL_law 414 = .ok (.iconst 0, 1) := by decide +kernel
theorem dL_law_415 : decode cL_law 415 = .ok (.ireturn, 1) := by decide +kernel
theorem dL_law_416 : decode cL_law 416 = .ok (.aload_n 1, 1) := by decide +kernel
theorem dL_law_417 : decode cL_law 417 = .ok (.aload_n 0, 1) := by decide +kernel
theorem dL_law_418 : decode cL_law 418 = .ok (.iload_n 3, 1) := by decide +kernel
theorem dL_law_419 : decode cL_law 419 = .ok (.iconst 1, 1) := by decide +kernel
theorem dL_law_420 : decode cL_law 420 = .ok (.iadd, 1) := by decide +kernel
theorem dL_law_421 : decode cL_law 421 = .ok (.iaload, 1) := by decide +kernel
theorem dL_law_422 : decode cL_law 422 = .ok (.aload_n 0, 1) := by decide +kernel
theorem dL_law_423 : decode cL_law 423 = .ok (.iload_n 3, 1) := by decide +kernel
theorem dL_law_424 : decode cL_law 424 = .ok (.iconst 2, 1) := by decide +kernel
theorem dL_law_425 : decode cL_law 425 = .ok (.iadd, 1) := by decide +kernel
theorem dL_law_426 : decode cL_law 426 = .ok (.iaload, 1) := by decide +kernel
theorem dL_law_427 : decode cL_law 427 = .ok (.aload_n 0, 1) := by decide +kernel
theorem dL_law_428 : decode cL_law 428 = .ok (.iload_n 3, 1) := by decide +kernel
theorem dL_law_429 : decode cL_law 429 = .ok (.iconst 3, 1) := by decide +kernel
theorem dL_law_430 : decode cL_law 430 = .ok (.iadd, 1) := by decide +kernel
theorem dL_law_431 : decode cL_law 431 = .ok (.iaload, 1) := by decide +kernel
theorem dL_law_432 : decode cL_law 432 = .ok (.invokevirtual 50, 3) := by decide +kernel
theorem dL_law_435 : decode cL_law 435 = .ok (.aload_n 2, 1) := by decide +kernel
theorem dL_law_436 : decode cL_law 436 = .ok (.aload_n 0, 1) := by decide +kernel
theorem dL_law_437 : decode cL_law 437 = .ok (.iload_n 3, 1) := by decide +kernel
theorem dL_law_438 : decode cL_law 438 = .ok (.iconst 1, 1) := by decide +kernel
theorem dL_law_439 : decode cL_law 439 = .ok (.iadd, 1) := by decide +kernel
theorem dL_law_440 : decode cL_law 440 = .ok (.iaload, 1) := by decide +kernel
theorem dL_law_441 : decode cL_law 441 = .ok (.aload_n 0, 1) := by decide +kernel
theorem dL_law_442 : decode cL_law 442 = .ok (.iload_n 3, 1) := by decide +kernel
theorem dL_law_443 : decode cL_law 443 = .ok (.iconst 2, 1) := by decide +kernel
theorem dL_law_444 : decode cL_law 444 = .ok (.iadd, 1) := by decide +kernel
theorem dL_law_445 : decode cL_law 445 = .ok (.iaload, 1) := by decide +kernel
theorem dL_law_446 : decode cL_law 446 = .ok (.aload_n 0, 1) := by decide +kernel
theorem dL_law_447 : decode cL_law 447 = .ok (.iload_n 3, 1) := by decide +kernel
theorem dL_law_448 : decode cL_law 448 = .ok (.iconst 3, 1) := by decide +kernel
theorem dL_law_449 : decode cL_law 449 = .ok (.iadd, 1) := by decide +kernel
theorem dL_law_450 : decode cL_law 450 = .ok (.iaload, 1) := by decide +kernel
theorem dL_law_451 : decode cL_law 451 = .ok (.invokevirtual 53, 3) := by decide +kernel
theorem dL_law_454 : decode cL_law 454 = .ok (.if_icmp .eq 339, 3) := by decide +kernel
theorem dL_law_457 : decode cL_law 457 = .ok (.iconst 0, 1) := by decide +kernel
theorem dL_law_458 : decode cL_law 458 = .ok (.ireturn, 1) := by decide +kernel
theorem dL_law_459 : decode cL_law 459 = .ok (.aload_n 1, 1) := by decide +kernel
theorem dL_law_460 : decode cL_law 460 = .ok (.aload_n 0, 1) := by decide +kernel
theorem dL_law_461 : decode cL_law 461 = .ok (.iload_n 3, 1) := by decide +kernel
theorem dL_law_462 : decode cL_law 462 = .ok (.iconst 1, 1) := by decide +kernel
theorem dL_law_463 : decode cL_law 463 = .ok (.iadd, 1) := by decide +kernel
theorem dL_law_464 : decode cL_law 464 = .ok (.iaload, 1) := by decide +kernel
theorem dL_law_465 : decode cL_law 465 = .ok (.aload_n 0, 1) := by decide +kernel
theorem dL_law_466 : decode cL_law 466 = .ok (.iload_n 3, 1) := by decide +kernel
theorem dL_law_467 : decode cL_law 467 = .ok (.iconst 2, 1) := by decide +kernel
theorem dL_law_468 : decode cL_law 468 = .ok (.iadd, 1) := by decide +kernel
theorem dL_law_469 : decode cL_law 469 = .ok (.iaload, 1) := by decide +kernel
theorem dL_law_470 : decode cL_law 470 = .ok (.invokevirtual 54, 3) := by decide +kernel
theorem dL_law_473 : decode cL_law 473 = .ok (.aload_n 2, 1) := by decide +kernel
theorem dL_law_474 : decode cL_law 474 = .ok (.aload_n 0, 1) := by decide +kernel
theorem dL_law_475 : decode cL_law 475 = .ok (.iload_n 3, 1) := by decide +kernel
theorem dL_law_476 : decode cL_law 476 = .ok (.iconst 1, 1) := by decide +kernel
theorem dL_law_477 : decode cL_law 477 = .ok (.iadd, 1) := by decide +kernel
theorem dL_law_478 : decode cL_law 478 = .ok (.iaload, 1) := by decide +kernel
theorem dL_law_479 : decode cL_law 479 = .ok (.aload_n 0, 1) := by decide +kernel
theorem dL_law_480 : decode cL_law 480 = .ok (.iload_n 3, 1) := by decide +kernel
theorem dL_law_481 : decode cL_law 481 = .ok (.iconst 2, 1) := by decide +kernel
theorem dL_law_482 : decode cL_law 482 = .ok (.iadd, 1) := by decide +kernel
theorem dL_law_483 : decode cL_law 483 = .ok (.iaload, 1) := by decide +kernel
theorem dL_law_484 : decode cL_law 484 = .ok (.invokevirtual 57, 3) := by decide +kernel
theorem dL_law_487 : decode cL_law 487 = .ok (.if_icmp .eq 306, 3) := by decide +kernel
theorem dL_law_490 : decode cL_law 490 = .ok (.iconst 0, 1) := by decide +kernel
theorem dL_law_491 : decode cL_law 491 = .ok (.ireturn, 1) := by decide +kernel
theorem dL_law_492 : decode cL_law 492 = .ok (.aload_n 1, 1) := by decide +kernel
theorem dL_law_493 : decode cL_law 493 = .ok (.aload_n 0, 1) := by decide +kernel
theorem dL_law_494 : decode cL_law 494 = .ok (.iload_n 3, 1) := by decide +kernel
theorem dL_law_495 : decode cL_law 495 = .ok (.iconst 1, 1) := by decide +kernel
theorem dL_law_496 : decode cL_law 496 = .ok (.iadd, 1) := by decide +kernel
theorem dL_law_497 : decode cL_law 497 = .ok (.iaload, 1) := by decide +kernel
theorem dL_law_498 : decode cL_law 498 = .ok (.aload_n 0, 1) := by decide +kernel
theorem dL_law_499 : decode cL_law 499 = .ok (.iload_n 3, 1) := by decide +kernel
theorem dL_law_500 : decode cL_law 500 = .ok (.iconst 2, 1) := by decide +kernel
theorem dL_law_501 : decode cL_law 501 = .ok (.iadd, 1) := by decide +kernel
theorem dL_law_502 : decode cL_law 502 = .ok (.iaload, 1) := by decide +kernel
theorem dL_law_503 : decode cL_law 503 = .ok (.invokevirtual 58, 3) := by decide +kernel
theorem dL_law_506 : decode cL_law 506 = .ok (.aload_n 2, 1) := by decide +kernel
theorem dL_law_507 : decode cL_law 507 = .ok (.aload_n 0, 1) := by decide +kernel
theorem dL_law_508 : decode cL_law 508 = .ok (.iload_n 3, 1) := by decide +kernel
theorem dL_law_509 : decode cL_law 509 = .ok (.iconst 1, 1) := by decide +kernel
theorem dL_law_510 : decode cL_law 510 = .ok (.iadd, 1) := by decide +kernel
theorem dL_law_511 : decode cL_law 511 = .ok (.iaload, 1) := by decide +kernel
theorem dL_law_512 : decode cL_law 512 = .ok (.aload_n 0, 1) := by decide +kernel
theorem dL_law_513 : decode cL_law 513 = .ok (.iload_n 3, 1) := by decide +kernel
theorem dL_law_514 : decode cL_law 514 = .ok (.iconst 2, 1) := by decide +kernel
theorem dL_law_515 : decode cL_law 515 = .ok (.iadd, 1) := by decide +kernel
theorem dL_law_516 : decode cL_law 516 = .ok (.iaload, 1) := by decide +kernel
theorem dL_law_517 : decode cL_law 517 = .ok (.invokevirtual 61, 3) := by decide +kernel
theorem dL_law_520 : decode cL_law 520 = .ok (.if_icmp .eq 273, 3) := by decide +kernel
theorem dL_law_523 : decode cL_law 523 = .ok (.iconst 0, 1) := by decide +kernel
theorem dL_law_524 : decode cL_law 524 = .ok (.ireturn, 1) := by decide +kernel
theorem dL_law_525 : decode cL_law 525 = .ok (.aload_n 1, 1) := by decide +kernel
theorem dL_law_526 : decode cL_law 526 = .ok (.aload_n 0, 1) := by decide +kernel
theorem dL_law_527 : decode cL_law 527 = .ok (.iload_n 3, 1) := by decide +kernel
theorem dL_law_528 : decode cL_law 528 = .ok (.iconst 1, 1) := by decide +kernel
theorem dL_law_529 : decode cL_law 529 = .ok (.iadd, 1) := by decide +kernel
theorem dL_law_530 : decode cL_law 530 = .ok (.iaload, 1) := by decide +kernel
theorem dL_law_531 : decode cL_law 531 = .ok (.aload_n 0, 1) := by decide +kernel
theorem dL_law_532 : decode cL_law 532 = .ok (.iload_n 3, 1) := by decide +kernel
theorem dL_law_533 : decode cL_law 533 = .ok (.iconst 2, 1) := by decide +kernel
theorem dL_law_534 : decode cL_law 534 = .ok (.iadd, 1) := by decide +kernel
theorem dL_law_535 : decode cL_law 535 = .ok (.iaload, 1) := by decide +kernel
theorem dL_law_536 : decode cL_law 536 = .ok (.aload_n 0, 1) := by decide +kernel
theorem dL_law_537 : decode cL_law 537 = .ok (.iload_n 3, 1) := by decide +kernel
theorem dL_law_538 : decode cL_law 538 = .ok (.iconst 3, 1) := by decide +kernel
theorem dL_law_539 : decode cL_law 539 = .ok (.iadd, 1) := by decide +kernel
theorem dL_law_540 : decode cL_law 540 = .ok (.iaload, 1) := by decide +kernel
theorem dL_law_541 : decode cL_law 541 = .ok (.invokevirtual 62, 3) := by decide +kernel
theorem dL_law_544 : decode cL_law 544 = .ok (.aload_n 2, 1) := by decide +kernel
theorem dL_law_545 : decode cL_law 545 = .ok (.aload_n 0, 1) := by decide +kernel
theorem dL_law_546 : decode cL_law 546 = .ok (.iload_n 3, 1) := by decide +kernel
theorem dL_law_547 : decode cL_law 547 = .ok (.iconst 1, 1) := by decide +kernel
theorem dL_law_548 : decode cL_law 548 = .ok (.iadd, 1) := by decide +kernel
theorem dL_law_549 : decode cL_law 549 = .ok (.iaload, 1) := by decide +kernel
theorem dL_law_550 : decode cL_law 550 = .ok (.aload_n 0, 1) := by decide +kernel
theorem dL_law_551 : decode cL_law 551 = .ok (.iload_n 3, 1) := by decide +kernel
theorem dL_law_552 : decode cL_law 552 = .ok (.iconst 2, 1) := by decide +kernel
theorem dL_law_553 : decode cL_law 553 = .ok (.iadd, 1) := by decide +kernel
theorem dL_law_554 : decode cL_law 554 = .ok (.iaload, 1) := by decide +kernel
theorem dL_law_555 : decode cL_law 555 = .ok (.aload_n 0, 1) := by decide +kernel
theorem dL_law_556 : decode cL_law 556 = .ok (.iload_n 3, 1) := by decide +kernel
theorem dL_law_557 : decode cL_law 557 = .ok (.iconst 3, 1) := by decide +kernel
theorem dL_law_558 : decode cL_law 558 = .ok (.iadd, 1) := by decide +kernel
theorem dL_law_559 : decode cL_law 559 = .ok (.iaload, 1) := by decide +kernel
theorem dL_law_560 : decode cL_law 560 = .ok (.invokevirtual 65, 3) := by decide +kernel
theorem dL_law_563 : decode cL_law 563 = .ok (.if_icmp .eq 230, 3) := by decide +kernel
theorem dL_law_566 : decode cL_law 566 = .ok (.iconst 0, 1) := by decide +kernel
theorem dL_law_567 : decode cL_law 567 = .ok (.ireturn, 1) := by decide +kernel
theorem dL_law_568 : decode cL_law 568 = .ok (.aload_n 1, 1) := by decide +kernel
theorem dL_law_569 : decode cL_law 569 = .ok (.aload_n 0, 1) := by decide +kernel
theorem dL_law_570 : decode cL_law 570 = .ok (.iload_n 3, 1) := by decide +kernel
theorem dL_law_571 : decode cL_law 571 = .ok (.iconst 1, 1) := by decide +kernel
theorem dL_law_572 : decode cL_law 572 = .ok (.iadd, 1) := by decide +kernel
theorem dL_law_573 : decode cL_law 573 = .ok (.iaload, 1) := by decide +kernel
theorem dL_law_574 : decode cL_law 574 = .ok (.aload_n 0, 1) := by decide +kernel
theorem dL_law_575 : decode cL_law 575 = .ok (.iload_n 3, 1) := by decide +kernel
theorem dL_law_576 : decode cL_law 576 = .ok (.iconst 2, 1) := by decide +kernel
theorem dL_law_577 : decode cL_law 577 = .ok (.iadd, 1) := by decide +kernel
theorem dL_law_578 : decode cL_law 578 = .ok (.iaload, 1) := by decide +kernel
theorem dL_law_579 : decode cL_law 579 = .ok (.aload_n 0, 1) := by decide +kernel
theorem dL_law_580 : decode cL_law 580 = .ok (.iload_n 3, 1) := by decide +kernel
theorem dL_law_581 : decode cL_law 581 = .ok (.iconst 3, 1) := by decide +kernel
theorem dL_law_582 : decode cL_law 582 = .ok (.iadd, 1) := by decide +kernel
theorem dL_law_583 : decode cL_law 583 = .ok (.iaload, 1) := by decide +kernel
theorem dL_law_584 : decode cL_law 584 = .ok (.invokevirtual 66, 3) := by decide +kernel
theorem dL_law_587 : decode cL_law 587 = .ok (.aload_n 2, 1) := by decide +kernel
theorem dL_law_588 : decode cL_law 588 = .ok (.aload_n 0, 1) := by decide +kernel
theorem dL_law_589 : decode cL_law 589 = .ok (.iload_n 3, 1) := by decide +kernel
theorem dL_law_590 : decode cL_law 590 = .ok (.iconst 1, 1) := by decide +kernel
theorem dL_law_591 : decode cL_law 591 = .ok (.iadd, 1) := by decide +kernel
theorem dL_law_592 : decode cL_law 592 = .ok (.iaload, 1) := by decide +kernel
theorem dL_law_593 : decode cL_law 593 = .ok (.aload_n 0, 1) := by decide +kernel
theorem dL_law_594 : decode cL_law 594 = .ok (.iload_n 3, 1) := by decide +kernel
theorem dL_law_595 : decode cL_law 595 = .ok (.iconst 2, 1) := by decide +kernel
theorem dL_law_596 : decode cL_law 596 = .ok (.iadd, 1) := by decide +kernel
theorem dL_law_597 : decode cL_law 597 = .ok (.iaload, 1) := by decide +kernel
theorem dL_law_598 : decode cL_law 598 = .ok (.aload_n 0, 1) := by decide +kernel
theorem dL_law_599 : decode cL_law 599 = .ok (.iload_n 3, 1) := by decide +kernel
theorem dL_law_600 : decode cL_law 600 = .ok (.iconst 3, 1) := by decide +kernel
theorem dL_law_601 : decode cL_law 601 = .ok (.iadd, 1) := by decide +kernel
theorem dL_law_602 : decode cL_law 602 = .ok (.iaload, 1) := by decide +kernel
theorem dL_law_603 : decode cL_law 603 = .ok (.invokevirtual 69, 3) := by decide +kernel
theorem dL_law_606 : decode cL_law 606 = .ok (.if_icmp .eq 187, 3) := by decide +kernel
theorem dL_law_609 : decode cL_law 609 = .ok (.iconst 0, 1) := by decide +kernel
theorem dL_law_610 : decode cL_law 610 = .ok (.ireturn, 1) := by decide +kernel
theorem dL_law_611 : decode cL_law 611 = .ok (.aload_n 1, 1) := by decide +kernel
theorem dL_law_612 : decode cL_law 612 = .ok (.aload_n 0, 1) := by decide +kernel
theorem dL_law_613 : decode cL_law 613 = .ok (.iload_n 3, 1) := by decide +kernel
theorem dL_law_614 : decode cL_law 614 = .ok (.iconst 1, 1) := by decide +kernel
theorem dL_law_615 : decode cL_law 615 = .ok (.iadd, 1) := by decide +kernel
theorem dL_law_616 : decode cL_law 616 = .ok (.iaload, 1) := by decide +kernel
theorem dL_law_617 : decode cL_law 617 = .ok (.aload_n 0, 1) := by decide +kernel
theorem dL_law_618 : decode cL_law 618 = .ok (.iload_n 3, 1) := by decide +kernel
theorem dL_law_619 : decode cL_law 619 = .ok (.iconst 2, 1) := by decide +kernel
theorem dL_law_620 : decode cL_law 620 = .ok (.iadd, 1) := by decide +kernel
theorem dL_law_621 : decode cL_law 621 = .ok (.iaload, 1) := by decide +kernel
theorem dL_law_622 : decode cL_law 622 = .ok (.invokevirtual 70, 3) := by decide +kernel
theorem dL_law_625 : decode cL_law 625 = .ok (.aload_n 2, 1) := by decide +kernel
theorem dL_law_626 : decode cL_law 626 = .ok (.aload_n 0, 1) := by decide +kernel
theorem dL_law_627 : decode cL_law 627 = .ok (.iload_n 3, 1) := by decide +kernel
theorem dL_law_628 : decode cL_law 628 = .ok (.iconst 1, 1) := by decide +kernel
theorem dL_law_629 : decode cL_law 629 = .ok (.iadd, 1) := by decide +kernel
theorem dL_law_630 : decode cL_law 630 = .ok (.iaload, 1) := by decide +kernel
theorem dL_law_631 : decode cL_law 631 = .ok (.aload_n 0, 1) := by decide +kernel
theorem dL_law_632 : decode cL_law 632 = .ok (.iload_n 3, 1) := by decide +kernel
theorem dL_law_633 : decode cL_law 633 = .ok (.iconst 2, 1) := by decide +kernel
theorem dL_law_634 : decode cL_law 634 = .ok (.iadd, 1) := by decide +kernel
theorem dL_law_635 : decode cL_law 635 = .ok (.iaload, 1) := by decide +kernel
theorem dL_law_636 : decode cL_law 636 = .ok (.invokevirtual 73, 3) := by decide +kernel
theorem dL_law_639 : decode cL_law 639 = .ok (.if_icmp .eq 154, 3) := by decide +kernel
theorem dL_law_642 : decode cL_law 642 = .ok (.iconst 0, 1) := by decide +kernel
theorem dL_law_643 : decode cL_law 643 = .ok (.ireturn, 1) := by decide +kernel
theorem dL_law_644 : decode cL_law 644 = .ok (.aload_n 1, 1) := by decide +kernel
theorem dL_law_645 : decode cL_law 645 = .ok (.aload_n 0, 1) := by decide +kernel
theorem dL_law_646 : decode cL_law 646 = .ok (.iload_n 3, 1) := by decide +kernel
theorem dL_law_647 : decode cL_law 647 = .ok (.iconst 1, 1) := by decide +kernel
theorem dL_law_648 : decode cL_law 648 = .ok (.iadd, 1) := by decide +kernel
theorem dL_law_649 : decode cL_law 649 = .ok (.iaload, 1) := by decide +kernel
theorem dL_law_650 : decode cL_law 650 = .ok (.aload_n 0, 1) := by decide +kernel
theorem dL_law_651 : decode cL_law 651 = .ok (.iload_n 3, 1) := by decide +kernel
theorem dL_law_652 : decode cL_law 652 = .ok (.iconst 2, 1) := by decide +kernel
theorem dL_law_653 : decode cL_law 653 = .ok (.iadd, 1) := by decide +kernel
theorem dL_law_654 : decode cL_law 654 = .ok (.iaload, 1) := by decide +kernel
theorem dL_law_655 : decode cL_law 655 = .ok (.invokevirtual 74, 3) := by decide +kernel
theorem dL_law_658 : decode cL_law 658 = .ok (.aload_n 2, 1) := by decide +kernel
theorem dL_law_659 : decode cL_law 659 = .ok (.aload_n 0, 1) := by decide +kernel
theorem dL_law_660 : decode cL_law 660 = .ok (.iload_n 3, 1) := by decide +kernel
theorem dL_law_661 : decode cL_law 661 = .ok (.iconst 1, 1) := by decide +kernel
theorem dL_law_662 : decode cL_law 662 = .ok (.iadd, 1) := by decide +kernel
theorem dL_law_663 : decode cL_law 663 = .ok (.iaload, 1) := by decide +kernel
theorem dL_law_664 : decode cL_law 664 = .ok (.aload_n 0, 1) := by decide +kernel
theorem dL_law_665 : decode cL_law 665 = .ok (.iload_n 3, 1) := by decide +kernel
theorem dL_law_666 : decode cL_law 666 = .ok (.iconst 2, 1) := by decide +kernel
theorem dL_law_667 : decode cL_law 667 = .ok (.iadd, 1) := by decide +kernel
theorem dL_law_668 : decode cL_law 668 = .ok (.iaload, 1) := by decide +kernel
theorem dL_law_669 : decode cL_law 669 = .ok (.invokevirtual 77, 3) := by decide +kernel
theorem dL_law_672 : decode cL_law 672 = .ok (.if_icmp .eq 121, 3) := by decide +kernel
theorem dL_law_675 : decode cL_law 675 = .ok (.iconst 0, 1) := by decide +kernel
theorem dL_law_676 : decode cL_law 676 = .ok (.ireturn, 1) := by decide +kernel
theorem dL_law_677 : decode cL_law 677 = .ok (.aload_n 1, 1) := by decide +kernel
theorem dL_law_678 : decode cL_law 678 = .ok (.aload_n 0, 1) := by decide +kernel
theorem dL_law_679 : decode cL_law 679 = .ok (.iload_n 3, 1) := by decide +kernel
theorem dL_law_680 : decode cL_law 680 = .ok (.iconst 1, 1) := by decide +kernel
theorem dL_law_681 : decode cL_law 681 = .ok (.iadd, 1) := by decide +kernel
theorem dL_law_682 : decode cL_law 682 = .ok (.iaload, 1) := by decide +kernel
theorem dL_law_683 : decode cL_law 683 = .ok (.i2l, 1) := by decide +kernel
theorem dL_law_684 : decode cL_law 684 = .ok (.bipush 32, 2) := by decide +kernel
theorem dL_law_686 : decode cL_law 686 = .ok (.lshl, 1) := by decide +kernel
theorem dL_law_687 : decode cL_law 687 = .ok (.aload_n 0, 1) := by decide +kernel
theorem dL_law_688 : decode cL_law 688 = .ok (.iload_n 3, 1) := by decide +kernel
theorem dL_law_689 : decode cL_law 689 = .ok (.iconst 2, 1) := by decide +kernel
theorem dL_law_690 : decode cL_law 690 = .ok (.iadd, 1) := by decide +kernel
theorem dL_law_691 : decode cL_law 691 = .ok (.iaload, 1) := by decide +kernel
theorem dL_law_692 : decode cL_law 692 = .ok (.i2l, 1) := by decide +kernel
theorem dL_law_693 : decode cL_law 693 = .ok (.ldc2_w 78, 3) := by decide +kernel
theorem dL_law_696 : decode cL_law 696 = .ok (.land, 1) := by decide +kernel
theorem dL_law_697 : decode cL_law 697 = .ok (.lor, 1) := by decide +kernel
theorem dL_law_698 : decode cL_law 698 = .ok (.aload_n 0, 1) := by decide +kernel
theorem dL_law_699 : decode cL_law 699 = .ok (.iload_n 3, 1) := by decide +kernel
theorem dL_law_700 : decode cL_law 700 = .ok (.iconst 3, 1) := by decide +kernel
theorem dL_law_701 : decode cL_law 701 = .ok (.iadd, 1) := by decide +kernel
theorem dL_law_702 : decode cL_law 702 = .ok (.iaload, 1) := by decide +kernel
theorem dL_law_703 : decode cL_law 703 = .ok (.invokevirtual 80, 3) := by decide +kernel
theorem dL_law_706 : decode cL_law 706 = .ok (.aload_n 2, 1) := by decide +kernel
theorem dL_law_707 : decode cL_law 707 = .ok (.aload_n 0, 1) := by decide +kernel
theorem dL_law_708 : decode cL_law 708 = .ok (.iload_n 3, 1) := by decide +kernel
theorem dL_law_709 : decode cL_law 709 = .ok (.iconst 1, 1) := by decide +kernel
theorem dL_law_710 : decode cL_law 710 = .ok (.iadd, 1) := by decide +kernel
theorem dL_law_711 : decode cL_law 711 = .ok (.iaload, 1) := by decide +kernel
theorem dL_law_712 : decode cL_law 712 = .ok (.i2l, 1) := by decide +kernel
theorem dL_law_713 : decode cL_law 713 = .ok (.bipush 32, 2) := by decide +kernel
theorem dL_law_715 : decode cL_law 715 = .ok (.lshl, 1) := by decide +kernel
theorem dL_law_716 : decode cL_law 716 = .ok (.aload_n 0, 1) := by decide +kernel
theorem dL_law_717 : decode cL_law 717 = .ok (.iload_n 3, 1) := by decide +kernel
theorem dL_law_718 : decode cL_law 718 = .ok (.iconst 2, 1) := by decide +kernel
theorem dL_law_719 : decode cL_law 719 = .ok (.iadd, 1) := by decide +kernel
theorem dL_law_720 : decode cL_law 720 = .ok (.iaload, 1) := by decide +kernel
theorem dL_law_721 : decode cL_law 721 = .ok (.i2l, 1) := by decide +kernel
theorem dL_law_722 : decode cL_law 722 = .ok (.ldc2_w 78, 3) := by decide +kernel
theorem dL_law_725 : decode cL_law 725 = .ok (.land, 1) := by decide +kernel
theorem dL_law_726 : decode cL_law 726 = .ok (.lor, 1) := by decide +kernel
theorem dL_law_727 : decode cL_law 727 = .ok (.aload_n 0, 1) := by decide +kernel
theorem dL_law_728 : decode cL_law 728 = .ok (.iload_n 3, 1) := by decide +kernel
theorem dL_law_729 : decode cL_law 729 = .ok (.iconst 3, 1) := by decide +kernel
theorem dL_law_730 : decode cL_law 730 = .ok (.iadd, 1) := by decide +kernel
theorem dL_law_731 : decode cL_law 731 = .ok (.iaload, 1) := by decide +kernel
theorem dL_law_732 : decode cL_law 732 = .ok (.invokevirtual 84, 3) := by decide +kernel
theorem dL_law_735 : decode cL_law 735 = .ok (.if_icmp .eq 58, 3) := by decide +kernel
theorem dL_law_738 : decode cL_law 738 = .ok (.iconst 0, 1) := by decide +kernel
theorem dL_law_739 : decode cL_law 739 = .ok (.ireturn, 1) := by decide +kernel
theorem dL_law_740 : decode cL_law 740 = .ok (.aload_n 1, 1) := by decide +kernel
theorem dL_law_741 : decode cL_law 741 = .ok (.aload_n 0, 1) := by decide +kernel
theorem dL_law_742 : decode cL_law 742 = .ok (.iload_n 3, 1) := by decide +kernel
theorem dL_law_743 : decode cL_law 743 = .ok (.iconst 1, 1) := by decide +kernel
theorem dL_law_744 : decode cL_law 744 = .ok (.iadd, 1) := by decide +kernel
theorem dL_law_745 : decode cL_law 745 = .ok (.iaload, 1) := by decide +kernel
theorem dL_law_746 : decode cL_law 746 = .ok (.i2l, 1) := by decide +kernel
theorem dL_law_747 : decode cL_law 747 = .ok (.bipush 32, 2) := by decide +kernel
theorem dL_law_749 : decode cL_law 749 = .ok (.lshl, 1) := by decide +kernel
theorem dL_law_750 : decode cL_law 750 = .ok (.aload_n 0, 1) := by decide +kernel
theorem dL_law_751 : decode cL_law 751 = .ok (.iload_n 3, 1) := by decide +kernel
theorem dL_law_752 : decode cL_law 752 = .ok (.iconst 2, 1) := by decide +kernel
theorem dL_law_753 : decode cL_law 753 = .ok (.iadd, 1) := by decide +kernel
theorem dL_law_754 : decode cL_law 754 = .ok (.iaload, 1) := by decide +kernel
theorem dL_law_755 : decode cL_law 755 = .ok (.i2l, 1) := by decide +kernel
theorem dL_law_756 : decode cL_law 756 = .ok (.ldc2_w 78, 3) := by decide +kernel
theorem dL_law_759 : decode cL_law 759 = .ok (.land, 1) := by decide +kernel
theorem dL_law_760 : decode cL_law 760 = .ok (.lor, 1) := by decide +kernel
theorem dL_law_761 : decode cL_law 761 = .ok (.invokevirtual 85, 3) := by decide +kernel
theorem dL_law_764 : decode cL_law 764 = .ok (.aload_n 2, 1) := by decide +kernel
theorem dL_law_765 : decode cL_law 765 = .ok (.aload_n 0, 1) := by decide +kernel
theorem dL_law_766 : decode cL_law 766 = .ok (.iload_n 3, 1) := by decide +kernel
theorem dL_law_767 : decode cL_law 767 = .ok (.iconst 1, 1) := by decide +kernel
theorem dL_law_768 : decode cL_law 768 = .ok (.iadd, 1) := by decide +kernel
theorem dL_law_769 : decode cL_law 769 = .ok (.iaload, 1) := by decide +kernel
theorem dL_law_770 : decode cL_law 770 = .ok (.i2l, 1) := by decide +kernel
theorem dL_law_771 : decode cL_law 771 = .ok (.bipush 32, 2) := by decide +kernel
theorem dL_law_773 : decode cL_law 773 = .ok (.lshl, 1) := by decide +kernel
theorem dL_law_774 : decode cL_law 774 = .ok (.aload_n 0, 1) := by decide +kernel
theorem dL_law_775 : decode cL_law 775 = .ok (.iload_n 3, 1) := by decide +kernel
theorem dL_law_776 : decode cL_law 776 = .ok (.iconst 2, 1) := by decide +kernel
theorem dL_law_777 : decode cL_law 777 = .ok (.iadd, 1) := by decide +kernel
theorem dL_law_778 : decode cL_law 778 = .ok (.iaload, 1) := by decide +kernel
theorem dL_law_779 : decode cL_law 779 = .ok (.i2l, 1) := by decide +kernel
theorem dL_law_780 : decode cL_law 780 = .ok (.ldc2_w 78, 3) := by decide +kernel
theorem dL_law_783 : decode cL_law 783 = .ok (.land, 1) := by decide +kernel
theorem dL_law_784 : decode cL_law 784 = .ok (.lor, 1) := by decide +kernel
theorem dL_law_785 : decode cL_law 785 = .ok (.invokevirtual 89, 3) := by decide +kernel
theorem dL_law_788 : decode cL_law 788 = .ok (.if_icmp .eq 5, 3) := by decide +kernel
theorem dL_law_791 : decode cL_law 791 = .ok (.iconst 0, 1) := by decide +kernel
theorem dL_law_792 : decode cL_law 792 = .ok (.ireturn, 1) := by decide +kernel
theorem dL_law_793 : decode cL_law 793 = .ok (.iinc 3 5, 3) := by decide +kernel
theorem dL_law_796 : decode cL_law 796 = .ok (.goto (-778), 3) := by decide +kernel
theorem dL_law_799 : decode cL_law 799 = .ok (.iconst 1, 1) := by decide +kernel
theorem dL_law_800 : decode cL_law 800 = .ok (.ireturn, 1) := by decide +kernel
