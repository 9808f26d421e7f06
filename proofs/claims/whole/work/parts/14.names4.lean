theorem dX8_lookUp_49 : decode cX8_lookUp 49 = .ok (.iload_n 2, 1) := by decide +kernel
theorem dX8_lookUp_50 : decode cX8_lookUp 50 = .ok (.iaload, 1) := by decide +kernel
theorem dX8_lookUp_51 : decode cX8_lookUp 51 = .ok (.iconst (-1), 1) := by decide +kernel
theorem dX8_lookUp_52 : decode cX8_lookUp 52 = .ok (.if_icmp .eq 15, 3) := by decide +kernel
theorem dX8_lookUp_55 : decode cX8_lookUp 55 = .ok (.aload_n 0, 1) := by decide +kernel
theorem dX8_lookUp_56 : decode cX8_lookUp 56 = .ok (.getfield 68, 3) := by decide +kernel
theorem dX8_lookUp_59 : decode cX8_lookUp 59 = .ok (.aload_n 0, 1) := by decide +kernel
theorem dX8_lookUp_60 : decode cX8_lookUp 60 = .ok (.getfield 13, 3) := by decide +kernel
theorem dX8_lookUp_63 : decode cX8_lookUp 63 = .ok (.iload_n 2, 1) := by decide +kernel
theorem dX8_lookUp_64 : decode cX8_lookUp 64 = .ok (.iaload, 1) := by decide +kernel
theorem dX8_lookUp_65 : decode cX8_lookUp 65 = .ok (.iconst 1, 1) := by decide +kernel
theorem dX8_lookUp_66 : decode cX8_lookUp 66 = .ok (.bastore, 1) := by decide +kernel
theorem dX8_lookUp_67 : decode cX8_lookUp 67 = .ok (.iconst 0, 1) := by decide +kernel
theorem dX8_lookUp_68 : decode cX8_lookUp 68 = .ok (.istore_n 3, 1) := by decide +kernel
theorem dX8_lookUp_69 : decode cX8_lookUp 69 = .ok (.iload_n 3, 1) := by decide +kernel
theorem dX8_lookUp_70 : decode cX8_lookUp 70 = .ok (.aload_n 0, 1) := by decide +kernel
theorem dX8_lookUp_71 : decode cX8_lookUp 71 = .ok (.getfield 16, 3) := by decide +kernel
theorem dX8_lookUp_74 : decode cX8_lookUp 74 = .ok (.iload_n 2, 1) := by decide +kernel
theorem dX8_lookUp_75 : decode cX8_lookUp 75 = .ok (.iaload, 1) := by decide +kernel
theorem dX8_lookUp_76 : decode cX8_lookUp 76 = .ok (.if_icmp .ge 34, 3) := by decide +kernel
theorem dX8_lookUp_79 : decode cX8_lookUp 79 = .ok (.aload_n 0, 1) := by decide +kernel
theorem dX8_lookUp_80 : decode cX8_lookUp 80 = .ok (.getfield 68, 3) := by decide +kernel
theorem dX8_lookUp_83 : decode cX8_lookUp 83 = .ok (.iload_n 2, 1) := by decide +kernel
theorem dX8_lookUp_84 : decode cX8_lookUp 84 = .ok (.baload, 1) := by decide +kernel
theorem dX8_lookUp_85 : decode cX8_lookUp 85 = .ok (.ifCond .eq 25, 3) := by decide +kernel
theorem dX8_lookUp_88 : decode cX8_lookUp 88 = .ok (.aload_n 0, 1) := by decide +kernel
theorem dX8_lookUp_89 : decode cX8_lookUp 89 = .ok (.getfield 68, 3) := by decide +kernel
theorem dX8_lookUp_92 : decode cX8_lookUp 92 = .ok (.aload_n 0, 1) := by decide +kernel
theorem dX8_lookUp_93 : decode cX8_lookUp 93 = .ok (.getfield 19, 3) := by decide +kernel
theorem dX8_lookUp_96 : decode cX8_lookUp 96 = .ok (.iconst 3, 1) := by decide +kernel
theorem dX8_lookUp_97 : decode cX8_lookUp 97 = .ok (.iload_n 2, 1) := by decide +kernel
theorem dX8_lookUp_98 : decode cX8_lookUp 98 = .ok (.imul, 1) := by decide +kernel
theorem dX8_lookUp_99 : decode cX8_lookUp 99 = .ok (.iload_n 3, 1) := by decide +kernel
theorem dX8_lookUp_100 : decode cX8_lookUp 100 = .ok (.iadd, 1) := by decide +kernel
theorem dX8_lookUp_101 : decode cX8_lookUp 101 = .ok (.iaload, 1) := by decide +kernel
theorem dX8_lookUp_102 : decode cX8_lookUp 102 = .ok (.iconst 1, 1) := by decide +kernel
theorem dX8_lookUp_103 : decode cX8_lookUp 103 = .ok (.bastore, 1) := by decide +kernel
theorem dX8_lookUp_104 : decode cX8_lookUp 104 = .ok (.iinc 3 1, 3) := by decide +kernel
theorem dX8_lookUp_107 : decode cX8_lookUp 107 = .ok (.goto (-38), 3) := by decide +kernel
theorem dX8_lookUp_110 : decode cX8_lookUp 110 = .ok (.iinc 2 (-1), 3) := by decide +kernel
theorem dX8_lookUp_113 : decode cX8_lookUp 113 = .ok (.goto (-81), 3) := by decide +kernel
theorem dX8_lookUp_116 : decode cX8_lookUp 116 = .ok (.return_, 1) := by decide +kernel
set_option maxRecDepth 20000 in
theorem ggX8_isUnder_X8_lookUp : GoodIn wsX8_isUnder wsX8_lookUp := goodIn_r _ [9, 4, 10, 11, 12, 13, 14, 15, 16, 17, 18, 19, 20, 21, 22, 23, 24, 25, 26, 27, 28, 29, 30, 31, 32, 33, 34, 35, 36, 37, 38, 39, 40, 41, 42, 43, 44, 45, 46, 47, 48, 49, 50, 51, 52, 53, 54, 55, 56, 57, 58, 59, 60, 61, 62] rfl (by decide +kernel)
set_option maxRecDepth 20000 in
theorem gX8_isUnder_X8_lookUp : GoodIn wsX8_isUnder (wsV RX8 137 RX8 yX8_lookUp wsX8_lookUp) := goodIn_app (goodIn_of _ (by decide +kernel)) ggX8_isUnder_X8_lookUp
theorem dX8_isUnder_0 : decode cX8_isUnder 0 = .ok (.aload_n 0, 1) := by decide +kernel
theorem dX8_isUnder_1 : decode cX8_isUnder 1 = .ok (.getfield 134, 3) := by decide +kernel
theorem dX8_isUnder_4 : decode cX8_isUnder 4 = .ok (.ifCond .ne 64, 3) := by decide +kernel
theorem dX8_isUnder_7 : decode cX8_isUnder 7 = .ok (.aload_n 0, 1) := by decide +kernel
theorem dX8_isUnder_8 : decode cX8_isUnder 8 = .ok (.iconst 1, 1) := by decide +kernel
theorem dX8_isUnder_9 : decode cX8_isUnder 9 = .ok (.putfield 134, 3) := by decide +kernel
theorem dX8_isUnder_12 : decode cX8_isUnder 12 = .ok (.iconst 0, 1) := by decide +kernel
theorem dX8_isUnder_13 : decode cX8_isUnder 13 = .ok (.istore_n 3, 1) := by decide +kernel
theorem dX8_isUnder_14 : decode cX8_isUnder 14 = .ok (.iload_n 3, 1) := by decide +kernel
theorem dX8_isUnder_15 : decode cX8_isUnder 15 = .ok (.aload_n 0, 1) := by decide +kernel
theorem dX8_isUnder_16 : decode cX8_isUnder 16 = .ok (.getfield 123, 3) := by decide +kernel
theorem dX8_isUnder_19 : decode cX8_isUnder 19 = .ok (.if_icmp .ge 49, 3) := by decide +kernel
theorem dX8_isUnder_22 : decode cX8_isUnder 22 = .ok (.aload_n 0, 1) := by decide +kernel
theorem dX8_isUnder_23 : decode cX8_isUnder 23 = .ok (.iload_n 3, 1) := by decide +kernel
theorem dX8_isUnder_24 : decode cX8_isUnder 24 = .ok (.invokevirtual 137, 3) := by decide +kernel
theorem dX8_isUnder_27 : decode cX8_isUnder 27 = .ok (.iconst 0, 1) := by decide +kernel
theorem dX8_isUnder_28 : decode cX8_isUnder 28 = .ok (.istore 4, 2) := by decide +kernel
theorem dX8_isUnder_30 : decode cX8_isUnder 30 = .ok (.iload 4, 2) := by decide +kernel
theorem dX8_isUnder_32 : decode cX8_isUnder 32 = .ok (.bipush 16, 2) := by decide +kernel
theorem dX8_isUnder_34 : decode cX8_isUnder 34 = .ok (.if_icmp .ge 28, 3) := by decide +kernel
theorem dX8_isUnder_37 : decode cX8_isUnder 37 = .ok (.aload_n 0, 1) := by decide +kernel
theorem dX8_isUnder_38 : decode cX8_isUnder 38 = .ok (.getfield 71, 3) := by decide +kernel
theorem dX8_isUnder_41 : decode cX8_isUnder 41 = .ok (.bipush 16, 2) := by decide +kernel
theorem dX8_isUnder_43 : decode cX8_isUnder 43 = .ok (.iload_n 3, 1) := by decide +kernel
theorem dX8_isUnder_44 : decode cX8_isUnder 44 = .ok (.imul, 1) := by decide +kernel
theorem dX8_isUnder_45 : decode cX8_isUnder 45 = .ok (.iload 4, 2) := by decide +kernel
theorem dX8_isUnder_47 : decode cX8_isUnder 47 = .ok (.iadd, 1) := by decide +kernel
theorem dX8_isUnder_48 : decode cX8_isUnder 48 = .ok (.aload_n 0, 1) := by decide +kernel
theorem dX8_isUnder_49 : decode cX8_isUnder 49 = .ok (.getfield 68, 3) := by decide +kernel
theorem dX8_isUnder_52 : decode cX8_isUnder 52 = .ok (.iload 4, 2) := by decide +kernel
theorem dX8_isUnder_54 : decode cX8_isUnder 54 = .ok (.baload, 1) := by decide +kernel
theorem dX8_isUnder_55 : decode cX8_isUnder 55 = .ok (.bastore, 1) := by decide +kernel
theorem dX8_isUnder_56 : decode cX8_isUnder 56 = .ok (.iinc 4 1, 3) := by decide +kernel
theorem dX8_isUnder_59 : decode cX8_isUnder 59 = .ok (.goto (-29), 3) := by decide +kernel
theorem dX8_isUnder_62 : decode cX8_isUnder 62 = .ok (.iinc 3 1, 3) := by decide +kernel
theorem dX8_isUnder_65 : decode cX8_isUnder 65 = .ok (.goto (-51), 3) := by decide +kernel
theorem dX8_isUnder_68 : decode cX8_isUnder 68 = .ok (.aload_n 0, 1) := by decide +kernel
theorem dX8_isUnder_69 : decode cX8_isUnder 69 = .ok (.getfield 71, 3) := by decide +kernel
theorem dX8_isUnder_72 : decode cX8_isUnder 72 = .ok (.bipush 16, 2) := by decide +kernel
theorem dX8_isUnder_74 : decode cX8_isUnder 74 = .ok (.iload_n 1, 1) := by decide +kernel
theorem dX8_isUnder_75 : decode cX8_isUnder 75 = .ok (.imul, 1) := by decide +kernel
theorem dX8_isUnder_76 : decode cX8_isUnder 76 = .ok (.iload_n 2, 1) := by decide +kernel
theorem dX8_isUnder_77 : decode cX8_isUnder 77 = .ok (.iadd, 1) := by decide +kernel
theorem dX8_isUnder_78 : decode cX8_isUnder 78 = .ok (.baload, 1) := by decide +kernel
theorem dX8_isUnder_79 : decode cX8_isUnder 79 = .ok (.ireturn, 1) := by decide +kernel
set_option maxRecDepth 20000 in
theorem ggX8_type_X8_isType : GoodIn wsX8_type wsX8_isType := goodIn_r _ [11, 2, 12, 13, 10, 14, 15, 16, 17, 18, 19, 20, 21, 22, 23, 24, 25, 26, 27, 28, 29, 30, 31, 32, 33, 34, 35, 36, 37, 38, 39, 40, 41, 42, 43, 44, 45, 46, 47, 48, 49, 50, 51, 52, 53, 54, 55, 56, 57, 58, 59, 60, 61, 62, 63, 64] rfl (by decide +kernel)
set_option maxRecDepth 20000 in
theorem gX8_type_X8_isType : GoodIn wsX8_type (wsV RX8 141 RX8 yX8_isType wsX8_isType) := goodIn_app (goodIn_of _ (by decide +kernel)) ggX8_type_X8_isType
set_option maxRecDepth 20000 in
theorem ggX8_type_X8_in : GoodIn wsX8_type wsX8_in := goodIn_r _ [14] rfl (by decide +kernel)
set_option maxRecDepth 20000 in
theorem gX8_type_X8_in : GoodIn wsX8_type (va_wsS RX8 127 yX8_in wsX8_in) := goodIn_app (goodIn_of _ (by decide +kernel)) ggX8_type_X8_in
theorem dX8_type_0 : decode cX8_type 0 = .ok (.iload_n 2, 1) := by decide +kernel
theorem dX8_type_1 : decode cX8_type 1 = .ok (.iconst (-1), 1) := by decide +kernel
theorem dX8_type_2 : decode cX8_type 2 = .ok (.if_icmp .eq 14, 3) := by decide +kernel
theorem dX8_type_5 : decode cX8_type 5 = .ok (.aload_n 0, 1) := by decide +kernel
theorem dX8_type_6 : decode cX8_type 6 = .ok (.iload_n 2, 1) := by decide +kernel
theorem dX8_type_7 : decode cX8_type 7 = .ok (.invokevirtual 141, 3) := by decide +kernel
theorem dX8_type_10 : decode cX8_type 10 = .ok (.ifCond .ne 6, 3) := by decide +kernel
theorem dX8_type_13 : decode cX8_type 13 = .ok (.bipush (-101), 2) := by decide +kernel
theorem dX8_type_15 : decode cX8_type 15 = .ok (.ireturn, 1) := by decide +kernel
theorem dX8_type_16 : decode cX8_type 16 = .ok (.iload_n 1, 1) := by decide +kernel
theorem dX8_type_17 : decode cX8_type 17 = .ok (.iconst 0, 1) := by decide +kernel
theorem dX8_type_18 : decode cX8_type 18 = .ok (.iconst 2, 1) := by decide +kernel
theorem dX8_type_19 : decode cX8_type 19 = .ok (.invokestatic 127, 3) := by decide +kernel
theorem dX8_type_22 : decode cX8_type 22 = .ok (.ifCond .eq 23, 3) := by decide +kernel
theorem dX8_type_25 : decode cX8_type 25 = .ok (.iload_n 2, 1) := by decide +kernel
theorem dX8_type_26 : decode cX8_type 26 = .ok (.iconst (-1), 1) := by decide +kernel
theorem dX8_type_27 : decode cX8_type 27 = .ok (.if_icmp .eq 21, 3) := by decide +kernel
theorem dX8_type_30 : decode cX8_type 30 = .ok (.iload_n 1, 1) := by decide +kernel
theorem dX8_type_31 : decode cX8_type 31 = .ok (.iconst 2, 1) := by decide +kernel
theorem dX8_type_32 : decode cX8_type 32 = .ok (.if_icmp .eq 13, 3) := by decide +kernel
theorem dX8_type_35 : decode cX8_type 35 = .ok (.aload_n 0, 1) := by decide +kernel
theorem dX8_type_36 : decode cX8_type 36 = .ok (.getfield 7, 3) := by decide +kernel
theorem dX8_type_39 : decode cX8_type 39 = .ok (.iload_n 2, 1) := by decide +kernel
theorem dX8_type_40 : decode cX8_type 40 = .ok (.iaload, 1) := by decide +kernel
theorem dX8_type_41 : decode cX8_type 41 = .ok (.iconst 2, 1) := by decide +kernel
theorem dX8_type_42 : decode cX8_type 42 = .ok (.if_icmp .ne 6, 3) := by decide +kernel
theorem dX8_type_45 : decode cX8_type 45 = .ok (.bipush (-102), 2) := by decide +kernel
theorem dX8_type_47 : decode cX8_type 47 = .ok (.ireturn, 1) := by decide +kernel
theorem dX8_type_48 : decode cX8_type 48 = .ok (.aload_n 0, 1) := by decide +kernel
theorem dX8_type_49 : decode cX8_type 49 = .ok (.getfield 123, 3) := by decide +kernel
theorem dX8_type_52 : decode cX8_type 52 = .ok (.bipush 16, 2) := by decide +kernel
theorem dX8_type_54 : decode cX8_type 54 = .ok (.if_icmp .ne 6, 3) := by decide +kernel
theorem dX8_type_57 : decode cX8_type 57 = .ok (.bipush (-104), 2) := by decide +kernel
theorem dX8_type_59 : decode cX8_type 59 = .ok (.ireturn, 1) := by decide +kernel
theorem dX8_type_60 : decode cX8_type 60 = .ok (.aload_n 0, 1) := by decide +kernel
theorem dX8_type_61 : decode cX8_type 61 = .ok (.getfield 7, 3) := by decide +kernel
theorem dX8_type_64 : decode cX8_type 64 = .ok (.aload_n 0, 1) := by decide +kernel
theorem dX8_type_65 : decode cX8_type 65 = .ok (.getfield 123, 3) := by decide +kernel
theorem dX8_type_68 : decode cX8_type 68 = .ok (.iload_n 1, 1) := by decide +kernel
theorem dX8_type_69 : decode cX8_type 69 = .ok (.iastore, 1) := by decide +kernel
theorem dX8_type_70 : decode cX8_type 70 = .ok (.aload_n 0, 1) := by decide +kernel
theorem dX8_type_71 : decode cX8_type 71 = .ok (.getfield 13, 3) := by decide +kernel
theorem dX8_type_74 : decode cX8_type 74 = .ok (.aload_n 0, 1) := by decide +kernel
theorem dX8_type_75 : decode cX8_type 75 = .ok (.getfield 123, 3) := by decide +kernel
theorem dX8_type_78 : decode cX8_type 78 = .ok (.iload_n 2, 1) := by decide +kernel
theorem dX8_type_79 : decode cX8_type 79 = .ok (.iastore, 1) := by decide +kernel
theorem dX8_type_80 : decode cX8_type 80 = .ok (.aload_n 0, 1) := by decide +kernel
theorem dX8_type_81 : decode cX8_type 81 = .ok (.getfield 16, 3) := by decide +kernel
theorem dX8_type_84 : decode cX8_type 84 = .ok (.aload_n 0, 1) := by decide +kernel
theorem dX8_type_85 : decode cX8_type 85 = .ok (.getfield 123, 3) := by decide +kernel
theorem dX8_type_88 : decode cX8_type 88 = .ok (.iconst 0, 1) := by decide +kernel
theorem dX8_type_89 : decode cX8_type 89 = .ok (.iastore, 1) := by decide +kernel
theorem dX8_type_90 : decode cX8_type 90 = .ok (.aload_n 0, 1) := by decide +kernel
theorem dX8_type_91 : decode cX8_type 91 = .ok (.dup, 1) := by decide +kernel
theorem dX8_type_92 : decode cX8_type 92 = .ok (.getfield 123, 3) := by decide +kernel
theorem dX8_type_95 : decode cX8_type 95 = .ok (.iconst 1, 1) := by decide +kernel
theorem dX8_type_96 : decode cX8_type 96 = .ok (.iadd, 1) := by decide +kernel
theorem dX8_type_97 : decode cX8_type 97 = .ok (.putfield 123, 3) := by decide +kernel
theorem dX8_type_100 : decode cX8_type 100 = .ok (.aload_n 0, 1) := by decide +kernel
theorem dX8_type_101 : decode cX8_type 101 = .ok (.iconst 0, 1) := by decide +kernel
theorem dX8_type_102 : decode cX8_type 102 = .ok (.putfield 119, 3) := by decide +kernel
theorem dX8_type_105 : decode cX8_type 105 = .ok (.aload_n 0, 1) := by decide +kernel
theorem dX8_type_106 : decode cX8_type 106 = .ok (.iconst 0, 1) := by decide +kernel
theorem dX8_type_107 : decode cX8_type 107 = .ok (.putfield 134, 3) := by decide +kernel
theorem dX8_type_110 : decode cX8_type 110 = .ok (.aload_n 0, 1) := by decide +kernel
theorem dX8_type_111 : decode cX8_type 111 = .ok (.getfield 123, 3) := by decide +kernel
theorem dX8_type_114 : decode cX8_type 114 = .ok (.iconst 1, 1) := by decide +kernel
theorem dX8_type_115 : decode cX8_type 115 = .ok (.isub, 1) := by decide +kernel
theorem dX8_type_116 : decode cX8_type 116 = .ok (.ireturn, 1) := by decide +kernel
set_option maxRecDepth 20000 in
theorem ggX8_face_X8_isType : GoodIn wsX8_face wsX8_isType := goodIn_r _ [10, 11, 12, 13, 9, 14, 15, 16, 17, 18, 19, 20, 21, 22, 23, 24, 25, 26, 27, 28, 29, 30, 31, 32, 33, 34, 35, 36, 37, 38, 39, 40, 41, 42, 43, 44, 45, 46, 47, 48, 49, 50, 51, 52, 53, 54, 55, 56, 57, 58, 59, 60, 61, 62, 63, 64] rfl (by decide +kernel)
set_option maxRecDepth 20000 in
theorem gX8_face_X8_isType : GoodIn wsX8_face (wsV RX8 141 RX8 yX8_isType wsX8_isType) := goodIn_app (goodIn_of _ (by decide +kernel)) ggX8_face_X8_isType
theorem dX8_face_0 : decode cX8_face 0 = .ok (.aload_n 0, 1) := by decide +kernel
theorem dX8_face_1 : decode cX8_face 1 = .ok (.iload_n 1, 1) := by decide +kernel
theorem dX8_face_2 : decode cX8_face 2 = .ok (.invokevirtual 141, 3) := by decide +kernel
theorem dX8_face_5 : decode cX8_face 5 = .ok (.ifCond .eq 11, 3) := by decide +kernel
theorem dX8_face_8 : decode cX8_face 8 = .ok (.aload_n 0, 1) := by decide +kernel
theorem dX8_face_9 : decode cX8_face 9 = .ok (.iload_n 2, 1) := by decide +kernel
theorem dX8_face_10 : decode cX8_face 10 = .ok (.invokevirtual 141, 3) := by decide +kernel
theorem dX8_face_13 : decode cX8_face 13 = .ok (.ifCond .ne 6, 3) := by decide +kernel
theorem dX8_face_16 : decode cX8_face 16 = .ok (.bipush (-101), 2) := by decide +kernel
theorem dX8_face_18 : decode cX8_face 18 = .ok (.ireturn, 1) := by decide +kernel
theorem dX8_face_19 : decode cX8_face 19 = .ok (.aload_n 0, 1) := by decide +kernel
theorem dX8_face_20 : decode cX8_face 20 = .ok (.getfield 7, 3) := by decide +kernel
theorem dX8_face_23 : decode cX8_face 23 = .ok (.iload_n 2, 1) := by decide +kernel
theorem dX8_face_24 : decode cX8_face 24 = .ok (.iaload, 1) := by decide +kernel
theorem dX8_face_25 : decode cX8_face 25 = .ok (.iconst 2, 1) := by decide +kernel
theorem dX8_face_26 : decode cX8_face 26 = .ok (.if_icmp .ne 8, 3) := by decide +kernel
theorem dX8_face_29 : decode cX8_face 29 = .ok (.iload_n 2, 1) := by decide +kernel
theorem dX8_face_30 : decode cX8_face 30 = .ok (.iload_n 1, 1) := by decide +kernel
theorem dX8_face_31 : decode cX8_face 31 = .ok (.if_icmp .lt 6, 3) := by decide +kernel
theorem dX8_face_34 : decode cX8_face 34 = .ok (.bipush (-102), 2) := by decide +kernel
theorem dX8_face_36 : decode cX8_face 36 = .ok (.ireturn, 1) := by decide +kernel
theorem dX8_face_37 : decode cX8_face 37 = .ok (.iconst 0, 1) := by decide +kernel
theorem dX8_face_38 : decode cX8_face 38 = .ok (.istore_n 3, 1) := by decide +kernel
theorem dX8_face_39 : decode cX8_face 39 = .ok (.iload_n 3, 1) := by decide +kernel
theorem dX8_face_40 : decode cX8_face 40 = .ok (.aload_n 0, 1) := by decide +kernel
theorem dX8_face_41 : decode cX8_face 41 = .ok (.getfield 16, 3) := by decide +kernel
theorem dX8_face_44 : decode cX8_face 44 = .ok (.iload_n 1, 1) := by decide +kernel
theorem dX8_face_45 : decode cX8_face 45 = .ok (.iaload, 1) := by decide +kernel
theorem dX8_face_46 : decode cX8_face 46 = .ok (.if_icmp .ge 26, 3) := by decide +kernel
theorem dX8_face_49 : decode cX8_face 49 = .ok (.aload_n 0, 1) := by decide +kernel
theorem dX8_face_50 : decode cX8_face 50 = .ok (.getfield 19, 3) := by decide +kernel
theorem dX8_face_53 : decode cX8_face 53 = .ok (.iconst 3, 1) := by decide +kernel
theorem dX8_face_54 : decode cX8_face 54 = .ok (.iload_n 1, 1) := by decide +kernel
theorem dX8_face_55 : decode cX8_face 55 = .ok (.imul, 1) := by decide +kernel
theorem dX8_face_56 : decode cX8_face 56 = .ok (.iload_n 3, 1) := by decide +kernel
theorem dX8_face_57 : decode cX8_face 57 = .ok (.iadd, 1) := by decide +kernel
theorem dX8_face_58 : decode cX8_face 58 = .ok (.iaload, 1) := by decide +kernel
theorem dX8_face_59 : decode cX8_face 59 = .ok (.iload_n 2, 1) := by decide +kernel
theorem dX8_face_60 : decode cX8_face 60 = .ok (.if_icmp .ne 6, 3) := by decide +kernel
theorem dX8_face_63 : decode cX8_face 63 = .ok (.bipush (-103), 2) := by decide +kernel
theorem dX8_face_65 : decode cX8_face 65 = .ok (.ireturn, 1) := by decide +kernel
theorem dX8_face_66 : decode cX8_face 66 = .ok (.iinc 3 1, 3) := by decide +kernel
theorem dX8_face_69 : decode cX8_face 69 = .ok (.goto (-30), 3) := by decide +kernel
theorem dX8_face_72 : decode cX8_face 72 = .ok (.aload_n 0, 1) := by decide +kernel
theorem dX8_face_73 : decode cX8_face 73 = .ok (.getfield 16, 3) := by decide +kernel
theorem dX8_face_76 : decode cX8_face 76 = .ok (.iload_n 1, 1) := by decide +kernel
theorem dX8_face_77 : decode cX8_face 77 = .ok (.iaload, 1) := by decide +kernel
theorem dX8_face_78 : decode cX8_face 78 = .ok (.iconst 3, 1) := by decide +kernel
theorem dX8_face_79 : decode cX8_face 79 = .ok (.if_icmp .ne 6, 3) := by decide +kernel
theorem dX8_face_82 : decode cX8_face 82 = .ok (.bipush (-104), 2) := by decide +kernel
theorem dX8_face_84 : decode cX8_face 84 = .ok (.ireturn, 1) := by decide +kernel
theorem dX8_face_85 : decode cX8_face 85 = .ok (.aload_n 0, 1) := by decide +kernel
theorem dX8_face_86 : decode cX8_face 86 = .ok (.getfield 19, 3) := by decide +kernel
theorem dX8_face_89 : decode cX8_face 89 = .ok (.iconst 3, 1) := by decide +kernel
theorem dX8_face_90 : decode cX8_face 90 = .ok (.iload_n 1, 1) := by decide +kernel
theorem dX8_face_91 : decode cX8_face 91 = .ok (.imul, 1) := by decide +kernel
theorem dX8_face_92 : decode cX8_face 92 = .ok (.aload_n 0, 1) := by decide +kernel
theorem dX8_face_93 : decode cX8_face 93 = .ok (.getfield 16, 3) := by decide +kernel
theorem dX8_face_96 : decode cX8_face 96 = .ok (.iload_n 1, 1) := by decide +kernel
theorem dX8_face_97 : decode cX8_face 97 = .ok (.iaload, 1) := by decide +kernel
theorem dX8_face_98 : decode cX8_face 98 = .ok (.iadd, 1) := by decide +kernel
theorem dX8_face_99 : decode cX8_face 99 = .ok (.iload_n 2, 1) := by decide +kernel
theorem dX8_face_100 : decode cX8_face 100 = .ok (.iastore, 1) := by decide +kernel
theorem dX8_face_101 : decode cX8_face 101 = .ok (.aload_n 0, 1) := by decide +kernel
theorem dX8_face_102 : decode cX8_face 102 = .ok (.getfield 16, 3) := by decide +kernel
theorem dX8_face_105 : decode cX8_face 105 = .ok (.iload_n 1, 1) := by decide +kernel
theorem dX8_face_106 : decode cX8_face 106 = .ok (.dup2, 1) := by decide +kernel
theorem dX8_face_107 : decode cX8_face 107 = .ok (.iaload, 1) := by decide +kernel
theorem dX8_face_108 : decode cX8_face 108 = .ok (.iconst 1, 1) := by decide +kernel
theorem dX8_face_109 : decode cX8_face 109 = .ok (.iadd, 1) := by decide +kernel
theorem dX8_face_110 : decode cX8_face 110 = .ok (.iastore, 1) := by decide +kernel
theorem dX8_face_111 : decode cX8_face 111 = .ok (.aload_n 0, 1) := by decide +kernel
theorem dX8_face_112 : decode cX8_face 112 = .ok (.iconst 0, 1) := by decide +kernel
theorem dX8_face_113 : decode cX8_face 113 = .ok (.putfield 119, 3) := by decide +kernel
theorem dX8_face_116 : decode cX8_face 116 = .ok (.aload_n 0, 1) := by decide +kernel
theorem dX8_face_117 : decode cX8_face 117 = .ok (.iconst 0, 1) := by decide +kernel
theorem dX8_face_118 : decode cX8_face 118 = .ok (.putfield 134, 3) := by decide +kernel
theorem dX8_face_121 : decode cX8_face 121 = .ok (.aload_n 0, 1) := by decide +kernel
theorem dX8_face_122 : decode cX8_face 122 = .ok (.getfield 16, 3) := by decide +kernel
theorem dX8_face_125 : decode cX8_face 125 = .ok (.iload_n 1, 1) := by decide +kernel
theorem dX8_face_126 : decode cX8_face 126 = .ok (.iaload, 1) := by decide +kernel
theorem dX8_face_127 : decode cX8_face 127 = .ok (.ireturn, 1) := by decide +kernel
theorem dX8_ownOf_0 : decode cX8_ownOf 0 = .ok (.iconst 0, 1) := by decide +kernel
theorem dX8_ownOf_1 : decode cX8_ownOf 1 = .ok (.istore_n 3, 1) := by decide +kernel
theorem dX8_ownOf_2 : decode cX8_ownOf 2 = .ok (.iload_n 3, 1) := by decide +kernel
theorem dX8_ownOf_3 : decode cX8_ownOf 3 = .ok (.aload_n 0, 1) := by decide +kernel
theorem dX8_ownOf_4 : decode cX8_ownOf 4 = .ok (.getfield 131, 3) := by decide +kernel
theorem dX8_ownOf_7 : decode cX8_ownOf 7 = .ok (.if_icmp .ge 31, 3) := by decide +kernel
theorem dX8_ownOf_10 : decode cX8_ownOf 10 = .ok (.aload_n 0, 1) := by decide +kernel
theorem dX8_ownOf_11 : decode cX8_ownOf 11 = .ok (.getfield 22, 3) := by decide +kernel
theorem dX8_ownOf_14 : decode cX8_ownOf 14 = .ok (.iload_n 3, 1) := by decide +kernel
theorem dX8_ownOf_15 : decode cX8_ownOf 15 = .ok (.iaload, 1) := by decide +kernel
theorem dX8_ownOf_16 : decode cX8_ownOf 16 = .ok (.iload_n 1, 1) := by decide +kernel
theorem dX8_ownOf_17 : decode cX8_ownOf 17 = .ok (.if_icmp .ne 15, 3) := by decide +kernel
theorem dX8_ownOf_20 : decode cX8_ownOf 20 = .ok (.aload_n 0, 1) := by decide +kernel
theorem dX8_ownOf_21 : decode cX8_ownOf 21 = .ok (.getfield 25, 3) := by decide +kernel
theorem dX8_ownOf_24 : decode cX8_ownOf 24 = .ok (.iload_n 3, 1) := by decide +kernel
theorem dX8_ownOf_25 : decode cX8_ownOf 25 = .ok (.iaload, 1) := by decide +kernel
theorem dX8_ownOf_26 : decode cX8_ownOf 26 = .ok (.iload_n 2, 1) := by decide +kernel
theorem dX8_ownOf_27 : decode cX8_ownOf 27 = .ok (.if_icmp .ne 5, 3) := by decide +kernel
theorem dX8_ownOf_30 : decode cX8_ownOf 30 = .ok (.iload_n 3, 1) := by decide +kernel
theorem dX8_ownOf_31 : decode cX8_ownOf 31 = .ok (.ireturn, 1) := by decide +kernel
theorem dX8_ownOf_32 : decode cX8_ownOf 32 = .ok (.iinc 3 1, 3) := by decide +kernel
theorem dX8_ownOf_35 : decode cX8_ownOf 35 = .ok (.goto (-33), 3) := by decide +kernel
theorem dX8_ownOf_38 : decode cX8_ownOf 38 = .ok (.iconst (-1), 1) := by decide +kernel
theorem dX8_ownOf_39 : decode cX8_ownOf 39 = .ok (.ireturn, 1) := by decide +kernel
set_option maxRecDepth 20000 in
theorem ggX8_member_X8_isType : GoodIn wsX8_member wsX8_isType := goodIn_r _ [13, 14, 15, 16, 12, 17, 22, 23, 24, 25, 26, 27, 28, 29, 30, 31, 32, 33, 34, 35, 36, 37, 38, 39, 40, 41, 42, 43, 44, 45, 46, 47, 48, 49, 50, 51, 52, 53, 54, 55, 56, 57, 58, 59, 60, 61, 62, 63, 64, 65, 66, 67, 68, 69, 70, 71] rfl (by decide +kernel)
set_option maxRecDepth 20000 in
theorem gX8_member_X8_isType : GoodIn wsX8_member (wsV RX8 141 RX8 yX8_isType wsX8_isType) := goodIn_app (goodIn_of _ (by decide +kernel)) ggX8_member_X8_isType
set_option maxRecDepth 20000 in
theorem ggX8_member_X8_in : GoodIn wsX8_member wsX8_in := goodIn_r _ [17] rfl (by decide +kernel)
set_option maxRecDepth 20000 in
theorem gX8_member_X8_in : GoodIn wsX8_member (va_wsS RX8 127 yX8_in wsX8_in) := goodIn_app (goodIn_of _ (by decide +kernel)) ggX8_member_X8_in
set_option maxRecDepth 20000 in
theorem ggX8_member_X8_ownOf : GoodIn wsX8_member wsX8_ownOf := goodIn_r _ [21, 2, 3, 4, 22, 23, 24, 25, 26, 27, 28, 29, 30, 31, 32, 33, 34, 35, 36, 37, 38, 39, 40, 41, 42, 43, 44, 45, 46, 47, 48, 49, 50, 51, 52, 53, 54, 55, 56, 57, 58, 59, 60, 61, 62, 63, 64, 65, 66, 67, 68, 69, 70, 71] rfl (by decide +kernel)
set_option maxRecDepth 20000 in
theorem gX8_member_X8_ownOf : GoodIn wsX8_member (wsV RX8 145 RX8 yX8_ownOf wsX8_ownOf) := goodIn_app (goodIn_of _ (by decide +kernel)) ggX8_member_X8_ownOf
theorem dX8_member_0 : decode cX8_member 0 = .ok (.aload_n 0, 1) := by decide +kernel
theorem dX8_member_1 : decode cX8_member 1 = .ok (.iload_n 1, 1) := by decide +kernel
theorem dX8_member_2 : decode cX8_member 2 = .ok (.invokevirtual 141, 3) := by decide +kernel
theorem dX8_member_5 : decode cX8_member 5 = .ok (.ifCond .ne 6, 3) := by decide +kernel
theorem dX8_member_8 : decode cX8_member 8 = .ok (.bipush (-101), 2) := by decide +kernel
theorem dX8_member_10 : decode cX8_member 10 = .ok (.ireturn, 1) := by decide +kernel
theorem dX8_member_11 : decode cX8_member 11 = .ok (.iload_n 3, 1) := by decide +kernel
theorem dX8_member_12 : decode cX8_member 12 = .ok (.iconst 0, 1) := by decide +kernel
theorem dX8_member_13 : decode cX8_member 13 = .ok (.iconst 4, 1) := by decide +kernel
theorem dX8_member_14 : decode cX8_member 14 = .ok (.invokestatic 127, 3) := by decide +kernel
theorem dX8_member_17 : decode cX8_member 17 = .ok (.ifCond .eq 32, 3) := by decide +kernel
theorem dX8_member_20 : decode cX8_member 20 = .ok (.iload_n 3, 1) := by decide +kernel
theorem dX8_member_21 : decode cX8_member 21 = .ok (.iconst 4, 1) := by decide +kernel
theorem dX8_member_22 : decode cX8_member 22 = .ok (.if_icmp .eq 13, 3) := by decide +kernel
theorem dX8_member_25 : decode cX8_member 25 = .ok (.iload_n 2, 1) := by decide +kernel
theorem dX8_member_26 : decode cX8_member 26 = .ok (.iconst 0, 1) := by decide +kernel
theorem dX8_member_27 : decode cX8_member 27 = .ok (.bipush 9, 2) := by decide +kernel
theorem dX8_member_29 : decode cX8_member 29 = .ok (.invokestatic 127, 3) := by decide +kernel
theorem dX8_member_32 : decode cX8_member 32 = .ok (.ifCond .eq 17, 3) := by decide +kernel
theorem dX8_member_35 : decode cX8_member 35 = .ok (.iload_n 3, 1) := by decide +kernel
theorem dX8_member_36 : decode cX8_member 36 = .ok (.iconst 1, 1) := by decide +kernel
theorem dX8_member_37 : decode cX8_member 37 = .ok (.if_icmp .ne 15, 3) := by decide +kernel
theorem dX8_member_40 : decode cX8_member 40 = .ok (.aload_n 0, 1) := by decide +kernel
theorem dX8_member_41 : decode cX8_member 41 = .ok (.getfield 7, 3) := by decide +kernel
theorem dX8_member_44 : decode cX8_member 44 = .ok (.iload_n 1, 1) := by decide +kernel
theorem dX8_member_45 : decode cX8_member 45 = .ok (.iaload, 1) := by decide +kernel
theorem dX8_member_46 : decode cX8_member 46 = .ok (.ifCond .ne 6, 3) := by decide +kernel
theorem dX8_member_49 : decode cX8_member 49 = .ok (.bipush (-102), 2) := by decide +kernel
theorem dX8_member_51 : decode cX8_member 51 = .ok (.ireturn, 1) := by decide +kernel
theorem dX8_member_52 : decode cX8_member 52 = .ok (.iload_n 3, 1) := by decide +kernel
theorem dX8_member_53 : decode cX8_member 53 = .ok (.iconst 4, 1) := by decide +kernel
theorem dX8_member_54 : decode cX8_member 54 = .ok (.if_icmp .ne 7, 3) := by decide +kernel
theorem dX8_member_57 : decode cX8_member 57 = .ok (.iconst (-1), 1) := by decide +kernel
theorem dX8_member_58 : decode cX8_member 58 = .ok (.goto 4, 3) := by decide +kernel
theorem dX8_member_61 : decode cX8_member 61 = .ok (.iload_n 2, 1) := by decide +kernel
theorem dX8_member_62 : decode cX8_member 62 = .ok (.istore 4, 2) := by decide +kernel
theorem dX8_member_64 : decode cX8_member 64 = .ok (.aload_n 0, 1) := by decide +kernel
theorem dX8_member_65 : decode cX8_member 65 = .ok (.iload_n 1, 1) := by decide +kernel
theorem dX8_member_66 : decode cX8_member 66 = .ok (.iload 4, 2) := by decide +kernel
theorem dX8_member_68 : decode cX8_member 68 = .ok (.invokevirtual 145, 3) := by decide +kernel
theorem dX8_member_71 : decode cX8_member 71 = .ok (.iconst (-1), 1) := by decide +kernel
theorem dX8_member_72 : decode cX8_member 72 = .ok (.if_icmp .eq 6, 3) := by decide +kernel
theorem dX8_member_75 : decode cX8_member 75 = .ok (.bipush (-103), 2) := by decide +kernel
theorem dX8_member_77 : decode cX8_member 77 = .ok (.ireturn, 1) := by decide +kernel
theorem dX8_member_78 : decode cX8_member 78 = .ok (.aload_n 0, 1) := by decide +kernel
theorem dX8_member_79 : decode cX8_member 79 = .ok (.getfield 131, 3) := by decide +kernel
theorem dX8_member_82 : decode cX8_member 82 = .ok (.bipush 48, 2) := by decide +kernel
theorem dX8_member_84 : decode cX8_member 84 = .ok (.if_icmp .ne 6, 3) := by decide +kernel
theorem dX8_member_87 : decode cX8_member 87 = .ok (.bipush (-104), 2) := by decide +kernel
theorem dX8_member_89 : decode cX8_member 89 = .ok (.ireturn, 1) := by decide +kernel
theorem dX8_member_90 : decode cX8_member 90 = .ok (.aload_n 0, 1) := by decide +kernel
theorem dX8_member_91 : decode cX8_member 91 = .ok (.getfield 22, 3) := by decide +kernel
theorem dX8_member_94 : decode cX8_member 94 = .ok (.aload_n 0, 1) := by decide +kernel
theorem dX8_member_95 : decode cX8_member 95 = .ok (.getfield 131, 3) := by decide +kernel
theorem dX8_member_98 : decode cX8_member 98 = .ok (.iload_n 1, 1) := by decide +kernel
theorem dX8_member_99 : decode cX8_member 99 = .ok (.iastore, 1) := by decide +kernel
theorem dX8_member_100 : decode cX8_member 100 = .ok (.aload_n 0, 1) := by decide +kernel
theorem dX8_member_101 : decode cX8_member 101 = .ok (.getfield 25, 3) := by decide +kernel
theorem dX8_member_104 : decode cX8_member 104 = .ok (.aload_n 0, 1) := by decide +kernel
theorem dX8_member_105 : decode cX8_member 105 = .ok (.getfield 131, 3) := by decide +kernel
theorem dX8_member_108 : decode cX8_member 108 = .ok (.iload 4, 2) := by decide +kernel
theorem dX8_member_110 : decode cX8_member 110 = .ok (.iastore, 1) := by decide +kernel
theorem dX8_member_111 : decode cX8_member 111 = .ok (.aload_n 0, 1) := by decide +kernel
theorem dX8_member_112 : decode cX8_member 112 = .ok (.getfield 28, 3) := by decide +kernel
theorem dX8_member_115 : decode cX8_member 115 = .ok (.aload_n 0, 1) := by decide +kernel
theorem dX8_member_116 : decode cX8_member 116 = .ok (.getfield 131, 3) := by decide +kernel
theorem dX8_member_119 : decode cX8_member 119 = .ok (.iload_n 3, 1) := by decide +kernel
theorem dX8_member_120 : decode cX8_member 120 = .ok (.iastore, 1) := by decide +kernel
theorem dX8_member_121 : decode cX8_member 121 = .ok (.aload_n 0, 1) := by decide +kernel
theorem dX8_member_122 : decode cX8_member 122 = .ok (.getfield 31, 3) := by decide +kernel
theorem dX8_member_125 : decode cX8_member 125 = .ok (.aload_n 0, 1) := by decide +kernel
theorem dX8_member_126 : decode cX8_member 126 = .ok (.getfield 131, 3) := by decide +kernel
theorem dX8_member_129 : decode cX8_member 129 = .ok (.iconst 0, 1) := by decide +kernel
theorem dX8_member_130 : decode cX8_member 130 = .ok (.bastore, 1) := by decide +kernel
theorem dX8_member_131 : decode cX8_member 131 = .ok (.aload_n 0, 1) := by decide +kernel
theorem dX8_member_132 : decode cX8_member 132 = .ok (.getfield 35, 3) := by decide +kernel
theorem dX8_member_135 : decode cX8_member 135 = .ok (.aload_n 0, 1) := by decide +kernel
theorem dX8_member_136 : decode cX8_member 136 = .ok (.getfield 131, 3) := by decide +kernel
theorem dX8_member_139 : decode cX8_member 139 = .ok (.iconst 0, 1) := by decide +kernel
theorem dX8_member_140 : decode cX8_member 140 = .ok (.iastore, 1) := by decide +kernel
theorem dX8_member_141 : decode cX8_member 141 = .ok (.aload_n 0, 1) := by decide +kernel
theorem dX8_member_142 : decode cX8_member 142 = .ok (.dup, 1) := by decide +kernel
theorem dX8_member_143 : decode cX8_member 143 = .ok (.getfield 131, 3) := by decide +kernel
theorem dX8_member_146 : decode cX8_member 146 = .ok (.iconst 1, 1) := by decide +kernel
theorem dX8_member_147 : decode cX8_member 147 = .ok (.iadd, 1) := by decide +kernel
theorem dX8_member_148 : decode cX8_member 148 = .ok (.putfield 131, 3) := by decide +kernel
theorem dX8_member_151 : decode cX8_member 151 = .ok (.aload_n 0, 1) := by decide +kernel
theorem dX8_member_152 : decode cX8_member 152 = .ok (.iconst 0, 1) := by decide +kernel
theorem dX8_member_153 : decode cX8_member 153 = .ok (.putfield 119, 3) := by decide +kernel
theorem dX8_member_156 : decode cX8_member 156 = .ok (.aload_n 0, 1) := by decide +kernel
theorem dX8_member_157 : decode cX8_member 157 = .ok (.getfield 131, 3) := by decide +kernel
theorem dX8_member_160 : decode cX8_member 160 = .ok (.iconst 1, 1) := by decide +kernel
theorem dX8_member_161 : decode cX8_member 161 = .ok (.isub, 1) := by decide +kernel
theorem dX8_member_162 : decode cX8_member 162 = .ok (.ireturn, 1) := by decide +kernel
theorem dX8_canBeCalled_0 : decode cX8_canBeCalled 0 = .ok (.iload_n 0, 1) := by decide +kernel
theorem dX8_canBeCalled_1 : decode cX8_canBeCalled 1 = .ok (.ifCond .eq 13, 3) := by decide +kernel
theorem dX8_canBeCalled_4 : decode cX8_canBeCalled 4 = .ok (.iload_n 0, 1) := by decide +kernel
theorem dX8_canBeCalled_5 : decode cX8_canBeCalled 5 = .ok (.iconst 2, 1) := by decide +kernel
theorem dX8_canBeCalled_6 : decode cX8_canBeCalled 6 = .ok (.if_icmp .eq 8, 3) := by decide +kernel
theorem dX8_canBeCalled_9 : decode cX8_canBeCalled 9 = .ok (.iload_n 0, 1) := by decide +kernel
theorem dX8_canBeCalled_10 : decode cX8_canBeCalled 10 = .ok (.iconst 3, 1) := by decide +kernel
theorem dX8_canBeCalled_11 : decode cX8_canBeCalled 11 = .ok (.if_icmp .ne 7, 3) := by decide +kernel
theorem dX8_canBeCalled_14 : decode cX8_canBeCalled 14 = .ok (.iconst 1, 1) := by decide +kernel
theorem dX8_canBeCalled_15 : decode cX8_canBeCalled 15 = .ok (.goto 4, 3) := by decide +kernel
theorem dX8_canBeCalled_18 : decode cX8_canBeCalled 18 = .ok (.iconst 0, 1) := by decide +kernel
theorem dX8_canBeCalled_19 : decode cX8_canBeCalled 19 = .ok (.ireturn, 1) := by decide +kernel
theorem dX8_isNext_0 : decode cX8_isNext 0 = .ok (.aload_n 0, 1) := by decide +kernel
theorem dX8_isNext_1 : decode cX8_isNext 1 = .ok (.getfield 13, 3) := by decide +kernel
theorem dX8_isNext_4 : decode cX8_isNext 4 = .ok (.iload_n 1, 1) := by decide +kernel
theorem dX8_isNext_5 : decode cX8_isNext 5 = .ok (.iaload, 1) := by decide +kernel
theorem dX8_isNext_6 : decode cX8_isNext 6 = .ok (.iload_n 2, 1) := by decide +kernel
theorem dX8_isNext_7 : decode cX8_isNext 7 = .ok (.if_icmp .ne 7, 3) := by decide +kernel
theorem dX8_isNext_10 : decode cX8_isNext 10 = .ok (.iconst 1, 1) := by decide +kernel
theorem dX8_isNext_11 : decode cX8_isNext 11 = .ok (.goto 4, 3) := by decide +kernel
theorem dX8_isNext_14 : decode cX8_isNext 14 = .ok (.iconst 0, 1) := by decide +kernel
theorem dX8_isNext_15 : decode cX8_isNext 15 = .ok (.istore_n 3, 1) := by decide +kernel
theorem dX8_isNext_16 : decode cX8_isNext 16 = .ok (.iconst 0, 1) := by decide +kernel
theorem dX8_isNext_17 : decode cX8_isNext 17 = .ok (.istore 4, 2) := by decide +kernel
theorem dX8_isNext_19 : decode cX8_isNext 19 = .ok (.iload 4, 2) := by decide +kernel
theorem dX8_isNext_21 : decode cX8_isNext 21 = .ok (.aload_n 0, 1) := by decide +kernel
theorem dX8_isNext_22 : decode cX8_isNext 22 = .ok (.getfield 16, 3) := by decide +kernel
theorem dX8_isNext_25 : decode cX8_isNext 25 = .ok (.iload_n 1, 1) := by decide +kernel
theorem dX8_isNext_26 : decode cX8_isNext 26 = .ok (.iaload, 1) := by decide +kernel
theorem dX8_isNext_27 : decode cX8_isNext 27 = .ok (.if_icmp .ge 34, 3) := by decide +kernel
theorem dX8_isNext_30 : decode cX8_isNext 30 = .ok (.iload_n 3, 1) := by decide +kernel
theorem dX8_isNext_31 : decode cX8_isNext 31 = .ok (.ifCond .ne 18, 3) := by decide +kernel
theorem dX8_isNext_34 : decode cX8_isNext 34 = .ok (.aload_n 0, 1) := by decide +kernel
theorem dX8_isNext_35 : decode cX8_isNext 35 = .ok (.getfield 19, 3) := by decide +kernel
theorem dX8_isNext_38 : decode cX8_isNext 38 = .ok (.iconst 3, 1) := by decide +kernel
theorem dX8_isNext_39 : decode cX8_isNext 39 = .ok (.iload_n 1, 1) := by decide +kernel
theorem dX8_isNext_40 : decode cX8_isNext 40 = .ok (.imul, 1) := by decide +kernel
theorem dX8_isNext_41 : decode cX8_isNext 41 = .ok (.iload 4, 2) := by decide +kernel
theorem dX8_isNext_43 : decode cX8_isNext 43 = .ok (.iadd, 1) := by decide +kernel
theorem dX8_isNext_44 : decode cX8_isNext 44 = .ok (.iaload, 1) := by decide +kernel
theorem dX8_isNext_45 : decode cX8_isNext 45 = .ok (.iload_n 2, 1) := by decide +kernel
theorem dX8_isNext_46 : decode cX8_isNext 46 = .ok (.if_icmp .ne 7, 3) := by decide +kernel
theorem dX8_isNext_49 : decode cX8_isNext 49 = .ok (.iconst 1, 1) := by decide +kernel
theorem dX8_isNext_50 : decode cX8_isNext 50 = .ok (.goto 4, 3) := by decide +kernel
theorem dX8_isNext_53 : decode cX8_isNext 53 = .ok (.iconst 0, 1) := by decide +kernel
theorem dX8_isNext_54 : decode cX8_isNext 54 = .ok (.istore_n 3, 1) := by decide +kernel
theorem dX8_isNext_55 : decode cX8_isNext 55 = .ok (.iinc 4 1, 3) := by decide +kernel
theorem dX8_isNext_58 : decode cX8_isNext 58 = .ok (.goto (-39), 3) := by decide +kernel
theorem dX8_isNext_61 : decode cX8_isNext 61 = .ok (.iload_n 3, 1) := by decide +kernel
theorem dX8_isNext_62 : decode cX8_isNext 62 = .ok (.ireturn, 1) := by decide +kernel
set_option maxRecDepth 20000 in
theorem ggX8_isRightOp_X8_in : GoodIn wsX8_isRightOp wsX8_in := goodIn_r _ [7] rfl (by decide +kernel)
set_option maxRecDepth 20000 in
theorem gX8_isRightOp_X8_in : GoodIn wsX8_isRightOp (va_wsS RX8 127 yX8_in wsX8_in) := goodIn_app (goodIn_of _ (by decide +kernel)) ggX8_isRightOp_X8_in
set_option maxRecDepth 20000 in
theorem ggX8_isRightOp_X8_isNext : GoodIn wsX8_isRightOp wsX8_isNext := goodIn_r _ [11, 12, 13, 14, 18, 19, 20, 21, 22, 23, 24, 25, 26, 27, 28, 29, 30, 31, 32, 33, 34, 35, 36, 37, 38, 39, 40, 41, 42, 43, 44, 45, 46, 47, 48, 49, 50, 51, 52, 53, 54, 55, 56, 57, 58, 59, 60, 61, 62, 63, 64, 65, 66, 67] rfl (by decide +kernel)
set_option maxRecDepth 20000 in
theorem gX8_isRightOp_X8_isNext : GoodIn wsX8_isRightOp (wsV RX8 149 RX8 yX8_isNext wsX8_isNext) := goodIn_app (goodIn_of _ (by decide +kernel)) ggX8_isRightOp_X8_isNext
set_option maxRecDepth 20000 in
theorem ggX8_isRightOp_X8_canBeCalled : GoodIn wsX8_isRightOp wsX8_canBeCalled := goodIn_r _ [17] rfl (by decide +kernel)
set_option maxRecDepth 20000 in
theorem gX8_isRightOp_X8_canBeCalled : GoodIn wsX8_isRightOp (va_wsS RX8 153 yX8_canBeCalled wsX8_canBeCalled) := goodIn_app (goodIn_of _ (by decide +kernel)) ggX8_isRightOp_X8_canBeCalled
theorem dX8_isRightOp_0 : decode cX8_isRightOp 0 = .ok (.iload_n 2, 1) := by decide +kernel
theorem dX8_isRightOp_1 : decode cX8_isRightOp 1 = .ok (.tableswitch 157 0 7 #[47, 62, 71, 102, 111, 113, 141, 148], 47) := by decide +kernel
theorem dX8_isRightOp_48 : decode cX8_isRightOp 48 = .ok (.aload_n 0, 1) := by decide +kernel
theorem dX8_isRightOp_49 : decode cX8_isRightOp 49 = .ok (.getfield 7, 3) := by decide +kernel
theorem dX8_isRightOp_52 : decode cX8_isRightOp 52 = .ok (.iload_n 3, 1) := by decide +kernel
theorem dX8_isRightOp_53 : decode cX8_isRightOp 53 = .ok (.iaload, 1) := by decide +kernel
theorem dX8_isRightOp_54 : decode cX8_isRightOp 54 = .ok (.ifCond .ne 7, 3) := by decide +kernel
theorem dX8_isRightOp_57 : decode cX8_isRightOp 57 = .ok (.iconst 1, 1) := by decide +kernel
theorem dX8_isRightOp_58 : decode cX8_isRightOp 58 = .ok (.goto 4, 3) := by decide +kernel
theorem dX8_isRightOp_61 : decode cX8_isRightOp 61 = .ok (.iconst 0, 1) := by decide +kernel
theorem dX8_isRightOp_62 : decode cX8_isRightOp 62 = .ok (.ireturn, 1) := by decide +kernel
theorem dX8_isRightOp_63 : decode cX8_isRightOp 63 = .ok (.iload 4, 2) := by decide +kernel
theorem dX8_isRightOp_65 : decode cX8_isRightOp 65 = .ok (.iconst 0, 1) := by decide +kernel
theorem dX8_isRightOp_66 : decode cX8_isRightOp 66 = .ok (.bipush 9, 2) := by decide +kernel
theorem dX8_isRightOp_68 : decode cX8_isRightOp 68 = .ok (.invokestatic 127, 3) := by decide +kernel
theorem dX8_isRightOp_71 : decode cX8_isRightOp 71 = .ok (.ireturn, 1) := by decide +kernel
theorem dX8_isRightOp_72 : decode cX8_isRightOp 72 = .ok (.aload_n 0, 1) := by decide +kernel
theorem dX8_isRightOp_73 : decode cX8_isRightOp 73 = .ok (.aload_n 0, 1) := by decide +kernel
theorem dX8_isRightOp_74 : decode cX8_isRightOp 74 = .ok (.getfield 22, 3) := by decide +kernel
theorem dX8_isRightOp_77 : decode cX8_isRightOp 77 = .ok (.iload_n 1, 1) := by decide +kernel
theorem dX8_isRightOp_78 : decode cX8_isRightOp 78 = .ok (.iaload, 1) := by decide +kernel
theorem dX8_isRightOp_79 : decode cX8_isRightOp 79 = .ok (.iload_n 3, 1) := by decide +kernel
theorem dX8_isRightOp_80 : decode cX8_isRightOp 80 = .ok (.invokevirtual 149, 3) := by decide +kernel
theorem dX8_isRightOp_83 : decode cX8_isRightOp 83 = .ok (.ifCond .eq 18, 3) := by decide +kernel
theorem dX8_isRightOp_86 : decode cX8_isRightOp 86 = .ok (.iload 4, 2) := by decide +kernel
theorem dX8_isRightOp_88 : decode cX8_isRightOp 88 = .ok (.iconst 0, 1) := by decide +kernel
theorem dX8_isRightOp_89 : decode cX8_isRightOp 89 = .ok (.bipush 9, 2) := by decide +kernel
theorem dX8_isRightOp_91 : decode cX8_isRightOp 91 = .ok (.invokestatic 127, 3) := by decide +kernel
theorem dX8_isRightOp_94 : decode cX8_isRightOp 94 = .ok (.ifCond .eq 7, 3) := by decide +kernel
theorem dX8_isRightOp_97 : decode cX8_isRightOp 97 = .ok (.iconst 1, 1) := by decide +kernel
theorem dX8_isRightOp_98 : decode cX8_isRightOp 98 = .ok (.goto 4, 3) := by decide +kernel
theorem dX8_isRightOp_101 : decode cX8_isRightOp 101 = .ok (.iconst 0, 1) := by decide +kernel
theorem dX8_isRightOp_102 : decode cX8_isRightOp 102 = .ok (.ireturn, 1) := by decide +kernel
theorem dX8_isRightOp_103 : decode cX8_isRightOp 103 = .ok (.iload 4, 2) := by decide +kernel
theorem dX8_isRightOp_105 : decode cX8_isRightOp 105 = .ok (.iconst 0, 1) := by decide +kernel
theorem dX8_isRightOp_106 : decode cX8_isRightOp 106 = .ok (.bipush 9, 2) := by decide +kernel
theorem dX8_isRightOp_108 : decode cX8_isRightOp 108 = .ok (.invokestatic 127, 3) := by decide +kernel
theorem dX8_isRightOp_111 : decode cX8_isRightOp 111 = .ok (.ireturn, 1) := by decide +kernel
theorem dX8_isRightOp_112 : decode cX8_isRightOp 112 = .ok (.iconst 1, 1) := by decide +kernel
theorem dX8_isRightOp_113 : decode cX8_isRightOp 113 = .ok (.ireturn, 1) := by decide +kernel
theorem dX8_isRightOp_114 : decode cX8_isRightOp 114 = .ok (.iload_n 3, 1) := by decide +kernel
theorem dX8_isRightOp_115 : decode cX8_isRightOp 115 = .ok (.iconst 0, 1) := by decide +kernel
theorem dX8_isRightOp_116 : decode cX8_isRightOp 116 = .ok (.iconst 3, 1) := by decide +kernel
theorem dX8_isRightOp_117 : decode cX8_isRightOp 117 = .ok (.invokestatic 127, 3) := by decide +kernel
theorem dX8_isRightOp_120 : decode cX8_isRightOp 120 = .ok (.ifCond .eq 20, 3) := by decide +kernel
theorem dX8_isRightOp_123 : decode cX8_isRightOp 123 = .ok (.aload_n 0, 1) := by decide +kernel
theorem dX8_isRightOp_124 : decode cX8_isRightOp 124 = .ok (.getfield 28, 3) := by decide +kernel
theorem dX8_isRightOp_127 : decode cX8_isRightOp 127 = .ok (.iload 4, 2) := by decide +kernel
theorem dX8_isRightOp_129 : decode cX8_isRightOp 129 = .ok (.iaload, 1) := by decide +kernel
theorem dX8_isRightOp_130 : decode cX8_isRightOp 130 = .ok (.invokestatic 153, 3) := by decide +kernel
theorem dX8_isRightOp_133 : decode cX8_isRightOp 133 = .ok (.ifCond .eq 7, 3) := by decide +kernel
theorem dX8_isRightOp_136 : decode cX8_isRightOp 136 = .ok (.iconst 1, 1) := by decide +kernel
theorem dX8_isRightOp_137 : decode cX8_isRightOp 137 = .ok (.goto 4, 3) := by decide +kernel
theorem dX8_isRightOp_140 : decode cX8_isRightOp 140 = .ok (.iconst 0, 1) := by decide +kernel
theorem dX8_isRightOp_141 : decode cX8_isRightOp 141 = .ok (.ireturn, 1) := by decide +kernel
theorem dX8_isRightOp_142 : decode cX8_isRightOp 142 = .ok (.iload_n 3, 1) := by decide +kernel
theorem dX8_isRightOp_143 : decode cX8_isRightOp 143 = .ok (.iconst 0, 1) := by decide +kernel
theorem dX8_isRightOp_144 : decode cX8_isRightOp 144 = .ok (.iconst 3, 1) := by decide +kernel
theorem dX8_isRightOp_145 : decode cX8_isRightOp 145 = .ok (.invokestatic 127, 3) := by decide +kernel
theorem dX8_isRightOp_148 : decode cX8_isRightOp 148 = .ok (.ireturn, 1) := by decide +kernel
theorem dX8_isRightOp_149 : decode cX8_isRightOp 149 = .ok (.iload 4, 2) := by decide +kernel
theorem dX8_isRightOp_151 : decode cX8_isRightOp 151 = .ok (.iconst 0, 1) := by decide +kernel
theorem dX8_isRightOp_152 : decode cX8_isRightOp 152 = .ok (.bipush 9, 2) := by decide +kernel
theorem dX8_isRightOp_154 : decode cX8_isRightOp 154 = .ok (.invokestatic 127, 3) := by decide +kernel
theorem dX8_isRightOp_157 : decode cX8_isRightOp 157 = .ok (.ireturn, 1) := by decide +kernel
theorem dX8_isRightOp_158 : decode cX8_isRightOp 158 = .ok (.iconst 0, 1) := by decide +kernel
theorem dX8_isRightOp_159 : decode cX8_isRightOp 159 = .ok (.ireturn, 1) := by decide +kernel
set_option maxRecDepth 20000 in
theorem ggX8_op_X8_isMember : GoodIn wsX8_op wsX8_isMember := goodIn_r _ [13, 14, 15, 16, 12, 17, 39, 40, 41, 42, 43, 44, 45, 46, 47, 48, 49, 50, 51, 52, 53, 54, 55, 56, 57, 58, 59, 60, 61, 62, 63, 64, 65, 66, 67, 68, 69, 70, 71, 72, 73, 74, 75, 76, 77, 78, 79, 80, 81, 82, 83, 84, 85, 86, 87, 88] rfl (by decide +kernel)
set_option maxRecDepth 20000 in
theorem gX8_op_X8_isMember : GoodIn wsX8_op (wsV RX8 156 RX8 yX8_isMember wsX8_isMember) := goodIn_app (goodIn_of _ (by decide +kernel)) ggX8_op_X8_isMember
set_option maxRecDepth 20000 in
theorem ggX8_op_X8_in : GoodIn wsX8_op wsX8_in := goodIn_r _ [17] rfl (by decide +kernel)
set_option maxRecDepth 20000 in
theorem gX8_op_X8_in : GoodIn wsX8_op (va_wsS RX8 127 yX8_in wsX8_in) := goodIn_app (goodIn_of _ (by decide +kernel)) ggX8_op_X8_in
set_option maxRecDepth 20000 in
theorem ggX8_op_X8_isType : GoodIn wsX8_op wsX8_isType := goodIn_r _ [21, 22, 15, 16, 12, 17, 39, 40, 41, 42, 43, 44, 45, 46, 47, 48, 49, 50, 51, 52, 53, 54, 55, 56, 57, 58, 59, 60, 61, 62, 63, 64, 65, 66, 67, 68, 69, 70, 71, 72, 73, 74, 75, 76, 77, 78, 79, 80, 81, 82, 83, 84, 85, 86, 87, 88] rfl (by decide +kernel)
set_option maxRecDepth 20000 in
theorem gX8_op_X8_isType : GoodIn wsX8_op (wsV RX8 141 RX8 yX8_isType wsX8_isType) := goodIn_app (goodIn_of _ (by decide +kernel)) ggX8_op_X8_isType
set_option maxRecDepth 20000 in
theorem ggX8_op_X8_isRightOp : GoodIn wsX8_op wsX8_isRightOp := goodIn_r _ [26, 27, 28, 1, 15, 16, 12, 17, 29, 30, 31, 32, 33, 34, 35, 36, 37, 38, 39, 40, 41, 42, 43, 44, 45, 46, 47, 48, 49, 50, 51, 52, 53, 54, 55, 56, 57, 58, 59, 60, 61, 62, 63, 64, 65, 66, 67, 68, 69, 70, 71, 72, 73, 74, 75, 76, 77, 78, 79, 80, 81, 82, 83, 84, 85, 86, 87, 88] rfl (by decide +kernel)
set_option maxRecDepth 20000 in
theorem gX8_op_X8_isRightOp : GoodIn wsX8_op (wsV RX8 159 RX8 yX8_isRightOp wsX8_isRightOp) := goodIn_app (goodIn_of _ (by decide +kernel)) ggX8_op_X8_isRightOp
theorem dX8_op_0 : decode cX8_op 0 = .ok (.aload_n 0, 1) := by decide +kernel
theorem dX8_op_1 : decode cX8_op 1 = .ok (.iload_n 1, 1) := by decide +kernel
theorem dX8_op_2 : decode cX8_op 2 = .ok (.invokevirtual 156, 3) := by decide +kernel
theorem dX8_op_5 : decode cX8_op 5 = .ok (.ifCond .eq 34, 3) := by decide +kernel
theorem dX8_op_8 : decode cX8_op 8 = .ok (.iload_n 2, 1) := by decide +kernel
theorem dX8_op_9 : decode cX8_op 9 = .ok (.iconst 0, 1) := by decide +kernel
theorem dX8_op_10 : decode cX8_op 10 = .ok (.iconst 4, 1) := by decide +kernel
theorem dX8_op_11 : decode cX8_op 11 = .ok (.invokestatic 127, 3) := by decide +kernel
theorem dX8_op_14 : decode cX8_op 14 = .ok (.ifCond .eq 11, 3) := by decide +kernel
theorem dX8_op_17 : decode cX8_op 17 = .ok (.aload_n 0, 1) := by decide +kernel
theorem dX8_op_18 : decode cX8_op 18 = .ok (.iload_n 3, 1) := by decide +kernel
theorem dX8_op_19 : decode cX8_op 19 = .ok (.invokevirtual 141, 3) := by decide +kernel
theorem dX8_op_22 : decode cX8_op 22 = .ok (.ifCond .eq 17, 3) := by decide +kernel
theorem dX8_op_25 : decode cX8_op 25 = .ok (.iload_n 2, 1) := by decide +kernel
theorem dX8_op_26 : decode cX8_op 26 = .ok (.iconst 5, 1) := by decide +kernel
theorem dX8_op_27 : decode cX8_op 27 = .ok (.if_icmp .ne 15, 3) := by decide +kernel
theorem dX8_op_30 : decode cX8_op 30 = .ok (.aload_n 0, 1) := by decide +kernel
theorem dX8_op_31 : decode cX8_op 31 = .ok (.iload 4, 2) := by decide +kernel
theorem dX8_op_33 : decode cX8_op 33 = .ok (.invokevirtual 156, 3) := by decide +kernel
theorem dX8_op_36 : decode cX8_op 36 = .ok (.ifCond .ne 6, 3) := by decide +kernel
theorem dX8_op_39 : decode cX8_op 39 = .ok (.bipush (-101), 2) := by decide +kernel
theorem dX8_op_41 : decode cX8_op 41 = .ok (.ireturn, 1) := by decide +kernel
theorem dX8_op_42 : decode cX8_op 42 = .ok (.aload_n 0, 1) := by decide +kernel
theorem dX8_op_43 : decode cX8_op 43 = .ok (.iload_n 1, 1) := by decide +kernel
theorem dX8_op_44 : decode cX8_op 44 = .ok (.iload_n 2, 1) := by decide +kernel
theorem dX8_op_45 : decode cX8_op 45 = .ok (.iload_n 3, 1) := by decide +kernel
theorem dX8_op_46 : decode cX8_op 46 = .ok (.iload 4, 2) := by decide +kernel
theorem dX8_op_48 : decode cX8_op 48 = .ok (.invokevirtual 159, 3) := by decide +kernel
theorem dX8_op_51 : decode cX8_op 51 = .ok (.ifCond .ne 6, 3) := by decide +kernel
theorem dX8_op_54 : decode cX8_op 54 = .ok (.bipush (-102), 2) := by decide +kernel
theorem dX8_op_56 : decode cX8_op 56 = .ok (.ireturn, 1) := by decide +kernel
theorem dX8_op_57 : decode cX8_op 57 = .ok (.aload_n 0, 1) := by decide +kernel
theorem dX8_op_58 : decode cX8_op 58 = .ok (.getfield 28, 3) := by decide +kernel
theorem dX8_op_61 : decode cX8_op 61 = .ok (.iload_n 1, 1) := by decide +kernel
theorem dX8_op_62 : decode cX8_op 62 = .ok (.iaload, 1) := by decide +kernel
theorem dX8_op_63 : decode cX8_op 63 = .ok (.iconst 1, 1) := by decide +kernel
theorem dX8_op_64 : decode cX8_op 64 = .ok (.if_icmp .ne 6, 3) := by decide +kernel
theorem dX8_op_67 : decode cX8_op 67 = .ok (.bipush (-103), 2) := by decide +kernel
theorem dX8_op_69 : decode cX8_op 69 = .ok (.ireturn, 1) := by decide +kernel
theorem dX8_op_70 : decode cX8_op 70 = .ok (.aload_n 0, 1) := by decide +kernel
theorem dX8_op_71 : decode cX8_op 71 = .ok (.getfield 163, 3) := by decide +kernel
theorem dX8_op_74 : decode cX8_op 74 = .ok (.sipush 160, 3) := by decide +kernel
theorem dX8_op_77 : decode cX8_op 77 = .ok (.if_icmp .eq 14, 3) := by decide +kernel
theorem dX8_op_80 : decode cX8_op 80 = .ok (.aload_n 0, 1) := by decide +kernel
theorem dX8_op_81 : decode cX8_op 81 = .ok (.getfield 35, 3) := by decide +kernel
theorem dX8_op_84 : decode cX8_op 84 = .ok (.iload_n 1, 1) := by decide +kernel
theorem dX8_op_85 : decode cX8_op 85 = .ok (.iaload, 1) := by decide +kernel
theorem dX8_op_86 : decode cX8_op 86 = .ok (.bipush 24, 2) := by decide +kernel
theorem dX8_op_88 : decode cX8_op 88 = .ok (.if_icmp .ne 6, 3) := by decide +kernel
theorem dX8_op_91 : decode cX8_op 91 = .ok (.bipush (-104), 2) := by decide +kernel
theorem dX8_op_93 : decode cX8_op 93 = .ok (.ireturn, 1) := by decide +kernel
theorem dX8_op_94 : decode cX8_op 94 = .ok (.aload_n 0, 1) := by decide +kernel
theorem dX8_op_95 : decode cX8_op 95 = .ok (.getfield 41, 3) := by decide +kernel
theorem dX8_op_98 : decode cX8_op 98 = .ok (.aload_n 0, 1) := by decide +kernel
theorem dX8_op_99 : decode cX8_op 99 = .ok (.getfield 163, 3) := by decide +kernel
theorem dX8_op_102 : decode cX8_op 102 = .ok (.iload_n 2, 1) := by decide +kernel
theorem dX8_op_103 : decode cX8_op 103 = .ok (.iastore, 1) := by decide +kernel
theorem dX8_op_104 : decode cX8_op 104 = .ok (.aload_n 0, 1) := by decide +kernel
theorem dX8_op_105 : decode cX8_op 105 = .ok (.getfield 44, 3) := by decide +kernel
theorem dX8_op_108 : decode cX8_op 108 = .ok (.aload_n 0, 1) := by decide +kernel
theorem dX8_op_109 : decode cX8_op 109 = .ok (.getfield 163, 3) := by decide +kernel
theorem dX8_op_112 : decode cX8_op 112 = .ok (.iload_n 3, 1) := by decide +kernel
theorem dX8_op_113 : decode cX8_op 113 = .ok (.iastore, 1) := by decide +kernel
theorem dX8_op_114 : decode cX8_op 114 = .ok (.aload_n 0, 1) := by decide +kernel
theorem dX8_op_115 : decode cX8_op 115 = .ok (.getfield 47, 3) := by decide +kernel
theorem dX8_op_118 : decode cX8_op 118 = .ok (.aload_n 0, 1) := by decide +kernel
theorem dX8_op_119 : decode cX8_op 119 = .ok (.getfield 163, 3) := by decide +kernel
theorem dX8_op_122 : decode cX8_op 122 = .ok (.iload_n 2, 1) := by decide +kernel
theorem dX8_op_123 : decode cX8_op 123 = .ok (.iconst 4, 1) := by decide +kernel
theorem dX8_op_124 : decode cX8_op 124 = .ok (.if_icmp .ne 8, 3) := by decide +kernel
theorem dX8_op_127 : decode cX8_op 127 = .ok (.bipush 9, 2) := by decide +kernel
theorem dX8_op_129 : decode cX8_op 129 = .ok (.goto 5, 3) := by decide +kernel
theorem dX8_op_132 : decode cX8_op 132 = .ok (.iload 4, 2) := by decide +kernel
theorem dX8_op_134 : decode cX8_op 134 = .ok (.iastore, 1) := by decide +kernel
theorem dX8_op_135 : decode cX8_op 135 = .ok (.aload_n 0, 1) := by decide +kernel
theorem dX8_op_136 : decode cX8_op 136 = .ok (.getfield 38, 3) := by decide +kernel
theorem dX8_op_139 : decode cX8_op 139 = .ok (.bipush 24, 2) := by decide +kernel
theorem dX8_op_141 : decode cX8_op 141 = .ok (.iload_n 1, 1) := by decide +kernel
theorem dX8_op_142 : decode cX8_op 142 = .ok (.imul, 1) := by decide +kernel
theorem dX8_op_143 : decode cX8_op 143 = .ok (.aload_n 0, 1) := by decide +kernel
theorem dX8_op_144 : decode cX8_op 144 = .ok (.getfield 35, 3) := by decide +kernel
theorem dX8_op_147 : decode cX8_op 147 = .ok (.iload_n 1, 1) := by decide +kernel
theorem dX8_op_148 : decode cX8_op 148 = .ok (.iaload, 1) := by decide +kernel
theorem dX8_op_149 : decode cX8_op 149 = .ok (.iadd, 1) := by decide +kernel
theorem dX8_op_150 : decode cX8_op 150 = .ok (.aload_n 0, 1) := by decide +kernel
theorem dX8_op_151 : decode cX8_op 151 = .ok (.getfield 163, 3) := by decide +kernel
theorem dX8_op_154 : decode cX8_op 154 = .ok (.iastore, 1) := by decide +kernel
theorem dX8_op_155 : decode cX8_op 155 = .ok (.aload_n 0, 1) := by decide +kernel
theorem dX8_op_156 : decode cX8_op 156 = .ok (.dup, 1) := by decide +kernel
theorem dX8_op_157 : decode cX8_op 157 = .ok (.getfield 163, 3) := by decide +kernel
theorem dX8_op_160 : decode cX8_op 160 = .ok (.iconst 1, 1) := by decide +kernel
theorem dX8_op_161 : decode cX8_op 161 = .ok (.iadd, 1) := by decide +kernel
theorem dX8_op_162 : decode cX8_op 162 = .ok (.putfield 163, 3) := by decide +kernel
theorem dX8_op_165 : decode cX8_op 165 = .ok (.aload_n 0, 1) := by decide +kernel
theorem dX8_op_166 : decode cX8_op 166 = .ok (.getfield 35, 3) := by decide +kernel
theorem dX8_op_169 : decode cX8_op 169 = .ok (.iload_n 1, 1) := by decide +kernel
theorem dX8_op_170 : decode cX8_op 170 = .ok (.dup2, 1) := by decide +kernel
theorem dX8_op_171 : decode cX8_op 171 = .ok (.iaload, 1) := by decide +kernel
theorem dX8_op_172 : decode cX8_op 172 = .ok (.iconst 1, 1) := by decide +kernel
theorem dX8_op_173 : decode cX8_op 173 = .ok (.iadd, 1) := by decide +kernel
theorem dX8_op_174 : decode cX8_op 174 = .ok (.iastore, 1) := by decide +kernel
theorem dX8_op_175 : decode cX8_op 175 = .ok (.aload_n 0, 1) := by decide +kernel
theorem dX8_op_176 : decode cX8_op 176 = .ok (.iconst 0, 1) := by decide +kernel
theorem dX8_op_177 : decode cX8_op 177 = .ok (.putfield 119, 3) := by decide +kernel
theorem dX8_op_180 : decode cX8_op 180 = .ok (.aload_n 0, 1) := by decide +kernel
theorem dX8_op_181 : decode cX8_op 181 = .ok (.getfield 35, 3) := by decide +kernel
theorem dX8_op_184 : decode cX8_op 184 = .ok (.iload_n 1, 1) := by decide +kernel
theorem dX8_op_185 : decode cX8_op 185 = .ok (.iaload, 1) := by decide +kernel
theorem dX8_op_186 : decode cX8_op 186 = .ok (.iconst 1, 1) := by decide +kernel
theorem dX8_op_187 : decode cX8_op 187 = .ok (.isub, 1) := by decide +kernel
theorem dX8_op_188 : decode cX8_op 188 = .ok (.ireturn, 1) := by decide +kernel
set_option maxRecDepth 20000 in
theorem ggX8_root_X8_isMember : GoodIn wsX8_root wsX8_isMember := goodIn_r _ [8, 9, 10, 11, 7, 12, 13, 14, 15, 16, 17, 18, 19, 20, 21, 22, 23, 24, 25, 26, 27, 28, 29, 30, 31, 32, 33, 34, 35, 36, 37, 38, 39, 40, 41, 42, 43, 44, 45, 46, 47, 48, 49, 50, 51, 52, 53, 54, 55, 56, 57, 58, 59, 60, 61, 62] rfl (by decide +kernel)
set_option maxRecDepth 20000 in
theorem gX8_root_X8_isMember : GoodIn wsX8_root (wsV RX8 156 RX8 yX8_isMember wsX8_isMember) := goodIn_app (goodIn_of _ (by decide +kernel)) ggX8_root_X8_isMember
theorem dX8_root_0 : decode cX8_root 0 = .ok (.aload_n 0, 1) := by decide +kernel
theorem dX8_root_1 : decode cX8_root 1 = .ok (.iload_n 1, 1) := by decide +kernel
theorem dX8_root_2 : decode cX8_root 2 = .ok (.invokevirtual 156, 3) := by decide +kernel
theorem dX8_root_5 : decode cX8_root 5 = .ok (.ifCond .ne 6, 3) := by decide +kernel
theorem dX8_root_8 : decode cX8_root 8 = .ok (.bipush (-101), 2) := by decide +kernel
theorem dX8_root_10 : decode cX8_root 10 = .ok (.ireturn, 1) := by decide +kernel
theorem dX8_root_11 : decode cX8_root 11 = .ok (.aload_n 0, 1) := by decide +kernel
theorem dX8_root_12 : decode cX8_root 12 = .ok (.getfield 28, 3) := by decide +kernel
theorem dX8_root_15 : decode cX8_root 15 = .ok (.iload_n 1, 1) := by decide +kernel
theorem dX8_root_16 : decode cX8_root 16 = .ok (.iaload, 1) := by decide +kernel
theorem dX8_root_17 : decode cX8_root 17 = .ok (.iconst 1, 1) := by decide +kernel
theorem dX8_root_18 : decode cX8_root 18 = .ok (.if_icmp .eq 13, 3) := by decide +kernel
theorem dX8_root_21 : decode cX8_root 21 = .ok (.aload_n 0, 1) := by decide +kernel
theorem dX8_root_22 : decode cX8_root 22 = .ok (.getfield 28, 3) := by decide +kernel
theorem dX8_root_25 : decode cX8_root 25 = .ok (.iload_n 1, 1) := by decide +kernel
theorem dX8_root_26 : decode cX8_root 26 = .ok (.iaload, 1) := by decide +kernel
theorem dX8_root_27 : decode cX8_root 27 = .ok (.iconst 4, 1) := by decide +kernel
theorem dX8_root_28 : decode cX8_root 28 = .ok (.if_icmp .ne 6, 3) := by decide +kernel
theorem dX8_root_31 : decode cX8_root 31 = .ok (.bipush (-102), 2) := by decide +kernel
theorem dX8_root_33 : decode cX8_root 33 = .ok (.ireturn, 1) := by decide +kernel
theorem dX8_root_34 : decode cX8_root 34 = .ok (.aload_n 0, 1) := by decide +kernel
theorem dX8_root_35 : decode cX8_root 35 = .ok (.getfield 31, 3) := by decide +kernel
theorem dX8_root_38 : decode cX8_root 38 = .ok (.iload_n 1, 1) := by decide +kernel
theorem dX8_root_39 : decode cX8_root 39 = .ok (.baload, 1) := by decide +kernel
theorem dX8_root_40 : decode cX8_root 40 = .ok (.istore_n 3, 1) := by decide +kernel
theorem dX8_root_41 : decode cX8_root 41 = .ok (.aload_n 0, 1) := by decide +kernel
theorem dX8_root_42 : decode cX8_root 42 = .ok (.getfield 31, 3) := by decide +kernel
theorem dX8_root_45 : decode cX8_root 45 = .ok (.iload_n 1, 1) := by decide +kernel
theorem dX8_root_46 : decode cX8_root 46 = .ok (.iload_n 2, 1) := by decide +kernel
theorem dX8_root_47 : decode cX8_root 47 = .ok (.bastore, 1) := by decide +kernel
theorem dX8_root_48 : decode cX8_root 48 = .ok (.aload_n 0, 1) := by decide +kernel
theorem dX8_root_49 : decode cX8_root 49 = .ok (.iconst 0, 1) := by decide +kernel
theorem dX8_root_50 : decode cX8_root 50 = .ok (.putfield 119, 3) := by decide +kernel
theorem dX8_root_53 : decode cX8_root 53 = .ok (.iload_n 3, 1) := by decide +kernel
theorem dX8_root_54 : decode cX8_root 54 = .ok (.iload_n 2, 1) := by decide +kernel
theorem dX8_root_55 : decode cX8_root 55 = .ok (.if_icmp .eq 7, 3) := by decide +kernel
theorem dX8_root_58 : decode cX8_root 58 = .ok (.iconst 1, 1) := by decide +kernel
theorem dX8_root_59 : decode cX8_root 59 = .ok (.goto 4, 3) := by decide +kernel
theorem dX8_root_62 : decode cX8_root 62 = .ok (.iconst 0, 1) := by decide +kernel
theorem dX8_root_63 : decode cX8_root 63 = .ok (.ireturn, 1) := by decide +kernel
set_option maxRecDepth 20000 in
theorem ggX8_findLeft_X8_isUnder : GoodIn wsX8_findLeft wsX8_isUnder := goodIn_r _ [13, 14, 2, 15, 16, 17, 18, 19, 12, 20, 21, 22, 23, 24, 25, 26, 27, 28, 29, 30, 31, 32, 33, 34, 35, 36, 37, 38, 39, 40, 41, 42, 43, 44, 45, 46, 47, 48, 49, 50, 51, 52, 53, 54, 55, 56, 57, 58, 59, 60, 61, 62, 63, 64, 65, 66, 67, 68, 69, 70, 71, 72, 73] rfl (by decide +kernel)
set_option maxRecDepth 20000 in
theorem gX8_findLeft_X8_isUnder : GoodIn wsX8_findLeft (wsV RX8 166 RX8 yX8_isUnder wsX8_isUnder) := goodIn_app (goodIn_of _ (by decide +kernel)) ggX8_findLeft_X8_isUnder
theorem dX8_findLeft_0 : decode cX8_findLeft 0 = .ok (.iconst 0, 1) := by decide +kernel
theorem dX8_findLeft_1 : decode cX8_findLeft 1 = .ok (.istore_n 3, 1) := by decide +kernel
theorem dX8_findLeft_2 : decode cX8_findLeft 2 = .ok (.iload_n 3, 1) := by decide +kernel
theorem dX8_findLeft_3 : decode cX8_findLeft 3 = .ok (.bipush 16, 2) := by decide +kernel
theorem dX8_findLeft_5 : decode cX8_findLeft 5 = .ok (.if_icmp .ge 52, 3) := by decide +kernel
theorem dX8_findLeft_8 : decode cX8_findLeft 8 = .ok (.aload_n 0, 1) := by decide +kernel
theorem dX8_findLeft_9 : decode cX8_findLeft 9 = .ok (.getfield 77, 3) := by decide +kernel
theorem dX8_findLeft_12 : decode cX8_findLeft 12 = .ok (.iload_n 3, 1) := by decide +kernel
theorem dX8_findLeft_13 : decode cX8_findLeft 13 = .ok (.iload_n 3, 1) := by decide +kernel
theorem dX8_findLeft_14 : decode cX8_findLeft 14 = .ok (.aload_n 0, 1) := by decide +kernel
theorem dX8_findLeft_15 : decode cX8_findLeft 15 = .ok (.getfield 123, 3) := by decide +kernel
theorem dX8_findLeft_18 : decode cX8_findLeft 18 = .ok (.if_icmp .ge 31, 3) := by decide +kernel
theorem dX8_findLeft_21 : decode cX8_findLeft 21 = .ok (.iload_n 3, 1) := by decide +kernel
theorem dX8_findLeft_22 : decode cX8_findLeft 22 = .ok (.iload_n 1, 1) := by decide +kernel
theorem dX8_findLeft_23 : decode cX8_findLeft 23 = .ok (.if_icmp .eq 26, 3) := by decide +kernel
theorem dX8_findLeft_26 : decode cX8_findLeft 26 = .ok (.aload_n 0, 1) := by decide +kernel
theorem dX8_findLeft_27 : decode cX8_findLeft 27 = .ok (.getfield 7, 3) := by decide +kernel
theorem dX8_findLeft_30 : decode cX8_findLeft 30 = .ok (.iload_n 3, 1) := by decide +kernel
theorem dX8_findLeft_31 : decode cX8_findLeft 31 = .ok (.iaload, 1) := by decide +kernel
theorem dX8_findLeft_32 : decode cX8_findLeft 32 = .ok (.iconst 2, 1) := by decide +kernel
theorem dX8_findLeft_33 : decode cX8_findLeft 33 = .ok (.if_icmp .ne 16, 3) := by decide +kernel
theorem dX8_findLeft_36 : decode cX8_findLeft 36 = .ok (.aload_n 0, 1) := by decide +kernel
theorem dX8_findLeft_37 : decode cX8_findLeft 37 = .ok (.iload_n 1, 1) := by decide +kernel
theorem dX8_findLeft_38 : decode cX8_findLeft 38 = .ok (.iload_n 3, 1) := by decide +kernel
theorem dX8_findLeft_39 : decode cX8_findLeft 39 = .ok (.invokevirtual 166, 3) := by decide +kernel
theorem dX8_findLeft_42 : decode cX8_findLeft 42 = .ok (.ifCond .eq 7, 3) := by decide +kernel
theorem dX8_findLeft_45 : decode cX8_findLeft 45 = .ok (.iconst 1, 1) := by decide +kernel
theorem dX8_findLeft_46 : decode cX8_findLeft 46 = .ok (.goto 4, 3) := by decide +kernel
theorem dX8_findLeft_49 : decode cX8_findLeft 49 = .ok (.iconst 0, 1) := by decide +kernel
theorem dX8_findLeft_50 : decode cX8_findLeft 50 = .ok (.bastore, 1) := by decide +kernel
theorem dX8_findLeft_51 : decode cX8_findLeft 51 = .ok (.iinc 3 1, 3) := by decide +kernel
theorem dX8_findLeft_54 : decode cX8_findLeft 54 = .ok (.goto (-52), 3) := by decide +kernel
theorem dX8_findLeft_57 : decode cX8_findLeft 57 = .ok (.iconst 0, 1) := by decide +kernel
theorem dX8_findLeft_58 : decode cX8_findLeft 58 = .ok (.istore_n 3, 1) := by decide +kernel
theorem dX8_findLeft_59 : decode cX8_findLeft 59 = .ok (.iload_n 3, 1) := by decide +kernel
theorem dX8_findLeft_60 : decode cX8_findLeft 60 = .ok (.bipush 48, 2) := by decide +kernel
theorem dX8_findLeft_62 : decode cX8_findLeft 62 = .ok (.if_icmp .ge 83, 3) := by decide +kernel
theorem dX8_findLeft_65 : decode cX8_findLeft 65 = .ok (.iload_n 3, 1) := by decide +kernel
theorem dX8_findLeft_66 : decode cX8_findLeft 66 = .ok (.aload_n 0, 1) := by decide +kernel
theorem dX8_findLeft_67 : decode cX8_findLeft 67 = .ok (.getfield 131, 3) := by decide +kernel
theorem dX8_findLeft_70 : decode cX8_findLeft 70 = .ok (.if_icmp .ge 31, 3) := by decide +kernel
theorem dX8_findLeft_73 : decode cX8_findLeft 73 = .ok (.aload_n 0, 1) := by decide +kernel
theorem dX8_findLeft_74 : decode cX8_findLeft 74 = .ok (.getfield 25, 3) := by decide +kernel
theorem dX8_findLeft_77 : decode cX8_findLeft 77 = .ok (.iload_n 3, 1) := by decide +kernel
theorem dX8_findLeft_78 : decode cX8_findLeft 78 = .ok (.iaload, 1) := by decide +kernel
theorem dX8_findLeft_79 : decode cX8_findLeft 79 = .ok (.iload_n 2, 1) := by decide +kernel
theorem dX8_findLeft_80 : decode cX8_findLeft 80 = .ok (.if_icmp .ne 21, 3) := by decide +kernel
theorem dX8_findLeft_83 : decode cX8_findLeft 83 = .ok (.aload_n 0, 1) := by decide +kernel
theorem dX8_findLeft_84 : decode cX8_findLeft 84 = .ok (.getfield 77, 3) := by decide +kernel
theorem dX8_findLeft_87 : decode cX8_findLeft 87 = .ok (.aload_n 0, 1) := by decide +kernel
theorem dX8_findLeft_88 : decode cX8_findLeft 88 = .ok (.getfield 22, 3) := by decide +kernel
theorem dX8_findLeft_91 : decode cX8_findLeft 91 = .ok (.iload_n 3, 1) := by decide +kernel
theorem dX8_findLeft_92 : decode cX8_findLeft 92 = .ok (.iaload, 1) := by decide +kernel
theorem dX8_findLeft_93 : decode cX8_findLeft 93 = .ok (.baload, 1) := by decide +kernel
theorem dX8_findLeft_94 : decode cX8_findLeft 94 = .ok (.ifCond .eq 7, 3) := by decide +kernel
theorem dX8_findLeft_97 : decode cX8_findLeft 97 = .ok (.iconst 1, 1) := by decide +kernel
theorem dX8_findLeft_98 : decode cX8_findLeft 98 = .ok (.goto 4, 3) := by decide +kernel
theorem dX8_findLeft_101 : decode cX8_findLeft 101 = .ok (.iconst 0, 1) := by decide +kernel
theorem dX8_findLeft_102 : decode cX8_findLeft 102 = .ok (.istore 4, 2) := by decide +kernel
theorem dX8_findLeft_104 : decode cX8_findLeft 104 = .ok (.aload_n 0, 1) := by decide +kernel
theorem dX8_findLeft_105 : decode cX8_findLeft 105 = .ok (.getfield 74, 3) := by decide +kernel
theorem dX8_findLeft_108 : decode cX8_findLeft 108 = .ok (.iload_n 3, 1) := by decide +kernel
theorem dX8_findLeft_109 : decode cX8_findLeft 109 = .ok (.iload 4, 2) := by decide +kernel
theorem dX8_findLeft_111 : decode cX8_findLeft 111 = .ok (.ifCond .eq 26, 3) := by decide +kernel
theorem dX8_findLeft_114 : decode cX8_findLeft 114 = .ok (.aload_n 0, 1) := by decide +kernel
theorem dX8_findLeft_115 : decode cX8_findLeft 115 = .ok (.getfield 28, 3) := by decide +kernel
theorem dX8_findLeft_118 : decode cX8_findLeft 118 = .ok (.iload_n 3, 1) := by decide +kernel
theorem dX8_findLeft_119 : decode cX8_findLeft 119 = .ok (.iaload, 1) := by decide +kernel
theorem dX8_findLeft_120 : decode cX8_findLeft 120 = .ok (.ifCond .eq 13, 3) := by decide +kernel
theorem dX8_findLeft_123 : decode cX8_findLeft 123 = .ok (.aload_n 0, 1) := by decide +kernel
theorem dX8_findLeft_124 : decode cX8_findLeft 124 = .ok (.getfield 28, 3) := by decide +kernel
theorem dX8_findLeft_127 : decode cX8_findLeft 127 = .ok (.iload_n 3, 1) := by decide +kernel
theorem dX8_findLeft_128 : decode cX8_findLeft 128 = .ok (.iaload, 1) := by decide +kernel
theorem dX8_findLeft_129 : decode cX8_findLeft 129 = .ok (.iconst 1, 1) := by decide +kernel
theorem dX8_findLeft_130 : decode cX8_findLeft 130 = .ok (.if_icmp .ne 7, 3) := by decide +kernel
theorem dX8_findLeft_133 : decode cX8_findLeft 133 = .ok (.iconst 1, 1) := by decide +kernel
theorem dX8_findLeft_134 : decode cX8_findLeft 134 = .ok (.goto 4, 3) := by decide +kernel
theorem dX8_findLeft_137 : decode cX8_findLeft 137 = .ok (.iconst 0, 1) := by decide +kernel
theorem dX8_findLeft_138 : decode cX8_findLeft 138 = .ok (.bastore, 1) := by decide +kernel
theorem dX8_findLeft_139 : decode cX8_findLeft 139 = .ok (.iinc 3 1, 3) := by decide +kernel
theorem dX8_findLeft_142 : decode cX8_findLeft 142 = .ok (.goto (-83), 3) := by decide +kernel
theorem dX8_findLeft_145 : decode cX8_findLeft 145 = .ok (.iconst 0, 1) := by decide +kernel
theorem dX8_findLeft_146 : decode cX8_findLeft 146 = .ok (.istore_n 3, 1) := by decide +kernel
theorem dX8_findLeft_147 : decode cX8_findLeft 147 = .ok (.iload_n 3, 1) := by decide +kernel
theorem dX8_findLeft_148 : decode cX8_findLeft 148 = .ok (.aload_n 0, 1) := by decide +kernel
theorem dX8_findLeft_149 : decode cX8_findLeft 149 = .ok (.getfield 131, 3) := by decide +kernel
theorem dX8_findLeft_152 : decode cX8_findLeft 152 = .ok (.if_icmp .ge 150, 3) := by decide +kernel
theorem dX8_findLeft_155 : decode cX8_findLeft 155 = .ok (.aload_n 0, 1) := by decide +kernel
theorem dX8_findLeft_156 : decode cX8_findLeft 156 = .ok (.getfield 74, 3) := by decide +kernel
theorem dX8_findLeft_159 : decode cX8_findLeft 159 = .ok (.iload_n 3, 1) := by decide +kernel
theorem dX8_findLeft_160 : decode cX8_findLeft 160 = .ok (.baload, 1) := by decide +kernel
theorem dX8_findLeft_161 : decode cX8_findLeft 161 = .ok (.istore 4, 2) := by decide +kernel
theorem dX8_findLeft_163 : decode cX8_findLeft 163 = .ok (.iconst 0, 1) := by decide +kernel
theorem dX8_findLeft_164 : decode cX8_findLeft 164 = .ok (.istore 5, 2) := by decide +kernel
theorem dX8_findLeft_166 : decode cX8_findLeft 166 = .ok (.iload 5, 2) := by decide +kernel
theorem dX8_findLeft_168 : decode cX8_findLeft 168 = .ok (.aload_n 0, 1) := by decide +kernel
theorem dX8_findLeft_169 : decode cX8_findLeft 169 = .ok (.getfield 131, 3) := by decide +kernel
theorem dX8_findLeft_172 : decode cX8_findLeft 172 = .ok (.if_icmp .ge 116, 3) := by decide +kernel
theorem dX8_findLeft_175 : decode cX8_findLeft 175 = .ok (.iload 4, 2) := by decide +kernel
theorem dX8_findLeft_177 : decode cX8_findLeft 177 = .ok (.ifCond .eq 111, 3) := by decide +kernel
theorem dX8_findLeft_180 : decode cX8_findLeft 180 = .ok (.aload_n 0, 1) := by decide +kernel
theorem dX8_findLeft_181 : decode cX8_findLeft 181 = .ok (.getfield 25, 3) := by decide +kernel
theorem dX8_findLeft_184 : decode cX8_findLeft 184 = .ok (.iload 5, 2) := by decide +kernel
theorem dX8_findLeft_186 : decode cX8_findLeft 186 = .ok (.iaload, 1) := by decide +kernel
theorem dX8_findLeft_187 : decode cX8_findLeft 187 = .ok (.iload_n 2, 1) := by decide +kernel
theorem dX8_findLeft_188 : decode cX8_findLeft 188 = .ok (.if_icmp .ne 43, 3) := by decide +kernel
theorem dX8_findLeft_191 : decode cX8_findLeft 191 = .ok (.aload_n 0, 1) := by decide +kernel
theorem dX8_findLeft_192 : decode cX8_findLeft 192 = .ok (.getfield 77, 3) := by decide +kernel
theorem dX8_findLeft_195 : decode cX8_findLeft 195 = .ok (.aload_n 0, 1) := by decide +kernel
theorem dX8_findLeft_196 : decode cX8_findLeft 196 = .ok (.getfield 22, 3) := by decide +kernel
theorem dX8_findLeft_199 : decode cX8_findLeft 199 = .ok (.iload 5, 2) := by decide +kernel
theorem dX8_findLeft_201 : decode cX8_findLeft 201 = .ok (.iaload, 1) := by decide +kernel
theorem dX8_findLeft_202 : decode cX8_findLeft 202 = .ok (.baload, 1) := by decide +kernel
theorem dX8_findLeft_203 : decode cX8_findLeft 203 = .ok (.ifCond .eq 28, 3) := by decide +kernel
theorem dX8_findLeft_206 : decode cX8_findLeft 206 = .ok (.aload_n 0, 1) := by decide +kernel
theorem dX8_findLeft_207 : decode cX8_findLeft 207 = .ok (.getfield 28, 3) := by decide +kernel
theorem dX8_findLeft_210 : decode cX8_findLeft 210 = .ok (.iload 5, 2) := by decide +kernel
theorem dX8_findLeft_212 : decode cX8_findLeft 212 = .ok (.iaload, 1) := by decide +kernel
theorem dX8_findLeft_213 : decode cX8_findLeft 213 = .ok (.ifCond .eq 14, 3) := by decide +kernel
theorem dX8_findLeft_216 : decode cX8_findLeft 216 = .ok (.aload_n 0, 1) := by decide +kernel
theorem dX8_findLeft_217 : decode cX8_findLeft 217 = .ok (.getfield 28, 3) := by decide +kernel
theorem dX8_findLeft_220 : decode cX8_findLeft 220 = .ok (.iload 5, 2) := by decide +kernel
theorem dX8_findLeft_222 : decode cX8_findLeft 222 = .ok (.iaload, 1) := by decide +kernel
theorem dX8_findLeft_223 : decode cX8_findLeft 223 = .ok (.iconst 1, 1) := by decide +kernel
theorem dX8_findLeft_224 : decode cX8_findLeft 224 = .ok (.if_icmp .ne 7, 3) := by decide +kernel
theorem dX8_findLeft_227 : decode cX8_findLeft 227 = .ok (.iconst 1, 1) := by decide +kernel
theorem dX8_findLeft_228 : decode cX8_findLeft 228 = .ok (.goto 4, 3) := by decide +kernel
theorem dX8_findLeft_231 : decode cX8_findLeft 231 = .ok (.iconst 0, 1) := by decide +kernel
theorem dX8_findLeft_232 : decode cX8_findLeft 232 = .ok (.istore 6, 2) := by decide +kernel
theorem dX8_findLeft_234 : decode cX8_findLeft 234 = .ok (.iload 6, 2) := by decide +kernel
theorem dX8_findLeft_236 : decode cX8_findLeft 236 = .ok (.ifCond .eq 39, 3) := by decide +kernel
theorem dX8_findLeft_239 : decode cX8_findLeft 239 = .ok (.aload_n 0, 1) := by decide +kernel
theorem dX8_findLeft_240 : decode cX8_findLeft 240 = .ok (.getfield 22, 3) := by decide +kernel
theorem dX8_findLeft_243 : decode cX8_findLeft 243 = .ok (.iload 5, 2) := by decide +kernel
theorem dX8_findLeft_245 : decode cX8_findLeft 245 = .ok (.iaload, 1) := by decide +kernel
theorem dX8_findLeft_246 : decode cX8_findLeft 246 = .ok (.aload_n 0, 1) := by decide +kernel
theorem dX8_findLeft_247 : decode cX8_findLeft 247 = .ok (.getfield 22, 3) := by decide +kernel
theorem dX8_findLeft_250 : decode cX8_findLeft 250 = .ok (.iload_n 3, 1) := by decide +kernel
theorem dX8_findLeft_251 : decode cX8_findLeft 251 = .ok (.iaload, 1) := by decide +kernel
theorem dX8_findLeft_252 : decode cX8_findLeft 252 = .ok (.if_icmp .eq 23, 3) := by decide +kernel
theorem dX8_findLeft_255 : decode cX8_findLeft 255 = .ok (.aload_n 0, 1) := by decide +kernel
theorem dX8_findLeft_256 : decode cX8_findLeft 256 = .ok (.aload_n 0, 1) := by decide +kernel
theorem dX8_findLeft_257 : decode cX8_findLeft 257 = .ok (.getfield 22, 3) := by decide +kernel
theorem dX8_findLeft_260 : decode cX8_findLeft 260 = .ok (.iload 5, 2) := by decide +kernel
theorem dX8_findLeft_262 : decode cX8_findLeft 262 = .ok (.iaload, 1) := by decide +kernel
theorem dX8_findLeft_263 : decode cX8_findLeft 263 = .ok (.aload_n 0, 1) := by decide +kernel
theorem dX8_findLeft_264 : decode cX8_findLeft 264 = .ok (.getfield 22, 3) := by decide +kernel
theorem dX8_findLeft_267 : decode cX8_findLeft 267 = .ok (.iload_n 3, 1) := by decide +kernel
theorem dX8_findLeft_268 : decode cX8_findLeft 268 = .ok (.iaload, 1) := by decide +kernel
theorem dX8_findLeft_269 : decode cX8_findLeft 269 = .ok (.invokevirtual 166, 3) := by decide +kernel
theorem dX8_findLeft_272 : decode cX8_findLeft 272 = .ok (.ifCond .ne 7, 3) := by decide +kernel
theorem dX8_findLeft_275 : decode cX8_findLeft 275 = .ok (.iconst 1, 1) := by decide +kernel
theorem dX8_findLeft_276 : decode cX8_findLeft 276 = .ok (.goto 4, 3) := by decide +kernel
theorem dX8_findLeft_279 : decode cX8_findLeft 279 = .ok (.iconst 0, 1) := by decide +kernel
theorem dX8_findLeft_280 : decode cX8_findLeft 280 = .ok (.istore 4, 2) := by decide +kernel
theorem dX8_findLeft_282 : decode cX8_findLeft 282 = .ok (.iinc 5 1, 3) := by decide +kernel
theorem dX8_findLeft_285 : decode cX8_findLeft 285 = .ok (.goto (-119), 3) := by decide +kernel
theorem dX8_findLeft_288 : decode cX8_findLeft 288 = .ok (.aload_n 0, 1) := by decide +kernel
theorem dX8_findLeft_289 : decode cX8_findLeft 289 = .ok (.getfield 74, 3) := by decide +kernel
theorem dX8_findLeft_292 : decode cX8_findLeft 292 = .ok (.iload_n 3, 1) := by decide +kernel
theorem dX8_findLeft_293 : decode cX8_findLeft 293 = .ok (.iload 4, 2) := by decide +kernel
theorem dX8_findLeft_295 : decode cX8_findLeft 295 = .ok (.bastore, 1) := by decide +kernel
theorem dX8_findLeft_296 : decode cX8_findLeft 296 = .ok (.iinc 3 1, 3) := by decide +kernel
theorem dX8_findLeft_299 : decode cX8_findLeft 299 = .ok (.goto (-152), 3) := by decide +kernel
theorem dX8_findLeft_302 : decode cX8_findLeft 302 = .ok (.return_, 1) := by decide +kernel
set_option maxRecDepth 20000 in
theorem ggX8_find_X8_ownOf : GoodIn wsX8_find wsX8_ownOf := goodIn_r _ [10, 3, 11, 12, 32, 33, 34, 35, 36, 37, 38, 39, 40, 41, 42, 43, 44, 45, 46, 47, 48, 49, 50, 51, 52, 53, 54, 55, 56, 57, 58, 59, 60, 61, 62, 63, 64, 65, 66, 67, 68, 69, 70, 71, 72, 73, 74, 75, 76, 77, 78, 79, 80, 81] rfl (by decide +kernel)
set_option maxRecDepth 20000 in
theorem gX8_find_X8_ownOf : GoodIn wsX8_find (wsV RX8 145 RX8 yX8_ownOf wsX8_ownOf) := goodIn_app (goodIn_of _ (by decide +kernel)) ggX8_find_X8_ownOf
set_option maxRecDepth 20000 in
theorem ggX8_find_X8_findLeft : GoodIn wsX8_find wsX8_findLeft := goodIn_r _ [16, 17, 18, 1, 3, 12, 11, 4, 5, 19, 20, 21, 9, 22, 23, 24, 25, 26, 27, 28, 29, 2, 30, 31, 32, 33, 34, 35, 36, 37, 38, 39, 40, 41, 42, 43, 44, 45, 46, 47, 48, 49, 50, 51, 52, 53, 54, 55, 56, 57, 58, 59, 60, 61, 62, 63, 64, 65, 66, 67, 68, 69, 70, 71, 72, 73, 74, 75, 76, 77, 78, 79, 80, 81] rfl (by decide +kernel)
set_option maxRecDepth 20000 in
theorem gX8_find_X8_findLeft : GoodIn wsX8_find (wsV RX8 169 RX8 yX8_findLeft wsX8_findLeft) := goodIn_app (goodIn_of _ (by decide +kernel)) ggX8_find_X8_findLeft
theorem dX8_find_0 : decode cX8_find 0 = .ok (.iload_n 1, 1) := by decide +kernel
theorem dX8_find_1 : decode cX8_find 1 = .ok (.istore_n 3, 1) := by decide +kernel
theorem dX8_find_2 : decode cX8_find 2 = .ok (.iload_n 3, 1) := by decide +kernel
theorem dX8_find_3 : decode cX8_find 3 = .ok (.iconst (-1), 1) := by decide +kernel
theorem dX8_find_4 : decode cX8_find 4 = .ok (.if_icmp .eq 44, 3) := by decide +kernel
theorem dX8_find_7 : decode cX8_find 7 = .ok (.aload_n 0, 1) := by decide +kernel
theorem dX8_find_8 : decode cX8_find 8 = .ok (.iload_n 3, 1) := by decide +kernel
theorem dX8_find_9 : decode cX8_find 9 = .ok (.iload_n 2, 1) := by decide +kernel
theorem dX8_find_10 : decode cX8_find 10 = .ok (.invokevirtual 145, 3) := by decide +kernel
theorem dX8_find_13 : decode cX8_find 13 = .ok (.istore 4, 2) := by decide +kernel
theorem dX8_find_15 : decode cX8_find 15 = .ok (.iload 4, 2) := by decide +kernel
theorem dX8_find_17 : decode cX8_find 17 = .ok (.iconst (-1), 1) := by decide +kernel
theorem dX8_find_18 : decode cX8_find 18 = .ok (.if_icmp .eq 6, 3) := by decide +kernel
theorem dX8_find_21 : decode cX8_find 21 = .ok (.iload 4, 2) := by decide +kernel
theorem dX8_find_23 : decode cX8_find 23 = .ok (.ireturn, 1) := by decide +kernel
theorem dX8_find_24 : decode cX8_find 24 = .ok (.aload_n 0, 1) := by decide +kernel
theorem dX8_find_25 : decode cX8_find 25 = .ok (.getfield 7, 3) := by decide +kernel
theorem dX8_find_28 : decode cX8_find 28 = .ok (.iload_n 3, 1) := by decide +kernel
theorem dX8_find_29 : decode cX8_find 29 = .ok (.iaload, 1) := by decide +kernel
theorem dX8_find_30 : decode cX8_find 30 = .ok (.iconst 2, 1) := by decide +kernel
theorem dX8_find_31 : decode cX8_find 31 = .ok (.if_icmp .ne 7, 3) := by decide +kernel
theorem dX8_find_34 : decode cX8_find 34 = .ok (.iconst (-1), 1) := by decide +kernel
theorem dX8_find_35 : decode cX8_find 35 = .ok (.goto 9, 3) := by decide +kernel
theorem dX8_find_38 : decode cX8_find 38 = .ok (.aload_n 0, 1) := by decide +kernel
theorem dX8_find_39 : decode cX8_find 39 = .ok (.getfield 13, 3) := by decide +kernel
theorem dX8_find_42 : decode cX8_find 42 = .ok (.iload_n 3, 1) := by decide +kernel
theorem dX8_find_43 : decode cX8_find 43 = .ok (.iaload, 1) := by decide +kernel
theorem dX8_find_44 : decode cX8_find 44 = .ok (.istore_n 3, 1) := by decide +kernel
theorem dX8_find_45 : decode cX8_find 45 = .ok (.goto (-43), 3) := by decide +kernel
theorem dX8_find_48 : decode cX8_find 48 = .ok (.aload_n 0, 1) := by decide +kernel
theorem dX8_find_49 : decode cX8_find 49 = .ok (.iload_n 1, 1) := by decide +kernel
theorem dX8_find_50 : decode cX8_find 50 = .ok (.iload_n 2, 1) := by decide +kernel
theorem dX8_find_51 : decode cX8_find 51 = .ok (.invokevirtual 169, 3) := by decide +kernel
theorem dX8_find_54 : decode cX8_find 54 = .ok (.iconst (-1), 1) := by decide +kernel
theorem dX8_find_55 : decode cX8_find 55 = .ok (.istore 4, 2) := by decide +kernel
theorem dX8_find_57 : decode cX8_find 57 = .ok (.iconst (-1), 1) := by decide +kernel
theorem dX8_find_58 : decode cX8_find 58 = .ok (.istore 5, 2) := by decide +kernel
theorem dX8_find_60 : decode cX8_find 60 = .ok (.iconst 0, 1) := by decide +kernel
theorem dX8_find_61 : decode cX8_find 61 = .ok (.istore 6, 2) := by decide +kernel
theorem dX8_find_63 : decode cX8_find 63 = .ok (.aload_n 0, 1) := by decide +kernel
theorem dX8_find_64 : decode cX8_find 64 = .ok (.getfield 131, 3) := by decide +kernel
theorem dX8_find_67 : decode cX8_find 67 = .ok (.iconst 1, 1) := by decide +kernel
theorem dX8_find_68 : decode cX8_find 68 = .ok (.isub, 1) := by decide +kernel
theorem dX8_find_69 : decode cX8_find 69 = .ok (.istore 7, 2) := by decide +kernel
theorem dX8_find_71 : decode cX8_find 71 = .ok (.iload 7, 2) := by decide +kernel
theorem dX8_find_73 : decode cX8_find 73 = .ok (.ifCond .lt 87, 3) := by decide +kernel
theorem dX8_find_76 : decode cX8_find 76 = .ok (.aload_n 0, 1) := by decide +kernel
theorem dX8_find_77 : decode cX8_find 77 = .ok (.getfield 74, 3) := by decide +kernel
theorem dX8_find_80 : decode cX8_find 80 = .ok (.iload 7, 2) := by decide +kernel
theorem dX8_find_82 : decode cX8_find 82 = .ok (.baload, 1) := by decide +kernel
theorem dX8_find_83 : decode cX8_find 83 = .ok (.ifCond .eq 8, 3) := by decide +kernel
theorem dX8_find_86 : decode cX8_find 86 = .ok (.iload 7, 2) := by decide +kernel
theorem dX8_find_88 : decode cX8_find 88 = .ok (.goto 5, 3) := by decide +kernel
theorem dX8_find_91 : decode cX8_find 91 = .ok (.iload 4, 2) := by decide +kernel
theorem dX8_find_93 : decode cX8_find 93 = .ok (.istore 4, 2) := by decide +kernel
theorem dX8_find_95 : decode cX8_find 95 = .ok (.aload_n 0, 1) := by decide +kernel
theorem dX8_find_96 : decode cX8_find 96 = .ok (.getfield 74, 3) := by decide +kernel
theorem dX8_find_99 : decode cX8_find 99 = .ok (.iload 7, 2) := by decide +kernel
theorem dX8_find_101 : decode cX8_find 101 = .ok (.baload, 1) := by decide +kernel
theorem dX8_find_102 : decode cX8_find 102 = .ok (.ifCond .eq 18, 3) := by decide +kernel
theorem dX8_find_105 : decode cX8_find 105 = .ok (.aload_n 0, 1) := by decide +kernel
theorem dX8_find_106 : decode cX8_find 106 = .ok (.getfield 28, 3) := by decide +kernel
theorem dX8_find_109 : decode cX8_find 109 = .ok (.iload 7, 2) := by decide +kernel
theorem dX8_find_111 : decode cX8_find 111 = .ok (.iaload, 1) := by decide +kernel
theorem dX8_find_112 : decode cX8_find 112 = .ok (.ifCond .ne 8, 3) := by decide +kernel
theorem dX8_find_115 : decode cX8_find 115 = .ok (.iload 7, 2) := by decide +kernel
theorem dX8_find_117 : decode cX8_find 117 = .ok (.goto 5, 3) := by decide +kernel
theorem dX8_find_120 : decode cX8_find 120 = .ok (.iload 5, 2) := by decide +kernel
theorem dX8_find_122 : decode cX8_find 122 = .ok (.istore 5, 2) := by decide +kernel
theorem dX8_find_124 : decode cX8_find 124 = .ok (.iload 6, 2) := by decide +kernel
theorem dX8_find_126 : decode cX8_find 126 = .ok (.aload_n 0, 1) := by decide +kernel
theorem dX8_find_127 : decode cX8_find 127 = .ok (.getfield 74, 3) := by decide +kernel
theorem dX8_find_130 : decode cX8_find 130 = .ok (.iload 7, 2) := by decide +kernel
theorem dX8_find_132 : decode cX8_find 132 = .ok (.baload, 1) := by decide +kernel
theorem dX8_find_133 : decode cX8_find 133 = .ok (.ifCond .eq 17, 3) := by decide +kernel
theorem dX8_find_136 : decode cX8_find 136 = .ok (.aload_n 0, 1) := by decide +kernel
theorem dX8_find_137 : decode cX8_find 137 = .ok (.getfield 28, 3) := by decide +kernel
theorem dX8_find_140 : decode cX8_find 140 = .ok (.iload 7, 2) := by decide +kernel
theorem dX8_find_142 : decode cX8_find 142 = .ok (.iaload, 1) := by decide +kernel
theorem dX8_find_143 : decode cX8_find 143 = .ok (.ifCond .ne 7, 3) := by decide +kernel
theorem dX8_find_146 : decode cX8_find 146 = .ok (.iconst 1, 1) := by decide +kernel
theorem dX8_find_147 : decode cX8_find 147 = .ok (.goto 4, 3) := by decide +kernel
theorem dX8_find_150 : decode cX8_find 150 = .ok (.iconst 0, 1) := by decide +kernel
theorem dX8_find_151 : decode cX8_find 151 = .ok (.iadd, 1) := by decide +kernel
theorem dX8_find_152 : decode cX8_find 152 = .ok (.istore 6, 2) := by decide +kernel
theorem dX8_find_154 : decode cX8_find 154 = .ok (.iinc 7 (-1), 3) := by decide +kernel
theorem dX8_find_157 : decode cX8_find 157 = .ok (.goto (-86), 3) := by decide +kernel
theorem dX8_find_160 : decode cX8_find 160 = .ok (.iload 6, 2) := by decide +kernel
theorem dX8_find_162 : decode cX8_find 162 = .ok (.iconst 1, 1) := by decide +kernel
theorem dX8_find_163 : decode cX8_find 163 = .ok (.if_icmp .ne 8, 3) := by decide +kernel
theorem dX8_find_166 : decode cX8_find 166 = .ok (.iload 5, 2) := by decide +kernel
theorem dX8_find_168 : decode cX8_find 168 = .ok (.goto 5, 3) := by decide +kernel
theorem dX8_find_171 : decode cX8_find 171 = .ok (.iload 4, 2) := by decide +kernel
theorem dX8_find_173 : decode cX8_find 173 = .ok (.ireturn, 1) := by decide +kernel
set_option maxRecDepth 20000 in
theorem ggX8_choose_X8_ownOf : GoodIn wsX8_choose wsX8_ownOf := goodIn_r _ [11, 5, 12, 2, 32, 33, 34, 35, 36, 37, 38, 39, 40, 41, 42, 43, 44, 45, 46, 47, 48, 49, 50, 51, 52, 53, 54, 55, 56, 57, 58, 59, 60, 61, 62, 63, 64, 65, 66, 67, 68, 69, 70, 71, 72, 73, 74, 75, 76, 77, 78, 79, 80, 81] rfl (by decide +kernel)
set_option maxRecDepth 20000 in
theorem gX8_choose_X8_ownOf : GoodIn wsX8_choose (wsV RX8 145 RX8 yX8_ownOf wsX8_ownOf) := goodIn_app (goodIn_of _ (by decide +kernel)) ggX8_choose_X8_ownOf
set_option maxRecDepth 20000 in
theorem ggX8_choose_X8_findLeft : GoodIn wsX8_choose wsX8_findLeft := goodIn_r _ [16, 17, 18, 3, 5, 2, 12, 6, 1, 19, 20, 21, 10, 22, 23, 24, 25, 26, 27, 28, 29, 4, 30, 31, 32, 33, 34, 35, 36, 37, 38, 39, 40, 41, 42, 43, 44, 45, 46, 47, 48, 49, 50, 51, 52, 53, 54, 55, 56, 57, 58, 59, 60, 61, 62, 63, 64, 65, 66, 67, 68, 69, 70, 71, 72, 73, 74, 75, 76, 77, 78, 79, 80, 81] rfl (by decide +kernel)
set_option maxRecDepth 20000 in
theorem gX8_choose_X8_findLeft : GoodIn wsX8_choose (wsV RX8 169 RX8 yX8_findLeft wsX8_findLeft) := goodIn_app (goodIn_of _ (by decide +kernel)) ggX8_choose_X8_findLeft
theorem dX8_choose_0 : decode cX8_choose 0 = .ok (.aload_n 0, 1) := by decide +kernel
theorem dX8_choose_1 : decode cX8_choose 1 = .ok (.getfield 28, 3) := by decide +kernel
theorem dX8_choose_4 : decode cX8_choose 4 = .ok (.iload_n 2, 1) := by decide +kernel
theorem dX8_choose_5 : decode cX8_choose 5 = .ok (.iaload, 1) := by decide +kernel
theorem dX8_choose_6 : decode cX8_choose 6 = .ok (.iconst 3, 1) := by decide +kernel
theorem dX8_choose_7 : decode cX8_choose 7 = .ok (.if_icmp .ne 5, 3) := by decide +kernel
theorem dX8_choose_10 : decode cX8_choose 10 = .ok (.iload_n 2, 1) := by decide +kernel
theorem dX8_choose_11 : decode cX8_choose 11 = .ok (.ireturn, 1) := by decide +kernel
theorem dX8_choose_12 : decode cX8_choose 12 = .ok (.iload_n 1, 1) := by decide +kernel
theorem dX8_choose_13 : decode cX8_choose 13 = .ok (.istore_n 3, 1) := by decide +kernel
theorem dX8_choose_14 : decode cX8_choose 14 = .ok (.iload_n 3, 1) := by decide +kernel
theorem dX8_choose_15 : decode cX8_choose 15 = .ok (.iconst (-1), 1) := by decide +kernel
theorem dX8_choose_16 : decode cX8_choose 16 = .ok (.if_icmp .eq 85, 3) := by decide +kernel
theorem dX8_choose_19 : decode cX8_choose 19 = .ok (.aload_n 0, 1) := by decide +kernel
theorem dX8_choose_20 : decode cX8_choose 20 = .ok (.iload_n 3, 1) := by decide +kernel
theorem dX8_choose_21 : decode cX8_choose 21 = .ok (.aload_n 0, 1) := by decide +kernel
theorem dX8_choose_22 : decode cX8_choose 22 = .ok (.getfield 25, 3) := by decide +kernel
theorem dX8_choose_25 : decode cX8_choose 25 = .ok (.iload_n 2, 1) := by decide +kernel
theorem dX8_choose_26 : decode cX8_choose 26 = .ok (.iaload, 1) := by decide +kernel
theorem dX8_choose_27 : decode cX8_choose 27 = .ok (.invokevirtual 145, 3) := by decide +kernel
theorem dX8_choose_30 : decode cX8_choose 30 = .ok (.istore 4, 2) := by decide +kernel
theorem dX8_choose_32 : decode cX8_choose 32 = .ok (.iload 4, 2) := by decide +kernel
theorem dX8_choose_34 : decode cX8_choose 34 = .ok (.iconst (-1), 1) := by decide +kernel
theorem dX8_choose_35 : decode cX8_choose 35 = .ok (.if_icmp .eq 42, 3) := by decide +kernel
theorem dX8_choose_38 : decode cX8_choose 38 = .ok (.aload_n 0, 1) := by decide +kernel
theorem dX8_choose_39 : decode cX8_choose 39 = .ok (.getfield 28, 3) := by decide +kernel
theorem dX8_choose_42 : decode cX8_choose 42 = .ok (.iload 4, 2) := by decide +kernel
theorem dX8_choose_44 : decode cX8_choose 44 = .ok (.iaload, 1) := by decide +kernel
theorem dX8_choose_45 : decode cX8_choose 45 = .ok (.ifCond .eq 14, 3) := by decide +kernel
theorem dX8_choose_48 : decode cX8_choose 48 = .ok (.aload_n 0, 1) := by decide +kernel
theorem dX8_choose_49 : decode cX8_choose 49 = .ok (.getfield 28, 3) := by decide +kernel
theorem dX8_choose_52 : decode cX8_choose 52 = .ok (.iload 4, 2) := by decide +kernel
theorem dX8_choose_54 : decode cX8_choose 54 = .ok (.iaload, 1) := by decide +kernel
theorem dX8_choose_55 : decode cX8_choose 55 = .ok (.iconst 1, 1) := by decide +kernel
theorem dX8_choose_56 : decode cX8_choose 56 = .ok (.if_icmp .ne 21, 3) := by decide +kernel
theorem dX8_choose_59 : decode cX8_choose 59 = .ok (.aload_n 0, 1) := by decide +kernel
theorem dX8_choose_60 : decode cX8_choose 60 = .ok (.getfield 28, 3) := by decide +kernel
theorem dX8_choose_63 : decode cX8_choose 63 = .ok (.iload 4, 2) := by decide +kernel
theorem dX8_choose_65 : decode cX8_choose 65 = .ok (.iaload, 1) := by decide +kernel
theorem dX8_choose_66 : decode cX8_choose 66 = .ok (.ifCond .ne 8, 3) := by decide +kernel
theorem dX8_choose_69 : decode cX8_choose 69 = .ok (.iload 4, 2) := by decide +kernel
theorem dX8_choose_71 : decode cX8_choose 71 = .ok (.goto 5, 3) := by decide +kernel
theorem dX8_choose_74 : decode cX8_choose 74 = .ok (.bipush (-4), 2) := by decide +kernel
theorem dX8_choose_76 : decode cX8_choose 76 = .ok (.ireturn, 1) := by decide +kernel
theorem dX8_choose_77 : decode cX8_choose 77 = .ok (.aload_n 0, 1) := by decide +kernel
theorem dX8_choose_78 : decode cX8_choose 78 = .ok (.getfield 7, 3) := by decide +kernel
theorem dX8_choose_81 : decode cX8_choose 81 = .ok (.iload_n 3, 1) := by decide +kernel
theorem dX8_choose_82 : decode cX8_choose 82 = .ok (.iaload, 1) := by decide +kernel
theorem dX8_choose_83 : decode cX8_choose 83 = .ok (.iconst 2, 1) := by decide +kernel
theorem dX8_choose_84 : decode cX8_choose 84 = .ok (.if_icmp .ne 7, 3) := by decide +kernel
theorem dX8_choose_87 : decode cX8_choose 87 = .ok (.iconst (-1), 1) := by decide +kernel
theorem dX8_choose_88 : decode cX8_choose 88 = .ok (.goto 9, 3) := by decide +kernel
theorem dX8_choose_91 : decode cX8_choose 91 = .ok (.aload_n 0, 1) := by decide +kernel
theorem dX8_choose_92 : decode cX8_choose 92 = .ok (.getfield 13, 3) := by decide +kernel
theorem dX8_choose_95 : decode cX8_choose 95 = .ok (.iload_n 3, 1) := by decide +kernel
theorem dX8_choose_96 : decode cX8_choose 96 = .ok (.iaload, 1) := by decide +kernel
theorem dX8_choose_97 : decode cX8_choose 97 = .ok (.istore_n 3, 1) := by decide +kernel
theorem dX8_choose_98 : decode cX8_choose 98 = .ok (.goto (-84), 3) := by decide +kernel
theorem dX8_choose_101 : decode cX8_choose 101 = .ok (.aload_n 0, 1) := by decide +kernel
theorem dX8_choose_102 : decode cX8_choose 102 = .ok (.iload_n 1, 1) := by decide +kernel
theorem dX8_choose_103 : decode cX8_choose 103 = .ok (.aload_n 0, 1) := by decide +kernel
theorem dX8_choose_104 : decode cX8_choose 104 = .ok (.getfield 25, 3) := by decide +kernel
theorem dX8_choose_107 : decode cX8_choose 107 = .ok (.iload_n 2, 1) := by decide +kernel
theorem dX8_choose_108 : decode cX8_choose 108 = .ok (.iaload, 1) := by decide +kernel
theorem dX8_choose_109 : decode cX8_choose 109 = .ok (.invokevirtual 169, 3) := by decide +kernel
theorem dX8_choose_112 : decode cX8_choose 112 = .ok (.bipush (-4), 2) := by decide +kernel
theorem dX8_choose_114 : decode cX8_choose 114 = .ok (.istore 4, 2) := by decide +kernel
theorem dX8_choose_116 : decode cX8_choose 116 = .ok (.iconst 0, 1) := by decide +kernel
theorem dX8_choose_117 : decode cX8_choose 117 = .ok (.istore 5, 2) := by decide +kernel
theorem dX8_choose_119 : decode cX8_choose 119 = .ok (.iload 5, 2) := by decide +kernel
theorem dX8_choose_121 : decode cX8_choose 121 = .ok (.aload_n 0, 1) := by decide +kernel
theorem dX8_choose_122 : decode cX8_choose 122 = .ok (.getfield 131, 3) := by decide +kernel
theorem dX8_choose_125 : decode cX8_choose 125 = .ok (.if_icmp .ge 45, 3) := by decide +kernel
theorem dX8_choose_128 : decode cX8_choose 128 = .ok (.aload_n 0, 1) := by decide +kernel
theorem dX8_choose_129 : decode cX8_choose 129 = .ok (.getfield 74, 3) := by decide +kernel
theorem dX8_choose_132 : decode cX8_choose 132 = .ok (.iload 5, 2) := by decide +kernel
theorem dX8_choose_134 : decode cX8_choose 134 = .ok (.baload, 1) := by decide +kernel
theorem dX8_choose_135 : decode cX8_choose 135 = .ok (.ifCond .eq 29, 3) := by decide +kernel
theorem dX8_choose_138 : decode cX8_choose 138 = .ok (.aload_n 0, 1) := by decide +kernel
theorem dX8_choose_139 : decode cX8_choose 139 = .ok (.getfield 28, 3) := by decide +kernel
theorem dX8_choose_142 : decode cX8_choose 142 = .ok (.iload 5, 2) := by decide +kernel
theorem dX8_choose_144 : decode cX8_choose 144 = .ok (.iaload, 1) := by decide +kernel
theorem dX8_choose_145 : decode cX8_choose 145 = .ok (.ifCond .ne 19, 3) := by decide +kernel
theorem dX8_choose_148 : decode cX8_choose 148 = .ok (.iload 4, 2) := by decide +kernel
theorem dX8_choose_150 : decode cX8_choose 150 = .ok (.bipush (-4), 2) := by decide +kernel
theorem dX8_choose_152 : decode cX8_choose 152 = .ok (.if_icmp .ne 8, 3) := by decide +kernel
theorem dX8_choose_155 : decode cX8_choose 155 = .ok (.iload 5, 2) := by decide +kernel
theorem dX8_choose_157 : decode cX8_choose 157 = .ok (.goto 5, 3) := by decide +kernel
theorem dX8_choose_160 : decode cX8_choose 160 = .ok (.bipush (-5), 2) := by decide +kernel
theorem dX8_choose_162 : decode cX8_choose 162 = .ok (.istore 4, 2) := by decide +kernel
theorem dX8_choose_164 : decode cX8_choose 164 = .ok (.iinc 5 1, 3) := by decide +kernel
theorem dX8_choose_167 : decode cX8_choose 167 = .ok (.goto (-48), 3) := by decide +kernel
theorem dX8_choose_170 : decode cX8_choose 170 = .ok (.iload 4, 2) := by decide +kernel
theorem dX8_choose_172 : decode cX8_choose 172 = .ok (.ireturn, 1) := by decide +kernel
set_option maxRecDepth 20000 in
theorem ggX8_chosenOf_X8_find : GoodIn wsX8_chosenOf wsX8_find := goodIn_r _ [6, 7, 8, 9, 10, 1, 11, 12, 13, 5, 14, 15, 16, 17, 18, 19, 20, 21, 22, 23, 24, 25, 26, 27, 28, 29, 30, 31, 32, 33, 34, 35, 40, 41, 42, 43, 44, 45, 46, 47, 48, 49, 50, 51, 52, 53, 54, 55, 56, 57, 58, 59, 60, 61, 62, 63, 64, 65, 66, 67, 68, 69, 70, 71, 72, 73, 74, 75, 76, 77, 78, 79, 80, 81, 82, 83, 84, 85, 86, 87, 88, 89] rfl (by decide +kernel)
set_option maxRecDepth 20000 in
theorem gX8_chosenOf_X8_find : GoodIn wsX8_chosenOf (wsV RX8 173 RX8 yX8_find wsX8_find) := goodIn_app (goodIn_of _ (by decide +kernel)) ggX8_chosenOf_X8_find
set_option maxRecDepth 20000 in
theorem ggX8_chosenOf_X8_choose : GoodIn wsX8_chosenOf wsX8_choose := goodIn_r _ [39, 1, 16, 7, 8, 9, 10, 11, 12, 13, 5, 14, 15, 17, 18, 19, 20, 21, 22, 23, 24, 25, 26, 27, 28, 29, 30, 31, 32, 33, 34, 35, 40, 41, 42, 43, 44, 45, 46, 47, 48, 49, 50, 51, 52, 53, 54, 55, 56, 57, 58, 59, 60, 61, 62, 63, 64, 65, 66, 67, 68, 69, 70, 71, 72, 73, 74, 75, 76, 77, 78, 79, 80, 81, 82, 83, 84, 85, 86, 87, 88, 89] rfl (by decide +kernel)
set_option maxRecDepth 20000 in
theorem gX8_chosenOf_X8_choose : GoodIn wsX8_chosenOf (wsV RX8 176 RX8 yX8_choose wsX8_choose) := goodIn_app (goodIn_of _ (by decide +kernel)) ggX8_chosenOf_X8_choose
theorem dX8_chosenOf_0 : decode cX8_chosenOf 0 = .ok (.aload_n 0, 1) := by decide +kernel
theorem dX8_chosenOf_1 : decode cX8_chosenOf 1 = .ok (.iload_n 2, 1) := by decide +kernel
theorem dX8_chosenOf_2 : decode cX8_chosenOf 2 = .ok (.iload_n 3, 1) := by decide +kernel
theorem dX8_chosenOf_3 : decode cX8_chosenOf 3 = .ok (.invokevirtual 173, 3) := by decide +kernel
theorem dX8_chosenOf_6 : decode cX8_chosenOf 6 = .ok (.istore 4, 2) := by decide +kernel
theorem dX8_chosenOf_8 : decode cX8_chosenOf 8 = .ok (.iload 4, 2) := by decide +kernel
theorem dX8_chosenOf_10 : decode cX8_chosenOf 10 = .ok (.iconst (-1), 1) := by decide +kernel
theorem dX8_chosenOf_11 : decode cX8_chosenOf 11 = .ok (.if_icmp .ne 8, 3) := by decide +kernel
theorem dX8_chosenOf_14 : decode cX8_chosenOf 14 = .ok (.bipush (-2), 2) := by decide +kernel
theorem dX8_chosenOf_16 : decode cX8_chosenOf 16 = .ok (.goto 26, 3) := by decide +kernel
theorem dX8_chosenOf_19 : decode cX8_chosenOf 19 = .ok (.aload_n 0, 1) := by decide +kernel
theorem dX8_chosenOf_20 : decode cX8_chosenOf 20 = .ok (.getfield 28, 3) := by decide +kernel
theorem dX8_chosenOf_23 : decode cX8_chosenOf 23 = .ok (.iload 4, 2) := by decide +kernel
theorem dX8_chosenOf_25 : decode cX8_chosenOf 25 = .ok (.iaload, 1) := by decide +kernel
theorem dX8_chosenOf_26 : decode cX8_chosenOf 26 = .ok (.iconst 2, 1) := by decide +kernel
theorem dX8_chosenOf_27 : decode cX8_chosenOf 27 = .ok (.if_icmp .ne 8, 3) := by decide +kernel
theorem dX8_chosenOf_30 : decode cX8_chosenOf 30 = .ok (.bipush (-3), 2) := by decide +kernel
theorem dX8_chosenOf_32 : decode cX8_chosenOf 32 = .ok (.goto 10, 3) := by decide +kernel
theorem dX8_chosenOf_35 : decode cX8_chosenOf 35 = .ok (.aload_n 0, 1) := by decide +kernel
theorem dX8_chosenOf_36 : decode cX8_chosenOf 36 = .ok (.iload_n 1, 1) := by decide +kernel
theorem dX8_chosenOf_37 : decode cX8_chosenOf 37 = .ok (.iload 4, 2) := by decide +kernel
theorem dX8_chosenOf_39 : decode cX8_chosenOf 39 = .ok (.invokevirtual 176, 3) := by decide +kernel
theorem dX8_chosenOf_42 : decode cX8_chosenOf 42 = .ok (.ireturn, 1) := by decide +kernel
set_option maxRecDepth 20000 in
theorem ggX8_under_X8_isType : GoodIn wsX8_under wsX8_isType := goodIn_r _ [5, 6, 7, 8, 4, 9, 24, 25, 26, 27, 28, 29, 30, 31, 32, 33, 34, 35, 36, 37, 38, 39, 40, 41, 42, 43, 44, 45, 46, 47, 48, 49, 50, 51, 52, 53, 54, 55, 56, 57, 58, 59, 60, 61, 62, 63, 64, 65, 66, 67, 68, 69, 70, 71, 72, 73] rfl (by decide +kernel)
set_option maxRecDepth 20000 in
theorem gX8_under_X8_isType : GoodIn wsX8_under (wsV RX8 141 RX8 yX8_isType wsX8_isType) := goodIn_app (goodIn_of _ (by decide +kernel)) ggX8_under_X8_isType
set_option maxRecDepth 20000 in
theorem ggX8_under_X8_isUnder : GoodIn wsX8_under wsX8_isUnder := goodIn_r _ [13, 14, 6, 15, 16, 17, 18, 19, 4, 20, 21, 22, 23, 24, 25, 26, 27, 28, 29, 30, 31, 32, 33, 34, 35, 36, 37, 38, 39, 40, 41, 42, 43, 44, 45, 46, 47, 48, 49, 50, 51, 52, 53, 54, 55, 56, 57, 58, 59, 60, 61, 62, 63, 64, 65, 66, 67, 68, 69, 70, 71, 72, 73] rfl (by decide +kernel)
set_option maxRecDepth 20000 in
theorem gX8_under_X8_isUnder : GoodIn wsX8_under (wsV RX8 166 RX8 yX8_isUnder wsX8_isUnder) := goodIn_app (goodIn_of _ (by decide +kernel)) ggX8_under_X8_isUnder
theorem dX8_under_0 : decode cX8_under 0 = .ok (.aload_n 0, 1) := by decide +kernel
theorem dX8_under_1 : decode cX8_under 1 = .ok (.iload_n 1, 1) := by decide +kernel
theorem dX8_under_2 : decode cX8_under 2 = .ok (.invokevirtual 141, 3) := by decide +kernel
theorem dX8_under_5 : decode cX8_under 5 = .ok (.ifCond .eq 11, 3) := by decide +kernel
theorem dX8_under_8 : decode cX8_under 8 = .ok (.aload_n 0, 1) := by decide +kernel
theorem dX8_under_9 : decode cX8_under 9 = .ok (.iload_n 2, 1) := by decide +kernel
theorem dX8_under_10 : decode cX8_under 10 = .ok (.invokevirtual 141, 3) := by decide +kernel
theorem dX8_under_13 : decode cX8_under 13 = .ok (.ifCond .ne 8, 3) := by decide +kernel
theorem dX8_under_16 : decode cX8_under 16 = .ok (.bipush (-101), 2) := by decide +kernel
theorem dX8_under_18 : decode cX8_under 18 = .ok (.goto 17, 3) := by decide +kernel
theorem dX8_under_21 : decode cX8_under 21 = .ok (.aload_n 0, 1) := by decide +kernel
theorem dX8_under_22 : decode cX8_under 22 = .ok (.iload_n 1, 1) := by decide +kernel
theorem dX8_under_23 : decode cX8_under 23 = .ok (.iload_n 2, 1) := by decide +kernel
theorem dX8_under_24 : decode cX8_under 24 = .ok (.invokevirtual 166, 3) := by decide +kernel
theorem dX8_under_27 : decode cX8_under 27 = .ok (.ifCond .eq 7, 3) := by decide +kernel
theorem dX8_under_30 : decode cX8_under 30 = .ok (.iconst 1, 1) := by decide +kernel
theorem dX8_under_31 : decode cX8_under 31 = .ok (.goto 4, 3) := by decide +kernel
theorem dX8_under_34 : decode cX8_under 34 = .ok (.iconst 0, 1) := by decide +kernel
theorem dX8_under_35 : decode cX8_under 35 = .ok (.ireturn, 1) := by decide +kernel
set_option maxRecDepth 20000 in
theorem ggX8_found_X8_isType : GoodIn wsX8_found wsX8_isType := goodIn_r _ [5, 6, 7, 8, 4, 9, 43, 44, 45, 46, 47, 48, 49, 50, 51, 52, 53, 54, 55, 56, 57, 58, 59, 60, 61, 62, 63, 64, 65, 66, 67, 68, 69, 70, 71, 72, 73, 74, 75, 76, 77, 78, 79, 80, 81, 82, 83, 84, 85, 86, 87, 88, 89, 90, 91, 92] rfl (by decide +kernel)
set_option maxRecDepth 20000 in
theorem gX8_found_X8_isType : GoodIn wsX8_found (wsV RX8 141 RX8 yX8_isType wsX8_isType) := goodIn_app (goodIn_of _ (by decide +kernel)) ggX8_found_X8_isType
set_option maxRecDepth 20000 in
theorem ggX8_found_X8_in : GoodIn wsX8_found wsX8_in := goodIn_r _ [9] rfl (by decide +kernel)
set_option maxRecDepth 20000 in
theorem gX8_found_X8_in : GoodIn wsX8_found (va_wsS RX8 127 yX8_in wsX8_in) := goodIn_app (goodIn_of _ (by decide +kernel)) ggX8_found_X8_in
set_option maxRecDepth 20000 in
theorem ggX8_found_X8_find : GoodIn wsX8_found wsX8_find := goodIn_r _ [13, 14, 15, 16, 17, 18, 19, 20, 21, 4, 22, 23, 24, 25, 26, 27, 28, 29, 6, 30, 31, 32, 33, 34, 35, 36, 37, 38, 39, 40, 41, 42, 43, 44, 45, 46, 47, 48, 49, 50, 51, 52, 53, 54, 55, 56, 57, 58, 59, 60, 61, 62, 63, 64, 65, 66, 67, 68, 69, 70, 71, 72, 73, 74, 75, 76, 77, 78, 79, 80, 81, 82, 83, 84, 85, 86, 87, 88, 89, 90, 91, 92] rfl (by decide +kernel)
set_option maxRecDepth 20000 in
theorem gX8_found_X8_find : GoodIn wsX8_found (wsV RX8 173 RX8 yX8_find wsX8_find) := goodIn_app (goodIn_of _ (by decide +kernel)) ggX8_found_X8_find
theorem dX8_found_0 : decode cX8_found 0 = .ok (.aload_n 0, 1) := by decide +kernel
theorem dX8_found_1 : decode cX8_found 1 = .ok (.iload_n 1, 1) := by decide +kernel
theorem dX8_found_2 : decode cX8_found 2 = .ok (.invokevirtual 141, 3) := by decide +kernel
theorem dX8_found_5 : decode cX8_found 5 = .ok (.ifCond .ne 8, 3) := by decide +kernel
theorem dX8_found_8 : decode cX8_found 8 = .ok (.bipush (-101), 2) := by decide +kernel
theorem dX8_found_10 : decode cX8_found 10 = .ok (.goto 24, 3) := by decide +kernel
theorem dX8_found_13 : decode cX8_found 13 = .ok (.iload_n 2, 1) := by decide +kernel
theorem dX8_found_14 : decode cX8_found 14 = .ok (.iconst 0, 1) := by decide +kernel
theorem dX8_found_15 : decode cX8_found 15 = .ok (.bipush 9, 2) := by decide +kernel
theorem dX8_found_17 : decode cX8_found 17 = .ok (.invokestatic 127, 3) := by decide +kernel
theorem dX8_found_20 : decode cX8_found 20 = .ok (.ifCond .ne 8, 3) := by decide +kernel
theorem dX8_found_23 : decode cX8_found 23 = .ok (.bipush (-102), 2) := by decide +kernel
theorem dX8_found_25 : decode cX8_found 25 = .ok (.goto 9, 3) := by decide +kernel
theorem dX8_found_28 : decode cX8_found 28 = .ok (.aload_n 0, 1) := by decide +kernel
theorem dX8_found_29 : decode cX8_found 29 = .ok (.iload_n 1, 1) := by decide +kernel
theorem dX8_found_30 : decode cX8_found 30 = .ok (.iload_n 2, 1) := by decide +kernel
theorem dX8_found_31 : decode cX8_found 31 = .ok (.invokevirtual 173, 3) := by decide +kernel
theorem dX8_found_34 : decode cX8_found 34 = .ok (.ireturn, 1) := by decide +kernel
set_option maxRecDepth 20000 in
theorem ggX8_chosen_X8_isType : GoodIn wsX8_chosen wsX8_isType := goodIn_r _ [5, 6, 7, 8, 4, 9, 51, 52, 53, 54, 55, 56, 57, 58, 59, 60, 61, 62, 63, 64, 65, 66, 67, 68, 69, 70, 71, 72, 73, 74, 75, 76, 77, 78, 79, 80, 81, 82, 83, 84, 85, 86, 87, 88, 89, 90, 91, 92, 93, 94, 95, 96, 97, 98, 99, 100] rfl (by decide +kernel)
set_option maxRecDepth 20000 in
theorem gX8_chosen_X8_isType : GoodIn wsX8_chosen (wsV RX8 141 RX8 yX8_isType wsX8_isType) := goodIn_app (goodIn_of _ (by decide +kernel)) ggX8_chosen_X8_isType
set_option maxRecDepth 20000 in
theorem ggX8_chosen_X8_in : GoodIn wsX8_chosen wsX8_in := goodIn_r _ [9] rfl (by decide +kernel)
set_option maxRecDepth 20000 in
theorem gX8_chosen_X8_in : GoodIn wsX8_chosen (va_wsS RX8 127 yX8_in wsX8_in) := goodIn_app (goodIn_of _ (by decide +kernel)) ggX8_chosen_X8_in
set_option maxRecDepth 20000 in
theorem ggX8_chosen_X8_isUnder : GoodIn wsX8_chosen wsX8_isUnder := goodIn_r _ [13, 14, 6, 15, 16, 17, 18, 19, 4, 20, 21, 22, 23, 51, 52, 53, 54, 55, 56, 57, 58, 59, 60, 61, 62, 63, 64, 65, 66, 67, 68, 69, 70, 71, 72, 73, 74, 75, 76, 77, 78, 79, 80, 81, 82, 83, 84, 85, 86, 87, 88, 89, 90, 91, 92, 93, 94, 95, 96, 97, 98, 99, 100] rfl (by decide +kernel)
set_option maxRecDepth 20000 in
theorem gX8_chosen_X8_isUnder : GoodIn wsX8_chosen (wsV RX8 166 RX8 yX8_isUnder wsX8_isUnder) := goodIn_app (goodIn_of _ (by decide +kernel)) ggX8_chosen_X8_isUnder
set_option maxRecDepth 20000 in
theorem ggX8_chosen_X8_chosenOf : GoodIn wsX8_chosen wsX8_chosenOf := goodIn_r _ [27, 28, 29, 30, 31, 4, 32, 33, 21, 34, 35, 36, 37, 38, 39, 40, 41, 42, 43, 44, 45, 46, 6, 10, 11, 12, 13, 14, 15, 16, 17, 18, 19, 20, 22, 23, 47, 48, 49, 50, 51, 52, 53, 54, 55, 56, 57, 58, 59, 60, 61, 62, 63, 64, 65, 66, 67, 68, 69, 70, 71, 72, 73, 74, 75, 76, 77, 78, 79, 80, 81, 82, 83, 84, 85, 86, 87, 88, 89, 90, 91, 92, 93, 94, 95, 96, 97, 98, 99, 100] rfl (by decide +kernel)
set_option maxRecDepth 20000 in
theorem gX8_chosen_X8_chosenOf : GoodIn wsX8_chosen (wsV RX8 179 RX8 yX8_chosenOf wsX8_chosenOf) := goodIn_app (goodIn_of _ (by decide +kernel)) ggX8_chosen_X8_chosenOf
theorem dX8_chosen_0 : decode cX8_chosen 0 = .ok (.aload_n 0, 1) := by decide +kernel
theorem dX8_chosen_1 : decode cX8_chosen 1 = .ok (.iload_n 1, 1) := by decide +kernel
theorem dX8_chosen_2 : decode cX8_chosen 2 = .ok (.invokevirtual 141, 3) := by decide +kernel
theorem dX8_chosen_5 : decode cX8_chosen 5 = .ok (.ifCond .eq 11, 3) := by decide +kernel
theorem dX8_chosen_8 : decode cX8_chosen 8 = .ok (.aload_n 0, 1) := by decide +kernel
theorem dX8_chosen_9 : decode cX8_chosen 9 = .ok (.iload_n 2, 1) := by decide +kernel
theorem dX8_chosen_10 : decode cX8_chosen 10 = .ok (.invokevirtual 141, 3) := by decide +kernel
theorem dX8_chosen_13 : decode cX8_chosen 13 = .ok (.ifCond .ne 6, 3) := by decide +kernel
theorem dX8_chosen_16 : decode cX8_chosen 16 = .ok (.bipush (-101), 2) := by decide +kernel
theorem dX8_chosen_18 : decode cX8_chosen 18 = .ok (.ireturn, 1) := by decide +kernel
theorem dX8_chosen_19 : decode cX8_chosen 19 = .ok (.iload_n 3, 1) := by decide +kernel
theorem dX8_chosen_20 : decode cX8_chosen 20 = .ok (.iconst 0, 1) := by decide +kernel
theorem dX8_chosen_21 : decode cX8_chosen 21 = .ok (.bipush 9, 2) := by decide +kernel
theorem dX8_chosen_23 : decode cX8_chosen 23 = .ok (.invokestatic 127, 3) := by decide +kernel
theorem dX8_chosen_26 : decode cX8_chosen 26 = .ok (.ifCond .eq 12, 3) := by decide +kernel
theorem dX8_chosen_29 : decode cX8_chosen 29 = .ok (.aload_n 0, 1) := by decide +kernel
theorem dX8_chosen_30 : decode cX8_chosen 30 = .ok (.iload_n 1, 1) := by decide +kernel
theorem dX8_chosen_31 : decode cX8_chosen 31 = .ok (.iload_n 2, 1) := by decide +kernel
theorem dX8_chosen_32 : decode cX8_chosen 32 = .ok (.invokevirtual 166, 3) := by decide +kernel
theorem dX8_chosen_35 : decode cX8_chosen 35 = .ok (.ifCond .ne 8, 3) := by decide +kernel
theorem dX8_chosen_38 : decode cX8_chosen 38 = .ok (.bipush (-102), 2) := by decide +kernel
theorem dX8_chosen_40 : decode cX8_chosen 40 = .ok (.goto 10, 3) := by decide +kernel
theorem dX8_chosen_43 : decode cX8_chosen 43 = .ok (.aload_n 0, 1) := by decide +kernel
theorem dX8_chosen_44 : decode cX8_chosen 44 = .ok (.iload_n 1, 1) := by decide +kernel
theorem dX8_chosen_45 : decode cX8_chosen 45 = .ok (.iload_n 2, 1) := by decide +kernel
theorem dX8_chosen_46 : decode cX8_chosen 46 = .ok (.iload_n 3, 1) := by decide +kernel
theorem dX8_chosen_47 : decode cX8_chosen 47 = .ok (.invokevirtual 179, 3) := by decide +kernel
theorem dX8_chosen_50 : decode cX8_chosen 50 = .ok (.ireturn, 1) := by decide +kernel
theorem dX8_hasPlain_0 : decode cX8_hasPlain 0 = .ok (.iconst 0, 1) := by decide +kernel
theorem dX8_hasPlain_1 : decode cX8_hasPlain 1 = .ok (.istore_n 2, 1) := by decide +kernel
theorem dX8_hasPlain_2 : decode cX8_hasPlain 2 = .ok (.iconst 0, 1) := by decide +kernel
theorem dX8_hasPlain_3 : decode cX8_hasPlain 3 = .ok (.istore_n 3, 1) := by decide +kernel
theorem dX8_hasPlain_4 : decode cX8_hasPlain 4 = .ok (.iload_n 3, 1) := by decide +kernel
theorem dX8_hasPlain_5 : decode cX8_hasPlain 5 = .ok (.aload_n 0, 1) := by decide +kernel
theorem dX8_hasPlain_6 : decode cX8_hasPlain 6 = .ok (.getfield 131, 3) := by decide +kernel
theorem dX8_hasPlain_9 : decode cX8_hasPlain 9 = .ok (.if_icmp .ge 38, 3) := by decide +kernel
theorem dX8_hasPlain_12 : decode cX8_hasPlain 12 = .ok (.iload_n 2, 1) := by decide +kernel
theorem dX8_hasPlain_13 : decode cX8_hasPlain 13 = .ok (.ifCond .ne 22, 3) := by decide +kernel
theorem dX8_hasPlain_16 : decode cX8_hasPlain 16 = .ok (.aload_n 0, 1) := by decide +kernel
theorem dX8_hasPlain_17 : decode cX8_hasPlain 17 = .ok (.getfield 22, 3) := by decide +kernel
theorem dX8_hasPlain_20 : decode cX8_hasPlain 20 = .ok (.iload_n 3, 1) := by decide +kernel
theorem dX8_hasPlain_21 : decode cX8_hasPlain 21 = .ok (.iaload, 1) := by decide +kernel
theorem dX8_hasPlain_22 : decode cX8_hasPlain 22 = .ok (.iload_n 1, 1) := by decide +kernel
theorem dX8_hasPlain_23 : decode cX8_hasPlain 23 = .ok (.if_icmp .ne 16, 3) := by decide +kernel
theorem dX8_hasPlain_26 : decode cX8_hasPlain 26 = .ok (.aload_n 0, 1) := by decide +kernel
theorem dX8_hasPlain_27 : decode cX8_hasPlain 27 = .ok (.getfield 28, 3) := by decide +kernel
theorem dX8_hasPlain_30 : decode cX8_hasPlain 30 = .ok (.iload_n 3, 1) := by decide +kernel
theorem dX8_hasPlain_31 : decode cX8_hasPlain 31 = .ok (.iaload, 1) := by decide +kernel
theorem dX8_hasPlain_32 : decode cX8_hasPlain 32 = .ok (.ifCond .ne 7, 3) := by decide +kernel
theorem dX8_hasPlain_35 : decode cX8_hasPlain 35 = .ok (.iconst 1, 1) := by decide +kernel
theorem dX8_hasPlain_36 : decode cX8_hasPlain 36 = .ok (.goto 4, 3) := by decide +kernel
theorem dX8_hasPlain_39 : decode cX8_hasPlain 39 = .ok (.iconst 0, 1) := by decide +kernel
theorem dX8_hasPlain_40 : decode cX8_hasPlain 40 = .ok (.istore_n 2, 1) := by decide +kernel
theorem dX8_hasPlain_41 : decode cX8_hasPlain 41 = .ok (.iinc 3 1, 3) := by decide +kernel
theorem dX8_hasPlain_44 : decode cX8_hasPlain 44 = .ok (.goto (-40), 3) := by decide +kernel
theorem dX8_hasPlain_47 : decode cX8_hasPlain 47 = .ok (.iload_n 2, 1) := by decide +kernel
theorem dX8_hasPlain_48 : decode cX8_hasPlain 48 = .ok (.ireturn, 1) := by decide +kernel
set_option maxRecDepth 20000 in
theorem ggX8_findWith_X8_isUnder : GoodIn wsX8_findWith wsX8_isUnder := goodIn_r _ [8, 9, 2, 10, 11, 12, 13, 14, 7, 15, 16, 17, 18, 26, 27, 28, 29, 30, 31, 32, 33, 34, 35, 36, 37, 38, 39, 40, 41, 42, 43, 44, 45, 46, 47, 48, 49, 50, 51, 52, 53, 54, 55, 56, 57, 58, 59, 60, 61, 62, 63, 64, 65, 66, 67, 68, 69, 70, 71, 72, 73, 74, 75] rfl (by decide +kernel)
set_option maxRecDepth 20000 in
theorem gX8_findWith_X8_isUnder : GoodIn wsX8_findWith (wsV RX8 166 RX8 yX8_isUnder wsX8_isUnder) := goodIn_app (goodIn_of _ (by decide +kernel)) ggX8_findWith_X8_isUnder
set_option maxRecDepth 20000 in
theorem ggX8_findWith_X8_hasPlain : GoodIn wsX8_findWith wsX8_hasPlain := goodIn_r _ [22, 23, 24, 25, 26, 27, 28, 29, 30, 31, 32, 33, 34, 35, 36, 37, 38, 39, 40, 41, 42, 43, 44, 45, 46, 47, 48, 49, 50, 51, 52, 53, 54, 55, 56, 57, 58, 59, 60, 61, 62, 63, 64, 65, 66, 67, 68, 69, 70, 71, 72, 73, 74, 75] rfl (by decide +kernel)
set_option maxRecDepth 20000 in
theorem gX8_findWith_X8_hasPlain : GoodIn wsX8_findWith (wsV RX8 183 RX8 yX8_hasPlain wsX8_hasPlain) := goodIn_app (goodIn_of _ (by decide +kernel)) ggX8_findWith_X8_hasPlain
theorem dX8_findWith_0 : decode cX8_findWith 0 = .ok (.iconst 0, 1) := by decide +kernel
theorem dX8_findWith_1 : decode cX8_findWith 1 = .ok (.istore_n 2, 1) := by decide +kernel
theorem dX8_findWith_2 : decode cX8_findWith 2 = .ok (.iload_n 2, 1) := by decide +kernel
theorem dX8_findWith_3 : decode cX8_findWith 3 = .ok (.bipush 16, 2) := by decide +kernel
theorem dX8_findWith_5 : decode cX8_findWith 5 = .ok (.if_icmp .ge 25, 3) := by decide +kernel
theorem dX8_findWith_8 : decode cX8_findWith 8 = .ok (.aload_n 0, 1) := by decide +kernel
theorem dX8_findWith_9 : decode cX8_findWith 9 = .ok (.getfield 80, 3) := by decide +kernel
theorem dX8_findWith_12 : decode cX8_findWith 12 = .ok (.iload_n 2, 1) := by decide +kernel
theorem dX8_findWith_13 : decode cX8_findWith 13 = .ok (.iload_n 2, 1) := by decide +kernel
theorem dX8_findWith_14 : decode cX8_findWith 14 = .ok (.iload_n 1, 1) := by decide +kernel
theorem dX8_findWith_15 : decode cX8_findWith 15 = .ok (.if_icmp .ne 7, 3) := by decide +kernel
theorem dX8_findWith_18 : decode cX8_findWith 18 = .ok (.iconst 1, 1) := by decide +kernel
theorem dX8_findWith_19 : decode cX8_findWith 19 = .ok (.goto 4, 3) := by decide +kernel
theorem dX8_findWith_22 : decode cX8_findWith 22 = .ok (.iconst 0, 1) := by decide +kernel
theorem dX8_findWith_23 : decode cX8_findWith 23 = .ok (.bastore, 1) := by decide +kernel
theorem dX8_findWith_24 : decode cX8_findWith 24 = .ok (.iinc 2 1, 3) := by decide +kernel
theorem dX8_findWith_27 : decode cX8_findWith 27 = .ok (.goto (-25), 3) := by decide +kernel
theorem dX8_findWith_30 : decode cX8_findWith 30 = .ok (.iconst 0, 1) := by decide +kernel
theorem dX8_findWith_31 : decode cX8_findWith 31 = .ok (.istore_n 2, 1) := by decide +kernel
theorem dX8_findWith_32 : decode cX8_findWith 32 = .ok (.iload_n 2, 1) := by decide +kernel
theorem dX8_findWith_33 : decode cX8_findWith 33 = .ok (.aload_n 0, 1) := by decide +kernel
theorem dX8_findWith_34 : decode cX8_findWith 34 = .ok (.getfield 123, 3) := by decide +kernel
theorem dX8_findWith_37 : decode cX8_findWith 37 = .ok (.if_icmp .ge 66, 3) := by decide +kernel
theorem dX8_findWith_40 : decode cX8_findWith 40 = .ok (.aload_n 0, 1) := by decide +kernel
theorem dX8_findWith_41 : decode cX8_findWith 41 = .ok (.getfield 7, 3) := by decide +kernel
theorem dX8_findWith_44 : decode cX8_findWith 44 = .ok (.iload_n 1, 1) := by decide +kernel
theorem dX8_findWith_45 : decode cX8_findWith 45 = .ok (.iaload, 1) := by decide +kernel
theorem dX8_findWith_46 : decode cX8_findWith 46 = .ok (.iconst 2, 1) := by decide +kernel
theorem dX8_findWith_47 : decode cX8_findWith 47 = .ok (.if_icmp .eq 56, 3) := by decide +kernel
theorem dX8_findWith_50 : decode cX8_findWith 50 = .ok (.aload_n 0, 1) := by decide +kernel
theorem dX8_findWith_51 : decode cX8_findWith 51 = .ok (.getfield 80, 3) := by decide +kernel
theorem dX8_findWith_54 : decode cX8_findWith 54 = .ok (.iload_n 2, 1) := by decide +kernel
theorem dX8_findWith_55 : decode cX8_findWith 55 = .ok (.aload_n 0, 1) := by decide +kernel
theorem dX8_findWith_56 : decode cX8_findWith 56 = .ok (.getfield 80, 3) := by decide +kernel
theorem dX8_findWith_59 : decode cX8_findWith 59 = .ok (.iload_n 2, 1) := by decide +kernel
theorem dX8_findWith_60 : decode cX8_findWith 60 = .ok (.baload, 1) := by decide +kernel
theorem dX8_findWith_61 : decode cX8_findWith 61 = .ok (.ifCond .ne 30, 3) := by decide +kernel
theorem dX8_findWith_64 : decode cX8_findWith 64 = .ok (.aload_n 0, 1) := by decide +kernel
theorem dX8_findWith_65 : decode cX8_findWith 65 = .ok (.iload_n 1, 1) := by decide +kernel
theorem dX8_findWith_66 : decode cX8_findWith 66 = .ok (.iload_n 2, 1) := by decide +kernel
theorem dX8_findWith_67 : decode cX8_findWith 67 = .ok (.invokevirtual 166, 3) := by decide +kernel
theorem dX8_findWith_70 : decode cX8_findWith 70 = .ok (.ifCond .eq 25, 3) := by decide +kernel
theorem dX8_findWith_73 : decode cX8_findWith 73 = .ok (.aload_n 0, 1) := by decide +kernel
theorem dX8_findWith_74 : decode cX8_findWith 74 = .ok (.getfield 7, 3) := by decide +kernel
theorem dX8_findWith_77 : decode cX8_findWith 77 = .ok (.iload_n 2, 1) := by decide +kernel
theorem dX8_findWith_78 : decode cX8_findWith 78 = .ok (.iaload, 1) := by decide +kernel
theorem dX8_findWith_79 : decode cX8_findWith 79 = .ok (.iconst 2, 1) := by decide +kernel
theorem dX8_findWith_80 : decode cX8_findWith 80 = .ok (.if_icmp .ne 11, 3) := by decide +kernel
theorem dX8_findWith_83 : decode cX8_findWith 83 = .ok (.aload_n 0, 1) := by decide +kernel
theorem dX8_findWith_84 : decode cX8_findWith 84 = .ok (.iload_n 2, 1) := by decide +kernel
theorem dX8_findWith_85 : decode cX8_findWith 85 = .ok (.invokevirtual 183, 3) := by decide +kernel
theorem dX8_findWith_88 : decode cX8_findWith 88 = .ok (.ifCond .eq 7, 3) := by decide +kernel
theorem dX8_findWith_91 : decode cX8_findWith 91 = .ok (.iconst 1, 1) := by decide +kernel
theorem dX8_findWith_92 : decode cX8_findWith 92 = .ok (.goto 4, 3) := by decide +kernel
theorem dX8_findWith_95 : decode cX8_findWith 95 = .ok (.iconst 0, 1) := by decide +kernel
theorem dX8_findWith_96 : decode cX8_findWith 96 = .ok (.bastore, 1) := by decide +kernel
theorem dX8_findWith_97 : decode cX8_findWith 97 = .ok (.iinc 2 1, 3) := by decide +kernel
theorem dX8_findWith_100 : decode cX8_findWith 100 = .ok (.goto (-68), 3) := by decide +kernel
theorem dX8_findWith_103 : decode cX8_findWith 103 = .ok (.return_, 1) := by decide +kernel
theorem dX8_reach_0 : decode cX8_reach 0 = .ok (.aload_n 0, 1) := by decide +kernel
theorem dX8_reach_1 : decode cX8_reach 1 = .ok (.aload_n 0, 1) := by decide +kernel
theorem dX8_reach_2 : decode cX8_reach 2 = .ok (.getfield 186, 3) := by decide +kernel
theorem dX8_reach_5 : decode cX8_reach 5 = .ok (.ifCond .ne 12, 3) := by decide +kernel
theorem dX8_reach_8 : decode cX8_reach 8 = .ok (.aload_n 0, 1) := by decide +kernel
theorem dX8_reach_9 : decode cX8_reach 9 = .ok (.getfield 50, 3) := by decide +kernel
theorem dX8_reach_12 : decode cX8_reach 12 = .ok (.iload_n 1, 1) := by decide +kernel
theorem dX8_reach_13 : decode cX8_reach 13 = .ok (.baload, 1) := by decide +kernel
theorem dX8_reach_14 : decode cX8_reach 14 = .ok (.ifCond .ne 7, 3) := by decide +kernel
theorem dX8_reach_17 : decode cX8_reach 17 = .ok (.iconst 1, 1) := by decide +kernel
theorem dX8_reach_18 : decode cX8_reach 18 = .ok (.goto 4, 3) := by decide +kernel
theorem dX8_reach_21 : decode cX8_reach 21 = .ok (.iconst 0, 1) := by decide +kernel
theorem dX8_reach_22 : decode cX8_reach 22 = .ok (.putfield 186, 3) := by decide +kernel
theorem dX8_reach_25 : decode cX8_reach 25 = .ok (.aload_n 0, 1) := by decide +kernel
theorem dX8_reach_26 : decode cX8_reach 26 = .ok (.getfield 50, 3) := by decide +kernel
theorem dX8_reach_29 : decode cX8_reach 29 = .ok (.iload_n 1, 1) := by decide +kernel
theorem dX8_reach_30 : decode cX8_reach 30 = .ok (.iconst 1, 1) := by decide +kernel
theorem dX8_reach_31 : decode cX8_reach 31 = .ok (.bastore, 1) := by decide +kernel
theorem dX8_reach_32 : decode cX8_reach 32 = .ok (.return_, 1) := by decide +kernel
set_option maxRecDepth 20000 in
theorem ggX8_call_X8_reach : GoodIn wsX8_call wsX8_reach := goodIn_r _ [7, 1, 8, 9, 10, 11, 12, 13, 14, 15, 16, 17, 18, 19, 20, 21, 22, 23, 24, 25, 26, 27, 28, 29, 30, 31, 32, 33, 34, 35, 36, 37, 38, 39, 40, 41, 42, 43, 44, 45, 46, 47, 48, 49, 50, 51, 52, 53, 54, 55, 56, 57, 58] rfl (by decide +kernel)
set_option maxRecDepth 20000 in
theorem gX8_call_X8_reach : GoodIn wsX8_call (wsV RX8 189 RX8 yX8_reach wsX8_reach) := goodIn_app (goodIn_of _ (by decide +kernel)) ggX8_call_X8_reach
theorem dX8_call_0 : decode cX8_call 0 = .ok (.aload_n 0, 1) := by decide +kernel
theorem dX8_call_1 : decode cX8_call 1 = .ok (.aload_n 0, 1) := by decide +kernel
theorem dX8_call_2 : decode cX8_call 2 = .ok (.getfield 186, 3) := by decide +kernel
theorem dX8_call_5 : decode cX8_call 5 = .ok (.ifCond .ne 17, 3) := by decide +kernel
theorem dX8_call_8 : decode cX8_call 8 = .ok (.aload_n 0, 1) := by decide +kernel
theorem dX8_call_9 : decode cX8_call 9 = .ok (.getfield 62, 3) := by decide +kernel
theorem dX8_call_12 : decode cX8_call 12 = .ok (.bipush 48, 2) := by decide +kernel
theorem dX8_call_14 : decode cX8_call 14 = .ok (.iload_n 1, 1) := by decide +kernel
theorem dX8_call_15 : decode cX8_call 15 = .ok (.imul, 1) := by decide +kernel
theorem dX8_call_16 : decode cX8_call 16 = .ok (.iload_n 2, 1) := by decide +kernel
theorem dX8_call_17 : decode cX8_call 17 = .ok (.iadd, 1) := by decide +kernel
theorem dX8_call_18 : decode cX8_call 18 = .ok (.baload, 1) := by decide +kernel
theorem dX8_call_19 : decode cX8_call 19 = .ok (.ifCond .ne 7, 3) := by decide +kernel
theorem dX8_call_22 : decode cX8_call 22 = .ok (.iconst 1, 1) := by decide +kernel
theorem dX8_call_23 : decode cX8_call 23 = .ok (.goto 4, 3) := by decide +kernel
theorem dX8_call_26 : decode cX8_call 26 = .ok (.iconst 0, 1) := by decide +kernel
theorem dX8_call_27 : decode cX8_call 27 = .ok (.putfield 186, 3) := by decide +kernel
theorem dX8_call_30 : decode cX8_call 30 = .ok (.aload_n 0, 1) := by decide +kernel
theorem dX8_call_31 : decode cX8_call 31 = .ok (.getfield 62, 3) := by decide +kernel
theorem dX8_call_34 : decode cX8_call 34 = .ok (.bipush 48, 2) := by decide +kernel
theorem dX8_call_36 : decode cX8_call 36 = .ok (.iload_n 1, 1) := by decide +kernel
theorem dX8_call_37 : decode cX8_call 37 = .ok (.imul, 1) := by decide +kernel
theorem dX8_call_38 : decode cX8_call 38 = .ok (.iload_n 2, 1) := by decide +kernel
theorem dX8_call_39 : decode cX8_call 39 = .ok (.iadd, 1) := by decide +kernel
theorem dX8_call_40 : decode cX8_call 40 = .ok (.iconst 1, 1) := by decide +kernel
theorem dX8_call_41 : decode cX8_call 41 = .ok (.bastore, 1) := by decide +kernel
theorem dX8_call_42 : decode cX8_call 42 = .ok (.aload_n 0, 1) := by decide +kernel
theorem dX8_call_43 : decode cX8_call 43 = .ok (.iload_n 2, 1) := by decide +kernel
theorem dX8_call_44 : decode cX8_call 44 = .ok (.invokevirtual 189, 3) := by decide +kernel
theorem dX8_call_47 : decode cX8_call 47 = .ok (.return_, 1) := by decide +kernel
theorem dX8_fault_0 : decode cX8_fault 0 = .ok (.aload_n 0, 1) := by decide +kernel
theorem dX8_fault_1 : decode cX8_fault 1 = .ok (.getfield 65, 3) := by decide +kernel
theorem dX8_fault_4 : decode cX8_fault 4 = .ok (.iconst 4, 1) := by decide +kernel
theorem dX8_fault_5 : decode cX8_fault 5 = .ok (.iload_n 1, 1) := by decide +kernel
theorem dX8_fault_6 : decode cX8_fault 6 = .ok (.imul, 1) := by decide +kernel
theorem dX8_fault_7 : decode cX8_fault 7 = .ok (.iconst 2, 1) := by decide +kernel
theorem dX8_fault_8 : decode cX8_fault 8 = .ok (.isub, 1) := by decide +kernel
theorem dX8_fault_9 : decode cX8_fault 9 = .ok (.iload_n 2, 1) := by decide +kernel
theorem dX8_fault_10 : decode cX8_fault 10 = .ok (.isub, 1) := by decide +kernel
theorem dX8_fault_11 : decode cX8_fault 11 = .ok (.dup2, 1) := by decide +kernel
theorem dX8_fault_12 : decode cX8_fault 12 = .ok (.iaload, 1) := by decide +kernel
theorem dX8_fault_13 : decode cX8_fault 13 = .ok (.iconst 1, 1) := by decide +kernel
theorem dX8_fault_14 : decode cX8_fault 14 = .ok (.iadd, 1) := by decide +kernel
theorem dX8_fault_15 : decode cX8_fault 15 = .ok (.iastore, 1) := by decide +kernel
theorem dX8_fault_16 : decode cX8_fault 16 = .ok (.return_, 1) := by decide +kernel
set_option maxRecDepth 20000 in
theorem ggX8_beginBy_X8_findWith : GoodIn wsX8_beginBy wsX8_findWith := goodIn_r _ [9, 2, 1, 10, 11, 12, 13, 8, 14, 15, 16, 17, 18, 19, 20, 21, 22, 23, 24, 25, 26, 27, 28, 29, 30, 31, 47, 48, 49, 50, 51, 52, 53, 54, 55, 56, 57, 58, 59, 60, 61, 62, 63, 64, 65, 66, 67, 68, 69, 70, 71, 72, 73, 74, 75, 76, 77, 78, 79, 80, 81, 82, 83, 84, 85, 86, 87, 88, 89, 90, 91, 92, 93, 94, 95, 96] rfl (by decide +kernel)
set_option maxRecDepth 20000 in
theorem gX8_beginBy_X8_findWith : GoodIn wsX8_beginBy (wsV RX8 192 RX8 yX8_findWith wsX8_findWith) := goodIn_app (goodIn_of _ (by decide +kernel)) ggX8_beginBy_X8_findWith
set_option maxRecDepth 20000 in
theorem ggX8_beginBy_X8_ownOf : GoodIn wsX8_beginBy wsX8_ownOf := goodIn_r _ [35, 29, 30, 36, 47, 48, 49, 50, 51, 52, 53, 54, 55, 56, 57, 58, 59, 60, 61, 62, 63, 64, 65, 66, 67, 68, 69, 70, 71, 72, 73, 74, 75, 76, 77, 78, 79, 80, 81, 82, 83, 84, 85, 86, 87, 88, 89, 90, 91, 92, 93, 94, 95, 96] rfl (by decide +kernel)
set_option maxRecDepth 20000 in
theorem gX8_beginBy_X8_ownOf : GoodIn wsX8_beginBy (wsV RX8 145 RX8 yX8_ownOf wsX8_ownOf) := goodIn_app (goodIn_of _ (by decide +kernel)) ggX8_beginBy_X8_ownOf
set_option maxRecDepth 20000 in
theorem ggX8_beginBy_X8_call : GoodIn wsX8_beginBy wsX8_call := goodIn_r _ [40, 3, 41, 42, 43, 44, 8, 45, 46, 47, 48, 49, 50, 51, 52, 53, 54, 55, 56, 57, 58, 59, 60, 61, 62, 63, 64, 65, 66, 67, 68, 69, 70, 71, 72, 73, 74, 75, 76, 77, 78, 79, 80, 81, 82, 83, 84, 85, 86, 87, 88, 89, 90, 91, 92, 93, 94, 95, 96] rfl (by decide +kernel)
set_option maxRecDepth 20000 in
theorem gX8_beginBy_X8_call : GoodIn wsX8_beginBy (wsV RX8 195 RX8 yX8_call wsX8_call) := goodIn_app (goodIn_of _ (by decide +kernel)) ggX8_beginBy_X8_call
theorem dX8_beginBy_0 : decode cX8_beginBy 0 = .ok (.aload_n 0, 1) := by decide +kernel
theorem dX8_beginBy_1 : decode cX8_beginBy 1 = .ok (.iload_n 2, 1) := by decide +kernel
theorem dX8_beginBy_2 : decode cX8_beginBy 2 = .ok (.invokevirtual 192, 3) := by decide +kernel
theorem dX8_beginBy_5 : decode cX8_beginBy 5 = .ok (.iconst 0, 1) := by decide +kernel
theorem dX8_beginBy_6 : decode cX8_beginBy 6 = .ok (.istore_n 3, 1) := by decide +kernel
theorem dX8_beginBy_7 : decode cX8_beginBy 7 = .ok (.iload_n 3, 1) := by decide +kernel
theorem dX8_beginBy_8 : decode cX8_beginBy 8 = .ok (.aload_n 0, 1) := by decide +kernel
theorem dX8_beginBy_9 : decode cX8_beginBy 9 = .ok (.getfield 123, 3) := by decide +kernel
theorem dX8_beginBy_12 : decode cX8_beginBy 12 = .ok (.if_icmp .ge 71, 3) := by decide +kernel
theorem dX8_beginBy_15 : decode cX8_beginBy 15 = .ok (.aload_n 0, 1) := by decide +kernel
theorem dX8_beginBy_16 : decode cX8_beginBy 16 = .ok (.getfield 80, 3) := by decide +kernel
theorem dX8_beginBy_19 : decode cX8_beginBy 19 = .ok (.iload_n 3, 1) := by decide +kernel
theorem dX8_beginBy_20 : decode cX8_beginBy 20 = .ok (.baload, 1) := by decide +kernel
theorem dX8_beginBy_21 : decode cX8_beginBy 21 = .ok (.ifCond .eq 56, 3) := by decide +kernel
theorem dX8_beginBy_24 : decode cX8_beginBy 24 = .ok (.aload_n 0, 1) := by decide +kernel
theorem dX8_beginBy_25 : decode cX8_beginBy 25 = .ok (.aload_n 0, 1) := by decide +kernel
theorem dX8_beginBy_26 : decode cX8_beginBy 26 = .ok (.getfield 186, 3) := by decide +kernel
theorem dX8_beginBy_29 : decode cX8_beginBy 29 = .ok (.ifCond .ne 12, 3) := by decide +kernel
theorem dX8_beginBy_32 : decode cX8_beginBy 32 = .ok (.aload_n 0, 1) := by decide +kernel
theorem dX8_beginBy_33 : decode cX8_beginBy 33 = .ok (.getfield 56, 3) := by decide +kernel
theorem dX8_beginBy_36 : decode cX8_beginBy 36 = .ok (.iload_n 3, 1) := by decide +kernel
theorem dX8_beginBy_37 : decode cX8_beginBy 37 = .ok (.baload, 1) := by decide +kernel
theorem dX8_beginBy_38 : decode cX8_beginBy 38 = .ok (.ifCond .ne 7, 3) := by decide +kernel
theorem dX8_beginBy_41 : decode cX8_beginBy 41 = .ok (.iconst 1, 1) := by decide +kernel
theorem dX8_beginBy_42 : decode cX8_beginBy 42 = .ok (.goto 4, 3) := by decide +kernel
theorem dX8_beginBy_45 : decode cX8_beginBy 45 = .ok (.iconst 0, 1) := by decide +kernel
theorem dX8_beginBy_46 : decode cX8_beginBy 46 = .ok (.putfield 186, 3) := by decide +kernel
theorem dX8_beginBy_49 : decode cX8_beginBy 49 = .ok (.aload_n 0, 1) := by decide +kernel
theorem dX8_beginBy_50 : decode cX8_beginBy 50 = .ok (.getfield 56, 3) := by decide +kernel
theorem dX8_beginBy_53 : decode cX8_beginBy 53 = .ok (.iload_n 3, 1) := by decide +kernel
theorem dX8_beginBy_54 : decode cX8_beginBy 54 = .ok (.iconst 1, 1) := by decide +kernel
theorem dX8_beginBy_55 : decode cX8_beginBy 55 = .ok (.bastore, 1) := by decide +kernel
theorem dX8_beginBy_56 : decode cX8_beginBy 56 = .ok (.aload_n 0, 1) := by decide +kernel
theorem dX8_beginBy_57 : decode cX8_beginBy 57 = .ok (.iload_n 3, 1) := by decide +kernel
theorem dX8_beginBy_58 : decode cX8_beginBy 58 = .ok (.iconst (-1), 1) := by decide +kernel
theorem dX8_beginBy_59 : decode cX8_beginBy 59 = .ok (.invokevirtual 145, 3) := by decide +kernel
theorem dX8_beginBy_62 : decode cX8_beginBy 62 = .ok (.istore 4, 2) := by decide +kernel
theorem dX8_beginBy_64 : decode cX8_beginBy 64 = .ok (.iload 4, 2) := by decide +kernel
theorem dX8_beginBy_66 : decode cX8_beginBy 66 = .ok (.iconst (-1), 1) := by decide +kernel
theorem dX8_beginBy_67 : decode cX8_beginBy 67 = .ok (.if_icmp .eq 10, 3) := by decide +kernel
theorem dX8_beginBy_70 : decode cX8_beginBy 70 = .ok (.aload_n 0, 1) := by decide +kernel
theorem dX8_beginBy_71 : decode cX8_beginBy 71 = .ok (.iload_n 1, 1) := by decide +kernel
theorem dX8_beginBy_72 : decode cX8_beginBy 72 = .ok (.iload 4, 2) := by decide +kernel
theorem dX8_beginBy_74 : decode cX8_beginBy 74 = .ok (.invokevirtual 195, 3) := by decide +kernel
theorem dX8_beginBy_77 : decode cX8_beginBy 77 = .ok (.iinc 3 1, 3) := by decide +kernel
theorem dX8_beginBy_80 : decode cX8_beginBy 80 = .ok (.goto (-73), 3) := by decide +kernel
theorem dX8_beginBy_83 : decode cX8_beginBy 83 = .ok (.return_, 1) := by decide +kernel
set_option maxRecDepth 20000 in
theorem ggX8_callAll_X8_find : GoodIn wsX8_callAll wsX8_find := goodIn_r _ [8, 9, 10, 11, 12, 3, 13, 14, 15, 7, 16, 17, 18, 19, 20, 21, 22, 23, 1, 24, 25, 26, 27, 28, 29, 30, 31, 32, 33, 34, 35, 36, 57, 58, 59, 60, 61, 62, 63, 64, 65, 66, 67, 68, 69, 70, 71, 72, 73, 74, 75, 76, 77, 78, 79, 80, 81, 82, 83, 84, 85, 86, 87, 88, 89, 90, 91, 92, 93, 94, 95, 96, 97, 98, 99, 100, 101, 102, 103, 104, 105, 106] rfl (by decide +kernel)
set_option maxRecDepth 20000 in
theorem gX8_callAll_X8_find : GoodIn wsX8_callAll (wsV RX8 173 RX8 yX8_find wsX8_find) := goodIn_app (goodIn_of _ (by decide +kernel)) ggX8_callAll_X8_find
set_option maxRecDepth 20000 in
theorem ggX8_callAll_X8_isUnder : GoodIn wsX8_callAll wsX8_isUnder := goodIn_r _ [27, 28, 1, 29, 30, 31, 32, 33, 7, 34, 10, 35, 36, 57, 58, 59, 60, 61, 62, 63, 64, 65, 66, 67, 68, 69, 70, 71, 72, 73, 74, 75, 76, 77, 78, 79, 80, 81, 82, 83, 84, 85, 86, 87, 88, 89, 90, 91, 92, 93, 94, 95, 96, 97, 98, 99, 100, 101, 102, 103, 104, 105, 106] rfl (by decide +kernel)
set_option maxRecDepth 20000 in
theorem gX8_callAll_X8_isUnder : GoodIn wsX8_callAll (wsV RX8 166 RX8 yX8_isUnder wsX8_isUnder) := goodIn_app (goodIn_of _ (by decide +kernel)) ggX8_callAll_X8_isUnder
set_option maxRecDepth 20000 in
theorem ggX8_callAll_X8_choose : GoodIn wsX8_callAll wsX8_choose := goodIn_r _ [40, 3, 18, 9, 10, 11, 12, 13, 14, 15, 7, 16, 17, 19, 20, 21, 22, 23, 1, 24, 25, 26, 27, 28, 29, 30, 31, 32, 33, 34, 35, 36, 57, 58, 59, 60, 61, 62, 63, 64, 65, 66, 67, 68, 69, 70, 71, 72, 73, 74, 75, 76, 77, 78, 79, 80, 81, 82, 83, 84, 85, 86, 87, 88, 89, 90, 91, 92, 93, 94, 95, 96, 97, 98, 99, 100, 101, 102, 103, 104, 105, 106] rfl (by decide +kernel)
set_option maxRecDepth 20000 in
theorem gX8_callAll_X8_choose : GoodIn wsX8_callAll (wsV RX8 176 RX8 yX8_choose wsX8_choose) := goodIn_app (goodIn_of _ (by decide +kernel)) ggX8_callAll_X8_choose
set_option maxRecDepth 20000 in
theorem ggX8_callAll_X8_call : GoodIn wsX8_callAll wsX8_call := goodIn_r _ [44, 45, 46, 47, 48, 49, 7, 50, 51, 57, 58, 59, 60, 61, 62, 63, 64, 65, 66, 67, 68, 69, 70, 71, 72, 73, 74, 75, 76, 77, 78, 79, 80, 81, 82, 83, 84, 85, 86, 87, 88, 89, 90, 91, 92, 93, 94, 95, 96, 97, 98, 99, 100, 101, 102, 103, 104, 105, 106] rfl (by decide +kernel)
set_option maxRecDepth 20000 in
theorem gX8_callAll_X8_call : GoodIn wsX8_callAll (wsV RX8 195 RX8 yX8_call wsX8_call) := goodIn_app (goodIn_of _ (by decide +kernel)) ggX8_callAll_X8_call
set_option maxRecDepth 20000 in
theorem ggX8_callAll_X8_fault : GoodIn wsX8_callAll wsX8_fault := goodIn_r _ [55, 56, 57, 58, 59, 60, 61, 62, 63, 64, 65, 66, 67, 68, 69, 70, 71, 72, 73, 74, 75, 76, 77, 78, 79, 80, 81, 82, 83, 84, 85, 86, 87, 88, 89, 90, 91, 92, 93, 94, 95, 96, 97, 98, 99, 100, 101, 102, 103, 104, 105, 106] rfl (by decide +kernel)
set_option maxRecDepth 20000 in
theorem gX8_callAll_X8_fault : GoodIn wsX8_callAll (wsV RX8 198 RX8 yX8_fault wsX8_fault) := goodIn_app (goodIn_of _ (by decide +kernel)) ggX8_callAll_X8_fault
theorem dX8_callAll_0 : decode cX8_callAll 0 = .ok (.aload_n 0, 1) := by decide +kernel
theorem dX8_callAll_1 : decode cX8_callAll 1 = .ok (.iload_n 2, 1) := by decide +kernel
theorem dX8_callAll_2 : decode cX8_callAll 2 = .ok (.iload_n 3, 1) := by decide +kernel
theorem dX8_callAll_3 : decode cX8_callAll 3 = .ok (.invokevirtual 173, 3) := by decide +kernel
theorem dX8_callAll_6 : decode cX8_callAll 6 = .ok (.istore 4, 2) := by decide +kernel
theorem dX8_callAll_8 : decode cX8_callAll 8 = .ok (.iconst 0, 1) := by decide +kernel
theorem dX8_callAll_9 : decode cX8_callAll 9 = .ok (.istore 5, 2) := by decide +kernel
theorem dX8_callAll_11 : decode cX8_callAll 11 = .ok (.iconst 0, 1) := by decide +kernel
theorem dX8_callAll_12 : decode cX8_callAll 12 = .ok (.istore 6, 2) := by decide +kernel
theorem dX8_callAll_14 : decode cX8_callAll 14 = .ok (.iload 6, 2) := by decide +kernel
theorem dX8_callAll_16 : decode cX8_callAll 16 = .ok (.aload_n 0, 1) := by decide +kernel
theorem dX8_callAll_17 : decode cX8_callAll 17 = .ok (.getfield 123, 3) := by decide +kernel
theorem dX8_callAll_20 : decode cX8_callAll 20 = .ok (.if_icmp .ge 103, 3) := by decide +kernel
theorem dX8_callAll_23 : decode cX8_callAll 23 = .ok (.aload_n 0, 1) := by decide +kernel
theorem dX8_callAll_24 : decode cX8_callAll 24 = .ok (.getfield 53, 3) := by decide +kernel
theorem dX8_callAll_27 : decode cX8_callAll 27 = .ok (.iload 6, 2) := by decide +kernel
theorem dX8_callAll_29 : decode cX8_callAll 29 = .ok (.baload, 1) := by decide +kernel
theorem dX8_callAll_30 : decode cX8_callAll 30 = .ok (.ifCond .eq 87, 3) := by decide +kernel
theorem dX8_callAll_33 : decode cX8_callAll 33 = .ok (.aload_n 0, 1) := by decide +kernel
theorem dX8_callAll_34 : decode cX8_callAll 34 = .ok (.iload 6, 2) := by decide +kernel
theorem dX8_callAll_36 : decode cX8_callAll 36 = .ok (.iload_n 2, 1) := by decide +kernel
theorem dX8_callAll_37 : decode cX8_callAll 37 = .ok (.invokevirtual 166, 3) := by decide +kernel
theorem dX8_callAll_40 : decode cX8_callAll 40 = .ok (.ifCond .eq 77, 3) := by decide +kernel
theorem dX8_callAll_43 : decode cX8_callAll 43 = .ok (.iload 4, 2) := by decide +kernel
theorem dX8_callAll_45 : decode cX8_callAll 45 = .ok (.iconst (-1), 1) := by decide +kernel
theorem dX8_callAll_46 : decode cX8_callAll 46 = .ok (.if_icmp .ne 8, 3) := by decide +kernel
theorem dX8_callAll_49 : decode cX8_callAll 49 = .ok (.bipush (-2), 2) := by decide +kernel
theorem dX8_callAll_51 : decode cX8_callAll 51 = .ok (.goto 27, 3) := by decide +kernel
theorem dX8_callAll_54 : decode cX8_callAll 54 = .ok (.aload_n 0, 1) := by decide +kernel
theorem dX8_callAll_55 : decode cX8_callAll 55 = .ok (.getfield 28, 3) := by decide +kernel
theorem dX8_callAll_58 : decode cX8_callAll 58 = .ok (.iload 4, 2) := by decide +kernel
theorem dX8_callAll_60 : decode cX8_callAll 60 = .ok (.iaload, 1) := by decide +kernel
theorem dX8_callAll_61 : decode cX8_callAll 61 = .ok (.iconst 2, 1) := by decide +kernel
theorem dX8_callAll_62 : decode cX8_callAll 62 = .ok (.if_icmp .ne 8, 3) := by decide +kernel
theorem dX8_callAll_65 : decode cX8_callAll 65 = .ok (.bipush (-3), 2) := by decide +kernel
theorem dX8_callAll_67 : decode cX8_callAll 67 = .ok (.goto 11, 3) := by decide +kernel
theorem dX8_callAll_70 : decode cX8_callAll 70 = .ok (.aload_n 0, 1) := by decide +kernel
theorem dX8_callAll_71 : decode cX8_callAll 71 = .ok (.iload 6, 2) := by decide +kernel
theorem dX8_callAll_73 : decode cX8_callAll 73 = .ok (.iload 4, 2) := by decide +kernel
theorem dX8_callAll_75 : decode cX8_callAll 75 = .ok (.invokevirtual 176, 3) := by decide +kernel
theorem dX8_callAll_78 : decode cX8_callAll 78 = .ok (.istore 7, 2) := by decide +kernel
theorem dX8_callAll_80 : decode cX8_callAll 80 = .ok (.iload 7, 2) := by decide +kernel
theorem dX8_callAll_82 : decode cX8_callAll 82 = .ok (.ifCond .lt 13, 3) := by decide +kernel
theorem dX8_callAll_85 : decode cX8_callAll 85 = .ok (.aload_n 0, 1) := by decide +kernel
theorem dX8_callAll_86 : decode cX8_callAll 86 = .ok (.iload_n 1, 1) := by decide +kernel
theorem dX8_callAll_87 : decode cX8_callAll 87 = .ok (.iload 7, 2) := by decide +kernel
theorem dX8_callAll_89 : decode cX8_callAll 89 = .ok (.invokevirtual 195, 3) := by decide +kernel
theorem dX8_callAll_92 : decode cX8_callAll 92 = .ok (.goto 22, 3) := by decide +kernel
theorem dX8_callAll_95 : decode cX8_callAll 95 = .ok (.iload 7, 2) := by decide +kernel
theorem dX8_callAll_97 : decode cX8_callAll 97 = .ok (.bipush (-4), 2) := by decide +kernel
theorem dX8_callAll_99 : decode cX8_callAll 99 = .ok (.if_icmp .le 8, 3) := by decide +kernel
theorem dX8_callAll_102 : decode cX8_callAll 102 = .ok (.iload 5, 2) := by decide +kernel
theorem dX8_callAll_104 : decode cX8_callAll 104 = .ok (.ifCond .ne 10, 3) := by decide +kernel
theorem dX8_callAll_107 : decode cX8_callAll 107 = .ok (.aload_n 0, 1) := by decide +kernel
theorem dX8_callAll_108 : decode cX8_callAll 108 = .ok (.iload_n 1, 1) := by decide +kernel
theorem dX8_callAll_109 : decode cX8_callAll 109 = .ok (.iload 7, 2) := by decide +kernel
theorem dX8_callAll_111 : decode cX8_callAll 111 = .ok (.invokevirtual 198, 3) := by decide +kernel
theorem dX8_callAll_114 : decode cX8_callAll 114 = .ok (.iconst 1, 1) := by decide +kernel
theorem dX8_callAll_115 : decode cX8_callAll 115 = .ok (.istore 5, 2) := by decide +kernel
theorem dX8_callAll_117 : decode cX8_callAll 117 = .ok (.iinc 6 1, 3) := by decide +kernel
theorem dX8_callAll_120 : decode cX8_callAll 120 = .ok (.goto (-106), 3) := by decide +kernel
theorem dX8_callAll_123 : decode cX8_callAll 123 = .ok (.return_, 1) := by decide +kernel
set_option maxRecDepth 20000 in
theorem ggX8_follow_X8_beginBy : GoodIn wsX8_follow wsX8_beginBy := goodIn_r _ [16, 17, 18, 5, 19, 20, 21, 22, 15, 23, 24, 25, 26, 27, 28, 29, 30, 31, 32, 33, 34, 35, 36, 37, 38, 39, 40, 41, 42, 10, 8, 7, 43, 44, 45, 46, 11, 47, 48, 49, 50, 51, 52, 53, 54, 55, 56, 86, 87, 88, 89, 90, 91, 92, 93, 94, 95, 96, 97, 98, 99, 100, 101, 102, 103, 104, 105, 106, 107, 108, 109, 110, 111, 112, 113, 114, 115, 116, 117, 118, 119, 120, 121, 122, 123, 124, 125, 126, 127, 128, 129, 130, 131, 132, 133, 134, 135] rfl (by decide +kernel)
set_option maxRecDepth 20000 in
theorem gX8_follow_X8_beginBy : GoodIn wsX8_follow (wsV RX8 201 RX8 yX8_beginBy wsX8_beginBy) := goodIn_app (goodIn_of _ (by decide +kernel)) ggX8_follow_X8_beginBy
set_option maxRecDepth 20000 in
theorem ggX8_follow_X8_callAll : GoodIn wsX8_follow wsX8_callAll := goodIn_r _ [60, 17, 6, 7, 61, 62, 63, 15, 64, 24, 36, 10, 65, 43, 44, 45, 46, 8, 11, 66, 67, 68, 69, 70, 25, 26, 27, 28, 29, 30, 31, 32, 33, 34, 35, 37, 38, 71, 72, 73, 74, 47, 48, 49, 50, 5, 51, 52, 53, 54, 55, 56, 75, 76, 77, 78, 3, 86, 87, 88, 89, 90, 91, 92, 93, 94, 95, 96, 97, 98, 99, 100, 101, 102, 103, 104, 105, 106, 107, 108, 109, 110, 111, 112, 113, 114, 115, 116, 117, 118, 119, 120, 121, 122, 123, 124, 125, 126, 127, 128, 129, 130, 131, 132, 133, 134, 135] rfl (by decide +kernel)
