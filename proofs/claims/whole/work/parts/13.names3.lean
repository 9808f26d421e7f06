theorem dX7_init_57 : decode cX7_init 57 = .ok (.putfield 37, 3) := by decide +kernel
theorem dX7_init_60 : decode cX7_init 60 = .ok (.aload_n 0, 1) := by decide +kernel
theorem dX7_init_61 : decode cX7_init 61 = .ok (.new 41, 3) := by decide +kernel
theorem dX7_init_64 : decode cX7_init 64 = .ok (.dup, 1) := by decide +kernel
theorem dX7_init_65 : decode cX7_init 65 = .ok (.aload_n 0, 1) := by decide +kernel
theorem dX7_init_66 : decode cX7_init 66 = .ok (.getfield 10, 3) := by decide +kernel
theorem dX7_init_69 : decode cX7_init 69 = .ok (.aload_n 0, 1) := by decide +kernel
theorem dX7_init_70 : decode cX7_init 70 = .ok (.getfield 21, 3) := by decide +kernel
theorem dX7_init_73 : decode cX7_init 73 = .ok (.aload_n 0, 1) := by decide +kernel
theorem dX7_init_74 : decode cX7_init 74 = .ok (.getfield 30, 3) := by decide +kernel
theorem dX7_init_77 : decode cX7_init 77 = .ok (.aload_n 0, 1) := by decide +kernel
theorem dX7_init_78 : decode cX7_init 78 = .ok (.getfield 37, 3) := by decide +kernel
theorem dX7_init_81 : decode cX7_init 81 = .ok (.invokespecial 43, 3) := by decide +kernel
theorem dX7_init_84 : decode cX7_init 84 = .ok (.putfield 46, 3) := by decide +kernel
theorem dX7_init_87 : decode cX7_init 87 = .ok (.aload_n 0, 1) := by decide +kernel
theorem dX7_init_88 : decode cX7_init 88 = .ok (.new 50, 3) := by decide +kernel
theorem dX7_init_91 : decode cX7_init 91 = .ok (.dup, 1) := by decide +kernel
theorem dX7_init_92 : decode cX7_init 92 = .ok (.aload_n 0, 1) := by decide +kernel
theorem dX7_init_93 : decode cX7_init 93 = .ok (.getfield 10, 3) := by decide +kernel
theorem dX7_init_96 : decode cX7_init 96 = .ok (.aload_n 0, 1) := by decide +kernel
theorem dX7_init_97 : decode cX7_init 97 = .ok (.getfield 21, 3) := by decide +kernel
theorem dX7_init_100 : decode cX7_init 100 = .ok (.aload_n 0, 1) := by decide +kernel
theorem dX7_init_101 : decode cX7_init 101 = .ok (.getfield 30, 3) := by decide +kernel
theorem dX7_init_104 : decode cX7_init 104 = .ok (.aload_n 0, 1) := by decide +kernel
theorem dX7_init_105 : decode cX7_init 105 = .ok (.getfield 37, 3) := by decide +kernel
theorem dX7_init_108 : decode cX7_init 108 = .ok (.invokespecial 52, 3) := by decide +kernel
theorem dX7_init_111 : decode cX7_init 111 = .ok (.putfield 53, 3) := by decide +kernel
theorem dX7_init_114 : decode cX7_init 114 = .ok (.return_, 1) := by decide +kernel
set_option maxRecDepth 20000 in
theorem ggX7_type_X6_knows : GoodIn wsX7_type wsX6_knows := goodIn_r _ [8, 9, 131, 132, 133, 134, 135, 136] rfl (by decide +kernel)
set_option maxRecDepth 20000 in
theorem gX7_type_X6_knows : GoodIn wsX7_type (wsV RX7 57 RX6 yX6_knows wsX6_knows) := goodIn_app (goodIn_of _ (by decide +kernel)) ggX7_type_X6_knows
set_option maxRecDepth 20000 in
theorem ggX7_type_X6_isFace : GoodIn wsX7_type wsX6_isFace := goodIn_r _ [13, 14, 131, 132, 133, 134, 135, 136] rfl (by decide +kernel)
set_option maxRecDepth 20000 in
theorem gX7_type_X6_isFace : GoodIn wsX7_type (wsV RX7 61 RX6 yX6_isFace wsX6_isFace) := goodIn_app (goodIn_of _ (by decide +kernel)) ggX7_type_X6_isFace
set_option maxRecDepth 20000 in
theorem ggX7_type_X6_size : GoodIn wsX7_type wsX6_size := goodIn_r _ [18, 9, 131, 132, 133, 134, 135, 136] rfl (by decide +kernel)
set_option maxRecDepth 20000 in
theorem gX7_type_X6_size : GoodIn wsX7_type (wsV RX7 64 RX6 yX6_size wsX6_size) := goodIn_app (goodIn_of _ (by decide +kernel)) ggX7_type_X6_size
set_option maxRecDepth 20000 in
theorem ggX7_type_X3_forget : GoodIn wsX7_type wsX3_forget := goodIn_r _ [23, 24, 137, 138, 139, 140, 141, 142, 143, 144, 145, 146, 147, 148, 149] rfl (by decide +kernel)
set_option maxRecDepth 20000 in
theorem gX7_type_X3_forget : GoodIn wsX7_type (wsV RX7 68 RX3 yX3_forget wsX3_forget) := goodIn_app (goodIn_of _ (by decide +kernel)) ggX7_type_X3_forget
set_option maxRecDepth 20000 in
theorem ggX7_type_X6_add : GoodIn wsX7_type wsX6_add := goodIn_r _ [28, 9, 14, 29, 30, 31, 32, 33, 34, 35, 36, 37, 7, 38, 39, 40, 41, 42, 43, 131, 132, 133, 134, 135, 136] rfl (by decide +kernel)
set_option maxRecDepth 20000 in
theorem gX7_type_X6_add : GoodIn wsX7_type (wsV RX7 71 RX6 yX6_add wsX6_add) := goodIn_app (goodIn_of _ (by decide +kernel)) ggX7_type_X6_add
set_option maxRecDepth 20000 in
theorem ggX7_type_X1_tellAll : GoodIn wsX7_type wsX1_tellAll := goodIn_r _ [48, 49, 50, 51, 47, 52, 53, 54, 55, 56, 57, 16, 17, 7, 18, 9, 58, 59, 60, 61, 62, 63, 64, 65, 66, 40, 30, 67, 68, 69, 70, 71, 72, 73, 42, 33, 43, 74, 75, 76, 77, 78, 79, 80, 81, 82, 83, 32, 34, 84, 85, 86, 87, 88, 89, 90, 91, 92, 93, 94, 95, 96, 29, 97, 98, 99, 100, 101, 102, 103, 104, 105, 106, 107, 108, 109, 110, 111, 112, 113, 114, 115, 116, 117, 118, 119, 120, 121, 122, 123, 124, 150, 151, 152, 153, 131, 132, 133, 134, 135, 136, 154, 155, 156, 157, 158, 159, 160, 161, 162, 163, 164] rfl (by decide +kernel)
set_option maxRecDepth 20000 in
theorem gX7_type_X1_tellAll : GoodIn wsX7_type (wsV RX7 75 RX1 yX1_tellAll wsX1_tellAll) := goodIn_app (goodIn_of _ (by decide +kernel)) ggX7_type_X1_tellAll
theorem dX7_type_0 : decode cX7_type 0 = .ok (.iload_n 2, 1) := by decide +kernel
theorem dX7_type_1 : decode cX7_type 1 = .ok (.iconst (-1), 1) := by decide +kernel
theorem dX7_type_2 : decode cX7_type 2 = .ok (.if_icmp .eq 17, 3) := by decide +kernel
theorem dX7_type_5 : decode cX7_type 5 = .ok (.aload_n 0, 1) := by decide +kernel
theorem dX7_type_6 : decode cX7_type 6 = .ok (.getfield 10, 3) := by decide +kernel
theorem dX7_type_9 : decode cX7_type 9 = .ok (.iload_n 2, 1) := by decide +kernel
theorem dX7_type_10 : decode cX7_type 10 = .ok (.invokevirtual 57, 3) := by decide +kernel
theorem dX7_type_13 : decode cX7_type 13 = .ok (.ifCond .ne 6, 3) := by decide +kernel
theorem dX7_type_16 : decode cX7_type 16 = .ok (.bipush (-101), 2) := by decide +kernel
theorem dX7_type_18 : decode cX7_type 18 = .ok (.ireturn, 1) := by decide +kernel
theorem dX7_type_19 : decode cX7_type 19 = .ok (.iload_n 1, 1) := by decide +kernel
theorem dX7_type_20 : decode cX7_type 20 = .ok (.ifCond .lt 8, 3) := by decide +kernel
theorem dX7_type_23 : decode cX7_type 23 = .ok (.iload_n 1, 1) := by decide +kernel
theorem dX7_type_24 : decode cX7_type 24 = .ok (.iconst 2, 1) := by decide +kernel
theorem dX7_type_25 : decode cX7_type 25 = .ok (.if_icmp .le 6, 3) := by decide +kernel
theorem dX7_type_28 : decode cX7_type 28 = .ok (.bipush (-102), 2) := by decide +kernel
theorem dX7_type_30 : decode cX7_type 30 = .ok (.ireturn, 1) := by decide +kernel
theorem dX7_type_31 : decode cX7_type 31 = .ok (.iload_n 2, 1) := by decide +kernel
theorem dX7_type_32 : decode cX7_type 32 = .ok (.iconst (-1), 1) := by decide +kernel
theorem dX7_type_33 : decode cX7_type 33 = .ok (.if_icmp .eq 22, 3) := by decide +kernel
theorem dX7_type_36 : decode cX7_type 36 = .ok (.iload_n 1, 1) := by decide +kernel
theorem dX7_type_37 : decode cX7_type 37 = .ok (.iconst 2, 1) := by decide +kernel
theorem dX7_type_38 : decode cX7_type 38 = .ok (.if_icmp .eq 14, 3) := by decide +kernel
theorem dX7_type_41 : decode cX7_type 41 = .ok (.aload_n 0, 1) := by decide +kernel
theorem dX7_type_42 : decode cX7_type 42 = .ok (.getfield 10, 3) := by decide +kernel
theorem dX7_type_45 : decode cX7_type 45 = .ok (.iload_n 2, 1) := by decide +kernel
theorem dX7_type_46 : decode cX7_type 46 = .ok (.invokevirtual 61, 3) := by decide +kernel
theorem dX7_type_49 : decode cX7_type 49 = .ok (.ifCond .eq 6, 3) := by decide +kernel
theorem dX7_type_52 : decode cX7_type 52 = .ok (.bipush (-102), 2) := by decide +kernel
theorem dX7_type_54 : decode cX7_type 54 = .ok (.ireturn, 1) := by decide +kernel
theorem dX7_type_55 : decode cX7_type 55 = .ok (.aload_n 0, 1) := by decide +kernel
theorem dX7_type_56 : decode cX7_type 56 = .ok (.getfield 10, 3) := by decide +kernel
theorem dX7_type_59 : decode cX7_type 59 = .ok (.invokevirtual 64, 3) := by decide +kernel
theorem dX7_type_62 : decode cX7_type 62 = .ok (.bipush 16, 2) := by decide +kernel
theorem dX7_type_64 : decode cX7_type 64 = .ok (.if_icmp .lt 6, 3) := by decide +kernel
theorem dX7_type_67 : decode cX7_type 67 = .ok (.bipush (-104), 2) := by decide +kernel
theorem dX7_type_69 : decode cX7_type 69 = .ok (.ireturn, 1) := by decide +kernel
theorem dX7_type_70 : decode cX7_type 70 = .ok (.aload_n 0, 1) := by decide +kernel
theorem dX7_type_71 : decode cX7_type 71 = .ok (.getfield 46, 3) := by decide +kernel
theorem dX7_type_74 : decode cX7_type 74 = .ok (.invokevirtual 68, 3) := by decide +kernel
theorem dX7_type_77 : decode cX7_type 77 = .ok (.aload_n 0, 1) := by decide +kernel
theorem dX7_type_78 : decode cX7_type 78 = .ok (.getfield 10, 3) := by decide +kernel
theorem dX7_type_81 : decode cX7_type 81 = .ok (.iload_n 1, 1) := by decide +kernel
theorem dX7_type_82 : decode cX7_type 82 = .ok (.iload_n 2, 1) := by decide +kernel
theorem dX7_type_83 : decode cX7_type 83 = .ok (.invokevirtual 71, 3) := by decide +kernel
theorem dX7_type_86 : decode cX7_type 86 = .ok (.istore_n 3, 1) := by decide +kernel
theorem dX7_type_87 : decode cX7_type 87 = .ok (.aload_n 0, 1) := by decide +kernel
theorem dX7_type_88 : decode cX7_type 88 = .ok (.getfield 30, 3) := by decide +kernel
theorem dX7_type_91 : decode cX7_type 91 = .ok (.invokevirtual 75, 3) := by decide +kernel
theorem dX7_type_94 : decode cX7_type 94 = .ok (.iload_n 3, 1) := by decide +kernel
theorem dX7_type_95 : decode cX7_type 95 = .ok (.ireturn, 1) := by decide +kernel
set_option maxRecDepth 20000 in
theorem ggX7_face_X6_knows : GoodIn wsX7_face wsX6_knows := goodIn_r _ [8, 9, 140, 141, 142, 143, 144, 145] rfl (by decide +kernel)
set_option maxRecDepth 20000 in
theorem gX7_face_X6_knows : GoodIn wsX7_face (wsV RX7 57 RX6 yX6_knows wsX6_knows) := goodIn_app (goodIn_of _ (by decide +kernel)) ggX7_face_X6_knows
set_option maxRecDepth 20000 in
theorem ggX7_face_X6_isFace : GoodIn wsX7_face wsX6_isFace := goodIn_r _ [13, 14, 140, 141, 142, 143, 144, 145] rfl (by decide +kernel)
set_option maxRecDepth 20000 in
theorem gX7_face_X6_isFace : GoodIn wsX7_face (wsV RX7 61 RX6 yX6_isFace wsX6_isFace) := goodIn_app (goodIn_of _ (by decide +kernel)) ggX7_face_X6_isFace
set_option maxRecDepth 20000 in
theorem ggX7_face_X6_hasFace : GoodIn wsX7_face wsX6_hasFace := goodIn_r _ [18, 19, 20, 21, 22, 23, 140, 141, 142, 143, 144, 145] rfl (by decide +kernel)
set_option maxRecDepth 20000 in
theorem gX7_face_X6_hasFace : GoodIn wsX7_face (wsV RX7 78 RX6 yX6_hasFace wsX6_hasFace) := goodIn_app (goodIn_of _ (by decide +kernel)) ggX7_face_X6_hasFace
set_option maxRecDepth 20000 in
theorem ggX7_face_X6_countFaces : GoodIn wsX7_face wsX6_countFaces := goodIn_r _ [27, 19, 28, 29, 30, 31, 32, 33, 34, 140, 141, 142, 143, 144, 145] rfl (by decide +kernel)
set_option maxRecDepth 20000 in
theorem gX7_face_X6_countFaces : GoodIn wsX7_face (wsV RX7 82 RX6 yX6_countFaces wsX6_countFaces) := goodIn_app (goodIn_of _ (by decide +kernel)) ggX7_face_X6_countFaces
set_option maxRecDepth 20000 in
theorem ggX7_face_X3_forget : GoodIn wsX7_face wsX3_forget := goodIn_r _ [39, 40, 146, 147, 148, 149, 150, 151, 152, 153, 154, 155, 156, 157, 158] rfl (by decide +kernel)
set_option maxRecDepth 20000 in
theorem gX7_face_X3_forget : GoodIn wsX7_face (wsV RX7 68 RX3 yX3_forget wsX3_forget) := goodIn_app (goodIn_of _ (by decide +kernel)) ggX7_face_X3_forget
set_option maxRecDepth 20000 in
theorem ggX7_face_X6_addFace : GoodIn wsX7_face wsX6_addFace := goodIn_r _ [44, 19, 45, 46, 22, 47, 48, 49, 50, 7, 51, 9, 52, 53, 20, 21, 23, 54, 25, 26, 27, 28, 29, 30, 31, 32, 33, 34, 140, 141, 142, 143, 144, 145] rfl (by decide +kernel)
set_option maxRecDepth 20000 in
theorem gX7_face_X6_addFace : GoodIn wsX7_face (wsV RX7 86 RX6 yX6_addFace wsX6_addFace) := goodIn_app (goodIn_of _ (by decide +kernel)) ggX7_face_X6_addFace
set_option maxRecDepth 20000 in
theorem ggX7_face_X1_tellAll : GoodIn wsX7_face wsX1_tellAll := goodIn_r _ [59, 60, 61, 62, 58, 63, 64, 65, 66, 67, 68, 69, 70, 7, 71, 9, 72, 73, 74, 75, 76, 77, 78, 79, 80, 53, 81, 82, 83, 84, 85, 86, 87, 88, 21, 22, 23, 89, 90, 91, 92, 93, 94, 95, 96, 97, 98, 46, 47, 99, 100, 101, 102, 103, 104, 105, 106, 107, 108, 109, 110, 111, 52, 112, 29, 30, 31, 32, 33, 34, 113, 114, 115, 116, 117, 118, 119, 120, 121, 122, 123, 124, 125, 126, 127, 128, 129, 130, 131, 132, 133, 159, 160, 161, 162, 140, 141, 142, 143, 144, 145, 163, 164, 165, 166, 167, 168, 169, 170, 171, 172, 173] rfl (by decide +kernel)
set_option maxRecDepth 20000 in
theorem gX7_face_X1_tellAll : GoodIn wsX7_face (wsV RX7 75 RX1 yX1_tellAll wsX1_tellAll) := goodIn_app (goodIn_of _ (by decide +kernel)) ggX7_face_X1_tellAll
theorem dX7_face_0 : decode cX7_face 0 = .ok (.aload_n 0, 1) := by decide +kernel
theorem dX7_face_1 : decode cX7_face 1 = .ok (.getfield 10, 3) := by decide +kernel
theorem dX7_face_4 : decode cX7_face 4 = .ok (.iload_n 1, 1) := by decide +kernel
theorem dX7_face_5 : decode cX7_face 5 = .ok (.invokevirtual 57, 3) := by decide +kernel
theorem dX7_face_8 : decode cX7_face 8 = .ok (.ifCond .eq 14, 3) := by decide +kernel
theorem dX7_face_11 : decode cX7_face 11 = .ok (.aload_n 0, 1) := by decide +kernel
theorem dX7_face_12 : decode cX7_face 12 = .ok (.getfield 10, 3) := by decide +kernel
theorem dX7_face_15 : decode cX7_face 15 = .ok (.iload_n 2, 1) := by decide +kernel
theorem dX7_face_16 : decode cX7_face 16 = .ok (.invokevirtual 57, 3) := by decide +kernel
theorem dX7_face_19 : decode cX7_face 19 = .ok (.ifCond .ne 6, 3) := by decide +kernel
theorem dX7_face_22 : decode cX7_face 22 = .ok (.bipush (-101), 2) := by decide +kernel
theorem dX7_face_24 : decode cX7_face 24 = .ok (.ireturn, 1) := by decide +kernel
theorem dX7_face_25 : decode cX7_face 25 = .ok (.aload_n 0, 1) := by decide +kernel
theorem dX7_face_26 : decode cX7_face 26 = .ok (.getfield 10, 3) := by decide +kernel
theorem dX7_face_29 : decode cX7_face 29 = .ok (.iload_n 2, 1) := by decide +kernel
theorem dX7_face_30 : decode cX7_face 30 = .ok (.invokevirtual 61, 3) := by decide +kernel
theorem dX7_face_33 : decode cX7_face 33 = .ok (.ifCond .eq 8, 3) := by decide +kernel
theorem dX7_face_36 : decode cX7_face 36 = .ok (.iload_n 2, 1) := by decide +kernel
theorem dX7_face_37 : decode cX7_face 37 = .ok (.iload_n 1, 1) := by decide +kernel
theorem dX7_face_38 : decode cX7_face 38 = .ok (.if_icmp .lt 6, 3) := by decide +kernel
theorem dX7_face_41 : decode cX7_face 41 = .ok (.bipush (-102), 2) := by decide +kernel
theorem dX7_face_43 : decode cX7_face 43 = .ok (.ireturn, 1) := by decide +kernel
theorem dX7_face_44 : decode cX7_face 44 = .ok (.aload_n 0, 1) := by decide +kernel
theorem dX7_face_45 : decode cX7_face 45 = .ok (.getfield 10, 3) := by decide +kernel
theorem dX7_face_48 : decode cX7_face 48 = .ok (.iload_n 1, 1) := by decide +kernel
theorem dX7_face_49 : decode cX7_face 49 = .ok (.iload_n 2, 1) := by decide +kernel
theorem dX7_face_50 : decode cX7_face 50 = .ok (.invokevirtual 78, 3) := by decide +kernel
theorem dX7_face_53 : decode cX7_face 53 = .ok (.ifCond .eq 6, 3) := by decide +kernel
theorem dX7_face_56 : decode cX7_face 56 = .ok (.bipush (-103), 2) := by decide +kernel
theorem dX7_face_58 : decode cX7_face 58 = .ok (.ireturn, 1) := by decide +kernel
theorem dX7_face_59 : decode cX7_face 59 = .ok (.aload_n 0, 1) := by decide +kernel
theorem dX7_face_60 : decode cX7_face 60 = .ok (.getfield 10, 3) := by decide +kernel
theorem dX7_face_63 : decode cX7_face 63 = .ok (.iload_n 1, 1) := by decide +kernel
theorem dX7_face_64 : decode cX7_face 64 = .ok (.invokevirtual 82, 3) := by decide +kernel
theorem dX7_face_67 : decode cX7_face 67 = .ok (.iconst 3, 1) := by decide +kernel
theorem dX7_face_68 : decode cX7_face 68 = .ok (.if_icmp .lt 6, 3) := by decide +kernel
theorem dX7_face_71 : decode cX7_face 71 = .ok (.bipush (-104), 2) := by decide +kernel
theorem dX7_face_73 : decode cX7_face 73 = .ok (.ireturn, 1) := by decide +kernel
theorem dX7_face_74 : decode cX7_face 74 = .ok (.aload_n 0, 1) := by decide +kernel
theorem dX7_face_75 : decode cX7_face 75 = .ok (.getfield 46, 3) := by decide +kernel
theorem dX7_face_78 : decode cX7_face 78 = .ok (.invokevirtual 68, 3) := by decide +kernel
theorem dX7_face_81 : decode cX7_face 81 = .ok (.aload_n 0, 1) := by decide +kernel
theorem dX7_face_82 : decode cX7_face 82 = .ok (.getfield 10, 3) := by decide +kernel
theorem dX7_face_85 : decode cX7_face 85 = .ok (.iload_n 1, 1) := by decide +kernel
theorem dX7_face_86 : decode cX7_face 86 = .ok (.iload_n 2, 1) := by decide +kernel
theorem dX7_face_87 : decode cX7_face 87 = .ok (.invokevirtual 86, 3) := by decide +kernel
theorem dX7_face_90 : decode cX7_face 90 = .ok (.istore_n 3, 1) := by decide +kernel
theorem dX7_face_91 : decode cX7_face 91 = .ok (.aload_n 0, 1) := by decide +kernel
theorem dX7_face_92 : decode cX7_face 92 = .ok (.getfield 30, 3) := by decide +kernel
theorem dX7_face_95 : decode cX7_face 95 = .ok (.invokevirtual 75, 3) := by decide +kernel
theorem dX7_face_98 : decode cX7_face 98 = .ok (.iload_n 3, 1) := by decide +kernel
theorem dX7_face_99 : decode cX7_face 99 = .ok (.ireturn, 1) := by decide +kernel
set_option maxRecDepth 20000 in
theorem ggX7_member_X6_knows : GoodIn wsX7_member wsX6_knows := goodIn_r _ [9, 10, 147, 148, 149, 150, 151, 152] rfl (by decide +kernel)
set_option maxRecDepth 20000 in
theorem gX7_member_X6_knows : GoodIn wsX7_member (wsV RX7 57 RX6 yX6_knows wsX6_knows) := goodIn_app (goodIn_of _ (by decide +kernel)) ggX7_member_X6_knows
set_option maxRecDepth 20000 in
theorem ggX7_member_X7_isName : GoodIn wsX7_member wsX7_isName := goodIn_r _ [14] rfl (by decide +kernel)
set_option maxRecDepth 20000 in
theorem gX7_member_X7_isName : GoodIn wsX7_member (va_wsS RX7 89 yX7_isName wsX7_isName) := goodIn_app (goodIn_of _ (by decide +kernel)) ggX7_member_X7_isName
set_option maxRecDepth 20000 in
theorem ggX7_member_X6_kindOf : GoodIn wsX7_member wsX6_kindOf := goodIn_r _ [18, 19, 147, 148, 149, 150, 151, 152] rfl (by decide +kernel)
set_option maxRecDepth 20000 in
theorem gX7_member_X6_kindOf : GoodIn wsX7_member (wsV RX7 92 RX6 yX6_kindOf wsX6_kindOf) := goodIn_app (goodIn_of _ (by decide +kernel)) ggX7_member_X6_kindOf
set_option maxRecDepth 20000 in
theorem ggX7_member_X4_startOf : GoodIn wsX7_member wsX4_startOf := goodIn_r _ [24, 25, 153, 154, 155, 156, 157, 158, 159, 160, 161, 162, 163] rfl (by decide +kernel)
set_option maxRecDepth 20000 in
theorem gX7_member_X4_startOf : GoodIn wsX7_member (wsV RX7 95 RX4 yX4_startOf wsX4_startOf) := goodIn_app (goodIn_of _ (by decide +kernel)) ggX7_member_X4_startOf
set_option maxRecDepth 20000 in
theorem ggX7_member_X4_named : GoodIn wsX7_member wsX4_named := goodIn_r _ [29, 30, 153, 154, 155, 156, 157, 158, 159, 160, 161, 162, 163] rfl (by decide +kernel)
set_option maxRecDepth 20000 in
theorem gX7_member_X4_named : GoodIn wsX7_member (wsV RX7 98 RX4 yX4_named wsX4_named) := goodIn_app (goodIn_of _ (by decide +kernel)) ggX7_member_X4_named
set_option maxRecDepth 20000 in
theorem ggX7_member_X4_size : GoodIn wsX7_member wsX4_size := goodIn_r _ [34, 35, 153, 154, 155, 156, 157, 158, 159, 160, 161, 162, 163] rfl (by decide +kernel)
set_option maxRecDepth 20000 in
theorem gX7_member_X4_size : GoodIn wsX7_member (wsV RX7 101 RX4 yX4_size wsX4_size) := goodIn_app (goodIn_of _ (by decide +kernel)) ggX7_member_X4_size
set_option maxRecDepth 20000 in
theorem ggX7_member_X3_forget : GoodIn wsX7_member wsX3_forget := goodIn_r _ [40, 41, 164, 165, 166, 167, 168, 169, 170, 171, 172, 173, 174, 175, 176] rfl (by decide +kernel)
set_option maxRecDepth 20000 in
theorem gX7_member_X3_forget : GoodIn wsX7_member (wsV RX7 68 RX3 yX3_forget wsX3_forget) := goodIn_app (goodIn_of _ (by decide +kernel)) ggX7_member_X3_forget
set_option maxRecDepth 20000 in
theorem ggX7_member_X4_add : GoodIn wsX7_member wsX4_add := goodIn_r _ [45, 35, 46, 47, 25, 48, 49, 50, 23, 51, 30, 52, 53, 54, 55, 56, 57, 58, 59, 60, 61, 62, 63, 153, 154, 155, 156, 157, 158, 159, 160, 161, 162, 163] rfl (by decide +kernel)
set_option maxRecDepth 20000 in
theorem gX7_member_X4_add : GoodIn wsX7_member (wsV RX7 102 RX4 yX4_add wsX4_add) := goodIn_app (goodIn_of _ (by decide +kernel)) ggX7_member_X4_add
set_option maxRecDepth 20000 in
theorem ggX7_member_X1_tell : GoodIn wsX7_member wsX1_tell := goodIn_r _ [68, 69, 70, 71, 72, 73, 74, 75, 8, 76, 10, 77, 78, 79, 67, 80, 81, 82, 83, 84, 85, 86, 87, 88, 89, 90, 23, 91, 53, 92, 93, 62, 94, 95, 96, 97, 98, 99, 27, 28, 29, 30, 100, 61, 63, 101, 102, 103, 104, 54, 105, 106, 107, 108, 109, 110, 111, 112, 113, 114, 115, 116, 117, 118, 119, 120, 121, 122, 123, 124, 125, 126, 127, 128, 129, 130, 131, 132, 133, 134, 135, 136, 137, 138, 139, 140, 47, 177, 178, 179, 180, 147, 148, 149, 150, 151, 152, 153, 154, 155, 156, 157, 158, 159, 160, 161, 162, 163] rfl (by decide +kernel)
set_option maxRecDepth 20000 in
theorem gX7_member_X1_tell : GoodIn wsX7_member (wsV RX7 105 RX1 yX1_tell wsX1_tell) := goodIn_app (goodIn_of _ (by decide +kernel)) ggX7_member_X1_tell
theorem dX7_member_0 : decode cX7_member 0 = .ok (.aload_n 0, 1) := by decide +kernel
theorem dX7_member_1 : decode cX7_member 1 = .ok (.getfield 10, 3) := by decide +kernel
theorem dX7_member_4 : decode cX7_member 4 = .ok (.iload_n 1, 1) := by decide +kernel
theorem dX7_member_5 : decode cX7_member 5 = .ok (.invokevirtual 57, 3) := by decide +kernel
theorem dX7_member_8 : decode cX7_member 8 = .ok (.ifCond .ne 6, 3) := by decide +kernel
theorem dX7_member_11 : decode cX7_member 11 = .ok (.bipush (-101), 2) := by decide +kernel
theorem dX7_member_13 : decode cX7_member 13 = .ok (.ireturn, 1) := by decide +kernel
theorem dX7_member_14 : decode cX7_member 14 = .ok (.iload_n 3, 1) := by decide +kernel
theorem dX7_member_15 : decode cX7_member 15 = .ok (.ifCond .lt 8, 3) := by decide +kernel
theorem dX7_member_18 : decode cX7_member 18 = .ok (.iload_n 3, 1) := by decide +kernel
theorem dX7_member_19 : decode cX7_member 19 = .ok (.iconst 4, 1) := by decide +kernel
theorem dX7_member_20 : decode cX7_member 20 = .ok (.if_icmp .le 6, 3) := by decide +kernel
theorem dX7_member_23 : decode cX7_member 23 = .ok (.bipush (-102), 2) := by decide +kernel
theorem dX7_member_25 : decode cX7_member 25 = .ok (.ireturn, 1) := by decide +kernel
theorem dX7_member_26 : decode cX7_member 26 = .ok (.iload_n 3, 1) := by decide +kernel
theorem dX7_member_27 : decode cX7_member 27 = .ok (.iconst 4, 1) := by decide +kernel
theorem dX7_member_28 : decode cX7_member 28 = .ok (.if_icmp .eq 13, 3) := by decide +kernel
theorem dX7_member_31 : decode cX7_member 31 = .ok (.iload_n 2, 1) := by decide +kernel
theorem dX7_member_32 : decode cX7_member 32 = .ok (.invokestatic 89, 3) := by decide +kernel
theorem dX7_member_35 : decode cX7_member 35 = .ok (.ifCond .ne 6, 3) := by decide +kernel
theorem dX7_member_38 : decode cX7_member 38 = .ok (.bipush (-102), 2) := by decide +kernel
theorem dX7_member_40 : decode cX7_member 40 = .ok (.ireturn, 1) := by decide +kernel
theorem dX7_member_41 : decode cX7_member 41 = .ok (.iload_n 3, 1) := by decide +kernel
theorem dX7_member_42 : decode cX7_member 42 = .ok (.iconst 1, 1) := by decide +kernel
theorem dX7_member_43 : decode cX7_member 43 = .ok (.if_icmp .ne 17, 3) := by decide +kernel
theorem dX7_member_46 : decode cX7_member 46 = .ok (.aload_n 0, 1) := by decide +kernel
theorem dX7_member_47 : decode cX7_member 47 = .ok (.getfield 10, 3) := by decide +kernel
theorem dX7_member_50 : decode cX7_member 50 = .ok (.iload_n 1, 1) := by decide +kernel
theorem dX7_member_51 : decode cX7_member 51 = .ok (.invokevirtual 92, 3) := by decide +kernel
theorem dX7_member_54 : decode cX7_member 54 = .ok (.ifCond .ne 6, 3) := by decide +kernel
theorem dX7_member_57 : decode cX7_member 57 = .ok (.bipush (-102), 2) := by decide +kernel
theorem dX7_member_59 : decode cX7_member 59 = .ok (.ireturn, 1) := by decide +kernel
theorem dX7_member_60 : decode cX7_member 60 = .ok (.iload_n 3, 1) := by decide +kernel
theorem dX7_member_61 : decode cX7_member 61 = .ok (.iconst 4, 1) := by decide +kernel
theorem dX7_member_62 : decode cX7_member 62 = .ok (.if_icmp .ne 14, 3) := by decide +kernel
theorem dX7_member_65 : decode cX7_member 65 = .ok (.aload_n 0, 1) := by decide +kernel
theorem dX7_member_66 : decode cX7_member 66 = .ok (.getfield 21, 3) := by decide +kernel
theorem dX7_member_69 : decode cX7_member 69 = .ok (.iload_n 1, 1) := by decide +kernel
theorem dX7_member_70 : decode cX7_member 70 = .ok (.invokevirtual 95, 3) := by decide +kernel
theorem dX7_member_73 : decode cX7_member 73 = .ok (.goto 12, 3) := by decide +kernel
theorem dX7_member_76 : decode cX7_member 76 = .ok (.aload_n 0, 1) := by decide +kernel
theorem dX7_member_77 : decode cX7_member 77 = .ok (.getfield 21, 3) := by decide +kernel
theorem dX7_member_80 : decode cX7_member 80 = .ok (.iload_n 1, 1) := by decide +kernel
theorem dX7_member_81 : decode cX7_member 81 = .ok (.iload_n 2, 1) := by decide +kernel
theorem dX7_member_82 : decode cX7_member 82 = .ok (.invokevirtual 98, 3) := by decide +kernel
theorem dX7_member_85 : decode cX7_member 85 = .ok (.istore 4, 2) := by decide +kernel
theorem dX7_member_87 : decode cX7_member 87 = .ok (.iload 4, 2) := by decide +kernel
theorem dX7_member_89 : decode cX7_member 89 = .ok (.iconst (-1), 1) := by decide +kernel
theorem dX7_member_90 : decode cX7_member 90 = .ok (.if_icmp .eq 6, 3) := by decide +kernel
theorem dX7_member_93 : decode cX7_member 93 = .ok (.bipush (-103), 2) := by decide +kernel
theorem dX7_member_95 : decode cX7_member 95 = .ok (.ireturn, 1) := by decide +kernel
theorem dX7_member_96 : decode cX7_member 96 = .ok (.aload_n 0, 1) := by decide +kernel
theorem dX7_member_97 : decode cX7_member 97 = .ok (.getfield 21, 3) := by decide +kernel
theorem dX7_member_100 : decode cX7_member 100 = .ok (.invokevirtual 101, 3) := by decide +kernel
theorem dX7_member_103 : decode cX7_member 103 = .ok (.bipush 48, 2) := by decide +kernel
theorem dX7_member_105 : decode cX7_member 105 = .ok (.if_icmp .lt 6, 3) := by decide +kernel
theorem dX7_member_108 : decode cX7_member 108 = .ok (.bipush (-104), 2) := by decide +kernel
theorem dX7_member_110 : decode cX7_member 110 = .ok (.ireturn, 1) := by decide +kernel
theorem dX7_member_111 : decode cX7_member 111 = .ok (.aload_n 0, 1) := by decide +kernel
theorem dX7_member_112 : decode cX7_member 112 = .ok (.getfield 46, 3) := by decide +kernel
theorem dX7_member_115 : decode cX7_member 115 = .ok (.invokevirtual 68, 3) := by decide +kernel
theorem dX7_member_118 : decode cX7_member 118 = .ok (.aload_n 0, 1) := by decide +kernel
theorem dX7_member_119 : decode cX7_member 119 = .ok (.getfield 21, 3) := by decide +kernel
theorem dX7_member_122 : decode cX7_member 122 = .ok (.iload_n 1, 1) := by decide +kernel
theorem dX7_member_123 : decode cX7_member 123 = .ok (.iload_n 2, 1) := by decide +kernel
theorem dX7_member_124 : decode cX7_member 124 = .ok (.iload_n 3, 1) := by decide +kernel
theorem dX7_member_125 : decode cX7_member 125 = .ok (.invokevirtual 102, 3) := by decide +kernel
theorem dX7_member_128 : decode cX7_member 128 = .ok (.istore 5, 2) := by decide +kernel
theorem dX7_member_130 : decode cX7_member 130 = .ok (.iload_n 3, 1) := by decide +kernel
theorem dX7_member_131 : decode cX7_member 131 = .ok (.iconst 4, 1) := by decide +kernel
theorem dX7_member_132 : decode cX7_member 132 = .ok (.if_icmp .eq 11, 3) := by decide +kernel
theorem dX7_member_135 : decode cX7_member 135 = .ok (.aload_n 0, 1) := by decide +kernel
theorem dX7_member_136 : decode cX7_member 136 = .ok (.getfield 30, 3) := by decide +kernel
theorem dX7_member_139 : decode cX7_member 139 = .ok (.iload_n 2, 1) := by decide +kernel
theorem dX7_member_140 : decode cX7_member 140 = .ok (.invokevirtual 105, 3) := by decide +kernel
theorem dX7_member_143 : decode cX7_member 143 = .ok (.iload 5, 2) := by decide +kernel
theorem dX7_member_145 : decode cX7_member 145 = .ok (.ireturn, 1) := by decide +kernel
set_option maxRecDepth 20000 in
theorem ggX7_op_X4_knows : GoodIn wsX7_op wsX4_knows := goodIn_r _ [8, 9, 96, 97, 98, 99, 100, 101, 102, 103, 104, 105, 106] rfl (by decide +kernel)
set_option maxRecDepth 20000 in
theorem gX7_op_X4_knows : GoodIn wsX7_op (wsV RX7 109 RX4 yX4_knows wsX4_knows) := goodIn_app (goodIn_of _ (by decide +kernel)) ggX7_op_X4_knows
set_option maxRecDepth 20000 in
theorem ggX7_op_X7_partsKnown : GoodIn wsX7_op wsX7_partsKnown := goodIn_r _ [14, 15, 1, 16, 17, 18, 19, 20, 21, 4, 5, 6, 7, 8, 9, 90, 91, 92, 93, 94, 95, 107, 108, 109, 110, 111, 112, 96, 97, 98, 99, 100, 101, 102, 103, 104, 105, 106] rfl (by decide +kernel)
set_option maxRecDepth 20000 in
theorem gX7_op_X7_partsKnown : GoodIn wsX7_op (wsV RX7 110 RX7 yX7_partsKnown wsX7_partsKnown) := goodIn_app (goodIn_of _ (by decide +kernel)) ggX7_op_X7_partsKnown
set_option maxRecDepth 20000 in
theorem ggX7_op_X7_partsFit : GoodIn wsX7_op wsX7_partsFit := goodIn_r _ [25, 15, 1, 26, 27, 28, 19, 29, 30, 31, 32, 13, 33, 34, 35, 36, 7, 37, 38, 39, 40, 41, 42, 43, 44, 45, 46, 47, 48, 49, 50, 51, 52, 53, 54, 55, 56, 57, 58, 59, 60, 90, 91, 92, 93, 94, 95, 107, 108, 109, 110, 111, 112, 96, 97, 98, 99, 100, 101, 102, 103, 104, 105, 106] rfl (by decide +kernel)
set_option maxRecDepth 20000 in
theorem gX7_op_X7_partsFit : GoodIn wsX7_op (wsV RX7 114 RX7 yX7_partsFit wsX7_partsFit) := goodIn_app (goodIn_of _ (by decide +kernel)) ggX7_op_X7_partsFit
set_option maxRecDepth 20000 in
theorem ggX7_op_X4_sortOf : GoodIn wsX7_op wsX4_sortOf := goodIn_r _ [64, 60, 96, 97, 98, 99, 100, 101, 102, 103, 104, 105, 106] rfl (by decide +kernel)
set_option maxRecDepth 20000 in
theorem gX7_op_X4_sortOf : GoodIn wsX7_op (wsV RX7 118 RX4 yX4_sortOf wsX4_sortOf) := goodIn_app (goodIn_of _ (by decide +kernel)) ggX7_op_X4_sortOf
set_option maxRecDepth 20000 in
theorem ggX7_op_X5_sizeOf : GoodIn wsX7_op wsX5_sizeOf := goodIn_r _ [69, 70, 113, 114, 115, 116, 117, 118] rfl (by decide +kernel)
set_option maxRecDepth 20000 in
theorem gX7_op_X5_sizeOf : GoodIn wsX7_op (wsV RX7 121 RX5 yX5_sizeOf wsX5_sizeOf) := goodIn_app (goodIn_of _ (by decide +kernel)) ggX7_op_X5_sizeOf
set_option maxRecDepth 20000 in
theorem ggX7_op_X5_size : GoodIn wsX7_op wsX5_size := goodIn_r _ [74, 75, 113, 114, 115, 116, 117, 118] rfl (by decide +kernel)
set_option maxRecDepth 20000 in
theorem gX7_op_X5_size : GoodIn wsX7_op (wsV RX7 124 RX5 yX5_size wsX5_size) := goodIn_app (goodIn_of _ (by decide +kernel)) ggX7_op_X5_size
set_option maxRecDepth 20000 in
theorem ggX7_op_X3_forget : GoodIn wsX7_op wsX3_forget := goodIn_r _ [80, 81, 119, 120, 121, 122, 123, 124, 125, 126, 127, 128, 129, 130, 131] rfl (by decide +kernel)
set_option maxRecDepth 20000 in
theorem gX7_op_X3_forget : GoodIn wsX7_op (wsV RX7 68 RX3 yX3_forget wsX3_forget) := goodIn_app (goodIn_of _ (by decide +kernel)) ggX7_op_X3_forget
set_option maxRecDepth 20000 in
theorem ggX7_op_X5_add : GoodIn wsX7_op wsX5_add := goodIn_r _ [85, 70, 86, 75, 87, 88, 89, 113, 114, 115, 116, 117, 118] rfl (by decide +kernel)
set_option maxRecDepth 20000 in
theorem gX7_op_X5_add : GoodIn wsX7_op (wsV RX7 125 RX5 yX5_add wsX5_add) := goodIn_app (goodIn_of _ (by decide +kernel)) ggX7_op_X5_add
theorem dX7_op_0 : decode cX7_op 0 = .ok (.aload_n 0, 1) := by decide +kernel
theorem dX7_op_1 : decode cX7_op 1 = .ok (.getfield 21, 3) := by decide +kernel
theorem dX7_op_4 : decode cX7_op 4 = .ok (.iload_n 1, 1) := by decide +kernel
theorem dX7_op_5 : decode cX7_op 5 = .ok (.invokevirtual 109, 3) := by decide +kernel
theorem dX7_op_8 : decode cX7_op 8 = .ok (.ifCond .eq 14, 3) := by decide +kernel
theorem dX7_op_11 : decode cX7_op 11 = .ok (.aload_n 0, 1) := by decide +kernel
theorem dX7_op_12 : decode cX7_op 12 = .ok (.iload_n 2, 1) := by decide +kernel
theorem dX7_op_13 : decode cX7_op 13 = .ok (.iload_n 3, 1) := by decide +kernel
theorem dX7_op_14 : decode cX7_op 14 = .ok (.iload 4, 2) := by decide +kernel
theorem dX7_op_16 : decode cX7_op 16 = .ok (.invokevirtual 110, 3) := by decide +kernel
theorem dX7_op_19 : decode cX7_op 19 = .ok (.ifCond .ne 6, 3) := by decide +kernel
theorem dX7_op_22 : decode cX7_op 22 = .ok (.bipush (-101), 2) := by decide +kernel
theorem dX7_op_24 : decode cX7_op 24 = .ok (.ireturn, 1) := by decide +kernel
theorem dX7_op_25 : decode cX7_op 25 = .ok (.aload_n 0, 1) := by decide +kernel
theorem dX7_op_26 : decode cX7_op 26 = .ok (.iload_n 1, 1) := by decide +kernel
theorem dX7_op_27 : decode cX7_op 27 = .ok (.iload_n 2, 1) := by decide +kernel
theorem dX7_op_28 : decode cX7_op 28 = .ok (.iload_n 3, 1) := by decide +kernel
theorem dX7_op_29 : decode cX7_op 29 = .ok (.iload 4, 2) := by decide +kernel
theorem dX7_op_31 : decode cX7_op 31 = .ok (.invokevirtual 114, 3) := by decide +kernel
theorem dX7_op_34 : decode cX7_op 34 = .ok (.ifCond .ne 6, 3) := by decide +kernel
theorem dX7_op_37 : decode cX7_op 37 = .ok (.bipush (-102), 2) := by decide +kernel
theorem dX7_op_39 : decode cX7_op 39 = .ok (.ireturn, 1) := by decide +kernel
theorem dX7_op_40 : decode cX7_op 40 = .ok (.aload_n 0, 1) := by decide +kernel
theorem dX7_op_41 : decode cX7_op 41 = .ok (.getfield 21, 3) := by decide +kernel
theorem dX7_op_44 : decode cX7_op 44 = .ok (.iload_n 1, 1) := by decide +kernel
theorem dX7_op_45 : decode cX7_op 45 = .ok (.invokevirtual 118, 3) := by decide +kernel
theorem dX7_op_48 : decode cX7_op 48 = .ok (.iconst 1, 1) := by decide +kernel
theorem dX7_op_49 : decode cX7_op 49 = .ok (.if_icmp .ne 6, 3) := by decide +kernel
theorem dX7_op_52 : decode cX7_op 52 = .ok (.bipush (-103), 2) := by decide +kernel
theorem dX7_op_54 : decode cX7_op 54 = .ok (.ireturn, 1) := by decide +kernel
theorem dX7_op_55 : decode cX7_op 55 = .ok (.aload_n 0, 1) := by decide +kernel
theorem dX7_op_56 : decode cX7_op 56 = .ok (.getfield 37, 3) := by decide +kernel
theorem dX7_op_59 : decode cX7_op 59 = .ok (.iload_n 1, 1) := by decide +kernel
theorem dX7_op_60 : decode cX7_op 60 = .ok (.invokevirtual 121, 3) := by decide +kernel
theorem dX7_op_63 : decode cX7_op 63 = .ok (.bipush 24, 2) := by decide +kernel
theorem dX7_op_65 : decode cX7_op 65 = .ok (.if_icmp .ge 16, 3) := by decide +kernel
theorem dX7_op_68 : decode cX7_op 68 = .ok (.aload_n 0, 1) := by decide +kernel
theorem dX7_op_69 : decode cX7_op 69 = .ok (.getfield 37, 3) := by decide +kernel
theorem dX7_op_72 : decode cX7_op 72 = .ok (.invokevirtual 124, 3) := by decide +kernel
theorem dX7_op_75 : decode cX7_op 75 = .ok (.sipush 160, 3) := by decide +kernel
theorem dX7_op_78 : decode cX7_op 78 = .ok (.if_icmp .lt 6, 3) := by decide +kernel
theorem dX7_op_81 : decode cX7_op 81 = .ok (.bipush (-104), 2) := by decide +kernel
theorem dX7_op_83 : decode cX7_op 83 = .ok (.ireturn, 1) := by decide +kernel
theorem dX7_op_84 : decode cX7_op 84 = .ok (.aload_n 0, 1) := by decide +kernel
theorem dX7_op_85 : decode cX7_op 85 = .ok (.getfield 46, 3) := by decide +kernel
theorem dX7_op_88 : decode cX7_op 88 = .ok (.invokevirtual 68, 3) := by decide +kernel
theorem dX7_op_91 : decode cX7_op 91 = .ok (.aload_n 0, 1) := by decide +kernel
theorem dX7_op_92 : decode cX7_op 92 = .ok (.getfield 37, 3) := by decide +kernel
theorem dX7_op_95 : decode cX7_op 95 = .ok (.iload_n 1, 1) := by decide +kernel
theorem dX7_op_96 : decode cX7_op 96 = .ok (.iload_n 2, 1) := by decide +kernel
theorem dX7_op_97 : decode cX7_op 97 = .ok (.iload_n 3, 1) := by decide +kernel
theorem dX7_op_98 : decode cX7_op 98 = .ok (.iload_n 2, 1) := by decide +kernel
theorem dX7_op_99 : decode cX7_op 99 = .ok (.iconst 4, 1) := by decide +kernel
theorem dX7_op_100 : decode cX7_op 100 = .ok (.if_icmp .ne 8, 3) := by decide +kernel
theorem dX7_op_103 : decode cX7_op 103 = .ok (.bipush 9, 2) := by decide +kernel
theorem dX7_op_105 : decode cX7_op 105 = .ok (.goto 5, 3) := by decide +kernel
theorem dX7_op_108 : decode cX7_op 108 = .ok (.iload 4, 2) := by decide +kernel
theorem dX7_op_110 : decode cX7_op 110 = .ok (.invokevirtual 125, 3) := by decide +kernel
theorem dX7_op_113 : decode cX7_op 113 = .ok (.ireturn, 1) := by decide +kernel
set_option maxRecDepth 20000 in
theorem ggX7_root_X4_knows : GoodIn wsX7_root wsX4_knows := goodIn_r _ [7, 8, 39, 40, 41, 42, 43, 44, 45, 46, 47, 48, 49] rfl (by decide +kernel)
set_option maxRecDepth 20000 in
theorem gX7_root_X4_knows : GoodIn wsX7_root (wsV RX7 109 RX4 yX4_knows wsX4_knows) := goodIn_app (goodIn_of _ (by decide +kernel)) ggX7_root_X4_knows
set_option maxRecDepth 20000 in
theorem ggX7_root_X4_sortOf : GoodIn wsX7_root wsX4_sortOf := goodIn_r _ [12, 13, 39, 40, 41, 42, 43, 44, 45, 46, 47, 48, 49] rfl (by decide +kernel)
set_option maxRecDepth 20000 in
theorem gX7_root_X4_sortOf : GoodIn wsX7_root (wsV RX7 118 RX4 yX4_sortOf wsX4_sortOf) := goodIn_app (goodIn_of _ (by decide +kernel)) ggX7_root_X4_sortOf
set_option maxRecDepth 20000 in
theorem ggX7_root_X4_isRoot : GoodIn wsX7_root wsX4_isRoot := goodIn_r _ [17, 18, 19, 20, 21, 22, 39, 40, 41, 42, 43, 44, 45, 46, 47, 48, 49] rfl (by decide +kernel)
set_option maxRecDepth 20000 in
theorem gX7_root_X4_isRoot : GoodIn wsX7_root (wsV RX7 128 RX4 yX4_isRoot wsX4_isRoot) := goodIn_app (goodIn_of _ (by decide +kernel)) ggX7_root_X4_isRoot
set_option maxRecDepth 20000 in
theorem ggX7_root_X3_forget : GoodIn wsX7_root wsX3_forget := goodIn_r _ [27, 28, 50, 51, 52, 53, 54, 55, 56, 57, 58, 59, 60, 61, 62] rfl (by decide +kernel)
set_option maxRecDepth 20000 in
theorem gX7_root_X3_forget : GoodIn wsX7_root (wsV RX7 68 RX3 yX3_forget wsX3_forget) := goodIn_app (goodIn_of _ (by decide +kernel)) ggX7_root_X3_forget
set_option maxRecDepth 20000 in
theorem ggX7_root_X4_turnRoot : GoodIn wsX7_root wsX4_turnRoot := goodIn_r _ [32, 18, 39, 40, 41, 42, 43, 44, 45, 46, 47, 48, 49] rfl (by decide +kernel)
set_option maxRecDepth 20000 in
theorem gX7_root_X4_turnRoot : GoodIn wsX7_root (wsV RX7 131 RX4 yX4_turnRoot wsX4_turnRoot) := goodIn_app (goodIn_of _ (by decide +kernel)) ggX7_root_X4_turnRoot
theorem dX7_root_0 : decode cX7_root 0 = .ok (.aload_n 0, 1) := by decide +kernel
theorem dX7_root_1 : decode cX7_root 1 = .ok (.getfield 21, 3) := by decide +kernel
theorem dX7_root_4 : decode cX7_root 4 = .ok (.iload_n 1, 1) := by decide +kernel
theorem dX7_root_5 : decode cX7_root 5 = .ok (.invokevirtual 109, 3) := by decide +kernel
theorem dX7_root_8 : decode cX7_root 8 = .ok (.ifCond .ne 6, 3) := by decide +kernel
theorem dX7_root_11 : decode cX7_root 11 = .ok (.bipush (-101), 2) := by decide +kernel
theorem dX7_root_13 : decode cX7_root 13 = .ok (.ireturn, 1) := by decide +kernel
theorem dX7_root_14 : decode cX7_root 14 = .ok (.aload_n 0, 1) := by decide +kernel
theorem dX7_root_15 : decode cX7_root 15 = .ok (.getfield 21, 3) := by decide +kernel
theorem dX7_root_18 : decode cX7_root 18 = .ok (.iload_n 1, 1) := by decide +kernel
theorem dX7_root_19 : decode cX7_root 19 = .ok (.invokevirtual 118, 3) := by decide +kernel
theorem dX7_root_22 : decode cX7_root 22 = .ok (.istore_n 3, 1) := by decide +kernel
theorem dX7_root_23 : decode cX7_root 23 = .ok (.iload_n 3, 1) := by decide +kernel
theorem dX7_root_24 : decode cX7_root 24 = .ok (.iconst 1, 1) := by decide +kernel
theorem dX7_root_25 : decode cX7_root 25 = .ok (.if_icmp .eq 8, 3) := by decide +kernel
theorem dX7_root_28 : decode cX7_root 28 = .ok (.iload_n 3, 1) := by decide +kernel
theorem dX7_root_29 : decode cX7_root 29 = .ok (.iconst 4, 1) := by decide +kernel
theorem dX7_root_30 : decode cX7_root 30 = .ok (.if_icmp .ne 6, 3) := by decide +kernel
theorem dX7_root_33 : decode cX7_root 33 = .ok (.bipush (-102), 2) := by decide +kernel
theorem dX7_root_35 : decode cX7_root 35 = .ok (.ireturn, 1) := by decide +kernel
theorem dX7_root_36 : decode cX7_root 36 = .ok (.aload_n 0, 1) := by decide +kernel
theorem dX7_root_37 : decode cX7_root 37 = .ok (.getfield 21, 3) := by decide +kernel
theorem dX7_root_40 : decode cX7_root 40 = .ok (.iload_n 1, 1) := by decide +kernel
theorem dX7_root_41 : decode cX7_root 41 = .ok (.invokevirtual 128, 3) := by decide +kernel
theorem dX7_root_44 : decode cX7_root 44 = .ok (.iload_n 2, 1) := by decide +kernel
theorem dX7_root_45 : decode cX7_root 45 = .ok (.if_icmp .ne 5, 3) := by decide +kernel
theorem dX7_root_48 : decode cX7_root 48 = .ok (.iconst 0, 1) := by decide +kernel
theorem dX7_root_49 : decode cX7_root 49 = .ok (.ireturn, 1) := by decide +kernel
theorem dX7_root_50 : decode cX7_root 50 = .ok (.aload_n 0, 1) := by decide +kernel
theorem dX7_root_51 : decode cX7_root 51 = .ok (.getfield 46, 3) := by decide +kernel
theorem dX7_root_54 : decode cX7_root 54 = .ok (.invokevirtual 68, 3) := by decide +kernel
theorem dX7_root_57 : decode cX7_root 57 = .ok (.aload_n 0, 1) := by decide +kernel
theorem dX7_root_58 : decode cX7_root 58 = .ok (.getfield 21, 3) := by decide +kernel
theorem dX7_root_61 : decode cX7_root 61 = .ok (.iload_n 1, 1) := by decide +kernel
theorem dX7_root_62 : decode cX7_root 62 = .ok (.invokevirtual 131, 3) := by decide +kernel
theorem dX7_root_65 : decode cX7_root 65 = .ok (.iconst 1, 1) := by decide +kernel
theorem dX7_root_66 : decode cX7_root 66 = .ok (.ireturn, 1) := by decide +kernel
set_option maxRecDepth 20000 in
theorem ggX7_count_X3_refresh : GoodIn wsX7_count wsX3_refresh := goodIn_r _ [9, 10, 11, 12, 13, 8, 14, 15, 16, 17, 18, 19, 20, 21, 22, 23, 24, 25, 26, 27, 28, 29, 30, 31, 32, 33, 34, 35, 36, 37, 38, 39, 40, 41, 42, 43, 44, 45, 46, 47, 48, 49, 50, 51, 52, 53, 54, 55, 56, 57, 58, 59, 60, 61, 62, 63, 64, 65, 66, 67, 68, 69, 70, 71, 72, 73, 74, 75, 76, 77, 78, 79, 80, 81, 82, 83, 84, 85, 86, 87, 88, 89, 90, 91, 92, 93, 94, 95, 96, 97, 98, 99, 100, 101, 102, 103, 104, 105, 106, 107, 108, 109, 110, 111, 112, 113, 114, 115, 116, 117, 118, 119, 120, 121, 122, 123, 124, 125, 126, 127, 128, 129, 130, 131, 132, 133, 134, 135, 136, 137, 138, 139, 140, 141, 142, 143, 144, 145, 146, 147, 148, 149, 150, 151, 152, 153, 154, 155, 156, 157, 158, 159, 160, 161, 162, 163, 164, 165, 166, 167, 168, 169, 170, 171, 172, 173, 174, 175, 176, 177, 178, 179, 180, 181, 182, 183, 184, 185, 246, 247, 248, 249, 250, 251, 252, 253, 254, 255, 256, 257, 258, 259, 260, 261, 262, 263, 264, 265, 266, 267, 268, 269, 270, 271, 272, 273, 274, 275, 276, 277, 278, 279, 280, 281, 282, 283, 284, 285] rfl (by decide +kernel)
set_option maxRecDepth 20000 in
theorem gX7_count_X3_refresh : GoodIn wsX7_count (wsV RX7 134 RX3 yX3_refresh wsX3_refresh) := goodIn_app (goodIn_of _ (by decide +kernel)) ggX7_count_X3_refresh
set_option maxRecDepth 20000 in
theorem ggX7_count_X6_size : GoodIn wsX7_count wsX6_size := goodIn_r _ [135, 136, 276, 277, 278, 279, 280, 281] rfl (by decide +kernel)
set_option maxRecDepth 20000 in
theorem gX7_count_X6_size : GoodIn wsX7_count (wsV RX7 64 RX6 yX6_size wsX6_size) := goodIn_app (goodIn_of _ (by decide +kernel)) ggX7_count_X6_size
set_option maxRecDepth 20000 in
theorem ggX7_count_X4_size : GoodIn wsX7_count wsX4_size := goodIn_r _ [51, 52, 259, 260, 261, 262, 263, 264, 265, 266, 267, 268, 269] rfl (by decide +kernel)
set_option maxRecDepth 20000 in
theorem gX7_count_X4_size : GoodIn wsX7_count (wsV RX7 101 RX4 yX4_size wsX4_size) := goodIn_app (goodIn_of _ (by decide +kernel)) ggX7_count_X4_size
set_option maxRecDepth 20000 in
theorem ggX7_count_X5_size : GoodIn wsX7_count wsX5_size := goodIn_r _ [191, 192, 270, 271, 272, 273, 274, 275] rfl (by decide +kernel)
set_option maxRecDepth 20000 in
theorem gX7_count_X5_size : GoodIn wsX7_count (wsV RX7 124 RX5 yX5_size wsX5_size) := goodIn_app (goodIn_of _ (by decide +kernel)) ggX7_count_X5_size
set_option maxRecDepth 20000 in
theorem ggX7_count_X4_roots : GoodIn wsX7_count wsX4_roots := goodIn_r _ [26, 27, 259, 260, 261, 262, 263, 264, 265, 266, 267, 268, 269] rfl (by decide +kernel)
set_option maxRecDepth 20000 in
theorem gX7_count_X4_roots : GoodIn wsX7_count (wsV RX7 137 RX4 yX4_roots wsX4_roots) := goodIn_app (goodIn_of _ (by decide +kernel)) ggX7_count_X4_roots
set_option maxRecDepth 20000 in
theorem ggX7_count_J13_bitCount_95d88 : GoodIn wsX7_count wsJ13_bitCount_95d88 := goodIn_r _ [39, 40, 41, 42] rfl (by decide +kernel)
set_option maxRecDepth 20000 in
theorem gX7_count_J13_bitCount_95d88 : GoodIn wsX7_count (va_wsS RX7 141 yJ13_bitCount_95d88 wsJ13_bitCount_95d88) := goodIn_app (goodIn_of _ (by decide +kernel)) ggX7_count_J13_bitCount_95d88
set_option maxRecDepth 20000 in
theorem ggX7_count_X3_reached : GoodIn wsX7_count wsX3_reached := goodIn_r _ [198, 16, 246, 247, 248, 249, 250, 251, 252, 253, 254, 255, 256, 257, 258] rfl (by decide +kernel)
set_option maxRecDepth 20000 in
theorem gX7_count_X3_reached : GoodIn wsX7_count (wsV RX7 147 RX3 yX3_reached wsX3_reached) := goodIn_app (goodIn_of _ (by decide +kernel)) ggX7_count_X3_reached
set_option maxRecDepth 20000 in
theorem ggX7_count_X3_madeClasses : GoodIn wsX7_count wsX3_madeClasses := goodIn_r _ [202, 17, 246, 247, 248, 249, 250, 251, 252, 253, 254, 255, 256, 257, 258] rfl (by decide +kernel)
set_option maxRecDepth 20000 in
theorem gX7_count_X3_madeClasses : GoodIn wsX7_count (wsV RX7 150 RX3 yX3_madeClasses wsX3_madeClasses) := goodIn_app (goodIn_of _ (by decide +kernel)) ggX7_count_X3_madeClasses
set_option maxRecDepth 20000 in
theorem ggX7_count_X3_begunTypes : GoodIn wsX7_count wsX3_begunTypes := goodIn_r _ [206, 18, 246, 247, 248, 249, 250, 251, 252, 253, 254, 255, 256, 257, 258] rfl (by decide +kernel)
set_option maxRecDepth 20000 in
theorem gX7_count_X3_begunTypes : GoodIn wsX7_count (wsV RX7 153 RX3 yX3_begunTypes wsX3_begunTypes) := goodIn_app (goodIn_of _ (by decide +kernel)) ggX7_count_X3_begunTypes
set_option maxRecDepth 20000 in
theorem ggX7_count_X3_countPairs : GoodIn wsX7_count wsX3_countPairs := goodIn_r _ [210, 47, 20, 211, 189, 190, 60, 191, 192, 36, 37, 38, 39, 40, 41, 42, 246, 247, 248, 249, 250, 251, 252, 253, 254, 255, 256, 257, 258, 270, 271, 272, 273, 274, 275] rfl (by decide +kernel)
set_option maxRecDepth 20000 in
theorem gX7_count_X3_countPairs : GoodIn wsX7_count (wsV RX7 156 RX3 yX3_countPairs wsX3_countPairs) := goodIn_app (goodIn_of _ (by decide +kernel)) ggX7_count_X3_countPairs
set_option maxRecDepth 20000 in
theorem ggX7_count_X3_countFaults : GoodIn wsX7_count wsX3_countFaults := goodIn_r _ [215, 15, 16, 47, 48, 49, 50, 25, 51, 52, 53, 54, 55, 56, 57, 58, 59, 60, 61, 62, 63, 64, 65, 66, 67, 216, 217, 218, 8, 219, 220, 221, 222, 223, 72, 73, 74, 75, 76, 77, 78, 79, 80, 81, 82, 83, 84, 85, 86, 87, 224, 225, 226, 227, 95, 17, 228, 229, 230, 231, 132, 133, 134, 105, 135, 136, 137, 138, 139, 140, 112, 141, 142, 143, 144, 145, 146, 147, 148, 149, 150, 151, 152, 153, 154, 155, 156, 157, 158, 246, 247, 248, 249, 250, 251, 252, 253, 254, 255, 256, 257, 258, 259, 260, 261, 262, 263, 264, 265, 266, 267, 268, 269, 270, 271, 272, 273, 274, 275, 276, 277, 278, 279, 280, 281, 282, 283, 284, 285] rfl (by decide +kernel)
set_option maxRecDepth 20000 in
theorem gX7_count_X3_countFaults : GoodIn wsX7_count (wsV RX7 159 RX3 yX3_countFaults wsX3_countFaults) := goodIn_app (goodIn_of _ (by decide +kernel)) ggX7_count_X3_countFaults
set_option maxRecDepth 20000 in
theorem ggX7_count_X3_countRecursive : GoodIn wsX7_count wsX3_countRecursive := goodIn_r _ [235, 15, 48, 49, 50, 25, 51, 52, 236, 237, 238, 8, 239, 181, 53, 54, 55, 56, 246, 247, 248, 249, 250, 251, 252, 253, 254, 255, 256, 257, 258, 259, 260, 261, 262, 263, 264, 265, 266, 267, 268, 269] rfl (by decide +kernel)
set_option maxRecDepth 20000 in
theorem gX7_count_X3_countRecursive : GoodIn wsX7_count (wsV RX7 162 RX3 yX3_countRecursive wsX3_countRecursive) := goodIn_app (goodIn_of _ (by decide +kernel)) ggX7_count_X3_countRecursive
theorem dX7_count_0 : decode cX7_count 0 = .ok (.iload_n 1, 1) := by decide +kernel
theorem dX7_count_1 : decode cX7_count 1 = .ok (.ifCond .lt 9, 3) := by decide +kernel
theorem dX7_count_4 : decode cX7_count 4 = .ok (.iload_n 1, 1) := by decide +kernel
theorem dX7_count_5 : decode cX7_count 5 = .ok (.bipush 9, 2) := by decide +kernel
theorem dX7_count_7 : decode cX7_count 7 = .ok (.if_icmp .le 6, 3) := by decide +kernel
theorem dX7_count_10 : decode cX7_count 10 = .ok (.bipush (-102), 2) := by decide +kernel
theorem dX7_count_12 : decode cX7_count 12 = .ok (.ireturn, 1) := by decide +kernel
theorem dX7_count_13 : decode cX7_count 13 = .ok (.iload_n 1, 1) := by decide +kernel
theorem dX7_count_14 : decode cX7_count 14 = .ok (.iconst 3, 1) := by decide +kernel
theorem dX7_count_15 : decode cX7_count 15 = .ok (.if_icmp .le 10, 3) := by decide +kernel
theorem dX7_count_18 : decode cX7_count 18 = .ok (.aload_n 0, 1) := by decide +kernel
theorem dX7_count_19 : decode cX7_count 19 = .ok (.getfield 46, 3) := by decide +kernel
theorem dX7_count_22 : decode cX7_count 22 = .ok (.invokevirtual 134, 3) := by decide +kernel
theorem dX7_count_25 : decode cX7_count 25 = .ok (.iload_n 1, 1) := by decide +kernel
theorem dX7_count_26 : decode cX7_count 26 = .ok (.tableswitch 134 0 8 #[50, 58, 66, 74, 85, 96, 107, 118, 126], 50) := by decide +kernel
theorem dX7_count_76 : decode cX7_count 76 = .ok (.aload_n 0, 1) := by decide +kernel
theorem dX7_count_77 : decode cX7_count 77 = .ok (.getfield 10, 3) := by decide +kernel
theorem dX7_count_80 : decode cX7_count 80 = .ok (.invokevirtual 64, 3) := by decide +kernel
theorem dX7_count_83 : decode cX7_count 83 = .ok (.ireturn, 1) := by decide +kernel
theorem dX7_count_84 : decode cX7_count 84 = .ok (.aload_n 0, 1) := by decide +kernel
theorem dX7_count_85 : decode cX7_count 85 = .ok (.getfield 21, 3) := by decide +kernel
theorem dX7_count_88 : decode cX7_count 88 = .ok (.invokevirtual 101, 3) := by decide +kernel
theorem dX7_count_91 : decode cX7_count 91 = .ok (.ireturn, 1) := by decide +kernel
theorem dX7_count_92 : decode cX7_count 92 = .ok (.aload_n 0, 1) := by decide +kernel
theorem dX7_count_93 : decode cX7_count 93 = .ok (.getfield 37, 3) := by decide +kernel
theorem dX7_count_96 : decode cX7_count 96 = .ok (.invokevirtual 124, 3) := by decide +kernel
theorem dX7_count_99 : decode cX7_count 99 = .ok (.ireturn, 1) := by decide +kernel
theorem dX7_count_100 : decode cX7_count 100 = .ok (.aload_n 0, 1) := by decide +kernel
theorem dX7_count_101 : decode cX7_count 101 = .ok (.getfield 21, 3) := by decide +kernel
theorem dX7_count_104 : decode cX7_count 104 = .ok (.invokevirtual 137, 3) := by decide +kernel
theorem dX7_count_107 : decode cX7_count 107 = .ok (.invokestatic 141, 3) := by decide +kernel
theorem dX7_count_110 : decode cX7_count 110 = .ok (.ireturn, 1) := by decide +kernel
theorem dX7_count_111 : decode cX7_count 111 = .ok (.aload_n 0, 1) := by decide +kernel
theorem dX7_count_112 : decode cX7_count 112 = .ok (.getfield 46, 3) := by decide +kernel
theorem dX7_count_115 : decode cX7_count 115 = .ok (.invokevirtual 147, 3) := by decide +kernel
theorem dX7_count_118 : decode cX7_count 118 = .ok (.invokestatic 141, 3) := by decide +kernel
theorem dX7_count_121 : decode cX7_count 121 = .ok (.ireturn, 1) := by decide +kernel
theorem dX7_count_122 : decode cX7_count 122 = .ok (.aload_n 0, 1) := by decide +kernel
theorem dX7_count_123 : decode cX7_count 123 = .ok (.getfield 46, 3) := by decide +kernel
theorem dX7_count_126 : decode cX7_count 126 = .ok (.invokevirtual 150, 3) := by decide +kernel
theorem dX7_count_129 : decode cX7_count 129 = .ok (.invokestatic 141, 3) := by decide +kernel
theorem dX7_count_132 : decode cX7_count 132 = .ok (.ireturn, 1) := by decide +kernel
theorem dX7_count_133 : decode cX7_count 133 = .ok (.aload_n 0, 1) := by decide +kernel
theorem dX7_count_134 : decode cX7_count 134 = .ok (.getfield 46, 3) := by decide +kernel
theorem dX7_count_137 : decode cX7_count 137 = .ok (.invokevirtual 153, 3) := by decide +kernel
theorem dX7_count_140 : decode cX7_count 140 = .ok (.invokestatic 141, 3) := by decide +kernel
theorem dX7_count_143 : decode cX7_count 143 = .ok (.ireturn, 1) := by decide +kernel
theorem dX7_count_144 : decode cX7_count 144 = .ok (.aload_n 0, 1) := by decide +kernel
theorem dX7_count_145 : decode cX7_count 145 = .ok (.getfield 46, 3) := by decide +kernel
theorem dX7_count_148 : decode cX7_count 148 = .ok (.invokevirtual 156, 3) := by decide +kernel
theorem dX7_count_151 : decode cX7_count 151 = .ok (.ireturn, 1) := by decide +kernel
theorem dX7_count_152 : decode cX7_count 152 = .ok (.aload_n 0, 1) := by decide +kernel
theorem dX7_count_153 : decode cX7_count 153 = .ok (.getfield 46, 3) := by decide +kernel
theorem dX7_count_156 : decode cX7_count 156 = .ok (.invokevirtual 159, 3) := by decide +kernel
theorem dX7_count_159 : decode cX7_count 159 = .ok (.ireturn, 1) := by decide +kernel
theorem dX7_count_160 : decode cX7_count 160 = .ok (.aload_n 0, 1) := by decide +kernel
theorem dX7_count_161 : decode cX7_count 161 = .ok (.getfield 46, 3) := by decide +kernel
theorem dX7_count_164 : decode cX7_count 164 = .ok (.invokevirtual 162, 3) := by decide +kernel
theorem dX7_count_167 : decode cX7_count 167 = .ok (.ireturn, 1) := by decide +kernel
set_option maxRecDepth 20000 in
theorem ggX7_under_X6_knows : GoodIn wsX7_under wsX6_knows := goodIn_r _ [6, 7, 23, 24, 25, 26, 27, 28] rfl (by decide +kernel)
set_option maxRecDepth 20000 in
theorem gX7_under_X6_knows : GoodIn wsX7_under (wsV RX7 57 RX6 yX6_knows wsX6_knows) := goodIn_app (goodIn_of _ (by decide +kernel)) ggX7_under_X6_knows
set_option maxRecDepth 20000 in
theorem ggX7_under_X6_isUnder : GoodIn wsX7_under wsX6_isUnder := goodIn_r _ [11, 12, 13, 14, 15, 16, 23, 24, 25, 26, 27, 28] rfl (by decide +kernel)
set_option maxRecDepth 20000 in
theorem gX7_under_X6_isUnder : GoodIn wsX7_under (wsV RX7 165 RX6 yX6_isUnder wsX6_isUnder) := goodIn_app (goodIn_of _ (by decide +kernel)) ggX7_under_X6_isUnder
theorem dX7_under_0 : decode cX7_under 0 = .ok (.aload_n 0, 1) := by decide +kernel
theorem dX7_under_1 : decode cX7_under 1 = .ok (.getfield 10, 3) := by decide +kernel
theorem dX7_under_4 : decode cX7_under 4 = .ok (.iload_n 1, 1) := by decide +kernel
theorem dX7_under_5 : decode cX7_under 5 = .ok (.invokevirtual 57, 3) := by decide +kernel
theorem dX7_under_8 : decode cX7_under 8 = .ok (.ifCond .eq 14, 3) := by decide +kernel
theorem dX7_under_11 : decode cX7_under 11 = .ok (.aload_n 0, 1) := by decide +kernel
theorem dX7_under_12 : decode cX7_under 12 = .ok (.getfield 10, 3) := by decide +kernel
theorem dX7_under_15 : decode cX7_under 15 = .ok (.iload_n 2, 1) := by decide +kernel
theorem dX7_under_16 : decode cX7_under 16 = .ok (.invokevirtual 57, 3) := by decide +kernel
theorem dX7_under_19 : decode cX7_under 19 = .ok (.ifCond .ne 6, 3) := by decide +kernel
theorem dX7_under_22 : decode cX7_under 22 = .ok (.bipush (-101), 2) := by decide +kernel
theorem dX7_under_24 : decode cX7_under 24 = .ok (.ireturn, 1) := by decide +kernel
theorem dX7_under_25 : decode cX7_under 25 = .ok (.aload_n 0, 1) := by decide +kernel
theorem dX7_under_26 : decode cX7_under 26 = .ok (.getfield 10, 3) := by decide +kernel
theorem dX7_under_29 : decode cX7_under 29 = .ok (.iload_n 1, 1) := by decide +kernel
theorem dX7_under_30 : decode cX7_under 30 = .ok (.iload_n 2, 1) := by decide +kernel
theorem dX7_under_31 : decode cX7_under 31 = .ok (.invokevirtual 165, 3) := by decide +kernel
theorem dX7_under_34 : decode cX7_under 34 = .ok (.ifCond .eq 7, 3) := by decide +kernel
theorem dX7_under_37 : decode cX7_under 37 = .ok (.iconst 1, 1) := by decide +kernel
theorem dX7_under_38 : decode cX7_under 38 = .ok (.goto 4, 3) := by decide +kernel
theorem dX7_under_41 : decode cX7_under 41 = .ok (.iconst 0, 1) := by decide +kernel
theorem dX7_under_42 : decode cX7_under 42 = .ok (.ireturn, 1) := by decide +kernel
set_option maxRecDepth 20000 in
theorem ggX7_found_X6_knows : GoodIn wsX7_found wsX6_knows := goodIn_r _ [7, 8, 25, 26, 27, 28, 29, 30] rfl (by decide +kernel)
set_option maxRecDepth 20000 in
theorem gX7_found_X6_knows : GoodIn wsX7_found (wsV RX7 57 RX6 yX6_knows wsX6_knows) := goodIn_app (goodIn_of _ (by decide +kernel)) ggX7_found_X6_knows
set_option maxRecDepth 20000 in
theorem ggX7_found_X7_isName : GoodIn wsX7_found wsX7_isName := goodIn_r _ [12] rfl (by decide +kernel)
set_option maxRecDepth 20000 in
theorem gX7_found_X7_isName : GoodIn wsX7_found (va_wsS RX7 89 yX7_isName wsX7_isName) := goodIn_app (goodIn_of _ (by decide +kernel)) ggX7_found_X7_isName
set_option maxRecDepth 20000 in
theorem ggX7_found_X1_find : GoodIn wsX7_found wsX1_find := goodIn_r _ [17, 18, 31, 32, 33, 34] rfl (by decide +kernel)
set_option maxRecDepth 20000 in
theorem gX7_found_X1_find : GoodIn wsX7_found (wsV RX7 168 RX1 yX1_find wsX1_find) := goodIn_app (goodIn_of _ (by decide +kernel)) ggX7_found_X1_find
theorem dX7_found_0 : decode cX7_found 0 = .ok (.aload_n 0, 1) := by decide +kernel
theorem dX7_found_1 : decode cX7_found 1 = .ok (.getfield 10, 3) := by decide +kernel
theorem dX7_found_4 : decode cX7_found 4 = .ok (.iload_n 1, 1) := by decide +kernel
theorem dX7_found_5 : decode cX7_found 5 = .ok (.invokevirtual 57, 3) := by decide +kernel
theorem dX7_found_8 : decode cX7_found 8 = .ok (.ifCond .ne 6, 3) := by decide +kernel
theorem dX7_found_11 : decode cX7_found 11 = .ok (.bipush (-101), 2) := by decide +kernel
theorem dX7_found_13 : decode cX7_found 13 = .ok (.ireturn, 1) := by decide +kernel
theorem dX7_found_14 : decode cX7_found 14 = .ok (.iload_n 2, 1) := by decide +kernel
theorem dX7_found_15 : decode cX7_found 15 = .ok (.invokestatic 89, 3) := by decide +kernel
theorem dX7_found_18 : decode cX7_found 18 = .ok (.ifCond .ne 6, 3) := by decide +kernel
theorem dX7_found_21 : decode cX7_found 21 = .ok (.bipush (-102), 2) := by decide +kernel
theorem dX7_found_23 : decode cX7_found 23 = .ok (.ireturn, 1) := by decide +kernel
theorem dX7_found_24 : decode cX7_found 24 = .ok (.aload_n 0, 1) := by decide +kernel
theorem dX7_found_25 : decode cX7_found 25 = .ok (.getfield 30, 3) := by decide +kernel
theorem dX7_found_28 : decode cX7_found 28 = .ok (.iload_n 1, 1) := by decide +kernel
theorem dX7_found_29 : decode cX7_found 29 = .ok (.iload_n 2, 1) := by decide +kernel
theorem dX7_found_30 : decode cX7_found 30 = .ok (.invokevirtual 168, 3) := by decide +kernel
theorem dX7_found_33 : decode cX7_found 33 = .ok (.ireturn, 1) := by decide +kernel
set_option maxRecDepth 20000 in
theorem ggX7_chosen_X6_knows : GoodIn wsX7_chosen wsX6_knows := goodIn_r _ [7, 8, 42, 43, 44, 45, 46, 47] rfl (by decide +kernel)
set_option maxRecDepth 20000 in
theorem gX7_chosen_X6_knows : GoodIn wsX7_chosen (wsV RX7 57 RX6 yX6_knows wsX6_knows) := goodIn_app (goodIn_of _ (by decide +kernel)) ggX7_chosen_X6_knows
set_option maxRecDepth 20000 in
theorem ggX7_chosen_X7_isName : GoodIn wsX7_chosen wsX7_isName := goodIn_r _ [12] rfl (by decide +kernel)
set_option maxRecDepth 20000 in
theorem gX7_chosen_X7_isName : GoodIn wsX7_chosen (va_wsS RX7 89 yX7_isName wsX7_isName) := goodIn_app (goodIn_of _ (by decide +kernel)) ggX7_chosen_X7_isName
set_option maxRecDepth 20000 in
theorem ggX7_chosen_X6_isUnder : GoodIn wsX7_chosen wsX6_isUnder := goodIn_r _ [16, 17, 18, 19, 20, 21, 42, 43, 44, 45, 46, 47] rfl (by decide +kernel)
set_option maxRecDepth 20000 in
theorem gX7_chosen_X6_isUnder : GoodIn wsX7_chosen (wsV RX7 165 RX6 yX6_isUnder wsX6_isUnder) := goodIn_app (goodIn_of _ (by decide +kernel)) ggX7_chosen_X6_isUnder
set_option maxRecDepth 20000 in
theorem ggX7_chosen_X1_choose : GoodIn wsX7_chosen wsX1_choose := goodIn_r _ [26, 27, 28, 29, 30, 31, 32, 33, 34, 35, 48, 49, 50, 51, 52, 53, 54, 55, 56, 57, 58, 59, 60, 61, 62] rfl (by decide +kernel)
set_option maxRecDepth 20000 in
theorem gX7_chosen_X1_choose : GoodIn wsX7_chosen (wsV RX7 171 RX1 yX1_choose wsX1_choose) := goodIn_app (goodIn_of _ (by decide +kernel)) ggX7_chosen_X1_choose
theorem dX7_chosen_0 : decode cX7_chosen 0 = .ok (.aload_n 0, 1) := by decide +kernel
theorem dX7_chosen_1 : decode cX7_chosen 1 = .ok (.getfield 10, 3) := by decide +kernel
theorem dX7_chosen_4 : decode cX7_chosen 4 = .ok (.iload_n 1, 1) := by decide +kernel
theorem dX7_chosen_5 : decode cX7_chosen 5 = .ok (.invokevirtual 57, 3) := by decide +kernel
theorem dX7_chosen_8 : decode cX7_chosen 8 = .ok (.ifCond .eq 14, 3) := by decide +kernel
theorem dX7_chosen_11 : decode cX7_chosen 11 = .ok (.aload_n 0, 1) := by decide +kernel
theorem dX7_chosen_12 : decode cX7_chosen 12 = .ok (.getfield 10, 3) := by decide +kernel
theorem dX7_chosen_15 : decode cX7_chosen 15 = .ok (.iload_n 2, 1) := by decide +kernel
theorem dX7_chosen_16 : decode cX7_chosen 16 = .ok (.invokevirtual 57, 3) := by decide +kernel
theorem dX7_chosen_19 : decode cX7_chosen 19 = .ok (.ifCond .ne 6, 3) := by decide +kernel
theorem dX7_chosen_22 : decode cX7_chosen 22 = .ok (.bipush (-101), 2) := by decide +kernel
theorem dX7_chosen_24 : decode cX7_chosen 24 = .ok (.ireturn, 1) := by decide +kernel
theorem dX7_chosen_25 : decode cX7_chosen 25 = .ok (.iload_n 3, 1) := by decide +kernel
theorem dX7_chosen_26 : decode cX7_chosen 26 = .ok (.invokestatic 89, 3) := by decide +kernel
theorem dX7_chosen_29 : decode cX7_chosen 29 = .ok (.ifCond .eq 15, 3) := by decide +kernel
theorem dX7_chosen_32 : decode cX7_chosen 32 = .ok (.aload_n 0, 1) := by decide +kernel
theorem dX7_chosen_33 : decode cX7_chosen 33 = .ok (.getfield 10, 3) := by decide +kernel
theorem dX7_chosen_36 : decode cX7_chosen 36 = .ok (.iload_n 1, 1) := by decide +kernel
theorem dX7_chosen_37 : decode cX7_chosen 37 = .ok (.iload_n 2, 1) := by decide +kernel
theorem dX7_chosen_38 : decode cX7_chosen 38 = .ok (.invokevirtual 165, 3) := by decide +kernel
theorem dX7_chosen_41 : decode cX7_chosen 41 = .ok (.ifCond .ne 6, 3) := by decide +kernel
theorem dX7_chosen_44 : decode cX7_chosen 44 = .ok (.bipush (-102), 2) := by decide +kernel
theorem dX7_chosen_46 : decode cX7_chosen 46 = .ok (.ireturn, 1) := by decide +kernel
theorem dX7_chosen_47 : decode cX7_chosen 47 = .ok (.aload_n 0, 1) := by decide +kernel
theorem dX7_chosen_48 : decode cX7_chosen 48 = .ok (.getfield 30, 3) := by decide +kernel
theorem dX7_chosen_51 : decode cX7_chosen 51 = .ok (.iload_n 1, 1) := by decide +kernel
theorem dX7_chosen_52 : decode cX7_chosen 52 = .ok (.iload_n 2, 1) := by decide +kernel
theorem dX7_chosen_53 : decode cX7_chosen 53 = .ok (.iload_n 3, 1) := by decide +kernel
theorem dX7_chosen_54 : decode cX7_chosen 54 = .ok (.invokevirtual 171, 3) := by decide +kernel
theorem dX7_chosen_57 : decode cX7_chosen 57 = .ok (.ireturn, 1) := by decide +kernel
set_option maxRecDepth 20000 in
theorem ggX7_about_X4_knows : GoodIn wsX7_about wsX4_knows := goodIn_r _ [7, 8, 224, 225, 226, 227, 228, 229, 230, 231, 232, 233, 234] rfl (by decide +kernel)
set_option maxRecDepth 20000 in
theorem gX7_about_X4_knows : GoodIn wsX7_about (wsV RX7 109 RX4 yX4_knows wsX4_knows) := goodIn_app (goodIn_of _ (by decide +kernel)) ggX7_about_X4_knows
set_option maxRecDepth 20000 in
theorem ggX7_about_X3_refresh : GoodIn wsX7_about wsX3_refresh := goodIn_r _ [13, 14, 15, 16, 17, 12, 18, 19, 20, 21, 22, 23, 24, 25, 26, 27, 28, 6, 29, 30, 31, 32, 33, 34, 35, 36, 37, 38, 39, 40, 41, 42, 43, 44, 45, 46, 47, 48, 49, 50, 51, 52, 53, 54, 8, 55, 56, 57, 58, 59, 60, 61, 62, 63, 64, 65, 66, 67, 68, 69, 70, 71, 72, 73, 74, 75, 76, 77, 78, 79, 80, 81, 82, 83, 84, 85, 86, 87, 88, 89, 90, 91, 92, 93, 94, 95, 96, 97, 98, 99, 100, 101, 102, 103, 104, 105, 106, 107, 108, 109, 110, 111, 112, 113, 114, 115, 116, 117, 118, 119, 120, 121, 122, 123, 124, 125, 126, 127, 128, 129, 130, 131, 132, 133, 134, 135, 136, 137, 138, 139, 140, 141, 142, 143, 144, 145, 146, 147, 148, 149, 150, 151, 152, 153, 154, 155, 156, 157, 158, 159, 160, 161, 162, 163, 164, 165, 166, 167, 168, 169, 170, 171, 172, 173, 174, 175, 176, 177, 178, 179, 180, 181, 182, 183, 184, 185, 186, 187, 235, 236, 237, 238, 239, 240, 241, 242, 243, 244, 245, 246, 247, 224, 225, 226, 227, 228, 229, 230, 231, 232, 233, 234, 248, 249, 250, 251, 252, 253, 254, 255, 256, 257, 258, 259, 260, 261, 262, 263] rfl (by decide +kernel)
set_option maxRecDepth 20000 in
theorem gX7_about_X3_refresh : GoodIn wsX7_about (wsV RX7 134 RX3 yX3_refresh wsX3_refresh) := goodIn_app (goodIn_of _ (by decide +kernel)) ggX7_about_X3_refresh
set_option maxRecDepth 20000 in
theorem ggX7_about_X3_reached : GoodIn wsX7_about wsX3_reached := goodIn_r _ [191, 20, 235, 236, 237, 238, 239, 240, 241, 242, 243, 244, 245, 246, 247] rfl (by decide +kernel)
set_option maxRecDepth 20000 in
theorem gX7_about_X3_reached : GoodIn wsX7_about (wsV RX7 147 RX3 yX3_reached wsX3_reached) := goodIn_app (goodIn_of _ (by decide +kernel)) ggX7_about_X3_reached
set_option maxRecDepth 20000 in
theorem ggX7_about_X0_has : GoodIn wsX7_about wsX0_has := goodIn_r _ [58] rfl (by decide +kernel)
set_option maxRecDepth 20000 in
theorem gX7_about_X0_has : GoodIn wsX7_about (va_wsS RX7 174 yX0_has wsX0_has) := goodIn_app (goodIn_of _ (by decide +kernel)) ggX7_about_X0_has
set_option maxRecDepth 20000 in
theorem ggX7_about_X3_isRecursive : GoodIn wsX7_about wsX3_isRecursive := goodIn_r _ [196, 183, 55, 56, 57, 58, 235, 236, 237, 238, 239, 240, 241, 242, 243, 244, 245, 246, 247] rfl (by decide +kernel)
set_option maxRecDepth 20000 in
theorem gX7_about_X3_isRecursive : GoodIn wsX7_about (wsV RX7 180 RX3 yX3_isRecursive wsX3_isRecursive) := goodIn_app (goodIn_of _ (by decide +kernel)) ggX7_about_X3_isRecursive
set_option maxRecDepth 20000 in
theorem ggX7_about_X3_callersOf : GoodIn wsX7_about wsX3_callersOf := goodIn_r _ [200, 201, 202, 203, 12, 204, 19, 25, 51, 52, 53, 6, 54, 8, 90, 91, 57, 92, 235, 236, 237, 238, 239, 240, 241, 242, 243, 244, 245, 246, 247, 224, 225, 226, 227, 228, 229, 230, 231, 232, 233, 234] rfl (by decide +kernel)
set_option maxRecDepth 20000 in
theorem gX7_about_X3_callersOf : GoodIn wsX7_about (wsV RX7 183 RX3 yX3_callersOf wsX3_callersOf) := goodIn_app (goodIn_of _ (by decide +kernel)) ggX7_about_X3_callersOf
set_option maxRecDepth 20000 in
theorem ggX7_about_J13_bitCount_95d88 : GoodIn wsX7_about wsJ13_bitCount_95d88 := goodIn_r _ [42, 43, 44, 45] rfl (by decide +kernel)
set_option maxRecDepth 20000 in
theorem gX7_about_J13_bitCount_95d88 : GoodIn wsX7_about (va_wsS RX7 141 yJ13_bitCount_95d88 wsJ13_bitCount_95d88) := goodIn_app (goodIn_of _ (by decide +kernel)) ggX7_about_J13_bitCount_95d88
set_option maxRecDepth 20000 in
theorem ggX7_about_X3_ringOf : GoodIn wsX7_about wsX3_ringOf := goodIn_r _ [209, 19, 183, 51, 52, 53, 6, 54, 8, 55, 56, 57, 58, 90, 91, 92, 235, 236, 237, 238, 239, 240, 241, 242, 243, 244, 245, 246, 247, 224, 225, 226, 227, 228, 229, 230, 231, 232, 233, 234] rfl (by decide +kernel)
set_option maxRecDepth 20000 in
theorem gX7_about_X3_ringOf : GoodIn wsX7_about (wsV RX7 187 RX3 yX3_ringOf wsX3_ringOf) := goodIn_app (goodIn_of _ (by decide +kernel)) ggX7_about_X3_ringOf
set_option maxRecDepth 20000 in
theorem ggX7_about_X0_least : GoodIn wsX7_about wsX0_least := goodIn_r _ [212, 213, 214, 57, 215, 216, 40, 41, 42, 43, 44, 45, 217, 56, 58] rfl (by decide +kernel)
set_option maxRecDepth 20000 in
theorem gX7_about_X0_least : GoodIn wsX7_about (va_wsS RX7 190 yX0_least wsX0_least) := goodIn_app (goodIn_of _ (by decide +kernel)) ggX7_about_X0_least
theorem dX7_about_0 : decode cX7_about 0 = .ok (.aload_n 0, 1) := by decide +kernel
theorem dX7_about_1 : decode cX7_about 1 = .ok (.getfield 21, 3) := by decide +kernel
theorem dX7_about_4 : decode cX7_about 4 = .ok (.iload_n 1, 1) := by decide +kernel
theorem dX7_about_5 : decode cX7_about 5 = .ok (.invokevirtual 109, 3) := by decide +kernel
theorem dX7_about_8 : decode cX7_about 8 = .ok (.ifCond .ne 6, 3) := by decide +kernel
theorem dX7_about_11 : decode cX7_about 11 = .ok (.bipush (-101), 2) := by decide +kernel
theorem dX7_about_13 : decode cX7_about 13 = .ok (.ireturn, 1) := by decide +kernel
theorem dX7_about_14 : decode cX7_about 14 = .ok (.iload_n 2, 1) := by decide +kernel
theorem dX7_about_15 : decode cX7_about 15 = .ok (.ifCond .lt 8, 3) := by decide +kernel
theorem dX7_about_18 : decode cX7_about 18 = .ok (.iload_n 2, 1) := by decide +kernel
theorem dX7_about_19 : decode cX7_about 19 = .ok (.iconst 4, 1) := by decide +kernel
theorem dX7_about_20 : decode cX7_about 20 = .ok (.if_icmp .le 6, 3) := by decide +kernel
theorem dX7_about_23 : decode cX7_about 23 = .ok (.bipush (-102), 2) := by decide +kernel
theorem dX7_about_25 : decode cX7_about 25 = .ok (.ireturn, 1) := by decide +kernel
theorem dX7_about_26 : decode cX7_about 26 = .ok (.aload_n 0, 1) := by decide +kernel
theorem dX7_about_27 : decode cX7_about 27 = .ok (.getfield 46, 3) := by decide +kernel
theorem dX7_about_30 : decode cX7_about 30 = .ok (.invokevirtual 134, 3) := by decide +kernel
theorem dX7_about_33 : decode cX7_about 33 = .ok (.iload_n 2, 1) := by decide +kernel
theorem dX7_about_34 : decode cX7_about 34 = .ok (.tableswitch 91 0 3 #[30, 50, 67, 79], 30) := by decide +kernel
theorem dX7_about_64 : decode cX7_about 64 = .ok (.aload_n 0, 1) := by decide +kernel
theorem dX7_about_65 : decode cX7_about 65 = .ok (.getfield 46, 3) := by decide +kernel
theorem dX7_about_68 : decode cX7_about 68 = .ok (.invokevirtual 147, 3) := by decide +kernel
theorem dX7_about_71 : decode cX7_about 71 = .ok (.iload_n 1, 1) := by decide +kernel
theorem dX7_about_72 : decode cX7_about 72 = .ok (.invokestatic 174, 3) := by decide +kernel
theorem dX7_about_75 : decode cX7_about 75 = .ok (.ifCond .eq 7, 3) := by decide +kernel
theorem dX7_about_78 : decode cX7_about 78 = .ok (.iconst 1, 1) := by decide +kernel
theorem dX7_about_79 : decode cX7_about 79 = .ok (.goto 4, 3) := by decide +kernel
theorem dX7_about_82 : decode cX7_about 82 = .ok (.iconst 0, 1) := by decide +kernel
theorem dX7_about_83 : decode cX7_about 83 = .ok (.ireturn, 1) := by decide +kernel
theorem dX7_about_84 : decode cX7_about 84 = .ok (.aload_n 0, 1) := by decide +kernel
theorem dX7_about_85 : decode cX7_about 85 = .ok (.getfield 46, 3) := by decide +kernel
theorem dX7_about_88 : decode cX7_about 88 = .ok (.iload_n 1, 1) := by decide +kernel
theorem dX7_about_89 : decode cX7_about 89 = .ok (.invokevirtual 180, 3) := by decide +kernel
theorem dX7_about_92 : decode cX7_about 92 = .ok (.ifCond .eq 7, 3) := by decide +kernel
theorem dX7_about_95 : decode cX7_about 95 = .ok (.iconst 1, 1) := by decide +kernel
theorem dX7_about_96 : decode cX7_about 96 = .ok (.goto 4, 3) := by decide +kernel
theorem dX7_about_99 : decode cX7_about 99 = .ok (.iconst 0, 1) := by decide +kernel
theorem dX7_about_100 : decode cX7_about 100 = .ok (.ireturn, 1) := by decide +kernel
theorem dX7_about_101 : decode cX7_about 101 = .ok (.aload_n 0, 1) := by decide +kernel
theorem dX7_about_102 : decode cX7_about 102 = .ok (.getfield 46, 3) := by decide +kernel
theorem dX7_about_105 : decode cX7_about 105 = .ok (.iload_n 1, 1) := by decide +kernel
theorem dX7_about_106 : decode cX7_about 106 = .ok (.invokevirtual 183, 3) := by decide +kernel
theorem dX7_about_109 : decode cX7_about 109 = .ok (.invokestatic 141, 3) := by decide +kernel
theorem dX7_about_112 : decode cX7_about 112 = .ok (.ireturn, 1) := by decide +kernel
theorem dX7_about_113 : decode cX7_about 113 = .ok (.aload_n 0, 1) := by decide +kernel
theorem dX7_about_114 : decode cX7_about 114 = .ok (.getfield 46, 3) := by decide +kernel
theorem dX7_about_117 : decode cX7_about 117 = .ok (.iload_n 1, 1) := by decide +kernel
theorem dX7_about_118 : decode cX7_about 118 = .ok (.invokevirtual 187, 3) := by decide +kernel
theorem dX7_about_121 : decode cX7_about 121 = .ok (.invokestatic 141, 3) := by decide +kernel
theorem dX7_about_124 : decode cX7_about 124 = .ok (.ireturn, 1) := by decide +kernel
theorem dX7_about_125 : decode cX7_about 125 = .ok (.aload_n 0, 1) := by decide +kernel
theorem dX7_about_126 : decode cX7_about 126 = .ok (.getfield 46, 3) := by decide +kernel
theorem dX7_about_129 : decode cX7_about 129 = .ok (.iload_n 1, 1) := by decide +kernel
theorem dX7_about_130 : decode cX7_about 130 = .ok (.invokevirtual 187, 3) := by decide +kernel
theorem dX7_about_133 : decode cX7_about 133 = .ok (.invokestatic 190, 3) := by decide +kernel
theorem dX7_about_136 : decode cX7_about 136 = .ok (.ireturn, 1) := by decide +kernel
set_option maxRecDepth 20000 in
theorem ggX7_made_X6_knows : GoodIn wsX7_made wsX6_knows := goodIn_r _ [7, 8, 203, 204, 205, 206, 207, 208] rfl (by decide +kernel)
set_option maxRecDepth 20000 in
theorem gX7_made_X6_knows : GoodIn wsX7_made (wsV RX7 57 RX6 yX6_knows wsX6_knows) := goodIn_app (goodIn_of _ (by decide +kernel)) ggX7_made_X6_knows
set_option maxRecDepth 20000 in
theorem ggX7_made_X3_refresh : GoodIn wsX7_made wsX3_refresh := goodIn_r _ [13, 14, 15, 16, 17, 12, 18, 19, 20, 21, 22, 23, 24, 25, 26, 27, 28, 29, 30, 31, 32, 33, 34, 35, 36, 37, 38, 39, 40, 41, 42, 43, 44, 45, 46, 47, 48, 49, 50, 51, 52, 53, 54, 55, 56, 57, 58, 59, 60, 61, 62, 63, 64, 65, 66, 67, 68, 69, 70, 71, 72, 73, 74, 75, 76, 77, 78, 79, 80, 81, 82, 83, 84, 85, 86, 87, 88, 89, 90, 91, 92, 93, 94, 95, 96, 97, 98, 99, 100, 101, 102, 103, 104, 105, 106, 107, 108, 6, 109, 110, 111, 112, 113, 114, 115, 116, 117, 118, 119, 120, 121, 122, 123, 124, 125, 126, 127, 128, 129, 130, 131, 132, 133, 134, 135, 136, 137, 138, 8, 139, 140, 141, 142, 143, 144, 145, 146, 147, 148, 149, 150, 151, 152, 153, 154, 155, 156, 157, 158, 159, 160, 161, 162, 163, 164, 165, 166, 167, 168, 169, 170, 171, 172, 173, 174, 175, 176, 177, 178, 179, 180, 181, 182, 183, 184, 185, 186, 187, 209, 210, 211, 212, 213, 214, 215, 216, 217, 218, 219, 220, 221, 222, 223, 224, 225, 226, 227, 228, 229, 230, 231, 232, 233, 234, 235, 236, 237, 238, 203, 204, 205, 206, 207, 208, 239, 240, 241, 242] rfl (by decide +kernel)
set_option maxRecDepth 20000 in
theorem gX7_made_X3_refresh : GoodIn wsX7_made (wsV RX7 134 RX3 yX3_refresh wsX3_refresh) := goodIn_app (goodIn_of _ (by decide +kernel)) ggX7_made_X3_refresh
set_option maxRecDepth 20000 in
theorem ggX7_made_X3_madeClasses : GoodIn wsX7_made wsX3_madeClasses := goodIn_r _ [191, 21, 209, 210, 211, 212, 213, 214, 215, 216, 217, 218, 219, 220, 221] rfl (by decide +kernel)
set_option maxRecDepth 20000 in
theorem gX7_made_X3_madeClasses : GoodIn wsX7_made (wsV RX7 150 RX3 yX3_madeClasses wsX3_madeClasses) := goodIn_app (goodIn_of _ (by decide +kernel)) ggX7_made_X3_madeClasses
set_option maxRecDepth 20000 in
theorem ggX7_made_X3_begunTypes : GoodIn wsX7_made wsX3_begunTypes := goodIn_r _ [195, 22, 209, 210, 211, 212, 213, 214, 215, 216, 217, 218, 219, 220, 221] rfl (by decide +kernel)
set_option maxRecDepth 20000 in
theorem gX7_made_X3_begunTypes : GoodIn wsX7_made (wsV RX7 153 RX3 yX3_begunTypes wsX3_begunTypes) := goodIn_app (goodIn_of _ (by decide +kernel)) ggX7_made_X3_begunTypes
set_option maxRecDepth 20000 in
theorem ggX7_made_X0_has : GoodIn wsX7_made wsX0_has := goodIn_r _ [60] rfl (by decide +kernel)
set_option maxRecDepth 20000 in
theorem gX7_made_X0_has : GoodIn wsX7_made (va_wsS RX7 174 yX0_has wsX0_has) := goodIn_app (goodIn_of _ (by decide +kernel)) ggX7_made_X0_has
theorem dX7_made_0 : decode cX7_made 0 = .ok (.aload_n 0, 1) := by decide +kernel
theorem dX7_made_1 : decode cX7_made 1 = .ok (.getfield 10, 3) := by decide +kernel
theorem dX7_made_4 : decode cX7_made 4 = .ok (.iload_n 1, 1) := by decide +kernel
theorem dX7_made_5 : decode cX7_made 5 = .ok (.invokevirtual 57, 3) := by decide +kernel
theorem dX7_made_8 : decode cX7_made 8 = .ok (.ifCond .ne 6, 3) := by decide +kernel
theorem dX7_made_11 : decode cX7_made 11 = .ok (.bipush (-101), 2) := by decide +kernel
theorem dX7_made_13 : decode cX7_made 13 = .ok (.ireturn, 1) := by decide +kernel
theorem dX7_made_14 : decode cX7_made 14 = .ok (.iload_n 2, 1) := by decide +kernel
theorem dX7_made_15 : decode cX7_made 15 = .ok (.ifCond .lt 8, 3) := by decide +kernel
theorem dX7_made_18 : decode cX7_made 18 = .ok (.iload_n 2, 1) := by decide +kernel
theorem dX7_made_19 : decode cX7_made 19 = .ok (.iconst 1, 1) := by decide +kernel
theorem dX7_made_20 : decode cX7_made 20 = .ok (.if_icmp .le 6, 3) := by decide +kernel
theorem dX7_made_23 : decode cX7_made 23 = .ok (.bipush (-102), 2) := by decide +kernel
theorem dX7_made_25 : decode cX7_made 25 = .ok (.ireturn, 1) := by decide +kernel
theorem dX7_made_26 : decode cX7_made 26 = .ok (.aload_n 0, 1) := by decide +kernel
theorem dX7_made_27 : decode cX7_made 27 = .ok (.getfield 46, 3) := by decide +kernel
theorem dX7_made_30 : decode cX7_made 30 = .ok (.invokevirtual 134, 3) := by decide +kernel
theorem dX7_made_33 : decode cX7_made 33 = .ok (.iload_n 2, 1) := by decide +kernel
theorem dX7_made_34 : decode cX7_made 34 = .ok (.ifCond .ne 13, 3) := by decide +kernel
theorem dX7_made_37 : decode cX7_made 37 = .ok (.aload_n 0, 1) := by decide +kernel
theorem dX7_made_38 : decode cX7_made 38 = .ok (.getfield 46, 3) := by decide +kernel
theorem dX7_made_41 : decode cX7_made 41 = .ok (.invokevirtual 150, 3) := by decide +kernel
theorem dX7_made_44 : decode cX7_made 44 = .ok (.goto 10, 3) := by decide +kernel
theorem dX7_made_47 : decode cX7_made 47 = .ok (.aload_n 0, 1) := by decide +kernel
theorem dX7_made_48 : decode cX7_made 48 = .ok (.getfield 46, 3) := by decide +kernel
theorem dX7_made_51 : decode cX7_made 51 = .ok (.invokevirtual 153, 3) := by decide +kernel
theorem dX7_made_54 : decode cX7_made 54 = .ok (.iload_n 1, 1) := by decide +kernel
theorem dX7_made_55 : decode cX7_made 55 = .ok (.invokestatic 174, 3) := by decide +kernel
theorem dX7_made_58 : decode cX7_made 58 = .ok (.ifCond .eq 7, 3) := by decide +kernel
theorem dX7_made_61 : decode cX7_made 61 = .ok (.iconst 1, 1) := by decide +kernel
theorem dX7_made_62 : decode cX7_made 62 = .ok (.goto 4, 3) := by decide +kernel
theorem dX7_made_65 : decode cX7_made 65 = .ok (.iconst 0, 1) := by decide +kernel
theorem dX7_made_66 : decode cX7_made 66 = .ok (.ireturn, 1) := by decide +kernel
set_option maxRecDepth 20000 in
theorem ggX7_callee_X4_knows : GoodIn wsX7_callee wsX4_knows := goodIn_r _ [8, 9, 209, 210, 211, 212, 213, 214, 215, 216, 217, 218, 219] rfl (by decide +kernel)
set_option maxRecDepth 20000 in
theorem gX7_callee_X4_knows : GoodIn wsX7_callee (wsV RX7 109 RX4 yX4_knows wsX4_knows) := goodIn_app (goodIn_of _ (by decide +kernel)) ggX7_callee_X4_knows
set_option maxRecDepth 20000 in
theorem ggX7_callee_X5_knows : GoodIn wsX7_callee wsX5_knows := goodIn_r _ [14, 15, 220, 221, 222, 223, 224, 225] rfl (by decide +kernel)
set_option maxRecDepth 20000 in
theorem gX7_callee_X5_knows : GoodIn wsX7_callee (wsV RX7 193 RX5 yX5_knows wsX5_knows) := goodIn_app (goodIn_of _ (by decide +kernel)) ggX7_callee_X5_knows
set_option maxRecDepth 20000 in
theorem ggX7_callee_X3_refresh : GoodIn wsX7_callee wsX3_refresh := goodIn_r _ [20, 21, 22, 23, 24, 19, 25, 26, 27, 28, 29, 30, 31, 32, 33, 34, 35, 7, 36, 37, 38, 39, 40, 41, 42, 43, 44, 45, 46, 47, 48, 49, 50, 51, 52, 53, 54, 55, 56, 57, 58, 59, 60, 61, 9, 62, 63, 64, 65, 66, 67, 68, 13, 69, 15, 70, 71, 72, 73, 74, 75, 76, 77, 78, 79, 80, 81, 82, 83, 84, 85, 86, 87, 88, 89, 90, 91, 92, 93, 94, 95, 96, 97, 98, 99, 100, 101, 102, 103, 104, 105, 106, 107, 108, 109, 110, 111, 112, 113, 114, 115, 116, 117, 118, 119, 120, 121, 122, 123, 124, 125, 126, 127, 128, 129, 130, 131, 132, 133, 134, 135, 136, 137, 138, 139, 140, 141, 142, 143, 144, 145, 146, 147, 148, 149, 150, 151, 152, 153, 154, 155, 156, 157, 158, 159, 160, 161, 162, 163, 164, 165, 166, 167, 168, 169, 170, 171, 172, 173, 174, 175, 176, 177, 178, 179, 180, 181, 182, 183, 184, 185, 186, 187, 188, 189, 190, 191, 192, 226, 227, 228, 229, 230, 231, 232, 233, 234, 235, 236, 237, 238, 209, 210, 211, 212, 213, 214, 215, 216, 217, 218, 219, 220, 221, 222, 223, 224, 225, 239, 240, 241, 242, 243, 244, 245, 246, 247, 248] rfl (by decide +kernel)
set_option maxRecDepth 20000 in
theorem gX7_callee_X3_refresh : GoodIn wsX7_callee (wsV RX7 134 RX3 yX3_refresh wsX3_refresh) := goodIn_app (goodIn_of _ (by decide +kernel)) ggX7_callee_X3_refresh
set_option maxRecDepth 20000 in
theorem ggX7_callee_X5_at : GoodIn wsX7_callee wsX5_at := goodIn_r _ [73, 74, 220, 221, 222, 223, 224, 225] rfl (by decide +kernel)
set_option maxRecDepth 20000 in
theorem gX7_callee_X5_at : GoodIn wsX7_callee (wsV RX7 195 RX5 yX5_at wsX5_at) := goodIn_app (goodIn_of _ (by decide +kernel)) ggX7_callee_X5_at
set_option maxRecDepth 20000 in
theorem ggX7_callee_X3_calleesOf : GoodIn wsX7_callee wsX3_calleesOf := goodIn_r _ [197, 31, 226, 227, 228, 229, 230, 231, 232, 233, 234, 235, 236, 237, 238] rfl (by decide +kernel)
set_option maxRecDepth 20000 in
theorem gX7_callee_X3_calleesOf : GoodIn wsX7_callee (wsV RX7 198 RX3 yX3_calleesOf wsX3_calleesOf) := goodIn_app (goodIn_of _ (by decide +kernel)) ggX7_callee_X3_calleesOf
set_option maxRecDepth 20000 in
theorem ggX7_callee_X0_nth : GoodIn wsX7_callee wsX0_nth := goodIn_r _ [200, 201, 47, 48, 49, 50, 51, 52, 202, 63, 64, 65] rfl (by decide +kernel)
set_option maxRecDepth 20000 in
theorem gX7_callee_X0_nth : GoodIn wsX7_callee (va_wsS RX7 201 yX0_nth wsX0_nth) := goodIn_app (goodIn_of _ (by decide +kernel)) ggX7_callee_X0_nth
theorem dX7_callee_0 : decode cX7_callee 0 = .ok (.aload_n 0, 1) := by decide +kernel
theorem dX7_callee_1 : decode cX7_callee 1 = .ok (.getfield 21, 3) := by decide +kernel
theorem dX7_callee_4 : decode cX7_callee 4 = .ok (.iload_n 1, 1) := by decide +kernel
theorem dX7_callee_5 : decode cX7_callee 5 = .ok (.invokevirtual 109, 3) := by decide +kernel
theorem dX7_callee_8 : decode cX7_callee 8 = .ok (.ifCond .eq 15, 3) := by decide +kernel
theorem dX7_callee_11 : decode cX7_callee 11 = .ok (.aload_n 0, 1) := by decide +kernel
theorem dX7_callee_12 : decode cX7_callee 12 = .ok (.getfield 37, 3) := by decide +kernel
theorem dX7_callee_15 : decode cX7_callee 15 = .ok (.iload_n 1, 1) := by decide +kernel
theorem dX7_callee_16 : decode cX7_callee 16 = .ok (.iload_n 2, 1) := by decide +kernel
theorem dX7_callee_17 : decode cX7_callee 17 = .ok (.invokevirtual 193, 3) := by decide +kernel
theorem dX7_callee_20 : decode cX7_callee 20 = .ok (.ifCond .ne 6, 3) := by decide +kernel
theorem dX7_callee_23 : decode cX7_callee 23 = .ok (.bipush (-101), 2) := by decide +kernel
theorem dX7_callee_25 : decode cX7_callee 25 = .ok (.ireturn, 1) := by decide +kernel
theorem dX7_callee_26 : decode cX7_callee 26 = .ok (.aload_n 0, 1) := by decide +kernel
theorem dX7_callee_27 : decode cX7_callee 27 = .ok (.getfield 46, 3) := by decide +kernel
theorem dX7_callee_30 : decode cX7_callee 30 = .ok (.invokevirtual 134, 3) := by decide +kernel
theorem dX7_callee_33 : decode cX7_callee 33 = .ok (.aload_n 0, 1) := by decide +kernel
theorem dX7_callee_34 : decode cX7_callee 34 = .ok (.getfield 46, 3) := by decide +kernel
theorem dX7_callee_37 : decode cX7_callee 37 = .ok (.aload_n 0, 1) := by decide +kernel
theorem dX7_callee_38 : decode cX7_callee 38 = .ok (.getfield 37, 3) := by decide +kernel
theorem dX7_callee_41 : decode cX7_callee 41 = .ok (.iload_n 1, 1) := by decide +kernel
theorem dX7_callee_42 : decode cX7_callee 42 = .ok (.iload_n 2, 1) := by decide +kernel
theorem dX7_callee_43 : decode cX7_callee 43 = .ok (.invokevirtual 195, 3) := by decide +kernel
theorem dX7_callee_46 : decode cX7_callee 46 = .ok (.invokevirtual 198, 3) := by decide +kernel
theorem dX7_callee_49 : decode cX7_callee 49 = .ok (.iload_n 3, 1) := by decide +kernel
theorem dX7_callee_50 : decode cX7_callee 50 = .ok (.invokestatic 201, 3) := by decide +kernel
theorem dX7_callee_53 : decode cX7_callee 53 = .ok (.ireturn, 1) := by decide +kernel
set_option maxRecDepth 20000 in
theorem ggX7_faults_X4_knows : GoodIn wsX7_faults wsX4_knows := goodIn_r _ [8, 9, 217, 218, 219, 220, 221, 222, 223, 224, 225, 226, 227] rfl (by decide +kernel)
set_option maxRecDepth 20000 in
theorem gX7_faults_X4_knows : GoodIn wsX7_faults (wsV RX7 109 RX4 yX4_knows wsX4_knows) := goodIn_app (goodIn_of _ (by decide +kernel)) ggX7_faults_X4_knows
set_option maxRecDepth 20000 in
theorem ggX7_faults_X5_knows : GoodIn wsX7_faults wsX5_knows := goodIn_r _ [14, 15, 228, 229, 230, 231, 232, 233] rfl (by decide +kernel)
set_option maxRecDepth 20000 in
theorem gX7_faults_X5_knows : GoodIn wsX7_faults (wsV RX7 193 RX5 yX5_knows wsX5_knows) := goodIn_app (goodIn_of _ (by decide +kernel)) ggX7_faults_X5_knows
set_option maxRecDepth 20000 in
theorem ggX7_faults_X3_refresh : GoodIn wsX7_faults wsX3_refresh := goodIn_r _ [20, 21, 22, 23, 24, 19, 25, 26, 27, 28, 29, 30, 31, 32, 33, 34, 35, 7, 36, 37, 38, 39, 40, 41, 42, 43, 44, 45, 46, 47, 48, 49, 50, 51, 52, 53, 54, 55, 56, 57, 58, 59, 60, 61, 9, 62, 63, 64, 65, 66, 67, 68, 13, 69, 15, 70, 71, 72, 73, 74, 75, 76, 77, 78, 79, 80, 81, 82, 83, 84, 85, 86, 87, 88, 89, 90, 91, 92, 93, 94, 95, 96, 97, 98, 99, 100, 101, 102, 103, 104, 105, 106, 107, 108, 109, 110, 111, 112, 113, 114, 115, 116, 117, 118, 119, 120, 121, 122, 123, 124, 125, 126, 127, 128, 129, 130, 131, 132, 133, 134, 135, 136, 137, 138, 139, 140, 141, 142, 143, 144, 145, 146, 147, 148, 149, 150, 151, 152, 153, 154, 155, 156, 157, 158, 159, 160, 161, 162, 163, 164, 165, 166, 167, 168, 169, 170, 171, 172, 173, 174, 175, 176, 177, 178, 179, 180, 181, 182, 183, 184, 185, 186, 187, 188, 189, 190, 191, 192, 234, 235, 236, 237, 238, 239, 240, 241, 242, 243, 244, 245, 246, 217, 218, 219, 220, 221, 222, 223, 224, 225, 226, 227, 228, 229, 230, 231, 232, 233, 247, 248, 249, 250, 251, 252, 253, 254, 255, 256] rfl (by decide +kernel)
set_option maxRecDepth 20000 in
theorem gX7_faults_X3_refresh : GoodIn wsX7_faults (wsV RX7 134 RX3 yX3_refresh wsX3_refresh) := goodIn_app (goodIn_of _ (by decide +kernel)) ggX7_faults_X3_refresh
set_option maxRecDepth 20000 in
theorem ggX7_faults_X3_reached : GoodIn wsX7_faults wsX3_reached := goodIn_r _ [196, 27, 234, 235, 236, 237, 238, 239, 240, 241, 242, 243, 244, 245, 246] rfl (by decide +kernel)
set_option maxRecDepth 20000 in
theorem gX7_faults_X3_reached : GoodIn wsX7_faults (wsV RX7 147 RX3 yX3_reached wsX3_reached) := goodIn_app (goodIn_of _ (by decide +kernel)) ggX7_faults_X3_reached
set_option maxRecDepth 20000 in
theorem ggX7_faults_X0_has : GoodIn wsX7_faults wsX0_has := goodIn_r _ [65] rfl (by decide +kernel)
set_option maxRecDepth 20000 in
theorem gX7_faults_X0_has : GoodIn wsX7_faults (va_wsS RX7 174 yX0_has wsX0_has) := goodIn_app (goodIn_of _ (by decide +kernel)) ggX7_faults_X0_has
set_option maxRecDepth 20000 in
theorem ggX7_faults_X5_at : GoodIn wsX7_faults wsX5_at := goodIn_r _ [73, 74, 228, 229, 230, 231, 232, 233] rfl (by decide +kernel)
set_option maxRecDepth 20000 in
theorem gX7_faults_X5_at : GoodIn wsX7_faults (wsV RX7 195 RX5 yX5_at wsX5_at) := goodIn_app (goodIn_of _ (by decide +kernel)) ggX7_faults_X5_at
set_option maxRecDepth 20000 in
theorem ggX7_faults_X3_faultsOf : GoodIn wsX7_faults wsX3_faultsOf := goodIn_r _ [202, 57, 79, 80, 81, 82, 13, 83, 84, 85, 86, 87, 88, 89, 90, 91, 92, 93, 94, 203, 204, 205, 19, 206, 102, 28, 207, 208, 209, 210, 139, 140, 141, 112, 142, 143, 62, 63, 64, 65, 144, 145, 146, 147, 119, 148, 149, 150, 151, 152, 153, 154, 155, 156, 157, 158, 159, 7, 160, 161, 162, 163, 164, 165, 234, 235, 236, 237, 238, 239, 240, 241, 242, 243, 244, 245, 246, 228, 229, 230, 231, 232, 233, 247, 248, 249, 250, 251, 252, 253, 254, 255, 256, 217, 218, 219, 220, 221, 222, 223, 224, 225, 226, 227] rfl (by decide +kernel)
set_option maxRecDepth 20000 in
theorem gX7_faults_X3_faultsOf : GoodIn wsX7_faults (wsV RX7 205 RX3 yX3_faultsOf wsX3_faultsOf) := goodIn_app (goodIn_of _ (by decide +kernel)) ggX7_faults_X3_faultsOf
theorem dX7_faults_0 : decode cX7_faults 0 = .ok (.aload_n 0, 1) := by decide +kernel
theorem dX7_faults_1 : decode cX7_faults 1 = .ok (.getfield 21, 3) := by decide +kernel
theorem dX7_faults_4 : decode cX7_faults 4 = .ok (.iload_n 1, 1) := by decide +kernel
theorem dX7_faults_5 : decode cX7_faults 5 = .ok (.invokevirtual 109, 3) := by decide +kernel
theorem dX7_faults_8 : decode cX7_faults 8 = .ok (.ifCond .eq 15, 3) := by decide +kernel
theorem dX7_faults_11 : decode cX7_faults 11 = .ok (.aload_n 0, 1) := by decide +kernel
theorem dX7_faults_12 : decode cX7_faults 12 = .ok (.getfield 37, 3) := by decide +kernel
theorem dX7_faults_15 : decode cX7_faults 15 = .ok (.iload_n 1, 1) := by decide +kernel
theorem dX7_faults_16 : decode cX7_faults 16 = .ok (.iload_n 2, 1) := by decide +kernel
theorem dX7_faults_17 : decode cX7_faults 17 = .ok (.invokevirtual 193, 3) := by decide +kernel
theorem dX7_faults_20 : decode cX7_faults 20 = .ok (.ifCond .ne 6, 3) := by decide +kernel
theorem dX7_faults_23 : decode cX7_faults 23 = .ok (.bipush (-101), 2) := by decide +kernel
theorem dX7_faults_25 : decode cX7_faults 25 = .ok (.ireturn, 1) := by decide +kernel
theorem dX7_faults_26 : decode cX7_faults 26 = .ok (.iload_n 3, 1) := by decide +kernel
theorem dX7_faults_27 : decode cX7_faults 27 = .ok (.bipush (-5), 2) := by decide +kernel
theorem dX7_faults_29 : decode cX7_faults 29 = .ok (.if_icmp .lt 9, 3) := by decide +kernel
theorem dX7_faults_32 : decode cX7_faults 32 = .ok (.iload_n 3, 1) := by decide +kernel
theorem dX7_faults_33 : decode cX7_faults 33 = .ok (.bipush (-2), 2) := by decide +kernel
theorem dX7_faults_35 : decode cX7_faults 35 = .ok (.if_icmp .le 6, 3) := by decide +kernel
theorem dX7_faults_38 : decode cX7_faults 38 = .ok (.bipush (-102), 2) := by decide +kernel
theorem dX7_faults_40 : decode cX7_faults 40 = .ok (.ireturn, 1) := by decide +kernel
theorem dX7_faults_41 : decode cX7_faults 41 = .ok (.aload_n 0, 1) := by decide +kernel
theorem dX7_faults_42 : decode cX7_faults 42 = .ok (.getfield 46, 3) := by decide +kernel
theorem dX7_faults_45 : decode cX7_faults 45 = .ok (.invokevirtual 134, 3) := by decide +kernel
theorem dX7_faults_48 : decode cX7_faults 48 = .ok (.aload_n 0, 1) := by decide +kernel
theorem dX7_faults_49 : decode cX7_faults 49 = .ok (.getfield 46, 3) := by decide +kernel
theorem dX7_faults_52 : decode cX7_faults 52 = .ok (.invokevirtual 147, 3) := by decide +kernel
theorem dX7_faults_55 : decode cX7_faults 55 = .ok (.iload_n 1, 1) := by decide +kernel
theorem dX7_faults_56 : decode cX7_faults 56 = .ok (.invokestatic 174, 3) := by decide +kernel
theorem dX7_faults_59 : decode cX7_faults 59 = .ok (.ifCond .ne 5, 3) := by decide +kernel
theorem dX7_faults_62 : decode cX7_faults 62 = .ok (.iconst 0, 1) := by decide +kernel
theorem dX7_faults_63 : decode cX7_faults 63 = .ok (.ireturn, 1) := by decide +kernel
theorem dX7_faults_64 : decode cX7_faults 64 = .ok (.aload_n 0, 1) := by decide +kernel
theorem dX7_faults_65 : decode cX7_faults 65 = .ok (.getfield 46, 3) := by decide +kernel
theorem dX7_faults_68 : decode cX7_faults 68 = .ok (.aload_n 0, 1) := by decide +kernel
theorem dX7_faults_69 : decode cX7_faults 69 = .ok (.getfield 37, 3) := by decide +kernel
theorem dX7_faults_72 : decode cX7_faults 72 = .ok (.iload_n 1, 1) := by decide +kernel
theorem dX7_faults_73 : decode cX7_faults 73 = .ok (.iload_n 2, 1) := by decide +kernel
theorem dX7_faults_74 : decode cX7_faults 74 = .ok (.invokevirtual 195, 3) := by decide +kernel
theorem dX7_faults_77 : decode cX7_faults 77 = .ok (.iload_n 3, 1) := by decide +kernel
theorem dX7_faults_78 : decode cX7_faults 78 = .ok (.invokevirtual 205, 3) := by decide +kernel
theorem dX7_faults_81 : decode cX7_faults 81 = .ok (.ireturn, 1) := by decide +kernel
set_option maxRecDepth 20000 in
theorem ggX7_caller_X4_knows : GoodIn wsX7_caller wsX4_knows := goodIn_r _ [7, 8, 207, 208, 209, 210, 211, 212, 213, 214, 215, 216, 217] rfl (by decide +kernel)
set_option maxRecDepth 20000 in
theorem gX7_caller_X4_knows : GoodIn wsX7_caller (wsV RX7 109 RX4 yX4_knows wsX4_knows) := goodIn_app (goodIn_of _ (by decide +kernel)) ggX7_caller_X4_knows
set_option maxRecDepth 20000 in
theorem ggX7_caller_X3_refresh : GoodIn wsX7_caller wsX3_refresh := goodIn_r _ [13, 14, 15, 16, 17, 12, 18, 19, 20, 21, 22, 23, 24, 25, 26, 27, 28, 6, 29, 30, 31, 32, 33, 34, 35, 36, 37, 38, 39, 40, 41, 42, 43, 44, 45, 46, 47, 48, 49, 50, 51, 52, 53, 54, 8, 55, 56, 57, 58, 59, 60, 61, 62, 63, 64, 65, 66, 67, 68, 69, 70, 71, 72, 73, 74, 75, 76, 77, 78, 79, 80, 81, 82, 83, 84, 85, 86, 87, 88, 89, 90, 91, 92, 93, 94, 95, 96, 97, 98, 99, 100, 101, 102, 103, 104, 105, 106, 107, 108, 109, 110, 111, 112, 113, 114, 115, 116, 117, 118, 119, 120, 121, 122, 123, 124, 125, 126, 127, 128, 129, 130, 131, 132, 133, 134, 135, 136, 137, 138, 139, 140, 141, 142, 143, 144, 145, 146, 147, 148, 149, 150, 151, 152, 153, 154, 155, 156, 157, 158, 159, 160, 161, 162, 163, 164, 165, 166, 167, 168, 169, 170, 171, 172, 173, 174, 175, 176, 177, 178, 179, 180, 181, 182, 183, 184, 185, 186, 187, 218, 219, 220, 221, 222, 223, 224, 225, 226, 227, 228, 229, 230, 207, 208, 209, 210, 211, 212, 213, 214, 215, 216, 217, 231, 232, 233, 234, 235, 236, 237, 238, 239, 240, 241, 242, 243, 244, 245, 246] rfl (by decide +kernel)
set_option maxRecDepth 20000 in
theorem gX7_caller_X3_refresh : GoodIn wsX7_caller (wsV RX7 134 RX3 yX3_refresh wsX3_refresh) := goodIn_app (goodIn_of _ (by decide +kernel)) ggX7_caller_X3_refresh
set_option maxRecDepth 20000 in
theorem ggX7_caller_X3_callersOf : GoodIn wsX7_caller wsX3_callersOf := goodIn_r _ [191, 192, 193, 194, 12, 195, 19, 25, 51, 52, 53, 6, 54, 8, 90, 91, 57, 92, 218, 219, 220, 221, 222, 223, 224, 225, 226, 227, 228, 229, 230, 207, 208, 209, 210, 211, 212, 213, 214, 215, 216, 217] rfl (by decide +kernel)
set_option maxRecDepth 20000 in
theorem gX7_caller_X3_callersOf : GoodIn wsX7_caller (wsV RX7 183 RX3 yX3_callersOf wsX3_callersOf) := goodIn_app (goodIn_of _ (by decide +kernel)) ggX7_caller_X3_callersOf
set_option maxRecDepth 20000 in
theorem ggX7_caller_X0_nth : GoodIn wsX7_caller wsX0_nth := goodIn_r _ [198, 199, 40, 41, 42, 43, 44, 45, 200, 56, 57, 58] rfl (by decide +kernel)
set_option maxRecDepth 20000 in
theorem gX7_caller_X0_nth : GoodIn wsX7_caller (va_wsS RX7 201 yX0_nth wsX0_nth) := goodIn_app (goodIn_of _ (by decide +kernel)) ggX7_caller_X0_nth
theorem dX7_caller_0 : decode cX7_caller 0 = .ok (.aload_n 0, 1) := by decide +kernel
theorem dX7_caller_1 : decode cX7_caller 1 = .ok (.getfield 21, 3) := by decide +kernel
theorem dX7_caller_4 : decode cX7_caller 4 = .ok (.iload_n 1, 1) := by decide +kernel
theorem dX7_caller_5 : decode cX7_caller 5 = .ok (.invokevirtual 109, 3) := by decide +kernel
theorem dX7_caller_8 : decode cX7_caller 8 = .ok (.ifCond .ne 6, 3) := by decide +kernel
theorem dX7_caller_11 : decode cX7_caller 11 = .ok (.bipush (-101), 2) := by decide +kernel
theorem dX7_caller_13 : decode cX7_caller 13 = .ok (.ireturn, 1) := by decide +kernel
theorem dX7_caller_14 : decode cX7_caller 14 = .ok (.aload_n 0, 1) := by decide +kernel
theorem dX7_caller_15 : decode cX7_caller 15 = .ok (.getfield 46, 3) := by decide +kernel
theorem dX7_caller_18 : decode cX7_caller 18 = .ok (.invokevirtual 134, 3) := by decide +kernel
theorem dX7_caller_21 : decode cX7_caller 21 = .ok (.aload_n 0, 1) := by decide +kernel
theorem dX7_caller_22 : decode cX7_caller 22 = .ok (.getfield 46, 3) := by decide +kernel
theorem dX7_caller_25 : decode cX7_caller 25 = .ok (.iload_n 1, 1) := by decide +kernel
theorem dX7_caller_26 : decode cX7_caller 26 = .ok (.invokevirtual 183, 3) := by decide +kernel
theorem dX7_caller_29 : decode cX7_caller 29 = .ok (.iload_n 2, 1) := by decide +kernel
theorem dX7_caller_30 : decode cX7_caller 30 = .ok (.invokestatic 201, 3) := by decide +kernel
theorem dX7_caller_33 : decode cX7_caller 33 = .ok (.ireturn, 1) := by decide +kernel
set_option maxRecDepth 20000 in
theorem ggX7_way_X4_knows : GoodIn wsX7_way wsX4_knows := goodIn_r _ [7, 8, 215, 216, 217, 218, 219, 220, 221, 222, 223, 224, 225] rfl (by decide +kernel)
set_option maxRecDepth 20000 in
theorem gX7_way_X4_knows : GoodIn wsX7_way (wsV RX7 109 RX4 yX4_knows wsX4_knows) := goodIn_app (goodIn_of _ (by decide +kernel)) ggX7_way_X4_knows
set_option maxRecDepth 20000 in
theorem ggX7_way_X3_refresh : GoodIn wsX7_way wsX3_refresh := goodIn_r _ [13, 14, 15, 16, 17, 12, 18, 19, 20, 21, 22, 23, 24, 25, 26, 27, 28, 6, 29, 30, 31, 32, 33, 34, 35, 36, 37, 38, 39, 40, 41, 42, 43, 44, 45, 46, 47, 48, 49, 50, 51, 52, 53, 54, 8, 55, 56, 57, 58, 59, 60, 61, 62, 63, 64, 65, 66, 67, 68, 69, 70, 71, 72, 73, 74, 75, 76, 77, 78, 79, 80, 81, 82, 83, 84, 85, 86, 87, 88, 89, 90, 91, 92, 93, 94, 95, 96, 97, 98, 99, 100, 101, 102, 103, 104, 105, 106, 107, 108, 109, 110, 111, 112, 113, 114, 115, 116, 117, 118, 119, 120, 121, 122, 123, 124, 125, 126, 127, 128, 129, 130, 131, 132, 133, 134, 135, 136, 137, 138, 139, 140, 141, 142, 143, 144, 145, 146, 147, 148, 149, 150, 151, 152, 153, 154, 155, 156, 157, 158, 159, 160, 161, 162, 163, 164, 165, 166, 167, 168, 169, 170, 171, 172, 173, 174, 175, 176, 177, 178, 179, 180, 181, 182, 183, 184, 185, 186, 187, 226, 227, 228, 229, 230, 231, 232, 233, 234, 235, 236, 237, 238, 215, 216, 217, 218, 219, 220, 221, 222, 223, 224, 225, 239, 240, 241, 242, 243, 244, 245, 246, 247, 248, 249, 250, 251, 252, 253, 254] rfl (by decide +kernel)
set_option maxRecDepth 20000 in
theorem gX7_way_X3_refresh : GoodIn wsX7_way (wsV RX7 134 RX3 yX3_refresh wsX3_refresh) := goodIn_app (goodIn_of _ (by decide +kernel)) ggX7_way_X3_refresh
set_option maxRecDepth 20000 in
theorem ggX7_way_X3_onWay : GoodIn wsX7_way wsX3_onWay := goodIn_r _ [191, 20, 192, 19, 25, 55, 56, 57, 58, 193, 194, 195, 12, 196, 26, 27, 28, 6, 29, 30, 197, 198, 199, 200, 51, 52, 53, 54, 8, 90, 91, 92, 201, 202, 203, 204, 205, 206, 207, 40, 41, 42, 43, 44, 45, 208, 226, 227, 228, 229, 230, 231, 232, 233, 234, 235, 236, 237, 238, 215, 216, 217, 218, 219, 220, 221, 222, 223, 224, 225] rfl (by decide +kernel)
set_option maxRecDepth 20000 in
theorem gX7_way_X3_onWay : GoodIn wsX7_way (wsV RX7 208 RX3 yX3_onWay wsX3_onWay) := goodIn_app (goodIn_of _ (by decide +kernel)) ggX7_way_X3_onWay
theorem dX7_way_0 : decode cX7_way 0 = .ok (.aload_n 0, 1) := by decide +kernel
theorem dX7_way_1 : decode cX7_way 1 = .ok (.getfield 21, 3) := by decide +kernel
theorem dX7_way_4 : decode cX7_way 4 = .ok (.iload_n 1, 1) := by decide +kernel
theorem dX7_way_5 : decode cX7_way 5 = .ok (.invokevirtual 109, 3) := by decide +kernel
theorem dX7_way_8 : decode cX7_way 8 = .ok (.ifCond .ne 6, 3) := by decide +kernel
theorem dX7_way_11 : decode cX7_way 11 = .ok (.bipush (-101), 2) := by decide +kernel
theorem dX7_way_13 : decode cX7_way 13 = .ok (.ireturn, 1) := by decide +kernel
theorem dX7_way_14 : decode cX7_way 14 = .ok (.aload_n 0, 1) := by decide +kernel
theorem dX7_way_15 : decode cX7_way 15 = .ok (.getfield 46, 3) := by decide +kernel
theorem dX7_way_18 : decode cX7_way 18 = .ok (.invokevirtual 134, 3) := by decide +kernel
theorem dX7_way_21 : decode cX7_way 21 = .ok (.aload_n 0, 1) := by decide +kernel
theorem dX7_way_22 : decode cX7_way 22 = .ok (.getfield 46, 3) := by decide +kernel
theorem dX7_way_25 : decode cX7_way 25 = .ok (.iload_n 1, 1) := by decide +kernel
theorem dX7_way_26 : decode cX7_way 26 = .ok (.iload_n 2, 1) := by decide +kernel
theorem dX7_way_27 : decode cX7_way 27 = .ok (.invokevirtual 208, 3) := by decide +kernel
theorem dX7_way_30 : decode cX7_way 30 = .ok (.ireturn, 1) := by decide +kernel
set_option maxRecDepth 20000 in
theorem ggX7_run_X2_play : GoodIn wsX7_run wsX2_play := goodIn_r _ [6, 7, 8, 9, 10, 11, 5, 12, 13, 14, 15, 16, 17, 18, 19, 20, 21, 22, 23, 24, 25, 26, 27, 28, 29, 30, 31, 32, 33, 34, 35, 36, 37, 38, 39, 40, 41, 42, 43, 44, 45, 46, 47, 48, 49, 50, 51, 52, 53, 54, 55, 56, 57, 58, 59, 60, 61, 62, 63, 64, 65, 66, 67, 68, 69, 70, 71, 72, 73, 74, 75, 76, 77, 78, 79, 80, 81, 82, 83, 84, 85, 86, 87, 88, 89, 90, 91, 92, 93, 94, 95, 96, 97, 98, 99, 100, 101, 102, 103, 104, 105, 106, 107, 108, 109, 110, 111, 112, 113, 114, 115, 116, 117, 118, 119, 120, 121, 122, 123, 124, 125, 126, 127, 128, 129, 130, 131, 132, 133, 134, 135, 136, 137, 138, 139, 140, 141, 142, 143, 144, 145, 146, 147, 148, 149, 150, 151, 152, 153, 154, 155, 156, 157, 158, 159, 160, 161, 162, 163, 164, 165, 166, 167, 168, 169, 170, 171, 172, 173, 174, 175, 176, 177, 178, 179, 180, 181, 182, 183, 184, 185, 186, 187, 188, 189, 190, 191, 192, 193, 194, 195, 227, 228, 229, 230, 231, 232, 233, 234, 235, 236, 237, 238, 239, 240, 241, 242, 243, 244, 245, 246, 247, 248, 249, 250, 251, 252, 253, 254, 255, 256, 257, 258, 259, 260, 261, 262, 263, 264, 265, 266, 267, 268] rfl (by decide +kernel)
set_option maxRecDepth 20000 in
theorem gX7_run_X2_play : GoodIn wsX7_run (wsV RX7 211 RX2 yX2_play wsX2_play) := goodIn_app (goodIn_of _ (by decide +kernel)) ggX7_run_X2_play
set_option maxRecDepth 20000 in
theorem ggX7_run_X2_steps : GoodIn wsX7_run wsX2_steps := goodIn_r _ [199, 18, 227, 228, 229, 230, 231, 232, 233, 234, 235, 236, 237, 238, 239, 240, 241] rfl (by decide +kernel)
set_option maxRecDepth 20000 in
theorem gX7_run_X2_steps : GoodIn wsX7_run (wsV RX7 215 RX2 yX2_steps wsX2_steps) := goodIn_app (goodIn_of _ (by decide +kernel)) ggX7_run_X2_steps
set_option maxRecDepth 20000 in
theorem ggX7_run_X2_ran : GoodIn wsX7_run wsX2_ran := goodIn_r _ [203, 15, 227, 228, 229, 230, 231, 232, 233, 234, 235, 236, 237, 238, 239, 240, 241] rfl (by decide +kernel)
set_option maxRecDepth 20000 in
theorem gX7_run_X2_ran : GoodIn wsX7_run (wsV RX7 218 RX2 yX2_ran wsX2_ran) := goodIn_app (goodIn_of _ (by decide +kernel)) ggX7_run_X2_ran
set_option maxRecDepth 20000 in
theorem ggX7_run_J13_bitCount_95d88 : GoodIn wsX7_run wsJ13_bitCount_95d88 := goodIn_r _ [112, 113, 114, 115] rfl (by decide +kernel)
set_option maxRecDepth 20000 in
theorem gX7_run_J13_bitCount_95d88 : GoodIn wsX7_run (va_wsS RX7 141 yJ13_bitCount_95d88 wsJ13_bitCount_95d88) := goodIn_app (goodIn_of _ (by decide +kernel)) ggX7_run_J13_bitCount_95d88
set_option maxRecDepth 20000 in
theorem ggX7_run_X2_poolSize : GoodIn wsX7_run wsX2_poolSize := goodIn_r _ [208, 17, 227, 228, 229, 230, 231, 232, 233, 234, 235, 236, 237, 238, 239, 240, 241] rfl (by decide +kernel)
set_option maxRecDepth 20000 in
theorem gX7_run_X2_poolSize : GoodIn wsX7_run (wsV RX7 221 RX2 yX2_poolSize wsX2_poolSize) := goodIn_app (goodIn_of _ (by decide +kernel)) ggX7_run_X2_poolSize
set_option maxRecDepth 20000 in
theorem ggX7_run_X2_begunTypes : GoodIn wsX7_run wsX2_begunTypes := goodIn_r _ [212, 16, 227, 228, 229, 230, 231, 232, 233, 234, 235, 236, 237, 238, 239, 240, 241] rfl (by decide +kernel)
set_option maxRecDepth 20000 in
theorem gX7_run_X2_begunTypes : GoodIn wsX7_run (wsV RX7 224 RX2 yX2_begunTypes wsX2_begunTypes) := goodIn_app (goodIn_of _ (by decide +kernel)) ggX7_run_X2_begunTypes
set_option maxRecDepth 20000 in
theorem ggX7_run_X2_leftCalls : GoodIn wsX7_run wsX2_leftCalls := goodIn_r _ [216, 19, 227, 228, 229, 230, 231, 232, 233, 234, 235, 236, 237, 238, 239, 240, 241] rfl (by decide +kernel)
set_option maxRecDepth 20000 in
theorem gX7_run_X2_leftCalls : GoodIn wsX7_run (wsV RX7 225 RX2 yX2_leftCalls wsX2_leftCalls) := goodIn_app (goodIn_of _ (by decide +kernel)) ggX7_run_X2_leftCalls
set_option maxRecDepth 20000 in
theorem ggX7_run_X2_latest : GoodIn wsX7_run wsX2_latest := goodIn_r _ [220, 20, 227, 228, 229, 230, 231, 232, 233, 234, 235, 236, 237, 238, 239, 240, 241] rfl (by decide +kernel)
set_option maxRecDepth 20000 in
theorem gX7_run_X2_latest : GoodIn wsX7_run (wsV RX7 228 RX2 yX2_latest wsX2_latest) := goodIn_app (goodIn_of _ (by decide +kernel)) ggX7_run_X2_latest
theorem dX7_run_0 : decode cX7_run 0 = .ok (.iload_n 3, 1) := by decide +kernel
theorem dX7_run_1 : decode cX7_run 1 = .ok (.ifCond .lt 8, 3) := by decide +kernel
theorem dX7_run_4 : decode cX7_run 4 = .ok (.iload_n 3, 1) := by decide +kernel
theorem dX7_run_5 : decode cX7_run 5 = .ok (.iconst 5, 1) := by decide +kernel
theorem dX7_run_6 : decode cX7_run 6 = .ok (.if_icmp .le 6, 3) := by decide +kernel
theorem dX7_run_9 : decode cX7_run 9 = .ok (.bipush (-102), 2) := by decide +kernel
theorem dX7_run_11 : decode cX7_run 11 = .ok (.ireturn, 1) := by decide +kernel
theorem dX7_run_12 : decode cX7_run 12 = .ok (.aload_n 0, 1) := by decide +kernel
theorem dX7_run_13 : decode cX7_run 13 = .ok (.getfield 53, 3) := by decide +kernel
theorem dX7_run_16 : decode cX7_run 16 = .ok (.lload_n 1, 1) := by decide +kernel
theorem dX7_run_17 : decode cX7_run 17 = .ok (.invokevirtual 211, 3) := by decide +kernel
theorem dX7_run_20 : decode cX7_run 20 = .ok (.iload_n 3, 1) := by decide +kernel
theorem dX7_run_21 : decode cX7_run 21 = .ok (.tableswitch 81 0 4 #[35, 43, 54, 62, 73], 35) := by decide +kernel
theorem dX7_run_56 : decode cX7_run 56 = .ok (.aload_n 0, 1) := by decide +kernel
theorem dX7_run_57 : decode cX7_run 57 = .ok (.getfield 53, 3) := by decide +kernel
theorem dX7_run_60 : decode cX7_run 60 = .ok (.invokevirtual 215, 3) := by decide +kernel
theorem dX7_run_63 : decode cX7_run 63 = .ok (.ireturn, 1) := by decide +kernel
theorem dX7_run_64 : decode cX7_run 64 = .ok (.aload_n 0, 1) := by decide +kernel
theorem dX7_run_65 : decode cX7_run 65 = .ok (.getfield 53, 3) := by decide +kernel
theorem dX7_run_68 : decode cX7_run 68 = .ok (.invokevirtual 218, 3) := by decide +kernel
theorem dX7_run_71 : decode cX7_run 71 = .ok (.invokestatic 141, 3) := by decide +kernel
theorem dX7_run_74 : decode cX7_run 74 = .ok (.ireturn, 1) := by decide +kernel
theorem dX7_run_75 : decode cX7_run 75 = .ok (.aload_n 0, 1) := by decide +kernel
theorem dX7_run_76 : decode cX7_run 76 = .ok (.getfield 53, 3) := by decide +kernel
theorem dX7_run_79 : decode cX7_run 79 = .ok (.invokevirtual 221, 3) := by decide +kernel
theorem dX7_run_82 : decode cX7_run 82 = .ok (.ireturn, 1) := by decide +kernel
theorem dX7_run_83 : decode cX7_run 83 = .ok (.aload_n 0, 1) := by decide +kernel
theorem dX7_run_84 : decode cX7_run 84 = .ok (.getfield 53, 3) := by decide +kernel
theorem dX7_run_87 : decode cX7_run 87 = .ok (.invokevirtual 224, 3) := by decide +kernel
theorem dX7_run_90 : decode cX7_run 90 = .ok (.invokestatic 141, 3) := by decide +kernel
theorem dX7_run_93 : decode cX7_run 93 = .ok (.ireturn, 1) := by decide +kernel
theorem dX7_run_94 : decode cX7_run 94 = .ok (.aload_n 0, 1) := by decide +kernel
theorem dX7_run_95 : decode cX7_run 95 = .ok (.getfield 53, 3) := by decide +kernel
theorem dX7_run_98 : decode cX7_run 98 = .ok (.invokevirtual 225, 3) := by decide +kernel
theorem dX7_run_101 : decode cX7_run 101 = .ok (.ireturn, 1) := by decide +kernel
theorem dX7_run_102 : decode cX7_run 102 = .ok (.aload_n 0, 1) := by decide +kernel
theorem dX7_run_103 : decode cX7_run 103 = .ok (.getfield 53, 3) := by decide +kernel
theorem dX7_run_106 : decode cX7_run 106 = .ok (.invokevirtual 228, 3) := by decide +kernel
theorem dX7_run_109 : decode cX7_run 109 = .ok (.ireturn, 1) := by decide +kernel
set_option maxRecDepth 20000 in
theorem ggX7_holds_X3_refresh : GoodIn wsX7_holds wsX3_refresh := goodIn_r _ [7, 8, 9, 10, 11, 6, 12, 13, 14, 15, 16, 17, 18, 19, 20, 21, 22, 23, 24, 25, 26, 27, 28, 29, 30, 31, 32, 33, 34, 35, 36, 37, 38, 39, 40, 41, 42, 43, 44, 45, 46, 47, 48, 49, 50, 51, 52, 53, 54, 55, 56, 57, 58, 59, 60, 61, 62, 63, 64, 65, 66, 67, 68, 69, 70, 71, 72, 73, 74, 75, 76, 77, 78, 79, 80, 81, 82, 83, 84, 85, 86, 87, 88, 89, 90, 91, 92, 93, 94, 95, 96, 97, 98, 99, 100, 101, 102, 103, 104, 105, 106, 107, 108, 109, 110, 111, 112, 113, 114, 115, 116, 117, 118, 119, 120, 121, 122, 123, 124, 125, 126, 127, 128, 129, 130, 131, 132, 133, 134, 135, 136, 137, 138, 139, 140, 141, 142, 143, 144, 145, 146, 147, 148, 149, 150, 151, 152, 153, 154, 155, 156, 157, 158, 159, 160, 161, 162, 163, 164, 165, 166, 167, 168, 169, 170, 171, 172, 173, 174, 175, 176, 177, 178, 179, 180, 181, 182, 183, 338, 339, 340, 341, 342, 343, 344, 345, 346, 347, 348, 349, 350, 351, 352, 353, 354, 355, 356, 357, 358, 359, 360, 361, 362, 363, 364, 365, 366, 367, 368, 369, 370, 371, 372, 373, 374, 375, 376, 377] rfl (by decide +kernel)
set_option maxRecDepth 20000 in
theorem gX7_holds_X3_refresh : GoodIn wsX7_holds (wsV RX7 134 RX3 yX3_refresh wsX3_refresh) := goodIn_app (goodIn_of _ (by decide +kernel)) ggX7_holds_X3_refresh
set_option maxRecDepth 20000 in
theorem ggX7_holds_X2_play : GoodIn wsX7_holds wsX2_play := goodIn_r _ [188, 189, 190, 191, 192, 193, 187, 194, 195, 196, 197, 198, 199, 200, 201, 202, 203, 204, 28, 205, 206, 27, 29, 207, 47, 48, 23, 49, 50, 208, 209, 210, 211, 25, 212, 52, 53, 54, 213, 214, 215, 216, 217, 218, 87, 88, 219, 56, 57, 58, 59, 60, 220, 221, 222, 223, 224, 225, 226, 62, 63, 64, 65, 227, 228, 229, 230, 231, 232, 233, 113, 114, 103, 115, 116, 234, 235, 236, 237, 95, 96, 97, 98, 99, 100, 101, 102, 104, 105, 106, 107, 108, 109, 110, 111, 238, 118, 119, 120, 121, 239, 240, 241, 242, 243, 35, 36, 37, 38, 39, 40, 244, 245, 246, 247, 248, 249, 250, 251, 252, 253, 254, 72, 73, 74, 75, 255, 136, 137, 138, 139, 256, 257, 258, 259, 260, 77, 78, 79, 80, 261, 141, 142, 143, 144, 145, 146, 147, 148, 149, 150, 151, 152, 262, 263, 162, 163, 164, 165, 264, 265, 266, 82, 83, 84, 85, 267, 268, 269, 270, 154, 155, 156, 271, 272, 273, 274, 275, 276, 277, 278, 279, 280, 281, 167, 168, 169, 170, 282, 283, 284, 378, 379, 380, 381, 382, 383, 384, 385, 386, 387, 388, 389, 390, 391, 392, 351, 352, 353, 354, 355, 356, 357, 358, 359, 360, 361, 368, 369, 370, 371, 372, 373, 362, 363, 364, 365, 366, 367, 374, 375, 376, 377] rfl (by decide +kernel)
set_option maxRecDepth 20000 in
theorem gX7_holds_X2_play : GoodIn wsX7_holds (wsV RX7 211 RX2 yX2_play wsX2_play) := goodIn_app (goodIn_of _ (by decide +kernel)) ggX7_holds_X2_play
set_option maxRecDepth 20000 in
theorem ggX7_holds_X2_ran : GoodIn wsX7_holds wsX2_ran := goodIn_r _ [288, 197, 378, 379, 380, 381, 382, 383, 384, 385, 386, 387, 388, 389, 390, 391, 392] rfl (by decide +kernel)
set_option maxRecDepth 20000 in
theorem gX7_holds_X2_ran : GoodIn wsX7_holds (wsV RX7 218 RX2 yX2_ran wsX2_ran) := goodIn_app (goodIn_of _ (by decide +kernel)) ggX7_holds_X2_ran
set_option maxRecDepth 20000 in
theorem ggX7_holds_X3_reached : GoodIn wsX7_holds wsX3_reached := goodIn_r _ [292, 14, 338, 339, 340, 341, 342, 343, 344, 345, 346, 347, 348, 349, 350] rfl (by decide +kernel)
set_option maxRecDepth 20000 in
theorem gX7_holds_X3_reached : GoodIn wsX7_holds (wsV RX7 147 RX3 yX3_reached wsX3_reached) := goodIn_app (goodIn_of _ (by decide +kernel)) ggX7_holds_X3_reached
set_option maxRecDepth 20000 in
theorem ggX7_holds_X0_within : GoodIn wsX7_holds wsX0_within := goodIn_r _ [295, 296] rfl (by decide +kernel)
set_option maxRecDepth 20000 in
theorem gX7_holds_X0_within : GoodIn wsX7_holds (va_wsS RX7 231 yX0_within wsX0_within) := goodIn_app (goodIn_of _ (by decide +kernel)) ggX7_holds_X0_within
set_option maxRecDepth 20000 in
theorem ggX7_holds_X2_begunTypes : GoodIn wsX7_holds wsX2_begunTypes := goodIn_r _ [300, 198, 378, 379, 380, 381, 382, 383, 384, 385, 386, 387, 388, 389, 390, 391, 392] rfl (by decide +kernel)
set_option maxRecDepth 20000 in
theorem gX7_holds_X2_begunTypes : GoodIn wsX7_holds (wsV RX7 224 RX2 yX2_begunTypes wsX2_begunTypes) := goodIn_app (goodIn_of _ (by decide +kernel)) ggX7_holds_X2_begunTypes
set_option maxRecDepth 20000 in
theorem ggX7_holds_X3_begunTypes : GoodIn wsX7_holds wsX3_begunTypes := goodIn_r _ [304, 16, 338, 339, 340, 341, 342, 343, 344, 345, 346, 347, 348, 349, 350] rfl (by decide +kernel)
set_option maxRecDepth 20000 in
theorem gX7_holds_X3_begunTypes : GoodIn wsX7_holds (wsV RX7 153 RX3 yX3_begunTypes wsX3_begunTypes) := goodIn_app (goodIn_of _ (by decide +kernel)) ggX7_holds_X3_begunTypes
set_option maxRecDepth 20000 in
theorem ggX7_holds_X2_pooledClasses : GoodIn wsX7_holds wsX2_pooledClasses := goodIn_r _ [308, 199, 252, 218, 87, 53, 88, 378, 379, 380, 381, 382, 383, 384, 385, 386, 387, 388, 389, 390, 391, 392] rfl (by decide +kernel)
set_option maxRecDepth 20000 in
theorem gX7_holds_X2_pooledClasses : GoodIn wsX7_holds (wsV RX7 235 RX2 yX2_pooledClasses wsX2_pooledClasses) := goodIn_app (goodIn_of _ (by decide +kernel)) ggX7_holds_X2_pooledClasses
set_option maxRecDepth 20000 in
theorem ggX7_holds_X3_madeClasses : GoodIn wsX7_holds wsX3_madeClasses := goodIn_r _ [312, 15, 338, 339, 340, 341, 342, 343, 344, 345, 346, 347, 348, 349, 350] rfl (by decide +kernel)
set_option maxRecDepth 20000 in
theorem gX7_holds_X3_madeClasses : GoodIn wsX7_holds (wsV RX7 150 RX3 yX3_madeClasses wsX3_madeClasses) := goodIn_app (goodIn_of _ (by decide +kernel)) ggX7_holds_X3_madeClasses
set_option maxRecDepth 20000 in
theorem ggX7_holds_X7_callsHold : GoodIn wsX7_holds wsX7_callsHold := goodIn_r _ [317, 318, 2, 1, 319, 320, 321, 58, 322, 323, 324, 325, 326, 187, 327, 196, 328, 329, 330, 6, 331, 18, 293, 294, 53, 295, 296, 332, 333, 334, 335, 336, 337, 362, 363, 364, 365, 366, 367, 378, 379, 380, 381, 382, 383, 384, 385, 386, 387, 388, 389, 390, 391, 392, 338, 339, 340, 341, 342, 343, 344, 345, 346, 347, 348, 349, 350] rfl (by decide +kernel)
set_option maxRecDepth 20000 in
theorem gX7_holds_X7_callsHold : GoodIn wsX7_holds (wsV RX7 238 RX7 yX7_callsHold wsX7_callsHold) := goodIn_app (goodIn_of _ (by decide +kernel)) ggX7_holds_X7_callsHold
theorem dX7_holds_0 : decode cX7_holds 0 = .ok (.aload_n 0, 1) := by decide +kernel
theorem dX7_holds_1 : decode cX7_holds 1 = .ok (.getfield 46, 3) := by decide +kernel
theorem dX7_holds_4 : decode cX7_holds 4 = .ok (.invokevirtual 134, 3) := by decide +kernel
theorem dX7_holds_7 : decode cX7_holds 7 = .ok (.aload_n 0, 1) := by decide +kernel
theorem dX7_holds_8 : decode cX7_holds 8 = .ok (.getfield 53, 3) := by decide +kernel
theorem dX7_holds_11 : decode cX7_holds 11 = .ok (.lload_n 1, 1) := by decide +kernel
theorem dX7_holds_12 : decode cX7_holds 12 = .ok (.invokevirtual 211, 3) := by decide +kernel
theorem dX7_holds_15 : decode cX7_holds 15 = .ok (.aload_n 0, 1) := by decide +kernel
theorem dX7_holds_16 : decode cX7_holds 16 = .ok (.getfield 53, 3) := by decide +kernel
theorem dX7_holds_19 : decode cX7_holds 19 = .ok (.invokevirtual 218, 3) := by decide +kernel
theorem dX7_holds_22 : decode cX7_holds 22 = .ok (.aload_n 0, 1) := by decide +kernel
theorem dX7_holds_23 : decode cX7_holds 23 = .ok (.getfield 46, 3) := by decide +kernel
theorem dX7_holds_26 : decode cX7_holds 26 = .ok (.invokevirtual 147, 3) := by decide +kernel
theorem dX7_holds_29 : decode cX7_holds 29 = .ok (.invokestatic 231, 3) := by decide +kernel
theorem dX7_holds_32 : decode cX7_holds 32 = .ok (.ifCond .eq 54, 3) := by decide +kernel
theorem dX7_holds_35 : decode cX7_holds 35 = .ok (.aload_n 0, 1) := by decide +kernel
theorem dX7_holds_36 : decode cX7_holds 36 = .ok (.getfield 53, 3) := by decide +kernel
theorem dX7_holds_39 : decode cX7_holds 39 = .ok (.invokevirtual 224, 3) := by decide +kernel
theorem dX7_holds_42 : decode cX7_holds 42 = .ok (.aload_n 0, 1) := by decide +kernel
theorem dX7_holds_43 : decode cX7_holds 43 = .ok (.getfield 46, 3) := by decide +kernel
theorem dX7_holds_46 : decode cX7_holds 46 = .ok (.invokevirtual 153, 3) := by decide +kernel
theorem dX7_holds_49 : decode cX7_holds 49 = .ok (.invokestatic 231, 3) := by decide +kernel
theorem dX7_holds_52 : decode cX7_holds 52 = .ok (.ifCond .eq 34, 3) := by decide +kernel
theorem dX7_holds_55 : decode cX7_holds 55 = .ok (.aload_n 0, 1) := by decide +kernel
theorem dX7_holds_56 : decode cX7_holds 56 = .ok (.getfield 53, 3) := by decide +kernel
theorem dX7_holds_59 : decode cX7_holds 59 = .ok (.invokevirtual 235, 3) := by decide +kernel
theorem dX7_holds_62 : decode cX7_holds 62 = .ok (.aload_n 0, 1) := by decide +kernel
theorem dX7_holds_63 : decode cX7_holds 63 = .ok (.getfield 46, 3) := by decide +kernel
theorem dX7_holds_66 : decode cX7_holds 66 = .ok (.invokevirtual 150, 3) := by decide +kernel
theorem dX7_holds_69 : decode cX7_holds 69 = .ok (.invokestatic 231, 3) := by decide +kernel
theorem dX7_holds_72 : decode cX7_holds 72 = .ok (.ifCond .eq 14, 3) := by decide +kernel
theorem dX7_holds_75 : decode cX7_holds 75 = .ok (.aload_n 0, 1) := by decide +kernel
theorem dX7_holds_76 : decode cX7_holds 76 = .ok (.invokevirtual 238, 3) := by decide +kernel
theorem dX7_holds_79 : decode cX7_holds 79 = .ok (.ifCond .eq 7, 3) := by decide +kernel
theorem dX7_holds_82 : decode cX7_holds 82 = .ok (.iconst 1, 1) := by decide +kernel
theorem dX7_holds_83 : decode cX7_holds 83 = .ok (.goto 4, 3) := by decide +kernel
theorem dX7_holds_86 : decode cX7_holds 86 = .ok (.iconst 0, 1) := by decide +kernel
theorem dX7_holds_87 : decode cX7_holds 87 = .ok (.ireturn, 1) := by decide +kernel
set_option maxRecDepth 20000 in
theorem ggX7_callsHold_X5_size : GoodIn wsX7_callsHold wsX5_size := goodIn_r _ [8, 9, 33, 34, 35, 36, 37, 38] rfl (by decide +kernel)
set_option maxRecDepth 20000 in
theorem gX7_callsHold_X5_size : GoodIn wsX7_callsHold (wsV RX7 124 RX5 yX5_size wsX5_size) := goodIn_app (goodIn_of _ (by decide +kernel)) ggX7_callsHold_X5_size
set_option maxRecDepth 20000 in
theorem ggX7_callsHold_X2_triedBy : GoodIn wsX7_callsHold wsX2_triedBy := goodIn_r _ [14, 15, 39, 40, 41, 42, 43, 44, 45, 46, 47, 48, 49, 50, 51, 52, 53] rfl (by decide +kernel)
set_option maxRecDepth 20000 in
theorem gX7_callsHold_X2_triedBy : GoodIn wsX7_callsHold (wsV RX7 242 RX2 yX2_triedBy wsX2_triedBy) := goodIn_app (goodIn_of _ (by decide +kernel)) ggX7_callsHold_X2_triedBy
set_option maxRecDepth 20000 in
theorem ggX7_callsHold_X3_calleesOf : GoodIn wsX7_callsHold wsX3_calleesOf := goodIn_r _ [20, 21, 54, 55, 56, 57, 58, 59, 60, 61, 62, 63, 64, 65, 66] rfl (by decide +kernel)
set_option maxRecDepth 20000 in
theorem gX7_callsHold_X3_calleesOf : GoodIn wsX7_callsHold (wsV RX7 198 RX3 yX3_calleesOf wsX3_calleesOf) := goodIn_app (goodIn_of _ (by decide +kernel)) ggX7_callsHold_X3_calleesOf
set_option maxRecDepth 20000 in
theorem ggX7_callsHold_X0_within : GoodIn wsX7_callsHold wsX0_within := goodIn_r _ [25, 26] rfl (by decide +kernel)
set_option maxRecDepth 20000 in
theorem gX7_callsHold_X0_within : GoodIn wsX7_callsHold (va_wsS RX7 231 yX0_within wsX0_within) := goodIn_app (goodIn_of _ (by decide +kernel)) ggX7_callsHold_X0_within
theorem dX7_callsHold_0 : decode cX7_callsHold 0 = .ok (.iconst 0, 1) := by decide +kernel
theorem dX7_callsHold_1 : decode cX7_callsHold 1 = .ok (.istore_n 1, 1) := by decide +kernel
theorem dX7_callsHold_2 : decode cX7_callsHold 2 = .ok (.iload_n 1, 1) := by decide +kernel
theorem dX7_callsHold_3 : decode cX7_callsHold 3 = .ok (.aload_n 0, 1) := by decide +kernel
theorem dX7_callsHold_4 : decode cX7_callsHold 4 = .ok (.getfield 37, 3) := by decide +kernel
theorem dX7_callsHold_7 : decode cX7_callsHold 7 = .ok (.invokevirtual 124, 3) := by decide +kernel
theorem dX7_callsHold_10 : decode cX7_callsHold 10 = .ok (.if_icmp .ge 33, 3) := by decide +kernel
theorem dX7_callsHold_13 : decode cX7_callsHold 13 = .ok (.aload_n 0, 1) := by decide +kernel
theorem dX7_callsHold_14 : decode cX7_callsHold 14 = .ok (.getfield 53, 3) := by decide +kernel
theorem dX7_callsHold_17 : decode cX7_callsHold 17 = .ok (.iload_n 1, 1) := by decide +kernel
theorem dX7_callsHold_18 : decode cX7_callsHold 18 = .ok (.invokevirtual 242, 3) := by decide +kernel
theorem dX7_callsHold_21 : decode cX7_callsHold 21 = .ok (.aload_n 0, 1) := by decide +kernel
theorem dX7_callsHold_22 : decode cX7_callsHold 22 = .ok (.getfield 46, 3) := by decide +kernel
theorem dX7_callsHold_25 : decode cX7_callsHold 25 = .ok (.iload_n 1, 1) := by decide +kernel
theorem dX7_callsHold_26 : decode cX7_callsHold 26 = .ok (.invokevirtual 198, 3) := by decide +kernel
theorem dX7_callsHold_29 : decode cX7_callsHold 29 = .ok (.invokestatic 231, 3) := by decide +kernel
theorem dX7_callsHold_32 : decode cX7_callsHold 32 = .ok (.ifCond .ne 5, 3) := by decide +kernel
theorem dX7_callsHold_35 : decode cX7_callsHold 35 = .ok (.iconst 0, 1) := by decide +kernel
theorem dX7_callsHold_36 : decode cX7_callsHold 36 = .ok (.ireturn, 1) := by decide +kernel
theorem dX7_callsHold_37 : decode cX7_callsHold 37 = .ok (.iinc 1 1, 3) := by decide +kernel
theorem dX7_callsHold_40 : decode cX7_callsHold 40 = .ok (.goto (-38), 3) := by decide +kernel
theorem dX7_callsHold_43 : decode cX7_callsHold 43 = .ok (.iconst 1, 1) := by decide +kernel
theorem dX7_callsHold_44 : decode cX7_callsHold 44 = .ok (.ireturn, 1) := by decide +kernel
theorem dX7_isName_0 : decode cX7_isName 0 = .ok (.iload_n 0, 1) := by decide +kernel
theorem dX7_isName_1 : decode cX7_isName 1 = .ok (.ifCond .lt 13, 3) := by decide +kernel
theorem dX7_isName_4 : decode cX7_isName 4 = .ok (.iload_n 0, 1) := by decide +kernel
theorem dX7_isName_5 : decode cX7_isName 5 = .ok (.bipush 10, 2) := by decide +kernel
theorem dX7_isName_7 : decode cX7_isName 7 = .ok (.if_icmp .ge 7, 3) := by decide +kernel
theorem dX7_isName_10 : decode cX7_isName 10 = .ok (.iconst 1, 1) := by decide +kernel
theorem dX7_isName_11 : decode cX7_isName 11 = .ok (.goto 4, 3) := by decide +kernel
theorem dX7_isName_14 : decode cX7_isName 14 = .ok (.iconst 0, 1) := by decide +kernel
theorem dX7_isName_15 : decode cX7_isName 15 = .ok (.ireturn, 1) := by decide +kernel
theorem dX7_isBag_0 : decode cX7_isBag 0 = .ok (.iload_n 0, 1) := by decide +kernel
theorem dX7_isBag_1 : decode cX7_isBag 1 = .ok (.ifCond .lt 12, 3) := by decide +kernel
theorem dX7_isBag_4 : decode cX7_isBag 4 = .ok (.iload_n 0, 1) := by decide +kernel
theorem dX7_isBag_5 : decode cX7_isBag 5 = .ok (.iconst 4, 1) := by decide +kernel
theorem dX7_isBag_6 : decode cX7_isBag 6 = .ok (.if_icmp .ge 7, 3) := by decide +kernel
theorem dX7_isBag_9 : decode cX7_isBag 9 = .ok (.iconst 1, 1) := by decide +kernel
theorem dX7_isBag_10 : decode cX7_isBag 10 = .ok (.goto 4, 3) := by decide +kernel
theorem dX7_isBag_13 : decode cX7_isBag 13 = .ok (.iconst 0, 1) := by decide +kernel
theorem dX7_isBag_14 : decode cX7_isBag 14 = .ok (.ireturn, 1) := by decide +kernel
set_option maxRecDepth 20000 in
theorem ggX7_partsKnown_X6_knows : GoodIn wsX7_partsKnown wsX6_knows := goodIn_r _ [7, 8, 21, 22, 23, 24, 25, 26] rfl (by decide +kernel)
set_option maxRecDepth 20000 in
theorem gX7_partsKnown_X6_knows : GoodIn wsX7_partsKnown (wsV RX7 57 RX6 yX6_knows wsX6_knows) := goodIn_app (goodIn_of _ (by decide +kernel)) ggX7_partsKnown_X6_knows
set_option maxRecDepth 20000 in
theorem ggX7_partsKnown_X4_knows : GoodIn wsX7_partsKnown wsX4_knows := goodIn_r _ [13, 14, 27, 28, 29, 30, 31, 32, 33, 34, 35, 36, 37] rfl (by decide +kernel)
set_option maxRecDepth 20000 in
theorem gX7_partsKnown_X4_knows : GoodIn wsX7_partsKnown (wsV RX7 109 RX4 yX4_knows wsX4_knows) := goodIn_app (goodIn_of _ (by decide +kernel)) ggX7_partsKnown_X4_knows
theorem dX7_partsKnown_0 : decode cX7_partsKnown 0 = .ok (.iload_n 1, 1) := by decide +kernel
theorem dX7_partsKnown_1 : decode cX7_partsKnown 1 = .ok (.tableswitch 57 0 5 #[39, 39, 39, 39, 39, 48], 39) := by decide +kernel
theorem dX7_partsKnown_40 : decode cX7_partsKnown 40 = .ok (.aload_n 0, 1) := by decide +kernel
theorem dX7_partsKnown_41 : decode cX7_partsKnown 41 = .ok (.getfield 10, 3) := by decide +kernel
theorem dX7_partsKnown_44 : decode cX7_partsKnown 44 = .ok (.iload_n 2, 1) := by decide +kernel
theorem dX7_partsKnown_45 : decode cX7_partsKnown 45 = .ok (.invokevirtual 57, 3) := by decide +kernel
theorem dX7_partsKnown_48 : decode cX7_partsKnown 48 = .ok (.ireturn, 1) := by decide +kernel
theorem dX7_partsKnown_49 : decode cX7_partsKnown 49 = .ok (.aload_n 0, 1) := by decide +kernel
theorem dX7_partsKnown_50 : decode cX7_partsKnown 50 = .ok (.getfield 21, 3) := by decide +kernel
theorem dX7_partsKnown_53 : decode cX7_partsKnown 53 = .ok (.iload_n 3, 1) := by decide +kernel
theorem dX7_partsKnown_54 : decode cX7_partsKnown 54 = .ok (.invokevirtual 109, 3) := by decide +kernel
theorem dX7_partsKnown_57 : decode cX7_partsKnown 57 = .ok (.ireturn, 1) := by decide +kernel
theorem dX7_partsKnown_58 : decode cX7_partsKnown 58 = .ok (.iconst 1, 1) := by decide +kernel
theorem dX7_partsKnown_59 : decode cX7_partsKnown 59 = .ok (.ireturn, 1) := by decide +kernel
set_option maxRecDepth 20000 in
theorem ggX7_partsFit_X6_kindOf : GoodIn wsX7_partsFit wsX6_kindOf := goodIn_r _ [7, 8, 47, 48, 49, 50, 51, 52] rfl (by decide +kernel)
set_option maxRecDepth 20000 in
theorem gX7_partsFit_X6_kindOf : GoodIn wsX7_partsFit (wsV RX7 92 RX6 yX6_kindOf wsX6_kindOf) := goodIn_app (goodIn_of _ (by decide +kernel)) ggX7_partsFit_X6_kindOf
set_option maxRecDepth 20000 in
theorem ggX7_partsFit_X7_isName : GoodIn wsX7_partsFit wsX7_isName := goodIn_r _ [12] rfl (by decide +kernel)
set_option maxRecDepth 20000 in
theorem gX7_partsFit_X7_isName : GoodIn wsX7_partsFit (va_wsS RX7 89 yX7_isName wsX7_isName) := goodIn_app (goodIn_of _ (by decide +kernel)) ggX7_partsFit_X7_isName
set_option maxRecDepth 20000 in
theorem ggX7_partsFit_X4_typeOf : GoodIn wsX7_partsFit wsX4_typeOf := goodIn_r _ [17, 18, 53, 54, 55, 56, 57, 58, 59, 60, 61, 62, 63] rfl (by decide +kernel)
set_option maxRecDepth 20000 in
theorem gX7_partsFit_X4_typeOf : GoodIn wsX7_partsFit (wsV RX7 245 RX4 yX4_typeOf wsX4_typeOf) := goodIn_app (goodIn_of _ (by decide +kernel)) ggX7_partsFit_X4_typeOf
set_option maxRecDepth 20000 in
theorem ggX7_partsFit_X6_isNextAbove : GoodIn wsX7_partsFit wsX6_isNextAbove := goodIn_r _ [22, 23, 24, 25, 26, 6, 27, 28, 29, 30, 31, 32, 47, 48, 49, 50, 51, 52] rfl (by decide +kernel)
set_option maxRecDepth 20000 in
theorem gX7_partsFit_X6_isNextAbove : GoodIn wsX7_partsFit (wsV RX7 248 RX6 yX6_isNextAbove wsX6_isNextAbove) := goodIn_app (goodIn_of _ (by decide +kernel)) ggX7_partsFit_X6_isNextAbove
set_option maxRecDepth 20000 in
theorem ggX7_partsFit_X7_isBag : GoodIn wsX7_partsFit wsX7_isBag := goodIn_r _ [35] rfl (by decide +kernel)
set_option maxRecDepth 20000 in
theorem gX7_partsFit_X7_isBag : GoodIn wsX7_partsFit (va_wsS RX7 251 yX7_isBag wsX7_isBag) := goodIn_app (goodIn_of _ (by decide +kernel)) ggX7_partsFit_X7_isBag
set_option maxRecDepth 20000 in
theorem ggX7_partsFit_X4_isHandle : GoodIn wsX7_partsFit wsX4_isHandle := goodIn_r _ [39, 40, 53, 54, 55, 56, 57, 58, 59, 60, 61, 62, 63] rfl (by decide +kernel)
set_option maxRecDepth 20000 in
theorem gX7_partsFit_X4_isHandle : GoodIn wsX7_partsFit (wsV RX7 254 RX4 yX4_isHandle wsX4_isHandle) := goodIn_app (goodIn_of _ (by decide +kernel)) ggX7_partsFit_X4_isHandle
theorem dX7_partsFit_0 : decode cX7_partsFit 0 = .ok (.iload_n 2, 1) := by decide +kernel
theorem dX7_partsFit_1 : decode cX7_partsFit 1 = .ok (.tableswitch 141 0 7 #[47, 64, 70, 64, 103, 105, 130, 135], 47) := by decide +kernel
theorem dX7_partsFit_48 : decode cX7_partsFit 48 = .ok (.aload_n 0, 1) := by decide +kernel
theorem dX7_partsFit_49 : decode cX7_partsFit 49 = .ok (.getfield 10, 3) := by decide +kernel
theorem dX7_partsFit_52 : decode cX7_partsFit 52 = .ok (.iload_n 3, 1) := by decide +kernel
theorem dX7_partsFit_53 : decode cX7_partsFit 53 = .ok (.invokevirtual 92, 3) := by decide +kernel
theorem dX7_partsFit_56 : decode cX7_partsFit 56 = .ok (.ifCond .ne 7, 3) := by decide +kernel
theorem dX7_partsFit_59 : decode cX7_partsFit 59 = .ok (.iconst 1, 1) := by decide +kernel
theorem dX7_partsFit_60 : decode cX7_partsFit 60 = .ok (.goto 4, 3) := by decide +kernel
theorem dX7_partsFit_63 : decode cX7_partsFit 63 = .ok (.iconst 0, 1) := by decide +kernel
theorem dX7_partsFit_64 : decode cX7_partsFit 64 = .ok (.ireturn, 1) := by decide +kernel
theorem dX7_partsFit_65 : decode cX7_partsFit 65 = .ok (.iload 4, 2) := by decide +kernel
theorem dX7_partsFit_67 : decode cX7_partsFit 67 = .ok (.invokestatic 89, 3) := by decide +kernel
theorem dX7_partsFit_70 : decode cX7_partsFit 70 = .ok (.ireturn, 1) := by decide +kernel
theorem dX7_partsFit_71 : decode cX7_partsFit 71 = .ok (.iload 4, 2) := by decide +kernel
theorem dX7_partsFit_73 : decode cX7_partsFit 73 = .ok (.invokestatic 89, 3) := by decide +kernel
theorem dX7_partsFit_76 : decode cX7_partsFit 76 = .ok (.ifCond .eq 26, 3) := by decide +kernel
theorem dX7_partsFit_79 : decode cX7_partsFit 79 = .ok (.aload_n 0, 1) := by decide +kernel
theorem dX7_partsFit_80 : decode cX7_partsFit 80 = .ok (.getfield 10, 3) := by decide +kernel
theorem dX7_partsFit_83 : decode cX7_partsFit 83 = .ok (.iload_n 3, 1) := by decide +kernel
theorem dX7_partsFit_84 : decode cX7_partsFit 84 = .ok (.aload_n 0, 1) := by decide +kernel
theorem dX7_partsFit_85 : decode cX7_partsFit 85 = .ok (.getfield 21, 3) := by decide +kernel
theorem dX7_partsFit_88 : decode cX7_partsFit 88 = .ok (.iload_n 1, 1) := by decide +kernel
theorem dX7_partsFit_89 : decode cX7_partsFit 89 = .ok (.invokevirtual 245, 3) := by decide +kernel
theorem dX7_partsFit_92 : decode cX7_partsFit 92 = .ok (.invokevirtual 248, 3) := by decide +kernel
theorem dX7_partsFit_95 : decode cX7_partsFit 95 = .ok (.ifCond .eq 7, 3) := by decide +kernel
theorem dX7_partsFit_98 : decode cX7_partsFit 98 = .ok (.iconst 1, 1) := by decide +kernel
theorem dX7_partsFit_99 : decode cX7_partsFit 99 = .ok (.goto 4, 3) := by decide +kernel
theorem dX7_partsFit_102 : decode cX7_partsFit 102 = .ok (.iconst 0, 1) := by decide +kernel
theorem dX7_partsFit_103 : decode cX7_partsFit 103 = .ok (.ireturn, 1) := by decide +kernel
theorem dX7_partsFit_104 : decode cX7_partsFit 104 = .ok (.iconst 1, 1) := by decide +kernel
theorem dX7_partsFit_105 : decode cX7_partsFit 105 = .ok (.ireturn, 1) := by decide +kernel
theorem dX7_partsFit_106 : decode cX7_partsFit 106 = .ok (.iload_n 3, 1) := by decide +kernel
theorem dX7_partsFit_107 : decode cX7_partsFit 107 = .ok (.invokestatic 251, 3) := by decide +kernel
theorem dX7_partsFit_110 : decode cX7_partsFit 110 = .ok (.ifCond .eq 19, 3) := by decide +kernel
theorem dX7_partsFit_113 : decode cX7_partsFit 113 = .ok (.aload_n 0, 1) := by decide +kernel
theorem dX7_partsFit_114 : decode cX7_partsFit 114 = .ok (.getfield 21, 3) := by decide +kernel
theorem dX7_partsFit_117 : decode cX7_partsFit 117 = .ok (.iload 4, 2) := by decide +kernel
theorem dX7_partsFit_119 : decode cX7_partsFit 119 = .ok (.invokevirtual 254, 3) := by decide +kernel
theorem dX7_partsFit_122 : decode cX7_partsFit 122 = .ok (.ifCond .eq 7, 3) := by decide +kernel
theorem dX7_partsFit_125 : decode cX7_partsFit 125 = .ok (.iconst 1, 1) := by decide +kernel
theorem dX7_partsFit_126 : decode cX7_partsFit 126 = .ok (.goto 4, 3) := by decide +kernel
theorem dX7_partsFit_129 : decode cX7_partsFit 129 = .ok (.iconst 0, 1) := by decide +kernel
theorem dX7_partsFit_130 : decode cX7_partsFit 130 = .ok (.ireturn, 1) := by decide +kernel
theorem dX7_partsFit_131 : decode cX7_partsFit 131 = .ok (.iload_n 3, 1) := by decide +kernel
theorem dX7_partsFit_132 : decode cX7_partsFit 132 = .ok (.invokestatic 251, 3) := by decide +kernel
theorem dX7_partsFit_135 : decode cX7_partsFit 135 = .ok (.ireturn, 1) := by decide +kernel
theorem dX7_partsFit_136 : decode cX7_partsFit 136 = .ok (.iload 4, 2) := by decide +kernel
theorem dX7_partsFit_138 : decode cX7_partsFit 138 = .ok (.invokestatic 89, 3) := by decide +kernel
theorem dX7_partsFit_141 : decode cX7_partsFit 141 = .ok (.ireturn, 1) := by decide +kernel
theorem dX7_partsFit_142 : decode cX7_partsFit 142 = .ok (.iconst 0, 1) := by decide +kernel
theorem dX7_partsFit_143 : decode cX7_partsFit 143 = .ok (.ireturn, 1) := by decide +kernel
theorem dX8_init_0 : decode cX8_init 0 = .ok (.aload_n 0, 1) := by decide +kernel
theorem dX8_init_1 : decode cX8_init 1 = .ok (.invokespecial 1, 3) := by decide +kernel
theorem dX8_init_4 : decode cX8_init 4 = .ok (.aload_n 0, 1) := by decide +kernel
theorem dX8_init_5 : decode cX8_init 5 = .ok (.bipush 16, 2) := by decide +kernel
theorem dX8_init_7 : decode cX8_init 7 = .ok (.newarray .int, 2) := by decide +kernel
theorem dX8_init_9 : decode cX8_init 9 = .ok (.putfield 7, 3) := by decide +kernel
theorem dX8_init_12 : decode cX8_init 12 = .ok (.aload_n 0, 1) := by decide +kernel
theorem dX8_init_13 : decode cX8_init 13 = .ok (.bipush 16, 2) := by decide +kernel
theorem dX8_init_15 : decode cX8_init 15 = .ok (.newarray .int, 2) := by decide +kernel
theorem dX8_init_17 : decode cX8_init 17 = .ok (.putfield 13, 3) := by decide +kernel
theorem dX8_init_20 : decode cX8_init 20 = .ok (.aload_n 0, 1) := by decide +kernel
theorem dX8_init_21 : decode cX8_init 21 = .ok (.bipush 16, 2) := by decide +kernel
theorem dX8_init_23 : decode cX8_init 23 = .ok (.newarray .int, 2) := by decide +kernel
theorem dX8_init_25 : decode cX8_init 25 = .ok (.putfield 16, 3) := by decide +kernel
theorem dX8_init_28 : decode cX8_init 28 = .ok (.aload_n 0, 1) := by decide +kernel
theorem dX8_init_29 : decode cX8_init 29 = .ok (.bipush 48, 2) := by decide +kernel
theorem dX8_init_31 : decode cX8_init 31 = .ok (.newarray .int, 2) := by decide +kernel
theorem dX8_init_33 : decode cX8_init 33 = .ok (.putfield 19, 3) := by decide +kernel
theorem dX8_init_36 : decode cX8_init 36 = .ok (.aload_n 0, 1) := by decide +kernel
theorem dX8_init_37 : decode cX8_init 37 = .ok (.bipush 48, 2) := by decide +kernel
theorem dX8_init_39 : decode cX8_init 39 = .ok (.newarray .int, 2) := by decide +kernel
theorem dX8_init_41 : decode cX8_init 41 = .ok (.putfield 22, 3) := by decide +kernel
theorem dX8_init_44 : decode cX8_init 44 = .ok (.aload_n 0, 1) := by decide +kernel
theorem dX8_init_45 : decode cX8_init 45 = .ok (.bipush 48, 2) := by decide +kernel
theorem dX8_init_47 : decode cX8_init 47 = .ok (.newarray .int, 2) := by decide +kernel
theorem dX8_init_49 : decode cX8_init 49 = .ok (.putfield 25, 3) := by decide +kernel
theorem dX8_init_52 : decode cX8_init 52 = .ok (.aload_n 0, 1) := by decide +kernel
theorem dX8_init_53 : decode cX8_init 53 = .ok (.bipush 48, 2) := by decide +kernel
theorem dX8_init_55 : decode cX8_init 55 = .ok (.newarray .int, 2) := by decide +kernel
theorem dX8_init_57 : decode cX8_init 57 = .ok (.putfield 28, 3) := by decide +kernel
theorem dX8_init_60 : decode cX8_init 60 = .ok (.aload_n 0, 1) := by decide +kernel
theorem dX8_init_61 : decode cX8_init 61 = .ok (.bipush 48, 2) := by decide +kernel
theorem dX8_init_63 : decode cX8_init 63 = .ok (.newarray .boolean, 2) := by decide +kernel
theorem dX8_init_65 : decode cX8_init 65 = .ok (.putfield 31, 3) := by decide +kernel
theorem dX8_init_68 : decode cX8_init 68 = .ok (.aload_n 0, 1) := by decide +kernel
theorem dX8_init_69 : decode cX8_init 69 = .ok (.bipush 48, 2) := by decide +kernel
theorem dX8_init_71 : decode cX8_init 71 = .ok (.newarray .int, 2) := by decide +kernel
theorem dX8_init_73 : decode cX8_init 73 = .ok (.putfield 35, 3) := by decide +kernel
theorem dX8_init_76 : decode cX8_init 76 = .ok (.aload_n 0, 1) := by decide +kernel
theorem dX8_init_77 : decode cX8_init 77 = .ok (.sipush 1152, 3) := by decide +kernel
theorem dX8_init_80 : decode cX8_init 80 = .ok (.newarray .int, 2) := by decide +kernel
theorem dX8_init_82 : decode cX8_init 82 = .ok (.putfield 38, 3) := by decide +kernel
theorem dX8_init_85 : decode cX8_init 85 = .ok (.aload_n 0, 1) := by decide +kernel
theorem dX8_init_86 : decode cX8_init 86 = .ok (.sipush 160, 3) := by decide +kernel
theorem dX8_init_89 : decode cX8_init 89 = .ok (.newarray .int, 2) := by decide +kernel
theorem dX8_init_91 : decode cX8_init 91 = .ok (.putfield 41, 3) := by decide +kernel
theorem dX8_init_94 : decode cX8_init 94 = .ok (.aload_n 0, 1) := by decide +kernel
theorem dX8_init_95 : decode cX8_init 95 = .ok (.sipush 160, 3) := by decide +kernel
theorem dX8_init_98 : decode cX8_init 98 = .ok (.newarray .int, 2) := by decide +kernel
theorem dX8_init_100 : decode cX8_init 100 = .ok (.putfield 44, 3) := by decide +kernel
theorem dX8_init_103 : decode cX8_init 103 = .ok (.aload_n 0, 1) := by decide +kernel
theorem dX8_init_104 : decode cX8_init 104 = .ok (.sipush 160, 3) := by decide +kernel
theorem dX8_init_107 : decode cX8_init 107 = .ok (.newarray .int, 2) := by decide +kernel
theorem dX8_init_109 : decode cX8_init 109 = .ok (.putfield 47, 3) := by decide +kernel
theorem dX8_init_112 : decode cX8_init 112 = .ok (.aload_n 0, 1) := by decide +kernel
theorem dX8_init_113 : decode cX8_init 113 = .ok (.bipush 48, 2) := by decide +kernel
theorem dX8_init_115 : decode cX8_init 115 = .ok (.newarray .boolean, 2) := by decide +kernel
theorem dX8_init_117 : decode cX8_init 117 = .ok (.putfield 50, 3) := by decide +kernel
theorem dX8_init_120 : decode cX8_init 120 = .ok (.aload_n 0, 1) := by decide +kernel
theorem dX8_init_121 : decode cX8_init 121 = .ok (.bipush 16, 2) := by decide +kernel
theorem dX8_init_123 : decode cX8_init 123 = .ok (.newarray .boolean, 2) := by decide +kernel
theorem dX8_init_125 : decode cX8_init 125 = .ok (.putfield 53, 3) := by decide +kernel
theorem dX8_init_128 : decode cX8_init 128 = .ok (.aload_n 0, 1) := by decide +kernel
theorem dX8_init_129 : decode cX8_init 129 = .ok (.bipush 16, 2) := by decide +kernel
theorem dX8_init_131 : decode cX8_init 131 = .ok (.newarray .boolean, 2) := by decide +kernel
theorem dX8_init_133 : decode cX8_init 133 = .ok (.putfield 56, 3) := by decide +kernel
theorem dX8_init_136 : decode cX8_init 136 = .ok (.aload_n 0, 1) := by decide +kernel
theorem dX8_init_137 : decode cX8_init 137 = .ok (.sipush 192, 3) := by decide +kernel
theorem dX8_init_140 : decode cX8_init 140 = .ok (.newarray .boolean, 2) := by decide +kernel
theorem dX8_init_142 : decode cX8_init 142 = .ok (.putfield 59, 3) := by decide +kernel
theorem dX8_init_145 : decode cX8_init 145 = .ok (.aload_n 0, 1) := by decide +kernel
theorem dX8_init_146 : decode cX8_init 146 = .ok (.sipush 7680, 3) := by decide +kernel
theorem dX8_init_149 : decode cX8_init 149 = .ok (.newarray .boolean, 2) := by decide +kernel
theorem dX8_init_151 : decode cX8_init 151 = .ok (.putfield 62, 3) := by decide +kernel
theorem dX8_init_154 : decode cX8_init 154 = .ok (.aload_n 0, 1) := by decide +kernel
theorem dX8_init_155 : decode cX8_init 155 = .ok (.sipush 640, 3) := by decide +kernel
theorem dX8_init_158 : decode cX8_init 158 = .ok (.newarray .int, 2) := by decide +kernel
theorem dX8_init_160 : decode cX8_init 160 = .ok (.putfield 65, 3) := by decide +kernel
theorem dX8_init_163 : decode cX8_init 163 = .ok (.aload_n 0, 1) := by decide +kernel
theorem dX8_init_164 : decode cX8_init 164 = .ok (.bipush 16, 2) := by decide +kernel
theorem dX8_init_166 : decode cX8_init 166 = .ok (.newarray .boolean, 2) := by decide +kernel
theorem dX8_init_168 : decode cX8_init 168 = .ok (.putfield 68, 3) := by decide +kernel
theorem dX8_init_171 : decode cX8_init 171 = .ok (.aload_n 0, 1) := by decide +kernel
theorem dX8_init_172 : decode cX8_init 172 = .ok (.sipush 256, 3) := by decide +kernel
theorem dX8_init_175 : decode cX8_init 175 = .ok (.newarray .boolean, 2) := by decide +kernel
theorem dX8_init_177 : decode cX8_init 177 = .ok (.putfield 71, 3) := by decide +kernel
theorem dX8_init_180 : decode cX8_init 180 = .ok (.aload_n 0, 1) := by decide +kernel
theorem dX8_init_181 : decode cX8_init 181 = .ok (.bipush 48, 2) := by decide +kernel
theorem dX8_init_183 : decode cX8_init 183 = .ok (.newarray .boolean, 2) := by decide +kernel
theorem dX8_init_185 : decode cX8_init 185 = .ok (.putfield 74, 3) := by decide +kernel
theorem dX8_init_188 : decode cX8_init 188 = .ok (.aload_n 0, 1) := by decide +kernel
theorem dX8_init_189 : decode cX8_init 189 = .ok (.bipush 16, 2) := by decide +kernel
theorem dX8_init_191 : decode cX8_init 191 = .ok (.newarray .boolean, 2) := by decide +kernel
theorem dX8_init_193 : decode cX8_init 193 = .ok (.putfield 77, 3) := by decide +kernel
theorem dX8_init_196 : decode cX8_init 196 = .ok (.aload_n 0, 1) := by decide +kernel
theorem dX8_init_197 : decode cX8_init 197 = .ok (.bipush 16, 2) := by decide +kernel
theorem dX8_init_199 : decode cX8_init 199 = .ok (.newarray .boolean, 2) := by decide +kernel
theorem dX8_init_201 : decode cX8_init 201 = .ok (.putfield 80, 3) := by decide +kernel
theorem dX8_init_204 : decode cX8_init 204 = .ok (.aload_n 0, 1) := by decide +kernel
theorem dX8_init_205 : decode cX8_init 205 = .ok (.sipush 2304, 3) := by decide +kernel
theorem dX8_init_208 : decode cX8_init 208 = .ok (.newarray .boolean, 2) := by decide +kernel
theorem dX8_init_210 : decode cX8_init 210 = .ok (.putfield 83, 3) := by decide +kernel
theorem dX8_init_213 : decode cX8_init 213 = .ok (.aload_n 0, 1) := by decide +kernel
theorem dX8_init_214 : decode cX8_init 214 = .ok (.sipush 2304, 3) := by decide +kernel
theorem dX8_init_217 : decode cX8_init 217 = .ok (.newarray .boolean, 2) := by decide +kernel
theorem dX8_init_219 : decode cX8_init 219 = .ok (.putfield 86, 3) := by decide +kernel
theorem dX8_init_222 : decode cX8_init 222 = .ok (.aload_n 0, 1) := by decide +kernel
theorem dX8_init_223 : decode cX8_init 223 = .ok (.bipush 48, 2) := by decide +kernel
theorem dX8_init_225 : decode cX8_init 225 = .ok (.newarray .int, 2) := by decide +kernel
theorem dX8_init_227 : decode cX8_init 227 = .ok (.putfield 89, 3) := by decide +kernel
theorem dX8_init_230 : decode cX8_init 230 = .ok (.aload_n 0, 1) := by decide +kernel
theorem dX8_init_231 : decode cX8_init 231 = .ok (.sipush 1000, 3) := by decide +kernel
theorem dX8_init_234 : decode cX8_init 234 = .ok (.newarray .int, 2) := by decide +kernel
theorem dX8_init_236 : decode cX8_init 236 = .ok (.putfield 92, 3) := by decide +kernel
theorem dX8_init_239 : decode cX8_init 239 = .ok (.aload_n 0, 1) := by decide +kernel
theorem dX8_init_240 : decode cX8_init 240 = .ok (.sipush 1000, 3) := by decide +kernel
theorem dX8_init_243 : decode cX8_init 243 = .ok (.newarray .int, 2) := by decide +kernel
theorem dX8_init_245 : decode cX8_init 245 = .ok (.putfield 95, 3) := by decide +kernel
theorem dX8_init_248 : decode cX8_init 248 = .ok (.aload_n 0, 1) := by decide +kernel
theorem dX8_init_249 : decode cX8_init 249 = .ok (.sipush 1000, 3) := by decide +kernel
theorem dX8_init_252 : decode cX8_init 252 = .ok (.newarray .int, 2) := by decide +kernel
theorem dX8_init_254 : decode cX8_init 254 = .ok (.putfield 98, 3) := by decide +kernel
theorem dX8_init_257 : decode cX8_init 257 = .ok (.aload_n 0, 1) := by decide +kernel
theorem dX8_init_258 : decode cX8_init 258 = .ok (.sipush 1000, 3) := by decide +kernel
theorem dX8_init_261 : decode cX8_init 261 = .ok (.newarray .int, 2) := by decide +kernel
theorem dX8_init_263 : decode cX8_init 263 = .ok (.putfield 101, 3) := by decide +kernel
theorem dX8_init_266 : decode cX8_init 266 = .ok (.aload_n 0, 1) := by decide +kernel
theorem dX8_init_267 : decode cX8_init 267 = .ok (.bipush 48, 2) := by decide +kernel
theorem dX8_init_269 : decode cX8_init 269 = .ok (.newarray .boolean, 2) := by decide +kernel
theorem dX8_init_271 : decode cX8_init 271 = .ok (.putfield 104, 3) := by decide +kernel
theorem dX8_init_274 : decode cX8_init 274 = .ok (.aload_n 0, 1) := by decide +kernel
theorem dX8_init_275 : decode cX8_init 275 = .ok (.bipush 16, 2) := by decide +kernel
theorem dX8_init_277 : decode cX8_init 277 = .ok (.newarray .boolean, 2) := by decide +kernel
theorem dX8_init_279 : decode cX8_init 279 = .ok (.putfield 107, 3) := by decide +kernel
theorem dX8_init_282 : decode cX8_init 282 = .ok (.aload_n 0, 1) := by decide +kernel
theorem dX8_init_283 : decode cX8_init 283 = .ok (.bipush 20, 2) := by decide +kernel
theorem dX8_init_285 : decode cX8_init 285 = .ok (.newarray .int, 2) := by decide +kernel
theorem dX8_init_287 : decode cX8_init 287 = .ok (.putfield 110, 3) := by decide +kernel
theorem dX8_init_290 : decode cX8_init 290 = .ok (.aload_n 0, 1) := by decide +kernel
theorem dX8_init_291 : decode cX8_init 291 = .ok (.sipush 192, 3) := by decide +kernel
theorem dX8_init_294 : decode cX8_init 294 = .ok (.newarray .int, 2) := by decide +kernel
theorem dX8_init_296 : decode cX8_init 296 = .ok (.putfield 113, 3) := by decide +kernel
theorem dX8_init_299 : decode cX8_init 299 = .ok (.aload_n 0, 1) := by decide +kernel
theorem dX8_init_300 : decode cX8_init 300 = .ok (.iconst 4, 1) := by decide +kernel
theorem dX8_init_301 : decode cX8_init 301 = .ok (.newarray .int, 2) := by decide +kernel
theorem dX8_init_303 : decode cX8_init 303 = .ok (.putfield 116, 3) := by decide +kernel
theorem dX8_init_306 : decode cX8_init 306 = .ok (.aload_n 0, 1) := by decide +kernel
theorem dX8_init_307 : decode cX8_init 307 = .ok (.iconst 0, 1) := by decide +kernel
theorem dX8_init_308 : decode cX8_init 308 = .ok (.putfield 119, 3) := by decide +kernel
theorem dX8_init_311 : decode cX8_init 311 = .ok (.return_, 1) := by decide +kernel
theorem dX8_in_0 : decode cX8_in 0 = .ok (.iload_n 0, 1) := by decide +kernel
theorem dX8_in_1 : decode cX8_in 1 = .ok (.iload_n 1, 1) := by decide +kernel
theorem dX8_in_2 : decode cX8_in 2 = .ok (.if_icmp .lt 12, 3) := by decide +kernel
theorem dX8_in_5 : decode cX8_in 5 = .ok (.iload_n 0, 1) := by decide +kernel
theorem dX8_in_6 : decode cX8_in 6 = .ok (.iload_n 2, 1) := by decide +kernel
theorem dX8_in_7 : decode cX8_in 7 = .ok (.if_icmp .gt 7, 3) := by decide +kernel
theorem dX8_in_10 : decode cX8_in 10 = .ok (.iconst 1, 1) := by decide +kernel
theorem dX8_in_11 : decode cX8_in 11 = .ok (.goto 4, 3) := by decide +kernel
theorem dX8_in_14 : decode cX8_in 14 = .ok (.iconst 0, 1) := by decide +kernel
theorem dX8_in_15 : decode cX8_in 15 = .ok (.ireturn, 1) := by decide +kernel
set_option maxRecDepth 20000 in
theorem ggX8_isType_X8_in : GoodIn wsX8_isType wsX8_in := goodIn_r _ [5] rfl (by decide +kernel)
set_option maxRecDepth 20000 in
theorem gX8_isType_X8_in : GoodIn wsX8_isType (va_wsS RX8 127 yX8_in wsX8_in) := goodIn_app (goodIn_of _ (by decide +kernel)) ggX8_isType_X8_in
theorem dX8_isType_0 : decode cX8_isType 0 = .ok (.iload_n 1, 1) := by decide +kernel
theorem dX8_isType_1 : decode cX8_isType 1 = .ok (.iconst 0, 1) := by decide +kernel
theorem dX8_isType_2 : decode cX8_isType 2 = .ok (.aload_n 0, 1) := by decide +kernel
theorem dX8_isType_3 : decode cX8_isType 3 = .ok (.getfield 123, 3) := by decide +kernel
theorem dX8_isType_6 : decode cX8_isType 6 = .ok (.iconst 1, 1) := by decide +kernel
theorem dX8_isType_7 : decode cX8_isType 7 = .ok (.isub, 1) := by decide +kernel
theorem dX8_isType_8 : decode cX8_isType 8 = .ok (.invokestatic 127, 3) := by decide +kernel
theorem dX8_isType_11 : decode cX8_isType 11 = .ok (.ireturn, 1) := by decide +kernel
set_option maxRecDepth 20000 in
theorem ggX8_isMember_X8_in : GoodIn wsX8_isMember wsX8_in := goodIn_r _ [5] rfl (by decide +kernel)
set_option maxRecDepth 20000 in
theorem gX8_isMember_X8_in : GoodIn wsX8_isMember (va_wsS RX8 127 yX8_in wsX8_in) := goodIn_app (goodIn_of _ (by decide +kernel)) ggX8_isMember_X8_in
theorem dX8_isMember_0 : decode cX8_isMember 0 = .ok (.iload_n 1, 1) := by decide +kernel
theorem dX8_isMember_1 : decode cX8_isMember 1 = .ok (.iconst 0, 1) := by decide +kernel
theorem dX8_isMember_2 : decode cX8_isMember 2 = .ok (.aload_n 0, 1) := by decide +kernel
theorem dX8_isMember_3 : decode cX8_isMember 3 = .ok (.getfield 131, 3) := by decide +kernel
theorem dX8_isMember_6 : decode cX8_isMember 6 = .ok (.iconst 1, 1) := by decide +kernel
theorem dX8_isMember_7 : decode cX8_isMember 7 = .ok (.isub, 1) := by decide +kernel
theorem dX8_isMember_8 : decode cX8_isMember 8 = .ok (.invokestatic 127, 3) := by decide +kernel
theorem dX8_isMember_11 : decode cX8_isMember 11 = .ok (.ireturn, 1) := by decide +kernel
theorem dX8_lookUp_0 : decode cX8_lookUp 0 = .ok (.iconst 0, 1) := by decide +kernel
theorem dX8_lookUp_1 : decode cX8_lookUp 1 = .ok (.istore_n 2, 1) := by decide +kernel
theorem dX8_lookUp_2 : decode cX8_lookUp 2 = .ok (.iload_n 2, 1) := by decide +kernel
theorem dX8_lookUp_3 : decode cX8_lookUp 3 = .ok (.bipush 16, 2) := by decide +kernel
theorem dX8_lookUp_5 : decode cX8_lookUp 5 = .ok (.if_icmp .ge 25, 3) := by decide +kernel
theorem dX8_lookUp_8 : decode cX8_lookUp 8 = .ok (.aload_n 0, 1) := by decide +kernel
theorem dX8_lookUp_9 : decode cX8_lookUp 9 = .ok (.getfield 68, 3) := by decide +kernel
theorem dX8_lookUp_12 : decode cX8_lookUp 12 = .ok (.iload_n 2, 1) := by decide +kernel
theorem dX8_lookUp_13 : decode cX8_lookUp 13 = .ok (.iload_n 2, 1) := by decide +kernel
theorem dX8_lookUp_14 : decode cX8_lookUp 14 = .ok (.iload_n 1, 1) := by decide +kernel
theorem dX8_lookUp_15 : decode cX8_lookUp 15 = .ok (.if_icmp .ne 7, 3) := by decide +kernel
theorem dX8_lookUp_18 : decode cX8_lookUp 18 = .ok (.iconst 1, 1) := by decide +kernel
theorem dX8_lookUp_19 : decode cX8_lookUp 19 = .ok (.goto 4, 3) := by decide +kernel
theorem dX8_lookUp_22 : decode cX8_lookUp 22 = .ok (.iconst 0, 1) := by decide +kernel
theorem dX8_lookUp_23 : decode cX8_lookUp 23 = .ok (.bastore, 1) := by decide +kernel
theorem dX8_lookUp_24 : decode cX8_lookUp 24 = .ok (.iinc 2 1, 3) := by decide +kernel
theorem dX8_lookUp_27 : decode cX8_lookUp 27 = .ok (.goto (-25), 3) := by decide +kernel
theorem dX8_lookUp_30 : decode cX8_lookUp 30 = .ok (.iload_n 1, 1) := by decide +kernel
theorem dX8_lookUp_31 : decode cX8_lookUp 31 = .ok (.istore_n 2, 1) := by decide +kernel
theorem dX8_lookUp_32 : decode cX8_lookUp 32 = .ok (.iload_n 2, 1) := by decide +kernel
theorem dX8_lookUp_33 : decode cX8_lookUp 33 = .ok (.ifCond .lt 83, 3) := by decide +kernel
theorem dX8_lookUp_36 : decode cX8_lookUp 36 = .ok (.aload_n 0, 1) := by decide +kernel
theorem dX8_lookUp_37 : decode cX8_lookUp 37 = .ok (.getfield 68, 3) := by decide +kernel
theorem dX8_lookUp_40 : decode cX8_lookUp 40 = .ok (.iload_n 2, 1) := by decide +kernel
theorem dX8_lookUp_41 : decode cX8_lookUp 41 = .ok (.baload, 1) := by decide +kernel
theorem dX8_lookUp_42 : decode cX8_lookUp 42 = .ok (.ifCond .eq 25, 3) := by decide +kernel
theorem dX8_lookUp_45 : decode cX8_lookUp 45 = .ok (.aload_n 0, 1) := by decide +kernel
theorem dX8_lookUp_46 : decode cX8_lookUp 46 = .ok (.getfield 13, 3) := by decide +kernel
